section
-- ===== PART A: goes FIRST, ahead of the names: the tables' words, and 'selects' of the private methods out of them =====
/-- a private method of a class that the tables say can be made, by its rows of tables_1 -/
def lw_okq (q : MethodName × Nat) : Prop := (q.1.cls ≠ "java/lang/invoke/MethodHandle" ∧ q.1.cls ≠ "java/lang/invoke/VarHandle") ∧ Cond.instantiable q.1.cls q.2 ∈ tables_1 ∧ Cond.privateMethod q.1 ∈ tables_1 ∧ Cond.instanceMethod q.1 ∈ tables_1
theorem lw_p0 : lw_okq (⟨"HalfOfItFalse", "refuse", "(I)I"⟩, 9) := ⟨⟨by decide +kernel, by decide +kernel⟩, List.mem_of_getElem? (i := 16) (by decide +kernel), List.mem_of_getElem? (i := 212) (by decide +kernel), List.mem_of_getElem? (i := 213) (by decide +kernel)⟩
theorem lw_p1 : lw_okq (⟨"HalfOfItFalse", "refuse", "(II)I"⟩, 9) := ⟨⟨by decide +kernel, by decide +kernel⟩, List.mem_of_getElem? (i := 16) (by decide +kernel), List.mem_of_getElem? (i := 216) (by decide +kernel), List.mem_of_getElem? (i := 217) (by decide +kernel)⟩
theorem lw_p2 : lw_okq (⟨"HalfOfItFalse", "noRow", "(I)I"⟩, 9) := ⟨⟨by decide +kernel, by decide +kernel⟩, List.mem_of_getElem? (i := 16) (by decide +kernel), List.mem_of_getElem? (i := 234) (by decide +kernel), List.mem_of_getElem? (i := 235) (by decide +kernel)⟩
theorem lw_p3 : lw_okq (⟨"HalfOfItFalse$Town", "mustLateBeTrue", "(I)Z"⟩, 17) := ⟨⟨by decide +kernel, by decide +kernel⟩, List.mem_of_getElem? (i := 24) (by decide +kernel), List.mem_of_getElem? (i := 298) (by decide +kernel), List.mem_of_getElem? (i := 299) (by decide +kernel)⟩
theorem lw_p4 : lw_okq (⟨"HalfOfItFalse$Town", "allowedByCount", "(IJ)J"⟩, 17) := ⟨⟨by decide +kernel, by decide +kernel⟩, List.mem_of_getElem? (i := 24) (by decide +kernel), List.mem_of_getElem? (i := 351) (by decide +kernel), List.mem_of_getElem? (i := 352) (by decide +kernel)⟩
theorem lw_p5 : lw_okq (⟨"HalfOfItFalse$Town", "isChosen", "(IIJ)Z"⟩, 17) := ⟨⟨by decide +kernel, by decide +kernel⟩, List.mem_of_getElem? (i := 24) (by decide +kernel), List.mem_of_getElem? (i := 355) (by decide +kernel), List.mem_of_getElem? (i := 356) (by decide +kernel)⟩
theorem lw_p6 : lw_okq (⟨"HalfOfItFalse$Town", "allowedByPairs", "(IJ)J"⟩, 17) := ⟨⟨by decide +kernel, by decide +kernel⟩, List.mem_of_getElem? (i := 24) (by decide +kernel), List.mem_of_getElem? (i := 367) (by decide +kernel), List.mem_of_getElem? (i := 368) (by decide +kernel)⟩
theorem lw_p7 : lw_okq (⟨"HalfOfItFalse$Town", "putTrueIn", "(IIJ)V"⟩, 17) := ⟨⟨by decide +kernel, by decide +kernel⟩, List.mem_of_getElem? (i := 24) (by decide +kernel), List.mem_of_getElem? (i := 385) (by decide +kernel), List.mem_of_getElem? (i := 386) (by decide +kernel)⟩
theorem lw_p8 : lw_okq (⟨"HalfOfItFalse$Reader", "readItem", "()Z"⟩, 7) := ⟨⟨by decide +kernel, by decide +kernel⟩, List.mem_of_getElem? (i := 105) (by decide +kernel), List.mem_of_getElem? (i := 431) (by decide +kernel), List.mem_of_getElem? (i := 432) (by decide +kernel)⟩
theorem lw_p9 : lw_okq (⟨"HalfOfItFalse$Reader", "letter", "()I"⟩, 7) := ⟨⟨by decide +kernel, by decide +kernel⟩, List.mem_of_getElem? (i := 105) (by decide +kernel), List.mem_of_getElem? (i := 435) (by decide +kernel), List.mem_of_getElem? (i := 436) (by decide +kernel)⟩
theorem lw_p10 : lw_okq (⟨"HalfOfItFalse$Reader", "readFact", "()Z"⟩, 7) := ⟨⟨by decide +kernel, by decide +kernel⟩, List.mem_of_getElem? (i := 105) (by decide +kernel), List.mem_of_getElem? (i := 443) (by decide +kernel), List.mem_of_getElem? (i := 444) (by decide +kernel)⟩
theorem lw_p11 : lw_okq (⟨"HalfOfItFalse$Reader", "isWord", "(Ljava/lang/String;Z)Z"⟩, 7) := ⟨⟨by decide +kernel, by decide +kernel⟩, List.mem_of_getElem? (i := 105) (by decide +kernel), List.mem_of_getElem? (i := 448) (by decide +kernel), List.mem_of_getElem? (i := 449) (by decide +kernel)⟩
theorem lw_p12 : lw_okq (⟨"HalfOfItFalse$Reader", "isSign", "(C)Z"⟩, 7) := ⟨⟨by decide +kernel, by decide +kernel⟩, List.mem_of_getElem? (i := 105) (by decide +kernel), List.mem_of_getElem? (i := 500) (by decide +kernel), List.mem_of_getElem? (i := 501) (by decide +kernel)⟩
theorem lw_p13 : lw_okq (⟨"HalfOfItFalse$Reader", "wrong", "(I)Z"⟩, 7) := ⟨⟨by decide +kernel, by decide +kernel⟩, List.mem_of_getElem? (i := 105) (by decide +kernel), List.mem_of_getElem? (i := 504) (by decide +kernel), List.mem_of_getElem? (i := 505) (by decide +kernel)⟩
theorem lw_p14 : lw_okq (⟨"HalfOfItFalse$Reader", "isNumber", "(II)Z"⟩, 7) := ⟨⟨by decide +kernel, by decide +kernel⟩, List.mem_of_getElem? (i := 105) (by decide +kernel), List.mem_of_getElem? (i := 508) (by decide +kernel), List.mem_of_getElem? (i := 509) (by decide +kernel)⟩
theorem lw_p15 : lw_okq (⟨"HalfOfItFalse$Reader", "isDigit", "()Z"⟩, 7) := ⟨⟨by decide +kernel, by decide +kernel⟩, List.mem_of_getElem? (i := 105) (by decide +kernel), List.mem_of_getElem? (i := 512) (by decide +kernel), List.mem_of_getElem? (i := 513) (by decide +kernel)⟩
def lw_privs_1 : List (MethodName × Nat) := [(⟨"HalfOfItFalse", "refuse", "(I)I"⟩, 9), (⟨"HalfOfItFalse", "refuse", "(II)I"⟩, 9), (⟨"HalfOfItFalse", "noRow", "(I)I"⟩, 9), (⟨"HalfOfItFalse$Town", "mustLateBeTrue", "(I)Z"⟩, 17), (⟨"HalfOfItFalse$Town", "allowedByCount", "(IJ)J"⟩, 17), (⟨"HalfOfItFalse$Town", "isChosen", "(IIJ)Z"⟩, 17), (⟨"HalfOfItFalse$Town", "allowedByPairs", "(IJ)J"⟩, 17), (⟨"HalfOfItFalse$Town", "putTrueIn", "(IIJ)V"⟩, 17), (⟨"HalfOfItFalse$Reader", "readItem", "()Z"⟩, 7), (⟨"HalfOfItFalse$Reader", "letter", "()I"⟩, 7), (⟨"HalfOfItFalse$Reader", "readFact", "()Z"⟩, 7), (⟨"HalfOfItFalse$Reader", "isWord", "(Ljava/lang/String;Z)Z"⟩, 7), (⟨"HalfOfItFalse$Reader", "isSign", "(C)Z"⟩, 7), (⟨"HalfOfItFalse$Reader", "wrong", "(I)Z"⟩, 7), (⟨"HalfOfItFalse$Reader", "isNumber", "(II)Z"⟩, 7), (⟨"HalfOfItFalse$Reader", "isDigit", "()Z"⟩, 7)]
theorem lw_r1 : ∀ q ∈ lw_privs_1, lw_okq q := List.forall_mem_cons.mpr ⟨lw_p0, List.forall_mem_cons.mpr ⟨lw_p1, List.forall_mem_cons.mpr ⟨lw_p2, List.forall_mem_cons.mpr ⟨lw_p3, List.forall_mem_cons.mpr ⟨lw_p4, List.forall_mem_cons.mpr ⟨lw_p5, List.forall_mem_cons.mpr ⟨lw_p6, List.forall_mem_cons.mpr ⟨lw_p7, List.forall_mem_cons.mpr ⟨lw_p8, List.forall_mem_cons.mpr ⟨lw_p9, List.forall_mem_cons.mpr ⟨lw_p10, List.forall_mem_cons.mpr ⟨lw_p11, List.forall_mem_cons.mpr ⟨lw_p12, List.forall_mem_cons.mpr ⟨lw_p13, List.forall_mem_cons.mpr ⟨lw_p14, List.forall_mem_cons.mpr ⟨lw_p15, fun _ h => absurd h List.not_mem_nil⟩⟩⟩⟩⟩⟩⟩⟩⟩⟩⟩⟩⟩⟩⟩⟩
theorem lw_p16 : lw_okq (⟨"HalfOfItFalse$Reader", "readMan", "()Z"⟩, 7) := ⟨⟨by decide +kernel, by decide +kernel⟩, List.mem_of_getElem? (i := 105) (by decide +kernel), List.mem_of_getElem? (i := 517) (by decide +kernel), List.mem_of_getElem? (i := 518) (by decide +kernel)⟩
theorem lw_p17 : lw_okq (⟨"HalfOfItFalse$Reader", "readLaw", "()Z"⟩, 7) := ⟨⟨by decide +kernel, by decide +kernel⟩, List.mem_of_getElem? (i := 105) (by decide +kernel), List.mem_of_getElem? (i := 523) (by decide +kernel), List.mem_of_getElem? (i := 524) (by decide +kernel)⟩
theorem lw_p18 : lw_okq (⟨"HalfOfItFalse$Reader", "readSays", "()Z"⟩, 7) := ⟨⟨by decide +kernel, by decide +kernel⟩, List.mem_of_getElem? (i := 105) (by decide +kernel), List.mem_of_getElem? (i := 528) (by decide +kernel), List.mem_of_getElem? (i := 529) (by decide +kernel)⟩
theorem lw_p19 : lw_okq (⟨"HalfOfItFalse$Reader", "readKnown", "()Z"⟩, 7) := ⟨⟨by decide +kernel, by decide +kernel⟩, List.mem_of_getElem? (i := 105) (by decide +kernel), List.mem_of_getElem? (i := 538) (by decide +kernel), List.mem_of_getElem? (i := 539) (by decide +kernel)⟩
theorem lw_p20 : lw_okq (⟨"HalfOfItFalse", "worstOf", "(IIJ)I"⟩, 9) := ⟨⟨by decide +kernel, by decide +kernel⟩, List.mem_of_getElem? (i := 16) (by decide +kernel), List.mem_of_getElem? (i := 606) (by decide +kernel), List.mem_of_getElem? (i := 607) (by decide +kernel)⟩
theorem lw_p21 : lw_okq (⟨"HalfOfItFalse", "isKnownIn", "(IIJ)Z"⟩, 9) := ⟨⟨by decide +kernel, by decide +kernel⟩, List.mem_of_getElem? (i := 16) (by decide +kernel), List.mem_of_getElem? (i := 619) (by decide +kernel), List.mem_of_getElem? (i := 620) (by decide +kernel)⟩
theorem lw_p22 : lw_okq (⟨"HalfOfItFalse", "leavesKnown", "(IIJIIZ)Z"⟩, 9) := ⟨⟨by decide +kernel, by decide +kernel⟩, List.mem_of_getElem? (i := 16) (by decide +kernel), List.mem_of_getElem? (i := 623) (by decide +kernel), List.mem_of_getElem? (i := 624) (by decide +kernel)⟩
theorem lw_p23 : lw_okq (⟨"HalfOfItFalse", "noErrands", "(II)I"⟩, 9) := ⟨⟨by decide +kernel, by decide +kernel⟩, List.mem_of_getElem? (i := 16) (by decide +kernel), List.mem_of_getElem? (i := 647) (by decide +kernel), List.mem_of_getElem? (i := 648) (by decide +kernel)⟩
theorem lw_p24 : lw_okq (⟨"HalfOfItFalse", "liesPlaced", "(LHalfOfItFalse$Shelf;I)I"⟩, 9) := ⟨⟨by decide +kernel, by decide +kernel⟩, List.mem_of_getElem? (i := 16) (by decide +kernel), List.mem_of_getElem? (i := 651) (by decide +kernel), List.mem_of_getElem? (i := 652) (by decide +kernel)⟩
theorem lw_p25 : lw_okq (⟨"HalfOfItFalse", "leastHarmful", "(LHalfOfItFalse$Shelf;I)I"⟩, 9) := ⟨⟨by decide +kernel, by decide +kernel⟩, List.mem_of_getElem? (i := 16) (by decide +kernel), List.mem_of_getElem? (i := 655) (by decide +kernel), List.mem_of_getElem? (i := 656) (by decide +kernel)⟩
theorem lw_p26 : lw_okq (⟨"HalfOfItFalse", "toldAfter", "(IJ)J"⟩, 9) := ⟨⟨by decide +kernel, by decide +kernel⟩, List.mem_of_getElem? (i := 16) (by decide +kernel), List.mem_of_getElem? (i := 690) (by decide +kernel), List.mem_of_getElem? (i := 691) (by decide +kernel)⟩
theorem lw_p27 : lw_okq (⟨"HalfOfItFalse", "truthInTruth", "(I)I"⟩, 9) := ⟨⟨by decide +kernel, by decide +kernel⟩, List.mem_of_getElem? (i := 16) (by decide +kernel), List.mem_of_getElem? (i := 715) (by decide +kernel), List.mem_of_getElem? (i := 716) (by decide +kernel)⟩
theorem lw_p28 : lw_okq (⟨"HalfOfItFalse$Acts", "run", "(IIII)I"⟩, 5) := ⟨⟨by decide +kernel, by decide +kernel⟩, List.mem_of_getElem? (i := 134) (by decide +kernel), List.mem_of_getElem? (i := 739) (by decide +kernel), List.mem_of_getElem? (i := 740) (by decide +kernel)⟩
theorem lw_p29 : lw_okq (⟨"HalfOfItFalse$Acts", "note", "(I)V"⟩, 5) := ⟨⟨by decide +kernel, by decide +kernel⟩, List.mem_of_getElem? (i := 134) (by decide +kernel), List.mem_of_getElem? (i := 750) (by decide +kernel), List.mem_of_getElem? (i := 751) (by decide +kernel)⟩
theorem lw_p30 : lw_okq (⟨"HalfOfItFalse$Acts", "resultOf", "(IIII)I"⟩, 5) := ⟨⟨by decide +kernel, by decide +kernel⟩, List.mem_of_getElem? (i := 134) (by decide +kernel), List.mem_of_getElem? (i := 754) (by decide +kernel), List.mem_of_getElem? (i := 755) (by decide +kernel)⟩
theorem lw_p31 : lw_okq (⟨"HalfOfItFalseModel", "isShelf", "(I)Z"⟩, 38) := ⟨⟨by decide +kernel, by decide +kernel⟩, List.mem_of_getElem? (i := 774) (by decide +kernel), List.mem_of_getElem? (i := 899) (by decide +kernel), List.mem_of_getElem? (i := 900) (by decide +kernel)⟩
def lw_privs_2 : List (MethodName × Nat) := [(⟨"HalfOfItFalse$Reader", "readMan", "()Z"⟩, 7), (⟨"HalfOfItFalse$Reader", "readLaw", "()Z"⟩, 7), (⟨"HalfOfItFalse$Reader", "readSays", "()Z"⟩, 7), (⟨"HalfOfItFalse$Reader", "readKnown", "()Z"⟩, 7), (⟨"HalfOfItFalse", "worstOf", "(IIJ)I"⟩, 9), (⟨"HalfOfItFalse", "isKnownIn", "(IIJ)Z"⟩, 9), (⟨"HalfOfItFalse", "leavesKnown", "(IIJIIZ)Z"⟩, 9), (⟨"HalfOfItFalse", "noErrands", "(II)I"⟩, 9), (⟨"HalfOfItFalse", "liesPlaced", "(LHalfOfItFalse$Shelf;I)I"⟩, 9), (⟨"HalfOfItFalse", "leastHarmful", "(LHalfOfItFalse$Shelf;I)I"⟩, 9), (⟨"HalfOfItFalse", "toldAfter", "(IJ)J"⟩, 9), (⟨"HalfOfItFalse", "truthInTruth", "(I)I"⟩, 9), (⟨"HalfOfItFalse$Acts", "run", "(IIII)I"⟩, 5), (⟨"HalfOfItFalse$Acts", "note", "(I)V"⟩, 5), (⟨"HalfOfItFalse$Acts", "resultOf", "(IIII)I"⟩, 5), (⟨"HalfOfItFalseModel", "isShelf", "(I)Z"⟩, 38)]
theorem lw_r2 : ∀ q ∈ lw_privs_2, lw_okq q := List.forall_mem_cons.mpr ⟨lw_p16, List.forall_mem_cons.mpr ⟨lw_p17, List.forall_mem_cons.mpr ⟨lw_p18, List.forall_mem_cons.mpr ⟨lw_p19, List.forall_mem_cons.mpr ⟨lw_p20, List.forall_mem_cons.mpr ⟨lw_p21, List.forall_mem_cons.mpr ⟨lw_p22, List.forall_mem_cons.mpr ⟨lw_p23, List.forall_mem_cons.mpr ⟨lw_p24, List.forall_mem_cons.mpr ⟨lw_p25, List.forall_mem_cons.mpr ⟨lw_p26, List.forall_mem_cons.mpr ⟨lw_p27, List.forall_mem_cons.mpr ⟨lw_p28, List.forall_mem_cons.mpr ⟨lw_p29, List.forall_mem_cons.mpr ⟨lw_p30, List.forall_mem_cons.mpr ⟨lw_p31, fun _ h => absurd h List.not_mem_nil⟩⟩⟩⟩⟩⟩⟩⟩⟩⟩⟩⟩⟩⟩⟩⟩
theorem lw_p32 : lw_okq (⟨"HalfOfItFalseModel", "no", "(I)I"⟩, 38) := ⟨⟨by decide +kernel, by decide +kernel⟩, List.mem_of_getElem? (i := 774) (by decide +kernel), List.mem_of_getElem? (i := 903) (by decide +kernel), List.mem_of_getElem? (i := 904) (by decide +kernel)⟩
theorem lw_p33 : lw_okq (⟨"HalfOfItFalseModel", "isSpeaker", "(I)Z"⟩, 38) := ⟨⟨by decide +kernel, by decide +kernel⟩, List.mem_of_getElem? (i := 774) (by decide +kernel), List.mem_of_getElem? (i := 923) (by decide +kernel), List.mem_of_getElem? (i := 924) (by decide +kernel)⟩
theorem lw_p34 : lw_okq (⟨"HalfOfItFalseModel", "saidBy", "(I)I"⟩, 38) := ⟨⟨by decide +kernel, by decide +kernel⟩, List.mem_of_getElem? (i := 774) (by decide +kernel), List.mem_of_getElem? (i := 935) (by decide +kernel), List.mem_of_getElem? (i := 936) (by decide +kernel)⟩
theorem lw_p35 : lw_okq (⟨"HalfOfItFalseModel", "isTrue", "(II)Z"⟩, 38) := ⟨⟨by decide +kernel, by decide +kernel⟩, List.mem_of_getElem? (i := 774) (by decide +kernel), List.mem_of_getElem? (i := 939) (by decide +kernel), List.mem_of_getElem? (i := 940) (by decide +kernel)⟩
theorem lw_p36 : lw_okq (⟨"HalfOfItFalseModel", "facts", "(I)I"⟩, 38) := ⟨⟨by decide +kernel, by decide +kernel⟩, List.mem_of_getElem? (i := 774) (by decide +kernel), List.mem_of_getElem? (i := 947) (by decide +kernel), List.mem_of_getElem? (i := 948) (by decide +kernel)⟩
theorem lw_p37 : lw_okq (⟨"HalfOfItFalseModel", "speakers", "(II)I"⟩, 38) := ⟨⟨by decide +kernel, by decide +kernel⟩, List.mem_of_getElem? (i := 774) (by decide +kernel), List.mem_of_getElem? (i := 955) (by decide +kernel), List.mem_of_getElem? (i := 956) (by decide +kernel)⟩
theorem lw_p38 : lw_okq (⟨"HalfOfItFalseModel", "isFact", "(I)Z"⟩, 38) := ⟨⟨by decide +kernel, by decide +kernel⟩, List.mem_of_getElem? (i := 774) (by decide +kernel), List.mem_of_getElem? (i := 971) (by decide +kernel), List.mem_of_getElem? (i := 972) (by decide +kernel)⟩
theorem lw_p39 : lw_okq (⟨"HalfOfItFalseModel", "isFull", "(I)Z"⟩, 38) := ⟨⟨by decide +kernel, by decide +kernel⟩, List.mem_of_getElem? (i := 774) (by decide +kernel), List.mem_of_getElem? (i := 979) (by decide +kernel), List.mem_of_getElem? (i := 980) (by decide +kernel)⟩
theorem lw_p40 : lw_okq (⟨"HalfOfItFalseModel", "leaves", "(III)I"⟩, 38) := ⟨⟨by decide +kernel, by decide +kernel⟩, List.mem_of_getElem? (i := 774) (by decide +kernel), List.mem_of_getElem? (i := 983) (by decide +kernel), List.mem_of_getElem? (i := 984) (by decide +kernel)⟩
theorem lw_p41 : lw_okq (⟨"HalfOfItFalseModel", "adds", "(III)V"⟩, 38) := ⟨⟨by decide +kernel, by decide +kernel⟩, List.mem_of_getElem? (i := 774) (by decide +kernel), List.mem_of_getElem? (i := 987) (by decide +kernel), List.mem_of_getElem? (i := 988) (by decide +kernel)⟩
theorem lw_p42 : lw_okq (⟨"HalfOfItFalseModel", "worldsNow", "()J"⟩, 38) := ⟨⟨by decide +kernel, by decide +kernel⟩, List.mem_of_getElem? (i := 774) (by decide +kernel), List.mem_of_getElem? (i := 991) (by decide +kernel), List.mem_of_getElem? (i := 992) (by decide +kernel)⟩
theorem lw_p43 : lw_okq (⟨"HalfOfItFalseModel", "worldsOf", "(II)J"⟩, 38) := ⟨⟨by decide +kernel, by decide +kernel⟩, List.mem_of_getElem? (i := 774) (by decide +kernel), List.mem_of_getElem? (i := 995) (by decide +kernel), List.mem_of_getElem? (i := 996) (by decide +kernel)⟩
theorem lw_p44 : lw_okq (⟨"HalfOfItFalseModel", "canBeOf", "(III)Z"⟩, 38) := ⟨⟨by decide +kernel, by decide +kernel⟩, List.mem_of_getElem? (i := 774) (by decide +kernel), List.mem_of_getElem? (i := 999) (by decide +kernel), List.mem_of_getElem? (i := 1000) (by decide +kernel)⟩
theorem lw_p45 : lw_okq (⟨"HalfOfItFalseModel", "isSo", "(II)Z"⟩, 38) := ⟨⟨by decide +kernel, by decide +kernel⟩, List.mem_of_getElem? (i := 774) (by decide +kernel), List.mem_of_getElem? (i := 1003) (by decide +kernel), List.mem_of_getElem? (i := 1004) (by decide +kernel)⟩
theorem lw_p46 : lw_okq (⟨"HalfOfItFalseModel", "isFree", "(I)Z"⟩, 38) := ⟨⟨by decide +kernel, by decide +kernel⟩, List.mem_of_getElem? (i := 774) (by decide +kernel), List.mem_of_getElem? (i := 1007) (by decide +kernel), List.mem_of_getElem? (i := 1008) (by decide +kernel)⟩
theorem lw_p47 : lw_okq (⟨"HalfOfItFalseModel", "count", "(J)I"⟩, 38) := ⟨⟨by decide +kernel, by decide +kernel⟩, List.mem_of_getElem? (i := 774) (by decide +kernel), List.mem_of_getElem? (i := 1011) (by decide +kernel), List.mem_of_getElem? (i := 1012) (by decide +kernel)⟩
def lw_privs_3 : List (MethodName × Nat) := [(⟨"HalfOfItFalseModel", "no", "(I)I"⟩, 38), (⟨"HalfOfItFalseModel", "isSpeaker", "(I)Z"⟩, 38), (⟨"HalfOfItFalseModel", "saidBy", "(I)I"⟩, 38), (⟨"HalfOfItFalseModel", "isTrue", "(II)Z"⟩, 38), (⟨"HalfOfItFalseModel", "facts", "(I)I"⟩, 38), (⟨"HalfOfItFalseModel", "speakers", "(II)I"⟩, 38), (⟨"HalfOfItFalseModel", "isFact", "(I)Z"⟩, 38), (⟨"HalfOfItFalseModel", "isFull", "(I)Z"⟩, 38), (⟨"HalfOfItFalseModel", "leaves", "(III)I"⟩, 38), (⟨"HalfOfItFalseModel", "adds", "(III)V"⟩, 38), (⟨"HalfOfItFalseModel", "worldsNow", "()J"⟩, 38), (⟨"HalfOfItFalseModel", "worldsOf", "(II)J"⟩, 38), (⟨"HalfOfItFalseModel", "canBeOf", "(III)Z"⟩, 38), (⟨"HalfOfItFalseModel", "isSo", "(II)Z"⟩, 38), (⟨"HalfOfItFalseModel", "isFree", "(I)Z"⟩, 38), (⟨"HalfOfItFalseModel", "count", "(J)I"⟩, 38)]
theorem lw_r3 : ∀ q ∈ lw_privs_3, lw_okq q := List.forall_mem_cons.mpr ⟨lw_p32, List.forall_mem_cons.mpr ⟨lw_p33, List.forall_mem_cons.mpr ⟨lw_p34, List.forall_mem_cons.mpr ⟨lw_p35, List.forall_mem_cons.mpr ⟨lw_p36, List.forall_mem_cons.mpr ⟨lw_p37, List.forall_mem_cons.mpr ⟨lw_p38, List.forall_mem_cons.mpr ⟨lw_p39, List.forall_mem_cons.mpr ⟨lw_p40, List.forall_mem_cons.mpr ⟨lw_p41, List.forall_mem_cons.mpr ⟨lw_p42, List.forall_mem_cons.mpr ⟨lw_p43, List.forall_mem_cons.mpr ⟨lw_p44, List.forall_mem_cons.mpr ⟨lw_p45, List.forall_mem_cons.mpr ⟨lw_p46, List.forall_mem_cons.mpr ⟨lw_p47, fun _ h => absurd h List.not_mem_nil⟩⟩⟩⟩⟩⟩⟩⟩⟩⟩⟩⟩⟩⟩⟩⟩
theorem lw_p48 : lw_okq (⟨"HalfOfItFalseModel", "isLeft", "(II)Z"⟩, 38) := ⟨⟨by decide +kernel, by decide +kernel⟩, List.mem_of_getElem? (i := 774) (by decide +kernel), List.mem_of_getElem? (i := 1027) (by decide +kernel), List.mem_of_getElem? (i := 1028) (by decide +kernel)⟩
theorem lw_p49 : lw_okq (⟨"HalfOfItFalseModel", "those", "(II)J"⟩, 38) := ⟨⟨by decide +kernel, by decide +kernel⟩, List.mem_of_getElem? (i := 774) (by decide +kernel), List.mem_of_getElem? (i := 1031) (by decide +kernel), List.mem_of_getElem? (i := 1032) (by decide +kernel)⟩
theorem lw_p50 : lw_okq (⟨"HalfOfItFalseModel", "wants", "(I)I"⟩, 38) := ⟨⟨by decide +kernel, by decide +kernel⟩, List.mem_of_getElem? (i := 774) (by decide +kernel), List.mem_of_getElem? (i := 1039) (by decide +kernel), List.mem_of_getElem? (i := 1040) (by decide +kernel)⟩
theorem lw_p51 : lw_okq (⟨"HalfOfItFalseModel", "all", "([IIZ)V"⟩, 38) := ⟨⟨by decide +kernel, by decide +kernel⟩, List.mem_of_getElem? (i := 774) (by decide +kernel), List.mem_of_getElem? (i := 1043) (by decide +kernel), List.mem_of_getElem? (i := 1044) (by decide +kernel)⟩
theorem lw_p52 : lw_okq (⟨"HalfOfItFalseModel", "keeps", "([II[IIZ)I"⟩, 38) := ⟨⟨by decide +kernel, by decide +kernel⟩, List.mem_of_getElem? (i := 774) (by decide +kernel), List.mem_of_getElem? (i := 1047) (by decide +kernel), List.mem_of_getElem? (i := 1048) (by decide +kernel)⟩
theorem lw_p53 : lw_okq (⟨"HalfOfItFalseModel", "item", "()Z"⟩, 38) := ⟨⟨by decide +kernel, by decide +kernel⟩, List.mem_of_getElem? (i := 774) (by decide +kernel), List.mem_of_getElem? (i := 1051) (by decide +kernel), List.mem_of_getElem? (i := 1052) (by decide +kernel)⟩
theorem lw_p54 : lw_okq (⟨"HalfOfItFalseModel", "isWordAt", "(I)Z"⟩, 38) := ⟨⟨by decide +kernel, by decide +kernel⟩, List.mem_of_getElem? (i := 774) (by decide +kernel), List.mem_of_getElem? (i := 1055) (by decide +kernel), List.mem_of_getElem? (i := 1056) (by decide +kernel)⟩
theorem lw_p55 : lw_okq (⟨"HalfOfItFalseModel", "isWordFull", "(I)Z"⟩, 38) := ⟨⟨by decide +kernel, by decide +kernel⟩, List.mem_of_getElem? (i := 774) (by decide +kernel), List.mem_of_getElem? (i := 1059) (by decide +kernel), List.mem_of_getElem? (i := 1060) (by decide +kernel)⟩
theorem lw_p56 : lw_okq (⟨"HalfOfItFalseModel", "wrong", "(I)Z"⟩, 38) := ⟨⟨by decide +kernel, by decide +kernel⟩, List.mem_of_getElem? (i := 774) (by decide +kernel), List.mem_of_getElem? (i := 1063) (by decide +kernel), List.mem_of_getElem? (i := 1064) (by decide +kernel)⟩
theorem lw_p57 : lw_okq (⟨"HalfOfItFalseModel", "word", "()I"⟩, 38) := ⟨⟨by decide +kernel, by decide +kernel⟩, List.mem_of_getElem? (i := 774) (by decide +kernel), List.mem_of_getElem? (i := 1067) (by decide +kernel), List.mem_of_getElem? (i := 1068) (by decide +kernel)⟩
theorem lw_p58 : lw_okq (⟨"HalfOfItFalseModel", "high", "(II)I"⟩, 38) := ⟨⟨by decide +kernel, by decide +kernel⟩, List.mem_of_getElem? (i := 774) (by decide +kernel), List.mem_of_getElem? (i := 1071) (by decide +kernel), List.mem_of_getElem? (i := 1072) (by decide +kernel)⟩
theorem lw_p59 : lw_okq (⟨"HalfOfItFalseModel", "number", "(II)Z"⟩, 38) := ⟨⟨by decide +kernel, by decide +kernel⟩, List.mem_of_getElem? (i := 774) (by decide +kernel), List.mem_of_getElem? (i := 1075) (by decide +kernel), List.mem_of_getElem? (i := 1076) (by decide +kernel)⟩
theorem lw_p60 : lw_okq (⟨"HalfOfItFalseModel", "isDigit", "()Z"⟩, 38) := ⟨⟨by decide +kernel, by decide +kernel⟩, List.mem_of_getElem? (i := 774) (by decide +kernel), List.mem_of_getElem? (i := 1079) (by decide +kernel), List.mem_of_getElem? (i := 1080) (by decide +kernel)⟩
theorem lw_p61 : lw_okq (⟨"HalfOfItFalseModel", "lets", "(IIZ)Z"⟩, 38) := ⟨⟨by decide +kernel, by decide +kernel⟩, List.mem_of_getElem? (i := 774) (by decide +kernel), List.mem_of_getElem? (i := 1095) (by decide +kernel), List.mem_of_getElem? (i := 1096) (by decide +kernel)⟩
theorem lw_p62 : lw_okq (⟨"HalfOfItFalseModel", "sureBy", "(IJ)I"⟩, 38) := ⟨⟨by decide +kernel, by decide +kernel⟩, List.mem_of_getElem? (i := 774) (by decide +kernel), List.mem_of_getElem? (i := 1111) (by decide +kernel), List.mem_of_getElem? (i := 1112) (by decide +kernel)⟩
theorem lw_p63 : lw_okq (⟨"HalfOfItFalseModel", "noTen", "(I)I"⟩, 38) := ⟨⟨by decide +kernel, by decide +kernel⟩, List.mem_of_getElem? (i := 774) (by decide +kernel), List.mem_of_getElem? (i := 1115) (by decide +kernel), List.mem_of_getElem? (i := 1116) (by decide +kernel)⟩
def lw_privs_4 : List (MethodName × Nat) := [(⟨"HalfOfItFalseModel", "isLeft", "(II)Z"⟩, 38), (⟨"HalfOfItFalseModel", "those", "(II)J"⟩, 38), (⟨"HalfOfItFalseModel", "wants", "(I)I"⟩, 38), (⟨"HalfOfItFalseModel", "all", "([IIZ)V"⟩, 38), (⟨"HalfOfItFalseModel", "keeps", "([II[IIZ)I"⟩, 38), (⟨"HalfOfItFalseModel", "item", "()Z"⟩, 38), (⟨"HalfOfItFalseModel", "isWordAt", "(I)Z"⟩, 38), (⟨"HalfOfItFalseModel", "isWordFull", "(I)Z"⟩, 38), (⟨"HalfOfItFalseModel", "wrong", "(I)Z"⟩, 38), (⟨"HalfOfItFalseModel", "word", "()I"⟩, 38), (⟨"HalfOfItFalseModel", "high", "(II)I"⟩, 38), (⟨"HalfOfItFalseModel", "number", "(II)Z"⟩, 38), (⟨"HalfOfItFalseModel", "isDigit", "()Z"⟩, 38), (⟨"HalfOfItFalseModel", "lets", "(IIZ)Z"⟩, 38), (⟨"HalfOfItFalseModel", "sureBy", "(IJ)I"⟩, 38), (⟨"HalfOfItFalseModel", "noTen", "(I)I"⟩, 38)]
theorem lw_r4 : ∀ q ∈ lw_privs_4, lw_okq q := List.forall_mem_cons.mpr ⟨lw_p48, List.forall_mem_cons.mpr ⟨lw_p49, List.forall_mem_cons.mpr ⟨lw_p50, List.forall_mem_cons.mpr ⟨lw_p51, List.forall_mem_cons.mpr ⟨lw_p52, List.forall_mem_cons.mpr ⟨lw_p53, List.forall_mem_cons.mpr ⟨lw_p54, List.forall_mem_cons.mpr ⟨lw_p55, List.forall_mem_cons.mpr ⟨lw_p56, List.forall_mem_cons.mpr ⟨lw_p57, List.forall_mem_cons.mpr ⟨lw_p58, List.forall_mem_cons.mpr ⟨lw_p59, List.forall_mem_cons.mpr ⟨lw_p60, List.forall_mem_cons.mpr ⟨lw_p61, List.forall_mem_cons.mpr ⟨lw_p62, List.forall_mem_cons.mpr ⟨lw_p63, fun _ h => absurd h List.not_mem_nil⟩⟩⟩⟩⟩⟩⟩⟩⟩⟩⟩⟩⟩⟩⟩⟩
theorem lw_p64 : lw_okq (⟨"HalfOfItFalseModel", "worstOf", "(II)I"⟩, 38) := ⟨⟨by decide +kernel, by decide +kernel⟩, List.mem_of_getElem? (i := 774) (by decide +kernel), List.mem_of_getElem? (i := 1135) (by decide +kernel), List.mem_of_getElem? (i := 1136) (by decide +kernel)⟩
theorem lw_p65 : lw_okq (⟨"HalfOfItFalseModel", "isKnown", "(II)Z"⟩, 38) := ⟨⟨by decide +kernel, by decide +kernel⟩, List.mem_of_getElem? (i := 774) (by decide +kernel), List.mem_of_getElem? (i := 1147) (by decide +kernel), List.mem_of_getElem? (i := 1148) (by decide +kernel)⟩
theorem lw_p66 : lw_okq (⟨"HalfOfItFalseModel", "rowsOf", "(II)I"⟩, 38) := ⟨⟨by decide +kernel, by decide +kernel⟩, List.mem_of_getElem? (i := 774) (by decide +kernel), List.mem_of_getElem? (i := 1159) (by decide +kernel), List.mem_of_getElem? (i := 1160) (by decide +kernel)⟩
theorem lw_p67 : lw_okq (⟨"HalfOfItFalseModel", "isRow", "(III)Z"⟩, 38) := ⟨⟨by decide +kernel, by decide +kernel⟩, List.mem_of_getElem? (i := 774) (by decide +kernel), List.mem_of_getElem? (i := 1163) (by decide +kernel), List.mem_of_getElem? (i := 1164) (by decide +kernel)⟩
theorem lw_p68 : lw_okq (⟨"HalfOfItFalseModel", "errandsOf", "(II)I"⟩, 38) := ⟨⟨by decide +kernel, by decide +kernel⟩, List.mem_of_getElem? (i := 774) (by decide +kernel), List.mem_of_getElem? (i := 1175) (by decide +kernel), List.mem_of_getElem? (i := 1176) (by decide +kernel)⟩
theorem lw_p69 : lw_okq (⟨"HalfOfItFalseModel", "intAt", "(II)I"⟩, 38) := ⟨⟨by decide +kernel, by decide +kernel⟩, List.mem_of_getElem? (i := 774) (by decide +kernel), List.mem_of_getElem? (i := 1179) (by decide +kernel), List.mem_of_getElem? (i := 1180) (by decide +kernel)⟩
theorem lw_p70 : lw_okq (⟨"HalfOfItFalseModel", "noLow", "(I)I"⟩, 38) := ⟨⟨by decide +kernel, by decide +kernel⟩, List.mem_of_getElem? (i := 774) (by decide +kernel), List.mem_of_getElem? (i := 1191) (by decide +kernel), List.mem_of_getElem? (i := 1192) (by decide +kernel)⟩
theorem lw_p71 : lw_okq (⟨"HalfOfItFalseModel", "lot", "(I)I"⟩, 38) := ⟨⟨by decide +kernel, by decide +kernel⟩, List.mem_of_getElem? (i := 774) (by decide +kernel), List.mem_of_getElem? (i := 1212) (by decide +kernel), List.mem_of_getElem? (i := 1213) (by decide +kernel)⟩
theorem lw_p72 : lw_okq (⟨"HalfOfItFalseModel", "saying", "(II)I"⟩, 38) := ⟨⟨by decide +kernel, by decide +kernel⟩, List.mem_of_getElem? (i := 774) (by decide +kernel), List.mem_of_getElem? (i := 1233) (by decide +kernel), List.mem_of_getElem? (i := 1234) (by decide +kernel)⟩
theorem lw_p73 : lw_okq (⟨"HalfOfItFalseModel", "body", "(I)V"⟩, 38) := ⟨⟨by decide +kernel, by decide +kernel⟩, List.mem_of_getElem? (i := 774) (by decide +kernel), List.mem_of_getElem? (i := 1237) (by decide +kernel), List.mem_of_getElem? (i := 1238) (by decide +kernel)⟩
theorem lw_p74 : lw_okq (⟨"HalfOfItFalseModel", "hiding", "(II)I"⟩, 38) := ⟨⟨by decide +kernel, by decide +kernel⟩, List.mem_of_getElem? (i := 774) (by decide +kernel), List.mem_of_getElem? (i := 1241) (by decide +kernel), List.mem_of_getElem? (i := 1242) (by decide +kernel)⟩
theorem lw_p75 : lw_okq (⟨"HalfOfItFalseModel", "knowing", "(II)I"⟩, 38) := ⟨⟨by decide +kernel, by decide +kernel⟩, List.mem_of_getElem? (i := 774) (by decide +kernel), List.mem_of_getElem? (i := 1245) (by decide +kernel), List.mem_of_getElem? (i := 1246) (by decide +kernel)⟩
def lw_privs_5 : List (MethodName × Nat) := [(⟨"HalfOfItFalseModel", "worstOf", "(II)I"⟩, 38), (⟨"HalfOfItFalseModel", "isKnown", "(II)Z"⟩, 38), (⟨"HalfOfItFalseModel", "rowsOf", "(II)I"⟩, 38), (⟨"HalfOfItFalseModel", "isRow", "(III)Z"⟩, 38), (⟨"HalfOfItFalseModel", "errandsOf", "(II)I"⟩, 38), (⟨"HalfOfItFalseModel", "intAt", "(II)I"⟩, 38), (⟨"HalfOfItFalseModel", "noLow", "(I)I"⟩, 38), (⟨"HalfOfItFalseModel", "lot", "(I)I"⟩, 38), (⟨"HalfOfItFalseModel", "saying", "(II)I"⟩, 38), (⟨"HalfOfItFalseModel", "body", "(I)V"⟩, 38), (⟨"HalfOfItFalseModel", "hiding", "(II)I"⟩, 38), (⟨"HalfOfItFalseModel", "knowing", "(II)I"⟩, 38)]
theorem lw_r5 : ∀ q ∈ lw_privs_5, lw_okq q := List.forall_mem_cons.mpr ⟨lw_p64, List.forall_mem_cons.mpr ⟨lw_p65, List.forall_mem_cons.mpr ⟨lw_p66, List.forall_mem_cons.mpr ⟨lw_p67, List.forall_mem_cons.mpr ⟨lw_p68, List.forall_mem_cons.mpr ⟨lw_p69, List.forall_mem_cons.mpr ⟨lw_p70, List.forall_mem_cons.mpr ⟨lw_p71, List.forall_mem_cons.mpr ⟨lw_p72, List.forall_mem_cons.mpr ⟨lw_p73, List.forall_mem_cons.mpr ⟨lw_p74, List.forall_mem_cons.mpr ⟨lw_p75, fun _ h => absurd h List.not_mem_nil⟩⟩⟩⟩⟩⟩⟩⟩⟩⟩⟩⟩
def lw_privs : List (MethodName × Nat) := lw_privs_1 ++ (lw_privs_2 ++ (lw_privs_3 ++ (lw_privs_4 ++ (lw_privs_5))))
def lw_tbl : List Cond := k2_sels lw_privs ++ tables_1
theorem lw_privs_ok : ∀ q ∈ lw_privs, lw_okq q := by
  show ∀ q ∈ lw_privs_1 ++ (lw_privs_2 ++ (lw_privs_3 ++ (lw_privs_4 ++ (lw_privs_5)))), lw_okq q
  exact List.forall_mem_append.mpr ⟨lw_r1, List.forall_mem_append.mpr ⟨lw_r2, List.forall_mem_append.mpr ⟨lw_r3, List.forall_mem_append.mpr ⟨lw_r4, lw_r5⟩⟩⟩⟩
-- ===== end of PART A; then your names; then what follows =====
end
section
def RX0 : String := "HalfOfItFalse$Acts"
def TX0 : u_T := fun k => match k with
  | 0 => ("HalfOfItFalse$Acts", "bodies", "[I", true)
  | 1 => ("HalfOfItFalse$Acts", "ran", "I", false)
  | 2 => ("HalfOfItFalse$Acts", "kind", "I", false)
  | 3 => ("HalfOfItFalse$Acts", "m", "I", false)
  | _ => ("HalfOfItFalse$Acts", "k", "I", false)
def tyX0 : Nat → FieldType := fun k => match k with
  | 0 => .array .int
  | 1 => .int
  | 2 => .int
  | 3 => .int
  | _ => .int
theorem nmX0 : ∀ a, a < 5 → ∀ b, b < 5 → a ≠ b → (TX0 a).2.1 ≠ (TX0 b).2.1 := by decide +kernel
theorem tyX0_ok : ∀ k, k < 5 → parseFieldDescriptor (TX0 k).2.2.1 = some (tyX0 k) := by decide +kernel
abbrev cX0_init : ByteArray := prog_2_method_1_code
def yX0_init : MethodName := ⟨RX0, "<init>", "()V"⟩
abbrev cX0_begin : ByteArray := prog_2_method_2_code
def yX0_begin : MethodName := ⟨RX0, "begin", "()V"⟩
abbrev cX0_perform : ByteArray := prog_2_method_3_code
def yX0_perform : MethodName := ⟨RX0, "perform", "(IIIII)I"⟩
abbrev cX0_run : ByteArray := prog_2_method_4_code
def yX0_run : MethodName := ⟨RX0, "run", "(IIII)I"⟩
abbrev cX0_resultOf : ByteArray := prog_2_method_5_code
def yX0_resultOf : MethodName := ⟨RX0, "resultOf", "(IIII)I"⟩
abbrev cX0_ownerOf : ByteArray := prog_2_method_6_code
def yX0_ownerOf : MethodName := ⟨RX0, "ownerOf", "(II)I"⟩
abbrev cX0_note : ByteArray := prog_2_method_7_code
def yX0_note : MethodName := ⟨RX0, "note", "(I)V"⟩
def RX1 : String := "HalfOfItFalse$Reader"
def TX1 : u_T := fun k => match k with
  | 0 => ("HalfOfItFalse$Reader", "text", "LHalfOfItFalse$Shelf;", false)
  | 1 => ("HalfOfItFalse$Reader", "told", "LHalfOfItFalse$Town;", false)
  | 2 => ("HalfOfItFalse$Reader", "at", "I", false)
  | 3 => ("HalfOfItFalse$Reader", "wrongAt", "I", false)
  | 4 => ("HalfOfItFalse$Reader", "items", "I", false)
  | 5 => ("HalfOfItFalse$Reader", "number", "I", false)
  | _ => ("HalfOfItFalse$Reader", "firstDigit", "I", false)
def tyX1 : Nat → FieldType := fun k => match k with
  | 0 => .object "HalfOfItFalse$Shelf"
  | 1 => .object "HalfOfItFalse$Town"
  | 2 => .int
  | 3 => .int
  | 4 => .int
  | 5 => .int
  | _ => .int
theorem nmX1 : ∀ a, a < 7 → ∀ b, b < 7 → a ≠ b → (TX1 a).2.1 ≠ (TX1 b).2.1 := by decide +kernel
theorem tyX1_ok : ∀ k, k < 7 → parseFieldDescriptor (TX1 k).2.2.1 = some (tyX1 k) := by decide +kernel
abbrev cX1_init : ByteArray := prog_3_method_1_code
def yX1_init : MethodName := ⟨RX1, "<init>", "()V"⟩
abbrev cX1_read : ByteArray := prog_3_method_2_code
def yX1_read : MethodName := ⟨RX1, "read", "(LHalfOfItFalse$Shelf;LHalfOfItFalse$Town;)I"⟩
abbrev cX1_wrong : ByteArray := prog_3_method_3_code
def yX1_wrong : MethodName := ⟨RX1, "wrong", "(I)Z"⟩
abbrev cX1_letter : ByteArray := prog_3_method_4_code
def yX1_letter : MethodName := ⟨RX1, "letter", "()I"⟩
abbrev cX1_isSign : ByteArray := prog_3_method_5_code
def yX1_isSign : MethodName := ⟨RX1, "isSign", "(C)Z"⟩
abbrev cX1_isWord : ByteArray := prog_3_method_6_code
def yX1_isWord : MethodName := ⟨RX1, "isWord", "(Ljava/lang/String;Z)Z"⟩
abbrev cX1_isNumber : ByteArray := prog_3_method_7_code
def yX1_isNumber : MethodName := ⟨RX1, "isNumber", "(II)Z"⟩
abbrev cX1_isDigit : ByteArray := prog_3_method_8_code
def yX1_isDigit : MethodName := ⟨RX1, "isDigit", "()Z"⟩
abbrev cX1_readItem : ByteArray := prog_3_method_9_code
def yX1_readItem : MethodName := ⟨RX1, "readItem", "()Z"⟩
abbrev cX1_readFact : ByteArray := prog_3_method_10_code
def yX1_readFact : MethodName := ⟨RX1, "readFact", "()Z"⟩
abbrev cX1_readMan : ByteArray := prog_3_method_11_code
def yX1_readMan : MethodName := ⟨RX1, "readMan", "()Z"⟩
abbrev cX1_readLaw : ByteArray := prog_3_method_12_code
def yX1_readLaw : MethodName := ⟨RX1, "readLaw", "()Z"⟩
abbrev cX1_readSays : ByteArray := prog_3_method_13_code
def yX1_readSays : MethodName := ⟨RX1, "readSays", "()Z"⟩
abbrev cX1_readKnown : ByteArray := prog_3_method_14_code
def yX1_readKnown : MethodName := ⟨RX1, "readKnown", "()Z"⟩
def RX2 : String := "HalfOfItFalse$Shelf"
def TX2 : u_T := fun k => match k with
  | 0 => ("HalfOfItFalse$Shelf", "elements", "[J", true)
  | 1 => ("HalfOfItFalse$Shelf", "held", "I", false)
  | _ => ("HalfOfItFalse$Shelf", "size", "I", false)
def tyX2 : Nat → FieldType := fun k => match k with
  | 0 => .array .long
  | 1 => .int
  | _ => .int
theorem nmX2 : ∀ a, a < 3 → ∀ b, b < 3 → a ≠ b → (TX2 a).2.1 ≠ (TX2 b).2.1 := by decide +kernel
theorem tyX2_ok : ∀ k, k < 3 → parseFieldDescriptor (TX2 k).2.2.1 = some (tyX2 k) := by decide +kernel
abbrev cX2_init : ByteArray := prog_4_method_1_code
def yX2_init : MethodName := ⟨RX2, "<init>", "()V"⟩
abbrev cX2_isRow : ByteArray := prog_4_method_2_code
def yX2_isRow : MethodName := ⟨RX2, "isRow", "()Z"⟩
abbrev cX2_isSpeaker : ByteArray := prog_4_method_3_code
def yX2_isSpeaker : MethodName := ⟨RX2, "isSpeaker", "()Z"⟩
abbrev cX2_makeRow : ByteArray := prog_4_method_4_code
def yX2_makeRow : MethodName := ⟨RX2, "makeRow", "(II)V"⟩
abbrev cX2_has : ByteArray := prog_4_method_5_code
def yX2_has : MethodName := ⟨RX2, "has", "(I)Z"⟩
abbrev cX2_hasPart : ByteArray := prog_4_method_6_code
def yX2_hasPart : MethodName := ⟨RX2, "hasPart", "(II)Z"⟩
abbrev cX2_put : ByteArray := prog_4_method_7_code
def yX2_put : MethodName := ⟨RX2, "put", "(IJ)V"⟩
abbrev cX2_asInt : ByteArray := prog_4_method_8_code
def yX2_asInt : MethodName := ⟨RX2, "asInt", "(I)I"⟩
def RX3 : String := "HalfOfItFalse$Town"
def TX3 : u_T := fun k => match k with
  | 0 => ("HalfOfItFalse$Town", "harms", "[I", true)
  | 1 => ("HalfOfItFalse$Town", "kinds", "[I", true)
  | 2 => ("HalfOfItFalse$Town", "marks", "[I", true)
  | 3 => ("HalfOfItFalse$Town", "counts", "[I", true)
  | 4 => ("HalfOfItFalse$Town", "who", "[I", true)
  | 5 => ("HalfOfItFalse$Town", "numbers", "[I", true)
  | 6 => ("HalfOfItFalse$Town", "words", "[I", true)
  | 7 => ("HalfOfItFalse$Town", "truths", "[J", true)
  | 8 => ("HalfOfItFalse$Town", "facts", "I", false)
  | 9 => ("HalfOfItFalse$Town", "speakers", "I", false)
  | 10 => ("HalfOfItFalse$Town", "sayings", "I", false)
  | 11 => ("HalfOfItFalse$Town", "left", "J", false)
  | 12 => ("HalfOfItFalse$Town", "perDay", "I", false)
  | 13 => ("HalfOfItFalse$Town", "trueOnes", "I", false)
  | 14 => ("HalfOfItFalse$Town", "days", "I", false)
  | 15 => ("HalfOfItFalse$Town", "seed", "I", false)
  | _ => ("HalfOfItFalse$Town", "drawn", "I", false)
def tyX3 : Nat → FieldType := fun k => match k with
  | 0 => .array .int
  | 1 => .array .int
  | 2 => .array .int
  | 3 => .array .int
  | 4 => .array .int
  | 5 => .array .int
  | 6 => .array .int
  | 7 => .array .long
  | 8 => .int
  | 9 => .int
  | 10 => .int
  | 11 => .long
  | 12 => .int
  | 13 => .int
  | 14 => .int
  | 15 => .int
  | _ => .int
theorem nmX3 : ∀ a, a < 17 → ∀ b, b < 17 → a ≠ b → (TX3 a).2.1 ≠ (TX3 b).2.1 := by decide +kernel
theorem tyX3_ok : ∀ k, k < 17 → parseFieldDescriptor (TX3 k).2.2.1 = some (tyX3 k) := by decide +kernel
abbrev cX3_init : ByteArray := prog_5_method_1_code
def yX3_init : MethodName := ⟨RX3, "<init>", "()V"⟩
abbrev cX3_takeOver : ByteArray := prog_5_method_2_code
def yX3_takeOver : MethodName := ⟨RX3, "takeOver", "(LHalfOfItFalse$Town;)V"⟩
abbrev cX3_isFact : ByteArray := prog_5_method_3_code
def yX3_isFact : MethodName := ⟨RX3, "isFact", "(I)Z"⟩
abbrev cX3_isSpeaker : ByteArray := prog_5_method_4_code
def yX3_isSpeaker : MethodName := ⟨RX3, "isSpeaker", "(I)Z"⟩
abbrev cX3_isWorld : ByteArray := prog_5_method_5_code
def yX3_isWorld : MethodName := ⟨RX3, "isWorld", "(I)Z"⟩
abbrev cX3_isFull : ByteArray := prog_5_method_6_code
def yX3_isFull : MethodName := ⟨RX3, "isFull", "(I)Z"⟩
abbrev cX3_isFree : ByteArray := prog_5_method_7_code
def yX3_isFree : MethodName := ⟨RX3, "isFree", "(I)Z"⟩
abbrev cX3_addFact : ByteArray := prog_5_method_8_code
def yX3_addFact : MethodName := ⟨RX3, "addFact", "(I)V"⟩
abbrev cX3_addSpeaker : ByteArray := prog_5_method_9_code
def yX3_addSpeaker : MethodName := ⟨RX3, "addSpeaker", "(II)V"⟩
abbrev cX3_put : ByteArray := prog_5_method_10_code
def yX3_put : MethodName := ⟨RX3, "put", "(IIZ)V"⟩
abbrev cX3_putTrueIn : ByteArray := prog_5_method_11_code
def yX3_putTrueIn : MethodName := ⟨RX3, "putTrueIn", "(IIJ)V"⟩
abbrev cX3_takeBack : ByteArray := prog_5_method_12_code
def yX3_takeBack : MethodName := ⟨RX3, "takeBack", "()V"⟩
abbrev cX3_forgetSayings : ByteArray := prog_5_method_13_code
def yX3_forgetSayings : MethodName := ⟨RX3, "forgetSayings", "()V"⟩
abbrev cX3_learn : ByteArray := prog_5_method_14_code
def yX3_learn : MethodName := ⟨RX3, "learn", "(IZ)V"⟩
abbrev cX3_drawBelow : ByteArray := prog_5_method_15_code
def yX3_drawBelow : MethodName := ⟨RX3, "drawBelow", "(I)I"⟩
abbrev cX3_possible : ByteArray := prog_5_method_16_code
def yX3_possible : MethodName := ⟨RX3, "possible", "(J)J"⟩
abbrev cX3_possibleWithout : ByteArray := prog_5_method_17_code
def yX3_possibleWithout : MethodName := ⟨RX3, "possibleWithout", "(I)J"⟩
abbrev cX3_after : ByteArray := prog_5_method_18_code
def yX3_after : MethodName := ⟨RX3, "after", "(IIZJ)J"⟩
abbrev cX3_allowedNext : ByteArray := prog_5_method_19_code
def yX3_allowedNext : MethodName := ⟨RX3, "allowedNext", "(IZ)J"⟩
abbrev cX3_allowed : ByteArray := prog_5_method_20_code
def yX3_allowed : MethodName := ⟨RX3, "allowed", "(IJ)J"⟩
abbrev cX3_isChosen : ByteArray := prog_5_method_21_code
def yX3_isChosen : MethodName := ⟨RX3, "isChosen", "(IIJ)Z"⟩
abbrev cX3_allowedByCount : ByteArray := prog_5_method_22_code
def yX3_allowedByCount : MethodName := ⟨RX3, "allowedByCount", "(IJ)J"⟩
abbrev cX3_digit : ByteArray := prog_5_method_23_code
def yX3_digit : MethodName := ⟨RX3, "digit", "(JI)J"⟩
abbrev cX3_allowedByPairs : ByteArray := prog_5_method_24_code
def yX3_allowedByPairs : MethodName := ⟨RX3, "allowedByPairs", "(IJ)J"⟩
abbrev cX3_mustBeTrue : ByteArray := prog_5_method_25_code
def yX3_mustBeTrue : MethodName := ⟨RX3, "mustBeTrue", "(II)Z"⟩
abbrev cX3_mustLateBeTrue : ByteArray := prog_5_method_26_code
def yX3_mustLateBeTrue : MethodName := ⟨RX3, "mustLateBeTrue", "(I)Z"⟩
abbrev cX3_lawfulRows : ByteArray := prog_5_method_27_code
def yX3_lawfulRows : MethodName := ⟨RX3, "lawfulRows", "(II)I"⟩
def RX4 : String := "HalfOfItFalse"
def TX4 : u_T := fun k => match k with
  | 0 => ("HalfOfItFalse", "town", "LHalfOfItFalse$Town;", true)
  | 1 => ("HalfOfItFalse", "kept", "LHalfOfItFalse$Town;", true)
  | 2 => ("HalfOfItFalse", "trial", "LHalfOfItFalse$Town;", true)
  | 3 => ("HalfOfItFalse", "shelves", "[LHalfOfItFalse$Shelf;", true)
  | 4 => ("HalfOfItFalse", "reader", "LHalfOfItFalse$Reader;", true)
  | 5 => ("HalfOfItFalse", "acts", "LHalfOfItFalse$Acts;", true)
  | 6 => ("HalfOfItFalse", "refused", "[I", true)
  | 7 => ("HalfOfItFalse", "imaged", "Z", false)
  | _ => ("HalfOfItFalse", "latestFault", "I", false)
def tyX4 : Nat → FieldType := fun k => match k with
  | 0 => .object "HalfOfItFalse$Town"
  | 1 => .object "HalfOfItFalse$Town"
  | 2 => .object "HalfOfItFalse$Town"
  | 3 => .array (.object "HalfOfItFalse$Shelf")
  | 4 => .object "HalfOfItFalse$Reader"
  | 5 => .object "HalfOfItFalse$Acts"
  | 6 => .array .int
  | 7 => .boolean
  | _ => .int
theorem nmX4 : ∀ a, a < 9 → ∀ b, b < 9 → a ≠ b → (TX4 a).2.1 ≠ (TX4 b).2.1 := by decide +kernel
theorem tyX4_ok : ∀ k, k < 9 → parseFieldDescriptor (TX4 k).2.2.1 = some (tyX4 k) := by decide +kernel
abbrev cX4_init : ByteArray := prog_1_method_1_code
def yX4_init : MethodName := ⟨RX4, "<init>", "()V"⟩
abbrev cX4_refuse : ByteArray := prog_1_method_2_code
def yX4_refuse : MethodName := ⟨RX4, "refuse", "(I)I"⟩
abbrev cX4_refuse_ : ByteArray := prog_1_method_3_code
def yX4_refuse_ : MethodName := ⟨RX4, "refuse", "(II)I"⟩
abbrev cX4_isShelf : ByteArray := prog_1_method_4_code
def yX4_isShelf : MethodName := ⟨RX4, "isShelf", "(I)Z"⟩
abbrev cX4_isKind : ByteArray := prog_1_method_5_code
def yX4_isKind : MethodName := ⟨RX4, "isKind", "(I)Z"⟩
abbrev cX4_truthOf : ByteArray := prog_1_method_6_code
def yX4_truthOf : MethodName := ⟨RX4, "truthOf", "(IZ)J"⟩
abbrev cX4_within : ByteArray := prog_1_method_7_code
def yX4_within : MethodName := ⟨RX4, "within", "(III)Z"⟩
abbrev cX4_isUnder : ByteArray := prog_1_method_8_code
def yX4_isUnder : MethodName := ⟨RX4, "isUnder", "(II)Z"⟩
abbrev cX4_noRow : ByteArray := prog_1_method_9_code
def yX4_noRow : MethodName := ⟨RX4, "noRow", "(I)I"⟩
abbrev cX4_row : ByteArray := prog_1_method_10_code
def yX4_row : MethodName := ⟨RX4, "row", "(III)I"⟩
abbrev cX4_set : ByteArray := prog_1_method_11_code
def yX4_set : MethodName := ⟨RX4, "set", "(IIJ)I"⟩
abbrev cX4_copy : ByteArray := prog_1_method_12_code
def yX4_copy : MethodName := ⟨RX4, "copy", "(IIIII)I"⟩
abbrev cX4_element : ByteArray := prog_1_method_13_code
def yX4_element : MethodName := ⟨RX4, "element", "(II)J"⟩
abbrev cX4_show : ByteArray := prog_1_method_14_code
def yX4_show : MethodName := ⟨RX4, "show", "(II)I"⟩
abbrev cX4_holds : ByteArray := prog_1_method_15_code
def yX4_holds : MethodName := ⟨RX4, "holds", "(I)I"⟩
abbrev cX4_says : ByteArray := prog_1_method_16_code
def yX4_says : MethodName := ⟨RX4, "says", "(II)I"⟩
abbrev cX4_fact : ByteArray := prog_1_method_17_code
def yX4_fact : MethodName := ⟨RX4, "fact", "(I)I"⟩
abbrev cX4_speaker : ByteArray := prog_1_method_18_code
def yX4_speaker : MethodName := ⟨RX4, "speaker", "(II)I"⟩
abbrev cX4_law : ByteArray := prog_1_method_19_code
def yX4_law : MethodName := ⟨RX4, "law", "(II)I"⟩
abbrev cX4_speakerOf : ByteArray := prog_1_method_20_code
def yX4_speakerOf : MethodName := ⟨RX4, "speakerOf", "(II)I"⟩
abbrev cX4_harm : ByteArray := prog_1_method_21_code
def yX4_harm : MethodName := ⟨RX4, "harm", "(II)I"⟩
abbrev cX4_say : ByteArray := prog_1_method_22_code
def yX4_say : MethodName := ⟨RX4, "say", "(IIZ)I"⟩
abbrev cX4_unsay : ByteArray := prog_1_method_23_code
def yX4_unsay : MethodName := ⟨RX4, "unsay", "()I"⟩
abbrev cX4_sayingOf : ByteArray := prog_1_method_24_code
def yX4_sayingOf : MethodName := ⟨RX4, "sayingOf", "(I)I"⟩
abbrev cX4_known : ByteArray := prog_1_method_25_code
def yX4_known : MethodName := ⟨RX4, "known", "(IZ)I"⟩
abbrev cX4_town : ByteArray := prog_1_method_26_code
def yX4_town : MethodName := ⟨RX4, "town", "(I)I"⟩
abbrev cX4_fault : ByteArray := prog_1_method_27_code
def yX4_fault : MethodName := ⟨RX4, "fault", "()I"⟩
abbrev cX4_canBe : ByteArray := prog_1_method_28_code
def yX4_canBe : MethodName := ⟨RX4, "canBe", "(II)I"⟩
abbrev cX4_can : ByteArray := prog_1_method_29_code
def yX4_can : MethodName := ⟨RX4, "can", "(III)I"⟩
abbrev cX4_isAny : ByteArray := prog_1_method_30_code
def yX4_isAny : MethodName := ⟨RX4, "isAny", "(J)I"⟩
abbrev cX4_bit : ByteArray := prog_1_method_31_code
def yX4_bit : MethodName := ⟨RX4, "bit", "(JI)I"⟩
abbrev cX4_worlds : ByteArray := prog_1_method_32_code
def yX4_worlds : MethodName := ⟨RX4, "worlds", "()J"⟩
abbrev cX4_many : ByteArray := prog_1_method_33_code
def yX4_many : MethodName := ⟨RX4, "many", "()I"⟩
abbrev cX4_sure : ByteArray := prog_1_method_34_code
def yX4_sure : MethodName := ⟨RX4, "sure", "(I)I"⟩
abbrev cX4_surety : ByteArray := prog_1_method_35_code
def yX4_surety : MethodName := ⟨RX4, "surety", "(JI)I"⟩
abbrev cX4_sures : ByteArray := prog_1_method_36_code
def yX4_sures : MethodName := ⟨RX4, "sures", "()I"⟩
abbrev cX4_shown : ByteArray := prog_1_method_37_code
def yX4_shown : MethodName := ⟨RX4, "shown", "(I)I"⟩
abbrev cX4_proof : ByteArray := prog_1_method_38_code
def yX4_proof : MethodName := ⟨RX4, "proof", "(I)I"⟩
abbrev cX4_worst : ByteArray := prog_1_method_39_code
def yX4_worst : MethodName := ⟨RX4, "worst", "(II)I"⟩
abbrev cX4_worstOf : ByteArray := prog_1_method_40_code
def yX4_worstOf : MethodName := ⟨RX4, "worstOf", "(IIJ)I"⟩
abbrev cX4_next : ByteArray := prog_1_method_41_code
def yX4_next : MethodName := ⟨RX4, "next", "()I"⟩
abbrev cX4_knows : ByteArray := prog_1_method_42_code
def yX4_knows : MethodName := ⟨RX4, "knows", "(II)I"⟩
abbrev cX4_tree : ByteArray := prog_1_method_43_code
def yX4_tree : MethodName := ⟨RX4, "tree", "(I)I"⟩
abbrev cX4_isKnownIn : ByteArray := prog_1_method_44_code
def yX4_isKnownIn : MethodName := ⟨RX4, "isKnownIn", "(IIJ)Z"⟩
abbrev cX4_leavesKnown : ByteArray := prog_1_method_45_code
def yX4_leavesKnown : MethodName := ⟨RX4, "leavesKnown", "(IIJIIZ)Z"⟩
abbrev cX4_rows : ByteArray := prog_1_method_46_code
def yX4_rows : MethodName := ⟨RX4, "rows", "(II)I"⟩
abbrev cX4_tells : ByteArray := prog_1_method_47_code
def yX4_tells : MethodName := ⟨RX4, "tells", "(II)I"⟩
abbrev cX4_errands : ByteArray := prog_1_method_48_code
def yX4_errands : MethodName := ⟨RX4, "errands", "(II)I"⟩
abbrev cX4_placed : ByteArray := prog_1_method_49_code
def yX4_placed : MethodName := ⟨RX4, "placed", "(II)I"⟩
abbrev cX4_noErrands : ByteArray := prog_1_method_50_code
def yX4_noErrands : MethodName := ⟨RX4, "noErrands", "(II)I"⟩
abbrev cX4_liesPlaced : ByteArray := prog_1_method_51_code
def yX4_liesPlaced : MethodName := ⟨RX4, "liesPlaced", "(LHalfOfItFalse$Shelf;I)I"⟩
abbrev cX4_leastHarmful : ByteArray := prog_1_method_52_code
def yX4_leastHarmful : MethodName := ⟨RX4, "leastHarmful", "(LHalfOfItFalse$Shelf;I)I"⟩
abbrev cX4_trust : ByteArray := prog_1_method_53_code
def yX4_trust : MethodName := ⟨RX4, "trust", "(I)I"⟩
abbrev cX4_witness : ByteArray := prog_1_method_54_code
def yX4_witness : MethodName := ⟨RX4, "witness", "()I"⟩
abbrev cX4_judge : ByteArray := prog_1_method_55_code
def yX4_judge : MethodName := ⟨RX4, "judge", "(II)I"⟩
abbrev cX4_toldAfter : ByteArray := prog_1_method_56_code
def yX4_toldAfter : MethodName := ⟨RX4, "toldAfter", "(IJ)J"⟩
abbrev cX4_sunset : ByteArray := prog_1_method_57_code
def yX4_sunset : MethodName := ⟨RX4, "sunset", "()I"⟩
abbrev cX4_draw : ByteArray := prog_1_method_58_code
def yX4_draw : MethodName := ⟨RX4, "draw", "()I"⟩
abbrev cX4_ask : ByteArray := prog_1_method_59_code
def yX4_ask : MethodName := ⟨RX4, "ask", "(II)I"⟩
abbrev cX4_truthInTruth : ByteArray := prog_1_method_60_code
def yX4_truthInTruth : MethodName := ⟨RX4, "truthInTruth", "(I)I"⟩
abbrev cX4_truly : ByteArray := prog_1_method_61_code
def yX4_truly : MethodName := ⟨RX4, "truly", "(I)I"⟩
abbrev cX4_seed : ByteArray := prog_1_method_62_code
def yX4_seed : MethodName := ⟨RX4, "seed", "(I)I"⟩
abbrev cX4_act : ByteArray := prog_1_method_63_code
def yX4_act : MethodName := ⟨RX4, "act", "(III)I"⟩
abbrev cX4_trace : ByteArray := prog_1_method_64_code
def yX4_trace : MethodName := ⟨RX4, "trace", "(I)I"⟩
abbrev cX4_image : ByteArray := prog_1_method_65_code
def yX4_image : MethodName := ⟨RX4, "image", "()I"⟩
abbrev cX4_restore : ByteArray := prog_1_method_66_code
def yX4_restore : MethodName := ⟨RX4, "restore", "()I"⟩
abbrev cX4_status : ByteArray := prog_1_method_67_code
def yX4_status : MethodName := ⟨RX4, "status", "(I)I"⟩
def RX5 : String := "HalfOfItFalseModel"
def TX5 : u_T := fun k => match k with
  | 0 => ("HalfOfItFalseModel", "facts", "I", false)
  | 1 => ("HalfOfItFalseModel", "speakers", "I", false)
  | 2 => ("HalfOfItFalseModel", "sayings", "I", false)
  | 3 => ("HalfOfItFalseModel", "sayN", "I", false)
  | 4 => ("HalfOfItFalseModel", "trueN", "I", false)
  | 5 => ("HalfOfItFalseModel", "days", "I", false)
  | 6 => ("HalfOfItFalseModel", "seed", "I", false)
  | 7 => ("HalfOfItFalseModel", "drawn", "I", false)
  | 8 => ("HalfOfItFalseModel", "fault", "I", false)
  | 9 => ("HalfOfItFalseModel", "left", "J", false)
  | 10 => ("HalfOfItFalseModel", "refused", "[I", true)
  | 11 => ("HalfOfItFalseModel", "harms", "[I", true)
  | 12 => ("HalfOfItFalseModel", "kind", "[I", true)
  | 13 => ("HalfOfItFalseModel", "code", "[I", true)
  | 14 => ("HalfOfItFalseModel", "who", "[I", true)
  | 15 => ("HalfOfItFalseModel", "what", "[I", true)
  | 16 => ("HalfOfItFalseModel", "so", "[I", true)
  | 17 => ("HalfOfItFalseModel", "held", "[I", true)
  | 18 => ("HalfOfItFalseModel", "sort", "[I", true)
  | 19 => ("HalfOfItFalseModel", "size", "[I", true)
  | 20 => ("HalfOfItFalseModel", "shown", "[I", true)
  | 21 => ("HalfOfItFalseModel", "cells", "[J", true)
  | 22 => ("HalfOfItFalseModel", "carried", "[J", true)
  | 23 => ("HalfOfItFalseModel", "words", "[I", true)
  | 24 => ("HalfOfItFalseModel", "tell", "[I", true)
  | 25 => ("HalfOfItFalseModel", "base", "I", false)
  | 26 => ("HalfOfItFalseModel", "at", "I", false)
  | 27 => ("HalfOfItFalseModel", "end", "I", false)
  | 28 => ("HalfOfItFalseModel", "told", "I", false)
  | 29 => ("HalfOfItFalseModel", "wrongAt", "I", false)
  | 30 => ("HalfOfItFalseModel", "was", "[I", true)
  | 31 => ("HalfOfItFalseModel", "kept", "[I", true)
  | 32 => ("HalfOfItFalseModel", "lefts", "[J", true)
  | 33 => ("HalfOfItFalseModel", "harmAll", "I", false)
  | 34 => ("HalfOfItFalseModel", "placesAll", "I", false)
  | 35 => ("HalfOfItFalseModel", "trace", "[I", true)
  | 36 => ("HalfOfItFalseModel", "ran", "I", false)
  | _ => ("HalfOfItFalseModel", "isKept", "Z", false)
def tyX5 : Nat → FieldType := fun k => match k with
  | 0 => .int
  | 1 => .int
  | 2 => .int
  | 3 => .int
  | 4 => .int
  | 5 => .int
  | 6 => .int
  | 7 => .int
  | 8 => .int
  | 9 => .long
  | 10 => .array .int
  | 11 => .array .int
  | 12 => .array .int
  | 13 => .array .int
  | 14 => .array .int
  | 15 => .array .int
  | 16 => .array .int
  | 17 => .array .int
  | 18 => .array .int
  | 19 => .array .int
  | 20 => .array .int
  | 21 => .array .long
  | 22 => .array .long
  | 23 => .array .int
  | 24 => .array .int
  | 25 => .int
  | 26 => .int
  | 27 => .int
  | 28 => .int
  | 29 => .int
  | 30 => .array .int
  | 31 => .array .int
  | 32 => .array .long
  | 33 => .int
  | 34 => .int
  | 35 => .array .int
  | 36 => .int
  | _ => .boolean
theorem nmX5 : ∀ a, a < 38 → ∀ b, b < 38 → a ≠ b → (TX5 a).2.1 ≠ (TX5 b).2.1 := by decide +kernel
theorem tyX5_ok : ∀ k, k < 38 → parseFieldDescriptor (TX5 k).2.2.1 = some (tyX5 k) := by decide +kernel
abbrev cX5_init : ByteArray := prog_7_method_1_code
def yX5_init : MethodName := ⟨RX5, "<init>", "()V"⟩
abbrev cX5_no : ByteArray := prog_7_method_2_code
def yX5_no : MethodName := ⟨RX5, "no", "(I)I"⟩
abbrev cX5_noTen : ByteArray := prog_7_method_3_code
def yX5_noTen : MethodName := ⟨RX5, "noTen", "(I)I"⟩
abbrev cX5_noLow : ByteArray := prog_7_method_4_code
def yX5_noLow : MethodName := ⟨RX5, "noLow", "(I)I"⟩
abbrev cX5_isShelf : ByteArray := prog_7_method_5_code
def yX5_isShelf : MethodName := ⟨RX5, "isShelf", "(I)Z"⟩
abbrev cX5_isFact : ByteArray := prog_7_method_6_code
def yX5_isFact : MethodName := ⟨RX5, "isFact", "(I)Z"⟩
abbrev cX5_isSpeaker : ByteArray := prog_7_method_7_code
def yX5_isSpeaker : MethodName := ⟨RX5, "isSpeaker", "(I)Z"⟩
abbrev cX5_row : ByteArray := prog_7_method_8_code
def yX5_row : MethodName := ⟨RX5, "row", "(III)I"⟩
abbrev cX5_set : ByteArray := prog_7_method_9_code
def yX5_set : MethodName := ⟨RX5, "set", "(IIJ)I"⟩
abbrev cX5_copy : ByteArray := prog_7_method_10_code
def yX5_copy : MethodName := ⟨RX5, "copy", "(IIIII)I"⟩
abbrev cX5_element : ByteArray := prog_7_method_11_code
def yX5_element : MethodName := ⟨RX5, "element", "(II)J"⟩
abbrev cX5_show : ByteArray := prog_7_method_12_code
def yX5_show : MethodName := ⟨RX5, "show", "(II)I"⟩
abbrev cX5_holds : ByteArray := prog_7_method_13_code
def yX5_holds : MethodName := ⟨RX5, "holds", "(I)I"⟩
abbrev cX5_says : ByteArray := prog_7_method_14_code
def yX5_says : MethodName := ⟨RX5, "says", "(II)I"⟩
abbrev cX5_wants : ByteArray := prog_7_method_15_code
def yX5_wants : MethodName := ⟨RX5, "wants", "(I)I"⟩
abbrev cX5_intAt : ByteArray := prog_7_method_16_code
def yX5_intAt : MethodName := ⟨RX5, "intAt", "(II)I"⟩
abbrev cX5_facts : ByteArray := prog_7_method_17_code
def yX5_facts : MethodName := ⟨RX5, "facts", "(I)I"⟩
abbrev cX5_fact : ByteArray := prog_7_method_18_code
def yX5_fact : MethodName := ⟨RX5, "fact", "(I)I"⟩
abbrev cX5_speakers : ByteArray := prog_7_method_19_code
def yX5_speakers : MethodName := ⟨RX5, "speakers", "(II)I"⟩
abbrev cX5_speaker : ByteArray := prog_7_method_20_code
def yX5_speaker : MethodName := ⟨RX5, "speaker", "(II)I"⟩
abbrev cX5_law : ByteArray := prog_7_method_21_code
def yX5_law : MethodName := ⟨RX5, "law", "(II)I"⟩
abbrev cX5_saidBy : ByteArray := prog_7_method_22_code
def yX5_saidBy : MethodName := ⟨RX5, "saidBy", "(I)I"⟩
abbrev cX5_speakerOf : ByteArray := prog_7_method_23_code
def yX5_speakerOf : MethodName := ⟨RX5, "speakerOf", "(II)I"⟩
abbrev cX5_harm : ByteArray := prog_7_method_24_code
def yX5_harm : MethodName := ⟨RX5, "harm", "(II)I"⟩
abbrev cX5_isTrue : ByteArray := prog_7_method_25_code
def yX5_isTrue : MethodName := ⟨RX5, "isTrue", "(II)Z"⟩
abbrev cX5_isFree : ByteArray := prog_7_method_26_code
def yX5_isFree : MethodName := ⟨RX5, "isFree", "(I)Z"⟩
abbrev cX5_isSo : ByteArray := prog_7_method_27_code
def yX5_isSo : MethodName := ⟨RX5, "isSo", "(II)Z"⟩
abbrev cX5_canBeOf : ByteArray := prog_7_method_28_code
def yX5_canBeOf : MethodName := ⟨RX5, "canBeOf", "(III)Z"⟩
abbrev cX5_worldsOf : ByteArray := prog_7_method_29_code
def yX5_worldsOf : MethodName := ⟨RX5, "worldsOf", "(II)J"⟩
abbrev cX5_worldsNow : ByteArray := prog_7_method_30_code
def yX5_worldsNow : MethodName := ⟨RX5, "worldsNow", "()J"⟩
abbrev cX5_count : ByteArray := prog_7_method_31_code
def yX5_count : MethodName := ⟨RX5, "count", "(J)I"⟩
abbrev cX5_adds : ByteArray := prog_7_method_32_code
def yX5_adds : MethodName := ⟨RX5, "adds", "(III)V"⟩
abbrev cX5_isFull : ByteArray := prog_7_method_33_code
def yX5_isFull : MethodName := ⟨RX5, "isFull", "(I)Z"⟩
abbrev cX5_leaves : ByteArray := prog_7_method_34_code
def yX5_leaves : MethodName := ⟨RX5, "leaves", "(III)I"⟩
abbrev cX5_say : ByteArray := prog_7_method_35_code
def yX5_say : MethodName := ⟨RX5, "say", "(IIZ)I"⟩
abbrev cX5_unsay : ByteArray := prog_7_method_36_code
def yX5_unsay : MethodName := ⟨RX5, "unsay", "()I"⟩
abbrev cX5_sayingOf : ByteArray := prog_7_method_37_code
def yX5_sayingOf : MethodName := ⟨RX5, "sayingOf", "(I)I"⟩
abbrev cX5_those : ByteArray := prog_7_method_38_code
def yX5_those : MethodName := ⟨RX5, "those", "(II)J"⟩
abbrev cX5_isLeft : ByteArray := prog_7_method_39_code
def yX5_isLeft : MethodName := ⟨RX5, "isLeft", "(II)Z"⟩
abbrev cX5_known : ByteArray := prog_7_method_40_code
def yX5_known : MethodName := ⟨RX5, "known", "(IZ)I"⟩
abbrev cX5_wrong : ByteArray := prog_7_method_41_code
def yX5_wrong : MethodName := ⟨RX5, "wrong", "(I)Z"⟩
abbrev cX5_word : ByteArray := prog_7_method_42_code
def yX5_word : MethodName := ⟨RX5, "word", "()I"⟩
abbrev cX5_isDigit : ByteArray := prog_7_method_43_code
def yX5_isDigit : MethodName := ⟨RX5, "isDigit", "()Z"⟩
abbrev cX5_number : ByteArray := prog_7_method_44_code
def yX5_number : MethodName := ⟨RX5, "number", "(II)Z"⟩
abbrev cX5_high : ByteArray := prog_7_method_45_code
def yX5_high : MethodName := ⟨RX5, "high", "(II)I"⟩
abbrev cX5_isWordFull : ByteArray := prog_7_method_46_code
def yX5_isWordFull : MethodName := ⟨RX5, "isWordFull", "(I)Z"⟩
abbrev cX5_isWordAt : ByteArray := prog_7_method_47_code
def yX5_isWordAt : MethodName := ⟨RX5, "isWordAt", "(I)Z"⟩
abbrev cX5_item : ByteArray := prog_7_method_48_code
def yX5_item : MethodName := ⟨RX5, "item", "()Z"⟩
abbrev cX5_keeps : ByteArray := prog_7_method_49_code
def yX5_keeps : MethodName := ⟨RX5, "keeps", "([II[IIZ)I"⟩
abbrev cX5_all : ByteArray := prog_7_method_50_code
def yX5_all : MethodName := ⟨RX5, "all", "([IIZ)V"⟩
abbrev cX5_town : ByteArray := prog_7_method_51_code
def yX5_town : MethodName := ⟨RX5, "town", "(I)I"⟩
abbrev cX5_fault : ByteArray := prog_7_method_52_code
def yX5_fault : MethodName := ⟨RX5, "fault", "()I"⟩
abbrev cX5_canBe : ByteArray := prog_7_method_53_code
def yX5_canBe : MethodName := ⟨RX5, "canBe", "(II)I"⟩
abbrev cX5_lets : ByteArray := prog_7_method_54_code
def yX5_lets : MethodName := ⟨RX5, "lets", "(IIZ)Z"⟩
abbrev cX5_can : ByteArray := prog_7_method_55_code
def yX5_can : MethodName := ⟨RX5, "can", "(III)I"⟩
abbrev cX5_worlds : ByteArray := prog_7_method_56_code
def yX5_worlds : MethodName := ⟨RX5, "worlds", "()J"⟩
abbrev cX5_many : ByteArray := prog_7_method_57_code
def yX5_many : MethodName := ⟨RX5, "many", "()I"⟩
abbrev cX5_sureBy : ByteArray := prog_7_method_58_code
def yX5_sureBy : MethodName := ⟨RX5, "sureBy", "(IJ)I"⟩
abbrev cX5_sure : ByteArray := prog_7_method_59_code
def yX5_sure : MethodName := ⟨RX5, "sure", "(I)I"⟩
abbrev cX5_sures : ByteArray := prog_7_method_60_code
def yX5_sures : MethodName := ⟨RX5, "sures", "()I"⟩
abbrev cX5_shown : ByteArray := prog_7_method_61_code
def yX5_shown : MethodName := ⟨RX5, "shown", "(I)I"⟩
abbrev cX5_proof : ByteArray := prog_7_method_62_code
def yX5_proof : MethodName := ⟨RX5, "proof", "(I)I"⟩
abbrev cX5_worstOf : ByteArray := prog_7_method_63_code
def yX5_worstOf : MethodName := ⟨RX5, "worstOf", "(II)I"⟩
abbrev cX5_worst : ByteArray := prog_7_method_64_code
def yX5_worst : MethodName := ⟨RX5, "worst", "(II)I"⟩
abbrev cX5_next : ByteArray := prog_7_method_65_code
def yX5_next : MethodName := ⟨RX5, "next", "()I"⟩
abbrev cX5_isKnown : ByteArray := prog_7_method_66_code
def yX5_isKnown : MethodName := ⟨RX5, "isKnown", "(II)Z"⟩
abbrev cX5_knows : ByteArray := prog_7_method_67_code
def yX5_knows : MethodName := ⟨RX5, "knows", "(II)I"⟩
abbrev cX5_tree : ByteArray := prog_7_method_68_code
def yX5_tree : MethodName := ⟨RX5, "tree", "(I)I"⟩
abbrev cX5_isRow : ByteArray := prog_7_method_69_code
def yX5_isRow : MethodName := ⟨RX5, "isRow", "(III)Z"⟩
abbrev cX5_rowsOf : ByteArray := prog_7_method_70_code
def yX5_rowsOf : MethodName := ⟨RX5, "rowsOf", "(II)I"⟩
abbrev cX5_rows : ByteArray := prog_7_method_71_code
def yX5_rows : MethodName := ⟨RX5, "rows", "(II)I"⟩
abbrev cX5_tells : ByteArray := prog_7_method_72_code
def yX5_tells : MethodName := ⟨RX5, "tells", "(II)I"⟩
abbrev cX5_errandsOf : ByteArray := prog_7_method_73_code
def yX5_errandsOf : MethodName := ⟨RX5, "errandsOf", "(II)I"⟩
abbrev cX5_errands : ByteArray := prog_7_method_74_code
def yX5_errands : MethodName := ⟨RX5, "errands", "(II)I"⟩
abbrev cX5_placed : ByteArray := prog_7_method_75_code
def yX5_placed : MethodName := ⟨RX5, "placed", "(II)I"⟩
abbrev cX5_trust : ByteArray := prog_7_method_76_code
def yX5_trust : MethodName := ⟨RX5, "trust", "(I)I"⟩
abbrev cX5_witness : ByteArray := prog_7_method_77_code
def yX5_witness : MethodName := ⟨RX5, "witness", "()I"⟩
abbrev cX5_judge : ByteArray := prog_7_method_78_code
def yX5_judge : MethodName := ⟨RX5, "judge", "(II)I"⟩
abbrev cX5_sunset : ByteArray := prog_7_method_79_code
def yX5_sunset : MethodName := ⟨RX5, "sunset", "()I"⟩
abbrev cX5_lot : ByteArray := prog_7_method_80_code
def yX5_lot : MethodName := ⟨RX5, "lot", "(I)I"⟩
abbrev cX5_draw : ByteArray := prog_7_method_81_code
def yX5_draw : MethodName := ⟨RX5, "draw", "()I"⟩
abbrev cX5_ask : ByteArray := prog_7_method_82_code
def yX5_ask : MethodName := ⟨RX5, "ask", "(II)I"⟩
abbrev cX5_truly : ByteArray := prog_7_method_83_code
def yX5_truly : MethodName := ⟨RX5, "truly", "(I)I"⟩
abbrev cX5_seed : ByteArray := prog_7_method_84_code
def yX5_seed : MethodName := ⟨RX5, "seed", "(I)I"⟩
abbrev cX5_body : ByteArray := prog_7_method_85_code
def yX5_body : MethodName := ⟨RX5, "body", "(I)V"⟩
abbrev cX5_saying : ByteArray := prog_7_method_86_code
def yX5_saying : MethodName := ⟨RX5, "saying", "(II)I"⟩
abbrev cX5_hiding : ByteArray := prog_7_method_87_code
def yX5_hiding : MethodName := ⟨RX5, "hiding", "(II)I"⟩
abbrev cX5_knowing : ByteArray := prog_7_method_88_code
def yX5_knowing : MethodName := ⟨RX5, "knowing", "(II)I"⟩
abbrev cX5_act : ByteArray := prog_7_method_89_code
def yX5_act : MethodName := ⟨RX5, "act", "(III)I"⟩
abbrev cX5_trace : ByteArray := prog_7_method_90_code
def yX5_trace : MethodName := ⟨RX5, "trace", "(I)I"⟩
abbrev cX5_image : ByteArray := prog_7_method_91_code
def yX5_image : MethodName := ⟨RX5, "image", "()I"⟩
abbrev cX5_restore : ByteArray := prog_7_method_92_code
def yX5_restore : MethodName := ⟨RX5, "restore", "()I"⟩
abbrev cX5_status : ByteArray := prog_7_method_93_code
def yX5_status : MethodName := ⟨RX5, "status", "(I)I"⟩
def RJ6 : String := "java/lang/Integer"
def TJ6 : u_T := fun k => match k with
  | _ => ("", "", "", false)
def tyJ6 : Nat → FieldType := fun k => match k with
  | _ => .int
theorem nmJ6 : ∀ a, a < 0 → ∀ b, b < 0 → a ≠ b → (TJ6 a).2.1 ≠ (TJ6 b).2.1 := by decide +kernel
theorem tyJ6_ok : ∀ k, k < 0 → parseFieldDescriptor (TJ6 k).2.2.1 = some (tyJ6 k) := by decide +kernel
abbrev cJ6_bitCount_0f7a4 : ByteArray := prog_8_method_49_code
def yJ6_bitCount_0f7a4 : MethodName := ⟨RJ6, "bitCount", "(I)I"⟩
def RJ13 : String := "java/lang/Long"
def TJ13 : u_T := fun k => match k with
  | _ => ("", "", "", false)
def tyJ13 : Nat → FieldType := fun k => match k with
  | _ => .int
theorem nmJ13 : ∀ a, a < 0 → ∀ b, b < 0 → a ≠ b → (TJ13 a).2.1 ≠ (TJ13 b).2.1 := by decide +kernel
theorem tyJ13_ok : ∀ k, k < 0 → parseFieldDescriptor (TJ13 k).2.2.1 = some (tyJ13 k) := by decide +kernel
abbrev cJ13_bitCount_95d88 : ByteArray := prog_9_method_50_code
def yJ13_bitCount_95d88 : MethodName := ⟨RJ13, "bitCount", "(J)I"⟩
def RJ9 : String := "java/lang/Math"
def TJ9 : u_T := fun k => match k with
  | _ => ("", "", "", false)
def tyJ9 : Nat → FieldType := fun k => match k with
  | _ => .int
theorem nmJ9 : ∀ a, a < 0 → ∀ b, b < 0 → a ≠ b → (TJ9 a).2.1 ≠ (TJ9 b).2.1 := by decide +kernel
theorem tyJ9_ok : ∀ k, k < 0 → parseFieldDescriptor (TJ9 k).2.2.1 = some (tyJ9 k) := by decide +kernel
abbrev cJ9_max_7cf53 : ByteArray := prog_10_method_65_code
def yJ9_max_7cf53 : MethodName := ⟨RJ9, "max", "(II)I"⟩
abbrev cJ9_min_7cf53 : ByteArray := prog_10_method_69_code
def yJ9_min_7cf53 : MethodName := ⟨RJ9, "min", "(II)I"⟩
def RJ0 : String := "java/lang/String"
def TJ0 : u_T := fun k => match k with
  | _ => ("", "", "", false)
def tyJ0 : Nat → FieldType := fun k => match k with
  | _ => .int
theorem nmJ0 : ∀ a, a < 0 → ∀ b, b < 0 → a ≠ b → (TJ0 a).2.1 ≠ (TJ0 b).2.1 := by decide +kernel
theorem tyJ0_ok : ∀ k, k < 0 → parseFieldDescriptor (TJ0 k).2.2.1 = some (tyJ0 k) := by decide +kernel
abbrev cJ0_length_8abf5 : ByteArray := prog_11_method_54_code
def yJ0_length_8abf5 : MethodName := ⟨RJ0, "length", "()I"⟩
abbrev cJ0_charAt_5068e : ByteArray := prog_11_method_56_code
def yJ0_charAt_5068e : MethodName := ⟨RJ0, "charAt", "(I)C"⟩
abbrev cJ0_coder_7d493 : ByteArray := prog_11_method_152_code
def yJ0_coder_7d493 : MethodName := ⟨RJ0, "coder", "()B"⟩
abbrev cJ0_isLatin1_aae02 : ByteArray := prog_11_method_154_code
def yJ0_isLatin1_aae02 : MethodName := ⟨RJ0, "isLatin1", "()Z"⟩
abbrev cJ0_checkIndex_df160 : ByteArray := prog_11_method_155_code
def yJ0_checkIndex_df160 : MethodName := ⟨RJ0, "checkIndex", "(II)V"⟩
def RJ1 : String := "java/lang/StringLatin1"
def TJ1 : u_T := fun k => match k with
  | _ => ("", "", "", false)
def tyJ1 : Nat → FieldType := fun k => match k with
  | _ => .int
theorem nmJ1 : ∀ a, a < 0 → ∀ b, b < 0 → a ≠ b → (TJ1 a).2.1 ≠ (TJ1 b).2.1 := by decide +kernel
theorem tyJ1_ok : ∀ k, k < 0 → parseFieldDescriptor (TJ1 k).2.2.1 = some (tyJ1 k) := by decide +kernel
abbrev cJ1_charAt_3b067 : ByteArray := prog_12_method_2_code
def yJ1_charAt_3b067 : MethodName := ⟨RJ1, "charAt", "([BI)C"⟩
def RJ2 : String := "java/lang/StringUTF16"
def TJ2 : u_T := fun k => match k with
  | _ => ("", "", "", false)
def tyJ2 : Nat → FieldType := fun k => match k with
  | _ => .int
theorem nmJ2 : ∀ a, a < 0 → ∀ b, b < 0 → a ≠ b → (TJ2 a).2.1 ≠ (TJ2 b).2.1 := by decide +kernel
theorem tyJ2_ok : ∀ k, k < 0 → parseFieldDescriptor (TJ2 k).2.2.1 = some (tyJ2 k) := by decide +kernel
abbrev cJ2_getChar_3b067 : ByteArray := prog_13_method_5_code
def yJ2_getChar_3b067 : MethodName := ⟨RJ2, "getChar", "([BI)C"⟩
abbrev cJ2_length_9d52b : ByteArray := prog_13_method_6_code
def yJ2_length_9d52b : MethodName := ⟨RJ2, "length", "([B)I"⟩
abbrev cJ2_charAt_3b067 : ByteArray := prog_13_method_83_code
def yJ2_charAt_3b067 : MethodName := ⟨RJ2, "charAt", "([BI)C"⟩
abbrev cJ2_checkIndex_2214a : ByteArray := prog_13_method_91_code
def yJ2_checkIndex_2214a : MethodName := ⟨RJ2, "checkIndex", "(I[B)V"⟩
def RJ10 : String := "java/lang/System"
def TJ10 : u_T := fun k => match k with
  | _ => ("", "", "", false)
def tyJ10 : Nat → FieldType := fun k => match k with
  | _ => .int
theorem nmJ10 : ∀ a, a < 0 → ∀ b, b < 0 → a ≠ b → (TJ10 a).2.1 ≠ (TJ10 b).2.1 := by decide +kernel
theorem tyJ10_ok : ∀ k, k < 0 → parseFieldDescriptor (TJ10 k).2.2.1 = some (tyJ10 k) := by decide +kernel
def RJ3 : String := "jdk/internal/util/Preconditions"
def TJ3 : u_T := fun k => match k with
  | _ => ("", "", "", false)
def tyJ3 : Nat → FieldType := fun k => match k with
  | _ => .int
theorem nmJ3 : ∀ a, a < 0 → ∀ b, b < 0 → a ≠ b → (TJ3 a).2.1 ≠ (TJ3 b).2.1 := by decide +kernel
theorem tyJ3_ok : ∀ k, k < 0 → parseFieldDescriptor (TJ3 k).2.2.1 = some (tyJ3 k) := by decide +kernel
abbrev cJ3_checkIndex_8e157 : ByteArray := prog_15_method_11_code
def yJ3_checkIndex_8e157 : MethodName := ⟨RJ3, "checkIndex", "(IILjava/util/function/BiFunction;)I"⟩
def RL : String := "HalfOfItFalseLaw"
abbrev cL_law : ByteArray := code
def yL_law : MethodName := ⟨RL, "law", "([I)Z"⟩
abbrev vwCl : List vw_C := [(RX0, TX0, 5), (RX1, TX1, 7), (RX2, TX2, 3), (RX3, TX3, 17), (RX4, TX4, 9), (RX5, TX5, 38)]
end
section
theorem dX0_init_0 : decode cX0_init 0 = .ok (.aload_n 0, 1) := by decide +kernel
theorem dX0_init_1 : decode cX0_init 1 = .ok (.invokespecial 3, 3) := by decide +kernel
theorem dX0_init_4 : decode cX0_init 4 = .ok (.aload_n 0, 1) := by decide +kernel
theorem dX0_init_5 : decode cX0_init 5 = .ok (.bipush 20, 2) := by decide +kernel
theorem dX0_init_7 : decode cX0_init 7 = .ok (.newarray .int, 2) := by decide +kernel
theorem dX0_init_9 : decode cX0_init 9 = .ok (.putfield 9, 3) := by decide +kernel
theorem dX0_init_12 : decode cX0_init 12 = .ok (.aload_n 0, 1) := by decide +kernel
theorem dX0_init_13 : decode cX0_init 13 = .ok (.iconst 0, 1) := by decide +kernel
theorem dX0_init_14 : decode cX0_init 14 = .ok (.putfield 15, 3) := by decide +kernel
theorem dX0_init_17 : decode cX0_init 17 = .ok (.aload_n 0, 1) := by decide +kernel
theorem dX0_init_18 : decode cX0_init 18 = .ok (.iconst 0, 1) := by decide +kernel
theorem dX0_init_19 : decode cX0_init 19 = .ok (.putfield 19, 3) := by decide +kernel
theorem dX0_init_22 : decode cX0_init 22 = .ok (.aload_n 0, 1) := by decide +kernel
theorem dX0_init_23 : decode cX0_init 23 = .ok (.iconst 0, 1) := by decide +kernel
theorem dX0_init_24 : decode cX0_init 24 = .ok (.putfield 22, 3) := by decide +kernel
theorem dX0_init_27 : decode cX0_init 27 = .ok (.aload_n 0, 1) := by decide +kernel
theorem dX0_init_28 : decode cX0_init 28 = .ok (.iconst 0, 1) := by decide +kernel
theorem dX0_init_29 : decode cX0_init 29 = .ok (.putfield 25, 3) := by decide +kernel
theorem dX0_init_32 : decode cX0_init 32 = .ok (.return_, 1) := by decide +kernel
theorem dX0_begin_0 : decode cX0_begin 0 = .ok (.aload_n 0, 1) := by decide +kernel
theorem dX0_begin_1 : decode cX0_begin 1 = .ok (.iconst 0, 1) := by decide +kernel
theorem dX0_begin_2 : decode cX0_begin 2 = .ok (.putfield 15, 3) := by decide +kernel
theorem dX0_begin_5 : decode cX0_begin 5 = .ok (.return_, 1) := by decide +kernel
theorem dX0_perform_0 : decode cX0_perform 0 = .ok (.aload_n 0, 1) := by decide +kernel
theorem dX0_perform_1 : decode cX0_perform 1 = .ok (.iload_n 1, 1) := by decide +kernel
theorem dX0_perform_2 : decode cX0_perform 2 = .ok (.putfield 19, 3) := by decide +kernel
theorem dX0_perform_5 : decode cX0_perform 5 = .ok (.aload_n 0, 1) := by decide +kernel
theorem dX0_perform_6 : decode cX0_perform 6 = .ok (.iload_n 2, 1) := by decide +kernel
theorem dX0_perform_7 : decode cX0_perform 7 = .ok (.putfield 22, 3) := by decide +kernel
theorem dX0_perform_10 : decode cX0_perform 10 = .ok (.aload_n 0, 1) := by decide +kernel
theorem dX0_perform_11 : decode cX0_perform 11 = .ok (.iload_n 3, 1) := by decide +kernel
theorem dX0_perform_12 : decode cX0_perform 12 = .ok (.putfield 25, 3) := by decide +kernel
theorem dX0_perform_15 : decode cX0_perform 15 = .ok (.aload_n 0, 1) := by decide +kernel
theorem dX0_perform_16 : decode cX0_perform 16 = .ok (.aload_n 0, 1) := by decide +kernel
theorem dX0_perform_17 : decode cX0_perform 17 = .ok (.getfield 19, 3) := by decide +kernel
theorem dX0_perform_20 : decode cX0_perform 20 = .ok (.iload 4, 2) := by decide +kernel
theorem dX0_perform_22 : decode cX0_perform 22 = .ok (.iload 5, 2) := by decide +kernel
theorem dX0_perform_24 : decode cX0_perform 24 = .ok (.iconst 0, 1) := by decide +kernel
theorem dX0_perform_25 : decode cX0_perform 25 = .ok (.invokevirtual 28, 3) := by decide +kernel
theorem dX0_perform_28 : decode cX0_perform 28 = .ok (.ireturn, 1) := by decide +kernel
theorem dX0_run_0 : decode cX0_run 0 = .ok (.iload_n 1, 1) := by decide +kernel
theorem dX0_run_1 : decode cX0_run 1 = .ok (.iload_n 2, 1) := by decide +kernel
theorem dX0_run_2 : decode cX0_run 2 = .ok (.invokestatic 32, 3) := by decide +kernel
theorem dX0_run_5 : decode cX0_run 5 = .ok (.istore 5, 2) := by decide +kernel
theorem dX0_run_7 : decode cX0_run 7 = .ok (.iload 5, 2) := by decide +kernel
theorem dX0_run_9 : decode cX0_run 9 = .ok (.invokestatic 36, 3) := by decide +kernel
theorem dX0_run_12 : decode cX0_run 12 = .ok (.ifCond .eq 10, 3) := by decide +kernel
theorem dX0_run_15 : decode cX0_run 15 = .ok (.iload 4, 2) := by decide +kernel
theorem dX0_run_17 : decode cX0_run 17 = .ok (.bipush 20, 2) := by decide +kernel
theorem dX0_run_19 : decode cX0_run 19 = .ok (.if_icmp .le 5, 3) := by decide +kernel
theorem dX0_run_22 : decode cX0_run 22 = .ok (.iconst 0, 1) := by decide +kernel
theorem dX0_run_23 : decode cX0_run 23 = .ok (.ireturn, 1) := by decide +kernel
theorem dX0_run_24 : decode cX0_run 24 = .ok (.getstatic 40, 3) := by decide +kernel
theorem dX0_run_27 : decode cX0_run 27 = .ok (.iconst 3, 1) := by decide +kernel
theorem dX0_run_28 : decode cX0_run 28 = .ok (.iload 5, 2) := by decide +kernel
theorem dX0_run_30 : decode cX0_run 30 = .ok (.imul, 1) := by decide +kernel
theorem dX0_run_31 : decode cX0_run 31 = .ok (.iload_n 2, 1) := by decide +kernel
theorem dX0_run_32 : decode cX0_run 32 = .ok (.iadd, 1) := by decide +kernel
theorem dX0_run_33 : decode cX0_run 33 = .ok (.iaload, 1) := by decide +kernel
theorem dX0_run_34 : decode cX0_run 34 = .ok (.istore 6, 2) := by decide +kernel
theorem dX0_run_36 : decode cX0_run 36 = .ok (.aload_n 0, 1) := by decide +kernel
theorem dX0_run_37 : decode cX0_run 37 = .ok (.iload 6, 2) := by decide +kernel
theorem dX0_run_39 : decode cX0_run 39 = .ok (.invokevirtual 43, 3) := by decide +kernel
theorem dX0_run_42 : decode cX0_run 42 = .ok (.aload_n 0, 1) := by decide +kernel
theorem dX0_run_43 : decode cX0_run 43 = .ok (.iload 6, 2) := by decide +kernel
theorem dX0_run_45 : decode cX0_run 45 = .ok (.getstatic 47, 3) := by decide +kernel
theorem dX0_run_48 : decode cX0_run 48 = .ok (.iload 5, 2) := by decide +kernel
theorem dX0_run_50 : decode cX0_run 50 = .ok (.iaload, 1) := by decide +kernel
theorem dX0_run_51 : decode cX0_run 51 = .ok (.iload_n 3, 1) := by decide +kernel
theorem dX0_run_52 : decode cX0_run 52 = .ok (.iload 4, 2) := by decide +kernel
theorem dX0_run_54 : decode cX0_run 54 = .ok (.iconst 1, 1) := by decide +kernel
theorem dX0_run_55 : decode cX0_run 55 = .ok (.iadd, 1) := by decide +kernel
theorem dX0_run_56 : decode cX0_run 56 = .ok (.invokevirtual 50, 3) := by decide +kernel
theorem dX0_run_59 : decode cX0_run 59 = .ok (.ireturn, 1) := by decide +kernel
theorem dX0_resultOf_0 : decode cX0_resultOf 0 = .ok (.iload_n 1, 1) := by decide +kernel
theorem dX0_resultOf_1 : decode cX0_resultOf 1 = .ok (.lookupswitch 233 #[(10, 91), (11, 98), (12, 113), (20, 144), (30, 159), (31, 171), (40, 186), (50, 198), (60, 209), (70, 221)], 91) := by decide +kernel
theorem dX0_resultOf_92 : decode cX0_resultOf 92 = .ok (.iload_n 3, 1) := by decide +kernel
theorem dX0_resultOf_93 : decode cX0_resultOf 93 = .ok (.aload_n 0, 1) := by decide +kernel
theorem dX0_resultOf_94 : decode cX0_resultOf 94 = .ok (.getfield 22, 3) := by decide +kernel
theorem dX0_resultOf_97 : decode cX0_resultOf 97 = .ok (.iadd, 1) := by decide +kernel
theorem dX0_resultOf_98 : decode cX0_resultOf 98 = .ok (.ireturn, 1) := by decide +kernel
theorem dX0_resultOf_99 : decode cX0_resultOf 99 = .ok (.aload_n 0, 1) := by decide +kernel
theorem dX0_resultOf_100 : decode cX0_resultOf 100 = .ok (.aload_n 0, 1) := by decide +kernel
theorem dX0_resultOf_101 : decode cX0_resultOf 101 = .ok (.getfield 19, 3) := by decide +kernel
theorem dX0_resultOf_104 : decode cX0_resultOf 104 = .ok (.iconst 0, 1) := by decide +kernel
theorem dX0_resultOf_105 : decode cX0_resultOf 105 = .ok (.iload_n 3, 1) := by decide +kernel
theorem dX0_resultOf_106 : decode cX0_resultOf 106 = .ok (.iload 4, 2) := by decide +kernel
theorem dX0_resultOf_108 : decode cX0_resultOf 108 = .ok (.invokevirtual 28, 3) := by decide +kernel
theorem dX0_resultOf_111 : decode cX0_resultOf 111 = .ok (.iconst 2, 1) := by decide +kernel
theorem dX0_resultOf_112 : decode cX0_resultOf 112 = .ok (.imul, 1) := by decide +kernel
theorem dX0_resultOf_113 : decode cX0_resultOf 113 = .ok (.ireturn, 1) := by decide +kernel
theorem dX0_resultOf_114 : decode cX0_resultOf 114 = .ok (.aload_n 0, 1) := by decide +kernel
theorem dX0_resultOf_115 : decode cX0_resultOf 115 = .ok (.aload_n 0, 1) := by decide +kernel
theorem dX0_resultOf_116 : decode cX0_resultOf 116 = .ok (.getfield 19, 3) := by decide +kernel
theorem dX0_resultOf_119 : decode cX0_resultOf 119 = .ok (.iconst 1, 1) := by decide +kernel
theorem dX0_resultOf_120 : decode cX0_resultOf 120 = .ok (.iload_n 3, 1) := by decide +kernel
theorem dX0_resultOf_121 : decode cX0_resultOf 121 = .ok (.iload 4, 2) := by decide +kernel
theorem dX0_resultOf_123 : decode cX0_resultOf 123 = .ok (.invokevirtual 28, 3) := by decide +kernel
theorem dX0_resultOf_126 : decode cX0_resultOf 126 = .ok (.aload_n 0, 1) := by decide +kernel
theorem dX0_resultOf_127 : decode cX0_resultOf 127 = .ok (.aload_n 0, 1) := by decide +kernel
theorem dX0_resultOf_128 : decode cX0_resultOf 128 = .ok (.getfield 19, 3) := by decide +kernel
theorem dX0_resultOf_131 : decode cX0_resultOf 131 = .ok (.iconst 0, 1) := by decide +kernel
theorem dX0_resultOf_132 : decode cX0_resultOf 132 = .ok (.iload_n 3, 1) := by decide +kernel
theorem dX0_resultOf_133 : decode cX0_resultOf 133 = .ok (.aload_n 0, 1) := by decide +kernel
theorem dX0_resultOf_134 : decode cX0_resultOf 134 = .ok (.getfield 25, 3) := by decide +kernel
theorem dX0_resultOf_137 : decode cX0_resultOf 137 = .ok (.isub, 1) := by decide +kernel
theorem dX0_resultOf_138 : decode cX0_resultOf 138 = .ok (.iload 4, 2) := by decide +kernel
theorem dX0_resultOf_140 : decode cX0_resultOf 140 = .ok (.invokevirtual 28, 3) := by decide +kernel
theorem dX0_resultOf_143 : decode cX0_resultOf 143 = .ok (.ixor, 1) := by decide +kernel
theorem dX0_resultOf_144 : decode cX0_resultOf 144 = .ok (.ireturn, 1) := by decide +kernel
theorem dX0_resultOf_145 : decode cX0_resultOf 145 = .ok (.aload_n 0, 1) := by decide +kernel
theorem dX0_resultOf_146 : decode cX0_resultOf 146 = .ok (.iload_n 2, 1) := by decide +kernel
theorem dX0_resultOf_147 : decode cX0_resultOf 147 = .ok (.iconst 0, 1) := by decide +kernel
theorem dX0_resultOf_148 : decode cX0_resultOf 148 = .ok (.iload_n 3, 1) := by decide +kernel
theorem dX0_resultOf_149 : decode cX0_resultOf 149 = .ok (.iload 4, 2) := by decide +kernel
theorem dX0_resultOf_151 : decode cX0_resultOf 151 = .ok (.invokevirtual 28, 3) := by decide +kernel
theorem dX0_resultOf_154 : decode cX0_resultOf 154 = .ok (.aload_n 0, 1) := by decide +kernel
theorem dX0_resultOf_155 : decode cX0_resultOf 155 = .ok (.getfield 25, 3) := by decide +kernel
theorem dX0_resultOf_158 : decode cX0_resultOf 158 = .ok (.iadd, 1) := by decide +kernel
theorem dX0_resultOf_159 : decode cX0_resultOf 159 = .ok (.ireturn, 1) := by decide +kernel
theorem dX0_resultOf_160 : decode cX0_resultOf 160 = .ok (.aload_n 0, 1) := by decide +kernel
theorem dX0_resultOf_161 : decode cX0_resultOf 161 = .ok (.iload_n 2, 1) := by decide +kernel
theorem dX0_resultOf_162 : decode cX0_resultOf 162 = .ok (.iconst 0, 1) := by decide +kernel
theorem dX0_resultOf_163 : decode cX0_resultOf 163 = .ok (.iload_n 3, 1) := by decide +kernel
theorem dX0_resultOf_164 : decode cX0_resultOf 164 = .ok (.iconst 1, 1) := by decide +kernel
theorem dX0_resultOf_165 : decode cX0_resultOf 165 = .ok (.iadd, 1) := by decide +kernel
theorem dX0_resultOf_166 : decode cX0_resultOf 166 = .ok (.iload 4, 2) := by decide +kernel
theorem dX0_resultOf_168 : decode cX0_resultOf 168 = .ok (.invokevirtual 28, 3) := by decide +kernel
theorem dX0_resultOf_171 : decode cX0_resultOf 171 = .ok (.ireturn, 1) := by decide +kernel
theorem dX0_resultOf_172 : decode cX0_resultOf 172 = .ok (.aload_n 0, 1) := by decide +kernel
theorem dX0_resultOf_173 : decode cX0_resultOf 173 = .ok (.iload_n 2, 1) := by decide +kernel
theorem dX0_resultOf_174 : decode cX0_resultOf 174 = .ok (.iconst 2, 1) := by decide +kernel
theorem dX0_resultOf_175 : decode cX0_resultOf 175 = .ok (.iload_n 3, 1) := by decide +kernel
theorem dX0_resultOf_176 : decode cX0_resultOf 176 = .ok (.iload 4, 2) := by decide +kernel
theorem dX0_resultOf_178 : decode cX0_resultOf 178 = .ok (.invokevirtual 28, 3) := by decide +kernel
theorem dX0_resultOf_181 : decode cX0_resultOf 181 = .ok (.aload_n 0, 1) := by decide +kernel
theorem dX0_resultOf_182 : decode cX0_resultOf 182 = .ok (.getfield 22, 3) := by decide +kernel
theorem dX0_resultOf_185 : decode cX0_resultOf 185 = .ok (.isub, 1) := by decide +kernel
theorem dX0_resultOf_186 : decode cX0_resultOf 186 = .ok (.ireturn, 1) := by decide +kernel
theorem dX0_resultOf_187 : decode cX0_resultOf 187 = .ok (.aload_n 0, 1) := by decide +kernel
theorem dX0_resultOf_188 : decode cX0_resultOf 188 = .ok (.iload_n 2, 1) := by decide +kernel
theorem dX0_resultOf_189 : decode cX0_resultOf 189 = .ok (.iconst 1, 1) := by decide +kernel
theorem dX0_resultOf_190 : decode cX0_resultOf 190 = .ok (.iload_n 3, 1) := by decide +kernel
theorem dX0_resultOf_191 : decode cX0_resultOf 191 = .ok (.iload 4, 2) := by decide +kernel
theorem dX0_resultOf_193 : decode cX0_resultOf 193 = .ok (.invokevirtual 28, 3) := by decide +kernel
theorem dX0_resultOf_196 : decode cX0_resultOf 196 = .ok (.iconst 3, 1) := by decide +kernel
theorem dX0_resultOf_197 : decode cX0_resultOf 197 = .ok (.imul, 1) := by decide +kernel
theorem dX0_resultOf_198 : decode cX0_resultOf 198 = .ok (.ireturn, 1) := by decide +kernel
theorem dX0_resultOf_199 : decode cX0_resultOf 199 = .ok (.aload_n 0, 1) := by decide +kernel
theorem dX0_resultOf_200 : decode cX0_resultOf 200 = .ok (.iload_n 2, 1) := by decide +kernel
theorem dX0_resultOf_201 : decode cX0_resultOf 201 = .ok (.iconst 1, 1) := by decide +kernel
theorem dX0_resultOf_202 : decode cX0_resultOf 202 = .ok (.iload_n 3, 1) := by decide +kernel
theorem dX0_resultOf_203 : decode cX0_resultOf 203 = .ok (.iload 4, 2) := by decide +kernel
theorem dX0_resultOf_205 : decode cX0_resultOf 205 = .ok (.invokevirtual 28, 3) := by decide +kernel
theorem dX0_resultOf_208 : decode cX0_resultOf 208 = .ok (.ineg, 1) := by decide +kernel
theorem dX0_resultOf_209 : decode cX0_resultOf 209 = .ok (.ireturn, 1) := by decide +kernel
theorem dX0_resultOf_210 : decode cX0_resultOf 210 = .ok (.aload_n 0, 1) := by decide +kernel
theorem dX0_resultOf_211 : decode cX0_resultOf 211 = .ok (.iload_n 2, 1) := by decide +kernel
theorem dX0_resultOf_212 : decode cX0_resultOf 212 = .ok (.iconst 1, 1) := by decide +kernel
theorem dX0_resultOf_213 : decode cX0_resultOf 213 = .ok (.iload_n 3, 1) := by decide +kernel
theorem dX0_resultOf_214 : decode cX0_resultOf 214 = .ok (.iload 4, 2) := by decide +kernel
theorem dX0_resultOf_216 : decode cX0_resultOf 216 = .ok (.invokevirtual 28, 3) := by decide +kernel
theorem dX0_resultOf_219 : decode cX0_resultOf 219 = .ok (.iconst 5, 1) := by decide +kernel
theorem dX0_resultOf_220 : decode cX0_resultOf 220 = .ok (.ixor, 1) := by decide +kernel
theorem dX0_resultOf_221 : decode cX0_resultOf 221 = .ok (.ireturn, 1) := by decide +kernel
theorem dX0_resultOf_222 : decode cX0_resultOf 222 = .ok (.aload_n 0, 1) := by decide +kernel
theorem dX0_resultOf_223 : decode cX0_resultOf 223 = .ok (.iload_n 2, 1) := by decide +kernel
theorem dX0_resultOf_224 : decode cX0_resultOf 224 = .ok (.iconst 0, 1) := by decide +kernel
theorem dX0_resultOf_225 : decode cX0_resultOf 225 = .ok (.iload_n 3, 1) := by decide +kernel
theorem dX0_resultOf_226 : decode cX0_resultOf 226 = .ok (.iload 4, 2) := by decide +kernel
theorem dX0_resultOf_228 : decode cX0_resultOf 228 = .ok (.invokevirtual 28, 3) := by decide +kernel
theorem dX0_resultOf_231 : decode cX0_resultOf 231 = .ok (.iconst 2, 1) := by decide +kernel
theorem dX0_resultOf_232 : decode cX0_resultOf 232 = .ok (.imul, 1) := by decide +kernel
theorem dX0_resultOf_233 : decode cX0_resultOf 233 = .ok (.ireturn, 1) := by decide +kernel
theorem dX0_resultOf_234 : decode cX0_resultOf 234 = .ok (.aload_n 0, 1) := by decide +kernel
theorem dX0_resultOf_235 : decode cX0_resultOf 235 = .ok (.iload_n 2, 1) := by decide +kernel
theorem dX0_resultOf_236 : decode cX0_resultOf 236 = .ok (.iconst 2, 1) := by decide +kernel
theorem dX0_resultOf_237 : decode cX0_resultOf 237 = .ok (.iload_n 3, 1) := by decide +kernel
theorem dX0_resultOf_238 : decode cX0_resultOf 238 = .ok (.aload_n 0, 1) := by decide +kernel
theorem dX0_resultOf_239 : decode cX0_resultOf 239 = .ok (.getfield 25, 3) := by decide +kernel
theorem dX0_resultOf_242 : decode cX0_resultOf 242 = .ok (.isub, 1) := by decide +kernel
theorem dX0_resultOf_243 : decode cX0_resultOf 243 = .ok (.iload 4, 2) := by decide +kernel
theorem dX0_resultOf_245 : decode cX0_resultOf 245 = .ok (.invokevirtual 28, 3) := by decide +kernel
theorem dX0_resultOf_248 : decode cX0_resultOf 248 = .ok (.ireturn, 1) := by decide +kernel
theorem dX0_ownerOf_0 : decode cX0_ownerOf 0 = .ok (.iload_n 0, 1) := by decide +kernel
theorem dX0_ownerOf_1 : decode cX0_ownerOf 1 = .ok (.istore_n 2, 1) := by decide +kernel
theorem dX0_ownerOf_2 : decode cX0_ownerOf 2 = .ok (.iconst 0, 1) := by decide +kernel
theorem dX0_ownerOf_3 : decode cX0_ownerOf 3 = .ok (.istore_n 3, 1) := by decide +kernel
theorem dX0_ownerOf_4 : decode cX0_ownerOf 4 = .ok (.iload_n 3, 1) := by decide +kernel
theorem dX0_ownerOf_5 : decode cX0_ownerOf 5 = .ok (.getstatic 47, 3) := by decide +kernel
theorem dX0_ownerOf_8 : decode cX0_ownerOf 8 = .ok (.arraylength, 1) := by decide +kernel
theorem dX0_ownerOf_9 : decode cX0_ownerOf 9 = .ok (.if_icmp .ge 36, 3) := by decide +kernel
theorem dX0_ownerOf_12 : decode cX0_ownerOf 12 = .ok (.iload_n 2, 1) := by decide +kernel
theorem dX0_ownerOf_13 : decode cX0_ownerOf 13 = .ok (.invokestatic 36, 3) := by decide +kernel
theorem dX0_ownerOf_16 : decode cX0_ownerOf 16 = .ok (.ifCond .eq 29, 3) := by decide +kernel
theorem dX0_ownerOf_19 : decode cX0_ownerOf 19 = .ok (.getstatic 40, 3) := by decide +kernel
theorem dX0_ownerOf_22 : decode cX0_ownerOf 22 = .ok (.iconst 3, 1) := by decide +kernel
theorem dX0_ownerOf_23 : decode cX0_ownerOf 23 = .ok (.iload_n 2, 1) := by decide +kernel
theorem dX0_ownerOf_24 : decode cX0_ownerOf 24 = .ok (.imul, 1) := by decide +kernel
theorem dX0_ownerOf_25 : decode cX0_ownerOf 25 = .ok (.iload_n 1, 1) := by decide +kernel
theorem dX0_ownerOf_26 : decode cX0_ownerOf 26 = .ok (.iadd, 1) := by decide +kernel
theorem dX0_ownerOf_27 : decode cX0_ownerOf 27 = .ok (.iaload, 1) := by decide +kernel
theorem dX0_ownerOf_28 : decode cX0_ownerOf 28 = .ok (.ifCond .eq 5, 3) := by decide +kernel
theorem dX0_ownerOf_31 : decode cX0_ownerOf 31 = .ok (.iload_n 2, 1) := by decide +kernel
theorem dX0_ownerOf_32 : decode cX0_ownerOf 32 = .ok (.ireturn, 1) := by decide +kernel
theorem dX0_ownerOf_33 : decode cX0_ownerOf 33 = .ok (.getstatic 47, 3) := by decide +kernel
theorem dX0_ownerOf_36 : decode cX0_ownerOf 36 = .ok (.iload_n 2, 1) := by decide +kernel
theorem dX0_ownerOf_37 : decode cX0_ownerOf 37 = .ok (.iaload, 1) := by decide +kernel
theorem dX0_ownerOf_38 : decode cX0_ownerOf 38 = .ok (.istore_n 2, 1) := by decide +kernel
theorem dX0_ownerOf_39 : decode cX0_ownerOf 39 = .ok (.iinc 3 1, 3) := by decide +kernel
theorem dX0_ownerOf_42 : decode cX0_ownerOf 42 = .ok (.goto (-38), 3) := by decide +kernel
theorem dX0_ownerOf_45 : decode cX0_ownerOf 45 = .ok (.iconst (-1), 1) := by decide +kernel
theorem dX0_ownerOf_46 : decode cX0_ownerOf 46 = .ok (.ireturn, 1) := by decide +kernel
theorem dX0_note_0 : decode cX0_note 0 = .ok (.aload_n 0, 1) := by decide +kernel
theorem dX0_note_1 : decode cX0_note 1 = .ok (.getfield 15, 3) := by decide +kernel
theorem dX0_note_4 : decode cX0_note 4 = .ok (.bipush 20, 2) := by decide +kernel
theorem dX0_note_6 : decode cX0_note 6 = .ok (.if_icmp .ge 13, 3) := by decide +kernel
theorem dX0_note_9 : decode cX0_note 9 = .ok (.aload_n 0, 1) := by decide +kernel
theorem dX0_note_10 : decode cX0_note 10 = .ok (.getfield 9, 3) := by decide +kernel
theorem dX0_note_13 : decode cX0_note 13 = .ok (.aload_n 0, 1) := by decide +kernel
theorem dX0_note_14 : decode cX0_note 14 = .ok (.getfield 15, 3) := by decide +kernel
theorem dX0_note_17 : decode cX0_note 17 = .ok (.iload_n 1, 1) := by decide +kernel
theorem dX0_note_18 : decode cX0_note 18 = .ok (.iastore, 1) := by decide +kernel
theorem dX0_note_19 : decode cX0_note 19 = .ok (.aload_n 0, 1) := by decide +kernel
theorem dX0_note_20 : decode cX0_note 20 = .ok (.dup, 1) := by decide +kernel
theorem dX0_note_21 : decode cX0_note 21 = .ok (.getfield 15, 3) := by decide +kernel
theorem dX0_note_24 : decode cX0_note 24 = .ok (.iconst 1, 1) := by decide +kernel
theorem dX0_note_25 : decode cX0_note 25 = .ok (.iadd, 1) := by decide +kernel
theorem dX0_note_26 : decode cX0_note 26 = .ok (.putfield 15, 3) := by decide +kernel
theorem dX0_note_29 : decode cX0_note 29 = .ok (.return_, 1) := by decide +kernel
theorem dX1_init_0 : decode cX1_init 0 = .ok (.aload_n 0, 1) := by decide +kernel
theorem dX1_init_1 : decode cX1_init 1 = .ok (.invokespecial 3, 3) := by decide +kernel
theorem dX1_init_4 : decode cX1_init 4 = .ok (.aload_n 0, 1) := by decide +kernel
theorem dX1_init_5 : decode cX1_init 5 = .ok (.aconst_null, 1) := by decide +kernel
theorem dX1_init_6 : decode cX1_init 6 = .ok (.putfield 9, 3) := by decide +kernel
theorem dX1_init_9 : decode cX1_init 9 = .ok (.aload_n 0, 1) := by decide +kernel
theorem dX1_init_10 : decode cX1_init 10 = .ok (.aconst_null, 1) := by decide +kernel
theorem dX1_init_11 : decode cX1_init 11 = .ok (.putfield 15, 3) := by decide +kernel
theorem dX1_init_14 : decode cX1_init 14 = .ok (.aload_n 0, 1) := by decide +kernel
theorem dX1_init_15 : decode cX1_init 15 = .ok (.iconst 0, 1) := by decide +kernel
theorem dX1_init_16 : decode cX1_init 16 = .ok (.putfield 19, 3) := by decide +kernel
theorem dX1_init_19 : decode cX1_init 19 = .ok (.aload_n 0, 1) := by decide +kernel
theorem dX1_init_20 : decode cX1_init 20 = .ok (.iconst (-1), 1) := by decide +kernel
theorem dX1_init_21 : decode cX1_init 21 = .ok (.putfield 23, 3) := by decide +kernel
theorem dX1_init_24 : decode cX1_init 24 = .ok (.aload_n 0, 1) := by decide +kernel
theorem dX1_init_25 : decode cX1_init 25 = .ok (.iconst 0, 1) := by decide +kernel
theorem dX1_init_26 : decode cX1_init 26 = .ok (.putfield 26, 3) := by decide +kernel
theorem dX1_init_29 : decode cX1_init 29 = .ok (.aload_n 0, 1) := by decide +kernel
theorem dX1_init_30 : decode cX1_init 30 = .ok (.iconst 0, 1) := by decide +kernel
theorem dX1_init_31 : decode cX1_init 31 = .ok (.putfield 29, 3) := by decide +kernel
theorem dX1_init_34 : decode cX1_init 34 = .ok (.aload_n 0, 1) := by decide +kernel
theorem dX1_init_35 : decode cX1_init 35 = .ok (.iconst 0, 1) := by decide +kernel
theorem dX1_init_36 : decode cX1_init 36 = .ok (.putfield 32, 3) := by decide +kernel
theorem dX1_init_39 : decode cX1_init 39 = .ok (.return_, 1) := by decide +kernel
theorem dX1_read_0 : decode cX1_read 0 = .ok (.aload_n 0, 1) := by decide +kernel
theorem dX1_read_1 : decode cX1_read 1 = .ok (.aload_n 1, 1) := by decide +kernel
theorem dX1_read_2 : decode cX1_read 2 = .ok (.putfield 9, 3) := by decide +kernel
theorem dX1_read_5 : decode cX1_read 5 = .ok (.aload_n 0, 1) := by decide +kernel
theorem dX1_read_6 : decode cX1_read 6 = .ok (.aload_n 2, 1) := by decide +kernel
theorem dX1_read_7 : decode cX1_read 7 = .ok (.putfield 15, 3) := by decide +kernel
theorem dX1_read_10 : decode cX1_read 10 = .ok (.aload_n 0, 1) := by decide +kernel
theorem dX1_read_11 : decode cX1_read 11 = .ok (.iconst 0, 1) := by decide +kernel
theorem dX1_read_12 : decode cX1_read 12 = .ok (.putfield 19, 3) := by decide +kernel
theorem dX1_read_15 : decode cX1_read 15 = .ok (.aload_n 0, 1) := by decide +kernel
theorem dX1_read_16 : decode cX1_read 16 = .ok (.iconst (-1), 1) := by decide +kernel
theorem dX1_read_17 : decode cX1_read 17 = .ok (.putfield 23, 3) := by decide +kernel
theorem dX1_read_20 : decode cX1_read 20 = .ok (.aload_n 0, 1) := by decide +kernel
theorem dX1_read_21 : decode cX1_read 21 = .ok (.iconst 0, 1) := by decide +kernel
theorem dX1_read_22 : decode cX1_read 22 = .ok (.putfield 26, 3) := by decide +kernel
theorem dX1_read_25 : decode cX1_read 25 = .ok (.aload_n 0, 1) := by decide +kernel
theorem dX1_read_26 : decode cX1_read 26 = .ok (.invokevirtual 35, 3) := by decide +kernel
theorem dX1_read_29 : decode cX1_read 29 = .ok (.istore_n 3, 1) := by decide +kernel
theorem dX1_read_30 : decode cX1_read 30 = .ok (.iconst 0, 1) := by decide +kernel
theorem dX1_read_31 : decode cX1_read 31 = .ok (.istore 4, 2) := by decide +kernel
theorem dX1_read_33 : decode cX1_read 33 = .ok (.iload_n 3, 1) := by decide +kernel
theorem dX1_read_34 : decode cX1_read 34 = .ok (.ifCond .eq 53, 3) := by decide +kernel
theorem dX1_read_37 : decode cX1_read 37 = .ok (.aload_n 0, 1) := by decide +kernel
theorem dX1_read_38 : decode cX1_read 38 = .ok (.getfield 19, 3) := by decide +kernel
theorem dX1_read_41 : decode cX1_read 41 = .ok (.aload_n 0, 1) := by decide +kernel
theorem dX1_read_42 : decode cX1_read 42 = .ok (.getfield 9, 3) := by decide +kernel
theorem dX1_read_45 : decode cX1_read 45 = .ok (.getfield 39, 3) := by decide +kernel
theorem dX1_read_48 : decode cX1_read 48 = .ok (.if_icmp .ge 39, 3) := by decide +kernel
theorem dX1_read_51 : decode cX1_read 51 = .ok (.iload 4, 2) := by decide +kernel
theorem dX1_read_53 : decode cX1_read 53 = .ok (.sipush 160, 3) := by decide +kernel
theorem dX1_read_56 : decode cX1_read 56 = .ok (.if_icmp .ge 31, 3) := by decide +kernel
theorem dX1_read_59 : decode cX1_read 59 = .ok (.aload_n 0, 1) := by decide +kernel
theorem dX1_read_60 : decode cX1_read 60 = .ok (.bipush 59, 2) := by decide +kernel
theorem dX1_read_62 : decode cX1_read 62 = .ok (.invokevirtual 44, 3) := by decide +kernel
theorem dX1_read_65 : decode cX1_read 65 = .ok (.ifCond .eq 14, 3) := by decide +kernel
theorem dX1_read_68 : decode cX1_read 68 = .ok (.aload_n 0, 1) := by decide +kernel
theorem dX1_read_69 : decode cX1_read 69 = .ok (.invokevirtual 35, 3) := by decide +kernel
theorem dX1_read_72 : decode cX1_read 72 = .ok (.ifCond .eq 7, 3) := by decide +kernel
theorem dX1_read_75 : decode cX1_read 75 = .ok (.iconst 1, 1) := by decide +kernel
theorem dX1_read_76 : decode cX1_read 76 = .ok (.goto 4, 3) := by decide +kernel
theorem dX1_read_79 : decode cX1_read 79 = .ok (.iconst 0, 1) := by decide +kernel
theorem dX1_read_80 : decode cX1_read 80 = .ok (.istore_n 3, 1) := by decide +kernel
theorem dX1_read_81 : decode cX1_read 81 = .ok (.iinc 4 1, 3) := by decide +kernel
theorem dX1_read_84 : decode cX1_read 84 = .ok (.goto (-51), 3) := by decide +kernel
theorem dX1_read_87 : decode cX1_read 87 = .ok (.iload_n 3, 1) := by decide +kernel
theorem dX1_read_88 : decode cX1_read 88 = .ok (.ifCond .eq 7, 3) := by decide +kernel
theorem dX1_read_91 : decode cX1_read 91 = .ok (.iconst (-1), 1) := by decide +kernel
theorem dX1_read_92 : decode cX1_read 92 = .ok (.goto 7, 3) := by decide +kernel
theorem dX1_read_95 : decode cX1_read 95 = .ok (.aload_n 0, 1) := by decide +kernel
theorem dX1_read_96 : decode cX1_read 96 = .ok (.getfield 23, 3) := by decide +kernel
theorem dX1_read_99 : decode cX1_read 99 = .ok (.ireturn, 1) := by decide +kernel
theorem dX1_wrong_0 : decode cX1_wrong 0 = .ok (.aload_n 0, 1) := by decide +kernel
theorem dX1_wrong_1 : decode cX1_wrong 1 = .ok (.iload_n 1, 1) := by decide +kernel
theorem dX1_wrong_2 : decode cX1_wrong 2 = .ok (.putfield 23, 3) := by decide +kernel
theorem dX1_wrong_5 : decode cX1_wrong 5 = .ok (.iconst 0, 1) := by decide +kernel
theorem dX1_wrong_6 : decode cX1_wrong 6 = .ok (.ireturn, 1) := by decide +kernel
theorem dX1_letter_0 : decode cX1_letter 0 = .ok (.aload_n 0, 1) := by decide +kernel
theorem dX1_letter_1 : decode cX1_letter 1 = .ok (.getfield 19, 3) := by decide +kernel
theorem dX1_letter_4 : decode cX1_letter 4 = .ok (.aload_n 0, 1) := by decide +kernel
theorem dX1_letter_5 : decode cX1_letter 5 = .ok (.getfield 9, 3) := by decide +kernel
theorem dX1_letter_8 : decode cX1_letter 8 = .ok (.getfield 39, 3) := by decide +kernel
theorem dX1_letter_11 : decode cX1_letter 11 = .ok (.if_icmp .ge 17, 3) := by decide +kernel
theorem dX1_letter_14 : decode cX1_letter 14 = .ok (.aload_n 0, 1) := by decide +kernel
theorem dX1_letter_15 : decode cX1_letter 15 = .ok (.getfield 9, 3) := by decide +kernel
theorem dX1_letter_18 : decode cX1_letter 18 = .ok (.aload_n 0, 1) := by decide +kernel
theorem dX1_letter_19 : decode cX1_letter 19 = .ok (.getfield 19, 3) := by decide +kernel
theorem dX1_letter_22 : decode cX1_letter 22 = .ok (.invokevirtual 48, 3) := by decide +kernel
theorem dX1_letter_25 : decode cX1_letter 25 = .ok (.goto 4, 3) := by decide +kernel
theorem dX1_letter_28 : decode cX1_letter 28 = .ok (.iconst (-1), 1) := by decide +kernel
theorem dX1_letter_29 : decode cX1_letter 29 = .ok (.ireturn, 1) := by decide +kernel
theorem dX1_isSign_0 : decode cX1_isSign 0 = .ok (.aload_n 0, 1) := by decide +kernel
theorem dX1_isSign_1 : decode cX1_isSign 1 = .ok (.invokevirtual 52, 3) := by decide +kernel
theorem dX1_isSign_4 : decode cX1_isSign 4 = .ok (.iload_n 1, 1) := by decide +kernel
theorem dX1_isSign_5 : decode cX1_isSign 5 = .ok (.if_icmp .eq 12, 3) := by decide +kernel
theorem dX1_isSign_8 : decode cX1_isSign 8 = .ok (.aload_n 0, 1) := by decide +kernel
theorem dX1_isSign_9 : decode cX1_isSign 9 = .ok (.aload_n 0, 1) := by decide +kernel
theorem dX1_isSign_10 : decode cX1_isSign 10 = .ok (.getfield 19, 3) := by decide +kernel
theorem dX1_isSign_13 : decode cX1_isSign 13 = .ok (.invokevirtual 56, 3) := by decide +kernel
theorem dX1_isSign_16 : decode cX1_isSign 16 = .ok (.ireturn, 1) := by decide +kernel
theorem dX1_isSign_17 : decode cX1_isSign 17 = .ok (.aload_n 0, 1) := by decide +kernel
theorem dX1_isSign_18 : decode cX1_isSign 18 = .ok (.dup, 1) := by decide +kernel
theorem dX1_isSign_19 : decode cX1_isSign 19 = .ok (.getfield 19, 3) := by decide +kernel
theorem dX1_isSign_22 : decode cX1_isSign 22 = .ok (.iconst 1, 1) := by decide +kernel
theorem dX1_isSign_23 : decode cX1_isSign 23 = .ok (.iadd, 1) := by decide +kernel
theorem dX1_isSign_24 : decode cX1_isSign 24 = .ok (.putfield 19, 3) := by decide +kernel
theorem dX1_isSign_27 : decode cX1_isSign 27 = .ok (.iconst 1, 1) := by decide +kernel
theorem dX1_isSign_28 : decode cX1_isSign 28 = .ok (.ireturn, 1) := by decide +kernel
theorem dX1_isWord_0 : decode cX1_isWord 0 = .ok (.aload_n 0, 1) := by decide +kernel
theorem dX1_isWord_1 : decode cX1_isWord 1 = .ok (.getfield 19, 3) := by decide +kernel
theorem dX1_isWord_4 : decode cX1_isWord 4 = .ok (.istore_n 3, 1) := by decide +kernel
theorem dX1_isWord_5 : decode cX1_isWord 5 = .ok (.iconst 0, 1) := by decide +kernel
theorem dX1_isWord_6 : decode cX1_isWord 6 = .ok (.istore 4, 2) := by decide +kernel
theorem dX1_isWord_8 : decode cX1_isWord 8 = .ok (.iload 4, 2) := by decide +kernel
theorem dX1_isWord_10 : decode cX1_isWord 10 = .ok (.aload_n 1, 1) := by decide +kernel
theorem dX1_isWord_11 : decode cX1_isWord 11 = .ok (.invokevirtual 60, 3) := by decide +kernel
theorem dX1_isWord_14 : decode cX1_isWord 14 = .ok (.if_icmp .ge 24, 3) := by decide +kernel
theorem dX1_isWord_17 : decode cX1_isWord 17 = .ok (.aload_n 0, 1) := by decide +kernel
theorem dX1_isWord_18 : decode cX1_isWord 18 = .ok (.aload_n 1, 1) := by decide +kernel
theorem dX1_isWord_19 : decode cX1_isWord 19 = .ok (.iload 4, 2) := by decide +kernel
theorem dX1_isWord_21 : decode cX1_isWord 21 = .ok (.invokevirtual 65, 3) := by decide +kernel
theorem dX1_isWord_24 : decode cX1_isWord 24 = .ok (.invokevirtual 44, 3) := by decide +kernel
theorem dX1_isWord_27 : decode cX1_isWord 27 = .ok (.ifCond .ne 5, 3) := by decide +kernel
theorem dX1_isWord_30 : decode cX1_isWord 30 = .ok (.iconst 0, 1) := by decide +kernel
theorem dX1_isWord_31 : decode cX1_isWord 31 = .ok (.ireturn, 1) := by decide +kernel
theorem dX1_isWord_32 : decode cX1_isWord 32 = .ok (.iinc 4 1, 3) := by decide +kernel
theorem dX1_isWord_35 : decode cX1_isWord 35 = .ok (.goto (-27), 3) := by decide +kernel
theorem dX1_isWord_38 : decode cX1_isWord 38 = .ok (.iload_n 2, 1) := by decide +kernel
theorem dX1_isWord_39 : decode cX1_isWord 39 = .ok (.ifCond .eq 12, 3) := by decide +kernel
theorem dX1_isWord_42 : decode cX1_isWord 42 = .ok (.aload_n 0, 1) := by decide +kernel
theorem dX1_isWord_43 : decode cX1_isWord 43 = .ok (.bipush 32, 2) := by decide +kernel
theorem dX1_isWord_45 : decode cX1_isWord 45 = .ok (.invokevirtual 44, 3) := by decide +kernel
theorem dX1_isWord_48 : decode cX1_isWord 48 = .ok (.goto 8, 3) := by decide +kernel
theorem dX1_isWord_51 : decode cX1_isWord 51 = .ok (.aload_n 0, 1) := by decide +kernel
theorem dX1_isWord_52 : decode cX1_isWord 52 = .ok (.iload_n 3, 1) := by decide +kernel
theorem dX1_isWord_53 : decode cX1_isWord 53 = .ok (.invokevirtual 56, 3) := by decide +kernel
theorem dX1_isWord_56 : decode cX1_isWord 56 = .ok (.ireturn, 1) := by decide +kernel
theorem dX1_isNumber_0 : decode cX1_isNumber 0 = .ok (.aload_n 0, 1) := by decide +kernel
theorem dX1_isNumber_1 : decode cX1_isNumber 1 = .ok (.aload_n 0, 1) := by decide +kernel
theorem dX1_isNumber_2 : decode cX1_isNumber 2 = .ok (.getfield 19, 3) := by decide +kernel
theorem dX1_isNumber_5 : decode cX1_isNumber 5 = .ok (.putfield 32, 3) := by decide +kernel
theorem dX1_isNumber_8 : decode cX1_isNumber 8 = .ok (.aload_n 0, 1) := by decide +kernel
theorem dX1_isNumber_9 : decode cX1_isNumber 9 = .ok (.iconst 0, 1) := by decide +kernel
theorem dX1_isNumber_10 : decode cX1_isNumber 10 = .ok (.putfield 29, 3) := by decide +kernel
theorem dX1_isNumber_13 : decode cX1_isNumber 13 = .ok (.iconst 0, 1) := by decide +kernel
theorem dX1_isNumber_14 : decode cX1_isNumber 14 = .ok (.istore_n 3, 1) := by decide +kernel
theorem dX1_isNumber_15 : decode cX1_isNumber 15 = .ok (.iload_n 3, 1) := by decide +kernel
theorem dX1_isNumber_16 : decode cX1_isNumber 16 = .ok (.iconst 4, 1) := by decide +kernel
theorem dX1_isNumber_17 : decode cX1_isNumber 17 = .ok (.if_icmp .ge 45, 3) := by decide +kernel
theorem dX1_isNumber_20 : decode cX1_isNumber 20 = .ok (.aload_n 0, 1) := by decide +kernel
theorem dX1_isNumber_21 : decode cX1_isNumber 21 = .ok (.invokevirtual 69, 3) := by decide +kernel
theorem dX1_isNumber_24 : decode cX1_isNumber 24 = .ok (.ifCond .eq 38, 3) := by decide +kernel
theorem dX1_isNumber_27 : decode cX1_isNumber 27 = .ok (.aload_n 0, 1) := by decide +kernel
theorem dX1_isNumber_28 : decode cX1_isNumber 28 = .ok (.bipush 10, 2) := by decide +kernel
theorem dX1_isNumber_30 : decode cX1_isNumber 30 = .ok (.aload_n 0, 1) := by decide +kernel
theorem dX1_isNumber_31 : decode cX1_isNumber 31 = .ok (.getfield 29, 3) := by decide +kernel
theorem dX1_isNumber_34 : decode cX1_isNumber 34 = .ok (.imul, 1) := by decide +kernel
theorem dX1_isNumber_35 : decode cX1_isNumber 35 = .ok (.aload_n 0, 1) := by decide +kernel
theorem dX1_isNumber_36 : decode cX1_isNumber 36 = .ok (.invokevirtual 52, 3) := by decide +kernel
theorem dX1_isNumber_39 : decode cX1_isNumber 39 = .ok (.iadd, 1) := by decide +kernel
theorem dX1_isNumber_40 : decode cX1_isNumber 40 = .ok (.bipush 48, 2) := by decide +kernel
theorem dX1_isNumber_42 : decode cX1_isNumber 42 = .ok (.isub, 1) := by decide +kernel
theorem dX1_isNumber_43 : decode cX1_isNumber 43 = .ok (.putfield 29, 3) := by decide +kernel
theorem dX1_isNumber_46 : decode cX1_isNumber 46 = .ok (.aload_n 0, 1) := by decide +kernel
theorem dX1_isNumber_47 : decode cX1_isNumber 47 = .ok (.dup, 1) := by decide +kernel
theorem dX1_isNumber_48 : decode cX1_isNumber 48 = .ok (.getfield 19, 3) := by decide +kernel
theorem dX1_isNumber_51 : decode cX1_isNumber 51 = .ok (.iconst 1, 1) := by decide +kernel
theorem dX1_isNumber_52 : decode cX1_isNumber 52 = .ok (.iadd, 1) := by decide +kernel
theorem dX1_isNumber_53 : decode cX1_isNumber 53 = .ok (.putfield 19, 3) := by decide +kernel
theorem dX1_isNumber_56 : decode cX1_isNumber 56 = .ok (.iinc 3 1, 3) := by decide +kernel
theorem dX1_isNumber_59 : decode cX1_isNumber 59 = .ok (.goto (-44), 3) := by decide +kernel
theorem dX1_isNumber_62 : decode cX1_isNumber 62 = .ok (.aload_n 0, 1) := by decide +kernel
theorem dX1_isNumber_63 : decode cX1_isNumber 63 = .ok (.getfield 19, 3) := by decide +kernel
theorem dX1_isNumber_66 : decode cX1_isNumber 66 = .ok (.aload_n 0, 1) := by decide +kernel
theorem dX1_isNumber_67 : decode cX1_isNumber 67 = .ok (.getfield 32, 3) := by decide +kernel
theorem dX1_isNumber_70 : decode cX1_isNumber 70 = .ok (.if_icmp .le 19, 3) := by decide +kernel
theorem dX1_isNumber_73 : decode cX1_isNumber 73 = .ok (.aload_n 0, 1) := by decide +kernel
theorem dX1_isNumber_74 : decode cX1_isNumber 74 = .ok (.getfield 29, 3) := by decide +kernel
theorem dX1_isNumber_77 : decode cX1_isNumber 77 = .ok (.iload_n 1, 1) := by decide +kernel
theorem dX1_isNumber_78 : decode cX1_isNumber 78 = .ok (.if_icmp .lt 11, 3) := by decide +kernel
theorem dX1_isNumber_81 : decode cX1_isNumber 81 = .ok (.aload_n 0, 1) := by decide +kernel
theorem dX1_isNumber_82 : decode cX1_isNumber 82 = .ok (.getfield 29, 3) := by decide +kernel
theorem dX1_isNumber_85 : decode cX1_isNumber 85 = .ok (.iload_n 2, 1) := by decide +kernel
theorem dX1_isNumber_86 : decode cX1_isNumber 86 = .ok (.if_icmp .le 14, 3) := by decide +kernel
theorem dX1_isNumber_89 : decode cX1_isNumber 89 = .ok (.aload_n 0, 1) := by decide +kernel
theorem dX1_isNumber_90 : decode cX1_isNumber 90 = .ok (.aload_n 0, 1) := by decide +kernel
theorem dX1_isNumber_91 : decode cX1_isNumber 91 = .ok (.getfield 32, 3) := by decide +kernel
theorem dX1_isNumber_94 : decode cX1_isNumber 94 = .ok (.invokevirtual 56, 3) := by decide +kernel
theorem dX1_isNumber_97 : decode cX1_isNumber 97 = .ok (.ifCond .eq 7, 3) := by decide +kernel
theorem dX1_isNumber_100 : decode cX1_isNumber 100 = .ok (.iconst 1, 1) := by decide +kernel
theorem dX1_isNumber_101 : decode cX1_isNumber 101 = .ok (.goto 4, 3) := by decide +kernel
theorem dX1_isNumber_104 : decode cX1_isNumber 104 = .ok (.iconst 0, 1) := by decide +kernel
theorem dX1_isNumber_105 : decode cX1_isNumber 105 = .ok (.ireturn, 1) := by decide +kernel
theorem dX1_isDigit_0 : decode cX1_isDigit 0 = .ok (.aload_n 0, 1) := by decide +kernel
theorem dX1_isDigit_1 : decode cX1_isDigit 1 = .ok (.invokevirtual 52, 3) := by decide +kernel
theorem dX1_isDigit_4 : decode cX1_isDigit 4 = .ok (.bipush 48, 2) := by decide +kernel
theorem dX1_isDigit_6 : decode cX1_isDigit 6 = .ok (.if_icmp .lt 16, 3) := by decide +kernel
theorem dX1_isDigit_9 : decode cX1_isDigit 9 = .ok (.aload_n 0, 1) := by decide +kernel
theorem dX1_isDigit_10 : decode cX1_isDigit 10 = .ok (.invokevirtual 52, 3) := by decide +kernel
theorem dX1_isDigit_13 : decode cX1_isDigit 13 = .ok (.bipush 57, 2) := by decide +kernel
theorem dX1_isDigit_15 : decode cX1_isDigit 15 = .ok (.if_icmp .gt 7, 3) := by decide +kernel
theorem dX1_isDigit_18 : decode cX1_isDigit 18 = .ok (.iconst 1, 1) := by decide +kernel
theorem dX1_isDigit_19 : decode cX1_isDigit 19 = .ok (.goto 4, 3) := by decide +kernel
theorem dX1_isDigit_22 : decode cX1_isDigit 22 = .ok (.iconst 0, 1) := by decide +kernel
theorem dX1_isDigit_23 : decode cX1_isDigit 23 = .ok (.ireturn, 1) := by decide +kernel
theorem dX1_readItem_0 : decode cX1_readItem 0 = .ok (.aload_n 0, 1) := by decide +kernel
theorem dX1_readItem_1 : decode cX1_readItem 1 = .ok (.invokevirtual 52, 3) := by decide +kernel
theorem dX1_readItem_4 : decode cX1_readItem 4 = .ok (.tableswitch 112 102 115 #[72, 112, 112, 112, 112, 104, 88, 80, 112, 112, 112, 112, 112, 96], 72) := by decide +kernel
theorem dX1_readItem_76 : decode cX1_readItem 76 = .ok (.aload_n 0, 1) := by decide +kernel
theorem dX1_readItem_77 : decode cX1_readItem 77 = .ok (.invokevirtual 72, 3) := by decide +kernel
theorem dX1_readItem_80 : decode cX1_readItem 80 = .ok (.istore_n 1, 1) := by decide +kernel
theorem dX1_readItem_81 : decode cX1_readItem 81 = .ok (.goto 44, 3) := by decide +kernel
theorem dX1_readItem_84 : decode cX1_readItem 84 = .ok (.aload_n 0, 1) := by decide +kernel
theorem dX1_readItem_85 : decode cX1_readItem 85 = .ok (.invokevirtual 75, 3) := by decide +kernel
theorem dX1_readItem_88 : decode cX1_readItem 88 = .ok (.istore_n 1, 1) := by decide +kernel
theorem dX1_readItem_89 : decode cX1_readItem 89 = .ok (.goto 36, 3) := by decide +kernel
theorem dX1_readItem_92 : decode cX1_readItem 92 = .ok (.aload_n 0, 1) := by decide +kernel
theorem dX1_readItem_93 : decode cX1_readItem 93 = .ok (.invokevirtual 78, 3) := by decide +kernel
theorem dX1_readItem_96 : decode cX1_readItem 96 = .ok (.istore_n 1, 1) := by decide +kernel
theorem dX1_readItem_97 : decode cX1_readItem 97 = .ok (.goto 28, 3) := by decide +kernel
theorem dX1_readItem_100 : decode cX1_readItem 100 = .ok (.aload_n 0, 1) := by decide +kernel
theorem dX1_readItem_101 : decode cX1_readItem 101 = .ok (.invokevirtual 81, 3) := by decide +kernel
theorem dX1_readItem_104 : decode cX1_readItem 104 = .ok (.istore_n 1, 1) := by decide +kernel
theorem dX1_readItem_105 : decode cX1_readItem 105 = .ok (.goto 20, 3) := by decide +kernel
theorem dX1_readItem_108 : decode cX1_readItem 108 = .ok (.aload_n 0, 1) := by decide +kernel
theorem dX1_readItem_109 : decode cX1_readItem 109 = .ok (.invokevirtual 84, 3) := by decide +kernel
theorem dX1_readItem_112 : decode cX1_readItem 112 = .ok (.istore_n 1, 1) := by decide +kernel
theorem dX1_readItem_113 : decode cX1_readItem 113 = .ok (.goto 12, 3) := by decide +kernel
theorem dX1_readItem_116 : decode cX1_readItem 116 = .ok (.aload_n 0, 1) := by decide +kernel
theorem dX1_readItem_117 : decode cX1_readItem 117 = .ok (.aload_n 0, 1) := by decide +kernel
theorem dX1_readItem_118 : decode cX1_readItem 118 = .ok (.getfield 19, 3) := by decide +kernel
theorem dX1_readItem_121 : decode cX1_readItem 121 = .ok (.invokevirtual 56, 3) := by decide +kernel
theorem dX1_readItem_124 : decode cX1_readItem 124 = .ok (.istore_n 1, 1) := by decide +kernel
theorem dX1_readItem_125 : decode cX1_readItem 125 = .ok (.aload_n 0, 1) := by decide +kernel
theorem dX1_readItem_126 : decode cX1_readItem 126 = .ok (.dup, 1) := by decide +kernel
theorem dX1_readItem_127 : decode cX1_readItem 127 = .ok (.getfield 26, 3) := by decide +kernel
theorem dX1_readItem_130 : decode cX1_readItem 130 = .ok (.iconst 1, 1) := by decide +kernel
theorem dX1_readItem_131 : decode cX1_readItem 131 = .ok (.iadd, 1) := by decide +kernel
theorem dX1_readItem_132 : decode cX1_readItem 132 = .ok (.putfield 26, 3) := by decide +kernel
theorem dX1_readItem_135 : decode cX1_readItem 135 = .ok (.iload_n 1, 1) := by decide +kernel
theorem dX1_readItem_136 : decode cX1_readItem 136 = .ok (.ireturn, 1) := by decide +kernel
theorem dX1_readFact_0 : decode cX1_readFact 0 = .ok (.aload_n 0, 1) := by decide +kernel
theorem dX1_readFact_1 : decode cX1_readFact 1 = .ok (.ldc 87, 2) := by decide +kernel
theorem dX1_readFact_3 : decode cX1_readFact 3 = .ok (.aload_n 0, 1) := by decide +kernel
theorem dX1_readFact_4 : decode cX1_readFact 4 = .ok (.getfield 15, 3) := by decide +kernel
theorem dX1_readFact_7 : decode cX1_readFact 7 = .ok (.getfield 89, 3) := by decide +kernel
theorem dX1_readFact_10 : decode cX1_readFact 10 = .ok (.bipush 6, 2) := by decide +kernel
theorem dX1_readFact_12 : decode cX1_readFact 12 = .ok (.if_icmp .ge 7, 3) := by decide +kernel
theorem dX1_readFact_15 : decode cX1_readFact 15 = .ok (.iconst 1, 1) := by decide +kernel
theorem dX1_readFact_16 : decode cX1_readFact 16 = .ok (.goto 4, 3) := by decide +kernel
theorem dX1_readFact_19 : decode cX1_readFact 19 = .ok (.iconst 0, 1) := by decide +kernel
theorem dX1_readFact_20 : decode cX1_readFact 20 = .ok (.invokevirtual 94, 3) := by decide +kernel
theorem dX1_readFact_23 : decode cX1_readFact 23 = .ok (.ifCond .eq 13, 3) := by decide +kernel
theorem dX1_readFact_26 : decode cX1_readFact 26 = .ok (.aload_n 0, 1) := by decide +kernel
theorem dX1_readFact_27 : decode cX1_readFact 27 = .ok (.iconst 0, 1) := by decide +kernel
theorem dX1_readFact_28 : decode cX1_readFact 28 = .ok (.bipush 99, 2) := by decide +kernel
theorem dX1_readFact_30 : decode cX1_readFact 30 = .ok (.invokevirtual 98, 3) := by decide +kernel
theorem dX1_readFact_33 : decode cX1_readFact 33 = .ok (.ifCond .ne 5, 3) := by decide +kernel
theorem dX1_readFact_36 : decode cX1_readFact 36 = .ok (.iconst 0, 1) := by decide +kernel
theorem dX1_readFact_37 : decode cX1_readFact 37 = .ok (.ireturn, 1) := by decide +kernel
theorem dX1_readFact_38 : decode cX1_readFact 38 = .ok (.aload_n 0, 1) := by decide +kernel
theorem dX1_readFact_39 : decode cX1_readFact 39 = .ok (.getfield 15, 3) := by decide +kernel
theorem dX1_readFact_42 : decode cX1_readFact 42 = .ok (.aload_n 0, 1) := by decide +kernel
theorem dX1_readFact_43 : decode cX1_readFact 43 = .ok (.getfield 29, 3) := by decide +kernel
theorem dX1_readFact_46 : decode cX1_readFact 46 = .ok (.invokevirtual 102, 3) := by decide +kernel
theorem dX1_readFact_49 : decode cX1_readFact 49 = .ok (.iconst 1, 1) := by decide +kernel
theorem dX1_readFact_50 : decode cX1_readFact 50 = .ok (.ireturn, 1) := by decide +kernel
theorem dX1_readMan_0 : decode cX1_readMan 0 = .ok (.aload_n 0, 1) := by decide +kernel
theorem dX1_readMan_1 : decode cX1_readMan 1 = .ok (.ldc 106, 2) := by decide +kernel
theorem dX1_readMan_3 : decode cX1_readMan 3 = .ok (.aload_n 0, 1) := by decide +kernel
theorem dX1_readMan_4 : decode cX1_readMan 4 = .ok (.getfield 15, 3) := by decide +kernel
theorem dX1_readMan_7 : decode cX1_readMan 7 = .ok (.getfield 108, 3) := by decide +kernel
theorem dX1_readMan_10 : decode cX1_readMan 10 = .ok (.bipush 6, 2) := by decide +kernel
theorem dX1_readMan_12 : decode cX1_readMan 12 = .ok (.if_icmp .ge 7, 3) := by decide +kernel
theorem dX1_readMan_15 : decode cX1_readMan 15 = .ok (.iconst 1, 1) := by decide +kernel
theorem dX1_readMan_16 : decode cX1_readMan 16 = .ok (.goto 4, 3) := by decide +kernel
theorem dX1_readMan_19 : decode cX1_readMan 19 = .ok (.iconst 0, 1) := by decide +kernel
theorem dX1_readMan_20 : decode cX1_readMan 20 = .ok (.invokevirtual 94, 3) := by decide +kernel
theorem dX1_readMan_23 : decode cX1_readMan 23 = .ok (.ifCond .eq 13, 3) := by decide +kernel
theorem dX1_readMan_26 : decode cX1_readMan 26 = .ok (.aload_n 0, 1) := by decide +kernel
theorem dX1_readMan_27 : decode cX1_readMan 27 = .ok (.iconst 0, 1) := by decide +kernel
theorem dX1_readMan_28 : decode cX1_readMan 28 = .ok (.bipush 6, 2) := by decide +kernel
theorem dX1_readMan_30 : decode cX1_readMan 30 = .ok (.invokevirtual 98, 3) := by decide +kernel
theorem dX1_readMan_33 : decode cX1_readMan 33 = .ok (.ifCond .ne 5, 3) := by decide +kernel
theorem dX1_readMan_36 : decode cX1_readMan 36 = .ok (.iconst 0, 1) := by decide +kernel
theorem dX1_readMan_37 : decode cX1_readMan 37 = .ok (.ireturn, 1) := by decide +kernel
theorem dX1_readMan_38 : decode cX1_readMan 38 = .ok (.aload_n 0, 1) := by decide +kernel
theorem dX1_readMan_39 : decode cX1_readMan 39 = .ok (.getfield 29, 3) := by decide +kernel
theorem dX1_readMan_42 : decode cX1_readMan 42 = .ok (.istore_n 1, 1) := by decide +kernel
theorem dX1_readMan_43 : decode cX1_readMan 43 = .ok (.aload_n 0, 1) := by decide +kernel
theorem dX1_readMan_44 : decode cX1_readMan 44 = .ok (.bipush 32, 2) := by decide +kernel
theorem dX1_readMan_46 : decode cX1_readMan 46 = .ok (.invokevirtual 44, 3) := by decide +kernel
theorem dX1_readMan_49 : decode cX1_readMan 49 = .ok (.ifCond .eq 14, 3) := by decide +kernel
theorem dX1_readMan_52 : decode cX1_readMan 52 = .ok (.aload_n 0, 1) := by decide +kernel
theorem dX1_readMan_53 : decode cX1_readMan 53 = .ok (.iconst 0, 1) := by decide +kernel
theorem dX1_readMan_54 : decode cX1_readMan 54 = .ok (.sipush 1023, 3) := by decide +kernel
theorem dX1_readMan_57 : decode cX1_readMan 57 = .ok (.invokevirtual 98, 3) := by decide +kernel
theorem dX1_readMan_60 : decode cX1_readMan 60 = .ok (.ifCond .ne 5, 3) := by decide +kernel
theorem dX1_readMan_63 : decode cX1_readMan 63 = .ok (.iconst 0, 1) := by decide +kernel
theorem dX1_readMan_64 : decode cX1_readMan 64 = .ok (.ireturn, 1) := by decide +kernel
theorem dX1_readMan_65 : decode cX1_readMan 65 = .ok (.aload_n 0, 1) := by decide +kernel
theorem dX1_readMan_66 : decode cX1_readMan 66 = .ok (.getfield 15, 3) := by decide +kernel
theorem dX1_readMan_69 : decode cX1_readMan 69 = .ok (.iload_n 1, 1) := by decide +kernel
theorem dX1_readMan_70 : decode cX1_readMan 70 = .ok (.aload_n 0, 1) := by decide +kernel
theorem dX1_readMan_71 : decode cX1_readMan 71 = .ok (.getfield 29, 3) := by decide +kernel
theorem dX1_readMan_74 : decode cX1_readMan 74 = .ok (.invokevirtual 111, 3) := by decide +kernel
theorem dX1_readMan_77 : decode cX1_readMan 77 = .ok (.iconst 1, 1) := by decide +kernel
theorem dX1_readMan_78 : decode cX1_readMan 78 = .ok (.ireturn, 1) := by decide +kernel
theorem dX1_readLaw_0 : decode cX1_readLaw 0 = .ok (.aload_n 0, 1) := by decide +kernel
theorem dX1_readLaw_1 : decode cX1_readLaw 1 = .ok (.ldc 115, 2) := by decide +kernel
theorem dX1_readLaw_3 : decode cX1_readLaw 3 = .ok (.aload_n 0, 1) := by decide +kernel
theorem dX1_readLaw_4 : decode cX1_readLaw 4 = .ok (.getfield 15, 3) := by decide +kernel
theorem dX1_readLaw_7 : decode cX1_readLaw 7 = .ok (.getfield 117, 3) := by decide +kernel
theorem dX1_readLaw_10 : decode cX1_readLaw 10 = .ok (.ifCond .ne 7, 3) := by decide +kernel
theorem dX1_readLaw_13 : decode cX1_readLaw 13 = .ok (.iconst 1, 1) := by decide +kernel
theorem dX1_readLaw_14 : decode cX1_readLaw 14 = .ok (.goto 4, 3) := by decide +kernel
theorem dX1_readLaw_17 : decode cX1_readLaw 17 = .ok (.iconst 0, 1) := by decide +kernel
theorem dX1_readLaw_18 : decode cX1_readLaw 18 = .ok (.invokevirtual 94, 3) := by decide +kernel
theorem dX1_readLaw_21 : decode cX1_readLaw 21 = .ok (.ifCond .eq 13, 3) := by decide +kernel
theorem dX1_readLaw_24 : decode cX1_readLaw 24 = .ok (.aload_n 0, 1) := by decide +kernel
theorem dX1_readLaw_25 : decode cX1_readLaw 25 = .ok (.iconst 2, 1) := by decide +kernel
theorem dX1_readLaw_26 : decode cX1_readLaw 26 = .ok (.bipush 10, 2) := by decide +kernel
theorem dX1_readLaw_28 : decode cX1_readLaw 28 = .ok (.invokevirtual 98, 3) := by decide +kernel
theorem dX1_readLaw_31 : decode cX1_readLaw 31 = .ok (.ifCond .ne 5, 3) := by decide +kernel
theorem dX1_readLaw_34 : decode cX1_readLaw 34 = .ok (.iconst 0, 1) := by decide +kernel
theorem dX1_readLaw_35 : decode cX1_readLaw 35 = .ok (.ireturn, 1) := by decide +kernel
theorem dX1_readLaw_36 : decode cX1_readLaw 36 = .ok (.aload_n 0, 1) := by decide +kernel
theorem dX1_readLaw_37 : decode cX1_readLaw 37 = .ok (.getfield 29, 3) := by decide +kernel
theorem dX1_readLaw_40 : decode cX1_readLaw 40 = .ok (.istore_n 1, 1) := by decide +kernel
theorem dX1_readLaw_41 : decode cX1_readLaw 41 = .ok (.aload_n 0, 1) := by decide +kernel
theorem dX1_readLaw_42 : decode cX1_readLaw 42 = .ok (.bipush 32, 2) := by decide +kernel
theorem dX1_readLaw_44 : decode cX1_readLaw 44 = .ok (.invokevirtual 44, 3) := by decide +kernel
theorem dX1_readLaw_47 : decode cX1_readLaw 47 = .ok (.ifCond .eq 12, 3) := by decide +kernel
theorem dX1_readLaw_50 : decode cX1_readLaw 50 = .ok (.aload_n 0, 1) := by decide +kernel
theorem dX1_readLaw_51 : decode cX1_readLaw 51 = .ok (.iconst 0, 1) := by decide +kernel
theorem dX1_readLaw_52 : decode cX1_readLaw 52 = .ok (.iload_n 1, 1) := by decide +kernel
theorem dX1_readLaw_53 : decode cX1_readLaw 53 = .ok (.invokevirtual 98, 3) := by decide +kernel
theorem dX1_readLaw_56 : decode cX1_readLaw 56 = .ok (.ifCond .ne 5, 3) := by decide +kernel
theorem dX1_readLaw_59 : decode cX1_readLaw 59 = .ok (.iconst 0, 1) := by decide +kernel
theorem dX1_readLaw_60 : decode cX1_readLaw 60 = .ok (.ireturn, 1) := by decide +kernel
theorem dX1_readLaw_61 : decode cX1_readLaw 61 = .ok (.aload_n 0, 1) := by decide +kernel
theorem dX1_readLaw_62 : decode cX1_readLaw 62 = .ok (.getfield 15, 3) := by decide +kernel
theorem dX1_readLaw_65 : decode cX1_readLaw 65 = .ok (.iload_n 1, 1) := by decide +kernel
theorem dX1_readLaw_66 : decode cX1_readLaw 66 = .ok (.putfield 120, 3) := by decide +kernel
theorem dX1_readLaw_69 : decode cX1_readLaw 69 = .ok (.aload_n 0, 1) := by decide +kernel
theorem dX1_readLaw_70 : decode cX1_readLaw 70 = .ok (.getfield 15, 3) := by decide +kernel
theorem dX1_readLaw_73 : decode cX1_readLaw 73 = .ok (.aload_n 0, 1) := by decide +kernel
theorem dX1_readLaw_74 : decode cX1_readLaw 74 = .ok (.getfield 29, 3) := by decide +kernel
theorem dX1_readLaw_77 : decode cX1_readLaw 77 = .ok (.putfield 123, 3) := by decide +kernel
theorem dX1_readLaw_80 : decode cX1_readLaw 80 = .ok (.iconst 1, 1) := by decide +kernel
theorem dX1_readLaw_81 : decode cX1_readLaw 81 = .ok (.ireturn, 1) := by decide +kernel
theorem dX1_readSays_0 : decode cX1_readSays 0 = .ok (.aload_n 0, 1) := by decide +kernel
theorem dX1_readSays_1 : decode cX1_readSays 1 = .ok (.ldc 126, 2) := by decide +kernel
theorem dX1_readSays_3 : decode cX1_readSays 3 = .ok (.aload_n 0, 1) := by decide +kernel
theorem dX1_readSays_4 : decode cX1_readSays 4 = .ok (.getfield 15, 3) := by decide +kernel
theorem dX1_readSays_7 : decode cX1_readSays 7 = .ok (.getfield 117, 3) := by decide +kernel
theorem dX1_readSays_10 : decode cX1_readSays 10 = .ok (.bipush 24, 2) := by decide +kernel
theorem dX1_readSays_12 : decode cX1_readSays 12 = .ok (.if_icmp .ge 7, 3) := by decide +kernel
theorem dX1_readSays_15 : decode cX1_readSays 15 = .ok (.iconst 1, 1) := by decide +kernel
theorem dX1_readSays_16 : decode cX1_readSays 16 = .ok (.goto 4, 3) := by decide +kernel
theorem dX1_readSays_19 : decode cX1_readSays 19 = .ok (.iconst 0, 1) := by decide +kernel
theorem dX1_readSays_20 : decode cX1_readSays 20 = .ok (.invokevirtual 94, 3) := by decide +kernel
theorem dX1_readSays_23 : decode cX1_readSays 23 = .ok (.ifCond .eq 20, 3) := by decide +kernel
theorem dX1_readSays_26 : decode cX1_readSays 26 = .ok (.aload_n 0, 1) := by decide +kernel
theorem dX1_readSays_27 : decode cX1_readSays 27 = .ok (.iconst 0, 1) := by decide +kernel
theorem dX1_readSays_28 : decode cX1_readSays 28 = .ok (.aload_n 0, 1) := by decide +kernel
theorem dX1_readSays_29 : decode cX1_readSays 29 = .ok (.getfield 15, 3) := by decide +kernel
theorem dX1_readSays_32 : decode cX1_readSays 32 = .ok (.getfield 108, 3) := by decide +kernel
theorem dX1_readSays_35 : decode cX1_readSays 35 = .ok (.iconst 1, 1) := by decide +kernel
theorem dX1_readSays_36 : decode cX1_readSays 36 = .ok (.isub, 1) := by decide +kernel
theorem dX1_readSays_37 : decode cX1_readSays 37 = .ok (.invokevirtual 98, 3) := by decide +kernel
theorem dX1_readSays_40 : decode cX1_readSays 40 = .ok (.ifCond .ne 5, 3) := by decide +kernel
theorem dX1_readSays_43 : decode cX1_readSays 43 = .ok (.iconst 0, 1) := by decide +kernel
theorem dX1_readSays_44 : decode cX1_readSays 44 = .ok (.ireturn, 1) := by decide +kernel
theorem dX1_readSays_45 : decode cX1_readSays 45 = .ok (.aload_n 0, 1) := by decide +kernel
theorem dX1_readSays_46 : decode cX1_readSays 46 = .ok (.getfield 29, 3) := by decide +kernel
theorem dX1_readSays_49 : decode cX1_readSays 49 = .ok (.istore_n 1, 1) := by decide +kernel
theorem dX1_readSays_50 : decode cX1_readSays 50 = .ok (.aload_n 0, 1) := by decide +kernel
theorem dX1_readSays_51 : decode cX1_readSays 51 = .ok (.getfield 15, 3) := by decide +kernel
theorem dX1_readSays_54 : decode cX1_readSays 54 = .ok (.iload_n 1, 1) := by decide +kernel
theorem dX1_readSays_55 : decode cX1_readSays 55 = .ok (.invokevirtual 128, 3) := by decide +kernel
theorem dX1_readSays_58 : decode cX1_readSays 58 = .ok (.ifCond .eq 12, 3) := by decide +kernel
theorem dX1_readSays_61 : decode cX1_readSays 61 = .ok (.aload_n 0, 1) := by decide +kernel
theorem dX1_readSays_62 : decode cX1_readSays 62 = .ok (.aload_n 0, 1) := by decide +kernel
theorem dX1_readSays_63 : decode cX1_readSays 63 = .ok (.getfield 32, 3) := by decide +kernel
theorem dX1_readSays_66 : decode cX1_readSays 66 = .ok (.invokevirtual 56, 3) := by decide +kernel
theorem dX1_readSays_69 : decode cX1_readSays 69 = .ok (.ireturn, 1) := by decide +kernel
theorem dX1_readSays_70 : decode cX1_readSays 70 = .ok (.aload_n 0, 1) := by decide +kernel
theorem dX1_readSays_71 : decode cX1_readSays 71 = .ok (.bipush 32, 2) := by decide +kernel
theorem dX1_readSays_73 : decode cX1_readSays 73 = .ok (.invokevirtual 44, 3) := by decide +kernel
theorem dX1_readSays_76 : decode cX1_readSays 76 = .ok (.ifCond .eq 20, 3) := by decide +kernel
theorem dX1_readSays_79 : decode cX1_readSays 79 = .ok (.aload_n 0, 1) := by decide +kernel
theorem dX1_readSays_80 : decode cX1_readSays 80 = .ok (.iconst 0, 1) := by decide +kernel
theorem dX1_readSays_81 : decode cX1_readSays 81 = .ok (.aload_n 0, 1) := by decide +kernel
theorem dX1_readSays_82 : decode cX1_readSays 82 = .ok (.getfield 15, 3) := by decide +kernel
theorem dX1_readSays_85 : decode cX1_readSays 85 = .ok (.getfield 89, 3) := by decide +kernel
theorem dX1_readSays_88 : decode cX1_readSays 88 = .ok (.iconst 1, 1) := by decide +kernel
theorem dX1_readSays_89 : decode cX1_readSays 89 = .ok (.isub, 1) := by decide +kernel
theorem dX1_readSays_90 : decode cX1_readSays 90 = .ok (.invokevirtual 98, 3) := by decide +kernel
theorem dX1_readSays_93 : decode cX1_readSays 93 = .ok (.ifCond .ne 5, 3) := by decide +kernel
theorem dX1_readSays_96 : decode cX1_readSays 96 = .ok (.iconst 0, 1) := by decide +kernel
theorem dX1_readSays_97 : decode cX1_readSays 97 = .ok (.ireturn, 1) := by decide +kernel
theorem dX1_readSays_98 : decode cX1_readSays 98 = .ok (.aload_n 0, 1) := by decide +kernel
theorem dX1_readSays_99 : decode cX1_readSays 99 = .ok (.getfield 29, 3) := by decide +kernel
theorem dX1_readSays_102 : decode cX1_readSays 102 = .ok (.istore_n 2, 1) := by decide +kernel
theorem dX1_readSays_103 : decode cX1_readSays 103 = .ok (.aload_n 0, 1) := by decide +kernel
theorem dX1_readSays_104 : decode cX1_readSays 104 = .ok (.bipush 32, 2) := by decide +kernel
theorem dX1_readSays_106 : decode cX1_readSays 106 = .ok (.invokevirtual 44, 3) := by decide +kernel
theorem dX1_readSays_109 : decode cX1_readSays 109 = .ok (.ifCond .eq 12, 3) := by decide +kernel
theorem dX1_readSays_112 : decode cX1_readSays 112 = .ok (.aload_n 0, 1) := by decide +kernel
theorem dX1_readSays_113 : decode cX1_readSays 113 = .ok (.iconst 0, 1) := by decide +kernel
theorem dX1_readSays_114 : decode cX1_readSays 114 = .ok (.iconst 1, 1) := by decide +kernel
theorem dX1_readSays_115 : decode cX1_readSays 115 = .ok (.invokevirtual 98, 3) := by decide +kernel
theorem dX1_readSays_118 : decode cX1_readSays 118 = .ok (.ifCond .ne 5, 3) := by decide +kernel
theorem dX1_readSays_121 : decode cX1_readSays 121 = .ok (.iconst 0, 1) := by decide +kernel
theorem dX1_readSays_122 : decode cX1_readSays 122 = .ok (.ireturn, 1) := by decide +kernel
theorem dX1_readSays_123 : decode cX1_readSays 123 = .ok (.aload_n 0, 1) := by decide +kernel
theorem dX1_readSays_124 : decode cX1_readSays 124 = .ok (.getfield 29, 3) := by decide +kernel
theorem dX1_readSays_127 : decode cX1_readSays 127 = .ok (.iconst 1, 1) := by decide +kernel
theorem dX1_readSays_128 : decode cX1_readSays 128 = .ok (.if_icmp .ne 7, 3) := by decide +kernel
theorem dX1_readSays_131 : decode cX1_readSays 131 = .ok (.iconst 1, 1) := by decide +kernel
theorem dX1_readSays_132 : decode cX1_readSays 132 = .ok (.goto 4, 3) := by decide +kernel
theorem dX1_readSays_135 : decode cX1_readSays 135 = .ok (.iconst 0, 1) := by decide +kernel
theorem dX1_readSays_136 : decode cX1_readSays 136 = .ok (.istore_n 3, 1) := by decide +kernel
theorem dX1_readSays_137 : decode cX1_readSays 137 = .ok (.aload_n 0, 1) := by decide +kernel
theorem dX1_readSays_138 : decode cX1_readSays 138 = .ok (.getfield 15, 3) := by decide +kernel
theorem dX1_readSays_141 : decode cX1_readSays 141 = .ok (.iload_n 1, 1) := by decide +kernel
theorem dX1_readSays_142 : decode cX1_readSays 142 = .ok (.iload_n 2, 1) := by decide +kernel
theorem dX1_readSays_143 : decode cX1_readSays 143 = .ok (.iload_n 3, 1) := by decide +kernel
theorem dX1_readSays_144 : decode cX1_readSays 144 = .ok (.aload_n 0, 1) := by decide +kernel
theorem dX1_readSays_145 : decode cX1_readSays 145 = .ok (.getfield 15, 3) := by decide +kernel
theorem dX1_readSays_148 : decode cX1_readSays 148 = .ok (.ldc2_w 131, 3) := by decide +kernel
theorem dX1_readSays_151 : decode cX1_readSays 151 = .ok (.invokevirtual 133, 3) := by decide +kernel
theorem dX1_readSays_154 : decode cX1_readSays 154 = .ok (.invokevirtual 137, 3) := by decide +kernel
theorem dX1_readSays_157 : decode cX1_readSays 157 = .ok (.lconst 0, 1) := by decide +kernel
theorem dX1_readSays_158 : decode cX1_readSays 158 = .ok (.lcmp, 1) := by decide +kernel
theorem dX1_readSays_159 : decode cX1_readSays 159 = .ok (.ifCond .ne 12, 3) := by decide +kernel
theorem dX1_readSays_162 : decode cX1_readSays 162 = .ok (.aload_n 0, 1) := by decide +kernel
theorem dX1_readSays_163 : decode cX1_readSays 163 = .ok (.aload_n 0, 1) := by decide +kernel
theorem dX1_readSays_164 : decode cX1_readSays 164 = .ok (.getfield 32, 3) := by decide +kernel
theorem dX1_readSays_167 : decode cX1_readSays 167 = .ok (.invokevirtual 56, 3) := by decide +kernel
theorem dX1_readSays_170 : decode cX1_readSays 170 = .ok (.ireturn, 1) := by decide +kernel
theorem dX1_readSays_171 : decode cX1_readSays 171 = .ok (.aload_n 0, 1) := by decide +kernel
theorem dX1_readSays_172 : decode cX1_readSays 172 = .ok (.getfield 15, 3) := by decide +kernel
theorem dX1_readSays_175 : decode cX1_readSays 175 = .ok (.iload_n 1, 1) := by decide +kernel
theorem dX1_readSays_176 : decode cX1_readSays 176 = .ok (.iload_n 2, 1) := by decide +kernel
theorem dX1_readSays_177 : decode cX1_readSays 177 = .ok (.iload_n 3, 1) := by decide +kernel
theorem dX1_readSays_178 : decode cX1_readSays 178 = .ok (.invokevirtual 141, 3) := by decide +kernel
theorem dX1_readSays_181 : decode cX1_readSays 181 = .ok (.iconst 1, 1) := by decide +kernel
theorem dX1_readSays_182 : decode cX1_readSays 182 = .ok (.ireturn, 1) := by decide +kernel
theorem dX1_readKnown_0 : decode cX1_readKnown 0 = .ok (.aload_n 0, 1) := by decide +kernel
theorem dX1_readKnown_1 : decode cX1_readKnown 1 = .ok (.ldc 145, 2) := by decide +kernel
theorem dX1_readKnown_3 : decode cX1_readKnown 3 = .ok (.iconst 1, 1) := by decide +kernel
theorem dX1_readKnown_4 : decode cX1_readKnown 4 = .ok (.invokevirtual 94, 3) := by decide +kernel
theorem dX1_readKnown_7 : decode cX1_readKnown 7 = .ok (.ifCond .eq 20, 3) := by decide +kernel
theorem dX1_readKnown_10 : decode cX1_readKnown 10 = .ok (.aload_n 0, 1) := by decide +kernel
theorem dX1_readKnown_11 : decode cX1_readKnown 11 = .ok (.iconst 0, 1) := by decide +kernel
theorem dX1_readKnown_12 : decode cX1_readKnown 12 = .ok (.aload_n 0, 1) := by decide +kernel
theorem dX1_readKnown_13 : decode cX1_readKnown 13 = .ok (.getfield 15, 3) := by decide +kernel
theorem dX1_readKnown_16 : decode cX1_readKnown 16 = .ok (.getfield 89, 3) := by decide +kernel
theorem dX1_readKnown_19 : decode cX1_readKnown 19 = .ok (.iconst 1, 1) := by decide +kernel
theorem dX1_readKnown_20 : decode cX1_readKnown 20 = .ok (.isub, 1) := by decide +kernel
theorem dX1_readKnown_21 : decode cX1_readKnown 21 = .ok (.invokevirtual 98, 3) := by decide +kernel
theorem dX1_readKnown_24 : decode cX1_readKnown 24 = .ok (.ifCond .ne 5, 3) := by decide +kernel
theorem dX1_readKnown_27 : decode cX1_readKnown 27 = .ok (.iconst 0, 1) := by decide +kernel
theorem dX1_readKnown_28 : decode cX1_readKnown 28 = .ok (.ireturn, 1) := by decide +kernel
theorem dX1_readKnown_29 : decode cX1_readKnown 29 = .ok (.aload_n 0, 1) := by decide +kernel
theorem dX1_readKnown_30 : decode cX1_readKnown 30 = .ok (.getfield 29, 3) := by decide +kernel
theorem dX1_readKnown_33 : decode cX1_readKnown 33 = .ok (.istore_n 1, 1) := by decide +kernel
theorem dX1_readKnown_34 : decode cX1_readKnown 34 = .ok (.aload_n 0, 1) := by decide +kernel
theorem dX1_readKnown_35 : decode cX1_readKnown 35 = .ok (.bipush 32, 2) := by decide +kernel
theorem dX1_readKnown_37 : decode cX1_readKnown 37 = .ok (.invokevirtual 44, 3) := by decide +kernel
theorem dX1_readKnown_40 : decode cX1_readKnown 40 = .ok (.ifCond .eq 12, 3) := by decide +kernel
theorem dX1_readKnown_43 : decode cX1_readKnown 43 = .ok (.aload_n 0, 1) := by decide +kernel
theorem dX1_readKnown_44 : decode cX1_readKnown 44 = .ok (.iconst 0, 1) := by decide +kernel
theorem dX1_readKnown_45 : decode cX1_readKnown 45 = .ok (.iconst 1, 1) := by decide +kernel
theorem dX1_readKnown_46 : decode cX1_readKnown 46 = .ok (.invokevirtual 98, 3) := by decide +kernel
theorem dX1_readKnown_49 : decode cX1_readKnown 49 = .ok (.ifCond .ne 5, 3) := by decide +kernel
theorem dX1_readKnown_52 : decode cX1_readKnown 52 = .ok (.iconst 0, 1) := by decide +kernel
theorem dX1_readKnown_53 : decode cX1_readKnown 53 = .ok (.ireturn, 1) := by decide +kernel
theorem dX1_readKnown_54 : decode cX1_readKnown 54 = .ok (.aload_n 0, 1) := by decide +kernel
theorem dX1_readKnown_55 : decode cX1_readKnown 55 = .ok (.getfield 29, 3) := by decide +kernel
theorem dX1_readKnown_58 : decode cX1_readKnown 58 = .ok (.iconst 1, 1) := by decide +kernel
theorem dX1_readKnown_59 : decode cX1_readKnown 59 = .ok (.if_icmp .ne 7, 3) := by decide +kernel
theorem dX1_readKnown_62 : decode cX1_readKnown 62 = .ok (.iconst 1, 1) := by decide +kernel
theorem dX1_readKnown_63 : decode cX1_readKnown 63 = .ok (.goto 4, 3) := by decide +kernel
theorem dX1_readKnown_66 : decode cX1_readKnown 66 = .ok (.iconst 0, 1) := by decide +kernel
theorem dX1_readKnown_67 : decode cX1_readKnown 67 = .ok (.istore_n 2, 1) := by decide +kernel
theorem dX1_readKnown_68 : decode cX1_readKnown 68 = .ok (.aload_n 0, 1) := by decide +kernel
theorem dX1_readKnown_69 : decode cX1_readKnown 69 = .ok (.getfield 15, 3) := by decide +kernel
theorem dX1_readKnown_72 : decode cX1_readKnown 72 = .ok (.ldc2_w 131, 3) := by decide +kernel
theorem dX1_readKnown_75 : decode cX1_readKnown 75 = .ok (.invokevirtual 133, 3) := by decide +kernel
theorem dX1_readKnown_78 : decode cX1_readKnown 78 = .ok (.iload_n 1, 1) := by decide +kernel
theorem dX1_readKnown_79 : decode cX1_readKnown 79 = .ok (.iload_n 2, 1) := by decide +kernel
theorem dX1_readKnown_80 : decode cX1_readKnown 80 = .ok (.invokestatic 147, 3) := by decide +kernel
theorem dX1_readKnown_83 : decode cX1_readKnown 83 = .ok (.land, 1) := by decide +kernel
theorem dX1_readKnown_84 : decode cX1_readKnown 84 = .ok (.lconst 0, 1) := by decide +kernel
theorem dX1_readKnown_85 : decode cX1_readKnown 85 = .ok (.lcmp, 1) := by decide +kernel
theorem dX1_readKnown_86 : decode cX1_readKnown 86 = .ok (.ifCond .ne 12, 3) := by decide +kernel
theorem dX1_readKnown_89 : decode cX1_readKnown 89 = .ok (.aload_n 0, 1) := by decide +kernel
theorem dX1_readKnown_90 : decode cX1_readKnown 90 = .ok (.aload_n 0, 1) := by decide +kernel
theorem dX1_readKnown_91 : decode cX1_readKnown 91 = .ok (.getfield 32, 3) := by decide +kernel
theorem dX1_readKnown_94 : decode cX1_readKnown 94 = .ok (.invokevirtual 56, 3) := by decide +kernel
theorem dX1_readKnown_97 : decode cX1_readKnown 97 = .ok (.ireturn, 1) := by decide +kernel
theorem dX1_readKnown_98 : decode cX1_readKnown 98 = .ok (.aload_n 0, 1) := by decide +kernel
theorem dX1_readKnown_99 : decode cX1_readKnown 99 = .ok (.getfield 15, 3) := by decide +kernel
theorem dX1_readKnown_102 : decode cX1_readKnown 102 = .ok (.iload_n 1, 1) := by decide +kernel
theorem dX1_readKnown_103 : decode cX1_readKnown 103 = .ok (.iload_n 2, 1) := by decide +kernel
theorem dX1_readKnown_104 : decode cX1_readKnown 104 = .ok (.invokevirtual 151, 3) := by decide +kernel
theorem dX1_readKnown_107 : decode cX1_readKnown 107 = .ok (.iconst 1, 1) := by decide +kernel
theorem dX1_readKnown_108 : decode cX1_readKnown 108 = .ok (.ireturn, 1) := by decide +kernel
theorem dX2_init_0 : decode cX2_init 0 = .ok (.aload_n 0, 1) := by decide +kernel
theorem dX2_init_1 : decode cX2_init 1 = .ok (.invokespecial 3, 3) := by decide +kernel
theorem dX2_init_4 : decode cX2_init 4 = .ok (.aload_n 0, 1) := by decide +kernel
theorem dX2_init_5 : decode cX2_init 5 = .ok (.sipush 160, 3) := by decide +kernel
theorem dX2_init_8 : decode cX2_init 8 = .ok (.newarray .long, 2) := by decide +kernel
theorem dX2_init_10 : decode cX2_init 10 = .ok (.putfield 9, 3) := by decide +kernel
theorem dX2_init_13 : decode cX2_init 13 = .ok (.aload_n 0, 1) := by decide +kernel
theorem dX2_init_14 : decode cX2_init 14 = .ok (.iconst (-1), 1) := by decide +kernel
theorem dX2_init_15 : decode cX2_init 15 = .ok (.putfield 15, 3) := by decide +kernel
theorem dX2_init_18 : decode cX2_init 18 = .ok (.aload_n 0, 1) := by decide +kernel
theorem dX2_init_19 : decode cX2_init 19 = .ok (.iconst 0, 1) := by decide +kernel
theorem dX2_init_20 : decode cX2_init 20 = .ok (.putfield 19, 3) := by decide +kernel
theorem dX2_init_23 : decode cX2_init 23 = .ok (.return_, 1) := by decide +kernel
theorem dX2_isRow_0 : decode cX2_isRow 0 = .ok (.aload_n 0, 1) := by decide +kernel
theorem dX2_isRow_1 : decode cX2_isRow 1 = .ok (.getfield 15, 3) := by decide +kernel
theorem dX2_isRow_4 : decode cX2_isRow 4 = .ok (.bipush 100, 2) := by decide +kernel
theorem dX2_isRow_6 : decode cX2_isRow 6 = .ok (.if_icmp .lt 7, 3) := by decide +kernel
theorem dX2_isRow_9 : decode cX2_isRow 9 = .ok (.iconst 1, 1) := by decide +kernel
theorem dX2_isRow_10 : decode cX2_isRow 10 = .ok (.goto 4, 3) := by decide +kernel
theorem dX2_isRow_13 : decode cX2_isRow 13 = .ok (.iconst 0, 1) := by decide +kernel
theorem dX2_isRow_14 : decode cX2_isRow 14 = .ok (.ireturn, 1) := by decide +kernel
theorem dX2_isSpeaker_0 : decode cX2_isSpeaker 0 = .ok (.aload_n 0, 1) := by decide +kernel
theorem dX2_isSpeaker_1 : decode cX2_isSpeaker 1 = .ok (.getfield 15, 3) := by decide +kernel
theorem dX2_isSpeaker_4 : decode cX2_isSpeaker 4 = .ok (.iconst (-1), 1) := by decide +kernel
theorem dX2_isSpeaker_5 : decode cX2_isSpeaker 5 = .ok (.if_icmp .eq 16, 3) := by decide +kernel
theorem dX2_isSpeaker_8 : decode cX2_isSpeaker 8 = .ok (.aload_n 0, 1) := by decide +kernel
theorem dX2_isSpeaker_9 : decode cX2_isSpeaker 9 = .ok (.getfield 15, 3) := by decide +kernel
theorem dX2_isSpeaker_12 : decode cX2_isSpeaker 12 = .ok (.bipush 100, 2) := by decide +kernel
theorem dX2_isSpeaker_14 : decode cX2_isSpeaker 14 = .ok (.if_icmp .ge 7, 3) := by decide +kernel
theorem dX2_isSpeaker_17 : decode cX2_isSpeaker 17 = .ok (.iconst 1, 1) := by decide +kernel
theorem dX2_isSpeaker_18 : decode cX2_isSpeaker 18 = .ok (.goto 4, 3) := by decide +kernel
theorem dX2_isSpeaker_21 : decode cX2_isSpeaker 21 = .ok (.iconst 0, 1) := by decide +kernel
theorem dX2_isSpeaker_22 : decode cX2_isSpeaker 22 = .ok (.ireturn, 1) := by decide +kernel
theorem dX2_makeRow_0 : decode cX2_makeRow 0 = .ok (.aload_n 0, 1) := by decide +kernel
theorem dX2_makeRow_1 : decode cX2_makeRow 1 = .ok (.bipush 100, 2) := by decide +kernel
theorem dX2_makeRow_3 : decode cX2_makeRow 3 = .ok (.iload_n 1, 1) := by decide +kernel
theorem dX2_makeRow_4 : decode cX2_makeRow 4 = .ok (.iadd, 1) := by decide +kernel
theorem dX2_makeRow_5 : decode cX2_makeRow 5 = .ok (.putfield 15, 3) := by decide +kernel
theorem dX2_makeRow_8 : decode cX2_makeRow 8 = .ok (.aload_n 0, 1) := by decide +kernel
theorem dX2_makeRow_9 : decode cX2_makeRow 9 = .ok (.iload_n 2, 1) := by decide +kernel
theorem dX2_makeRow_10 : decode cX2_makeRow 10 = .ok (.sipush 160, 3) := by decide +kernel
theorem dX2_makeRow_13 : decode cX2_makeRow 13 = .ok (.invokestatic 22, 3) := by decide +kernel
theorem dX2_makeRow_16 : decode cX2_makeRow 16 = .ok (.putfield 19, 3) := by decide +kernel
theorem dX2_makeRow_19 : decode cX2_makeRow 19 = .ok (.iconst 0, 1) := by decide +kernel
theorem dX2_makeRow_20 : decode cX2_makeRow 20 = .ok (.istore_n 3, 1) := by decide +kernel
theorem dX2_makeRow_21 : decode cX2_makeRow 21 = .ok (.iload_n 3, 1) := by decide +kernel
theorem dX2_makeRow_22 : decode cX2_makeRow 22 = .ok (.aload_n 0, 1) := by decide +kernel
theorem dX2_makeRow_23 : decode cX2_makeRow 23 = .ok (.getfield 19, 3) := by decide +kernel
theorem dX2_makeRow_26 : decode cX2_makeRow 26 = .ok (.if_icmp .ge 16, 3) := by decide +kernel
theorem dX2_makeRow_29 : decode cX2_makeRow 29 = .ok (.aload_n 0, 1) := by decide +kernel
theorem dX2_makeRow_30 : decode cX2_makeRow 30 = .ok (.getfield 9, 3) := by decide +kernel
theorem dX2_makeRow_33 : decode cX2_makeRow 33 = .ok (.iload_n 3, 1) := by decide +kernel
theorem dX2_makeRow_34 : decode cX2_makeRow 34 = .ok (.lconst 0, 1) := by decide +kernel
theorem dX2_makeRow_35 : decode cX2_makeRow 35 = .ok (.lastore, 1) := by decide +kernel
theorem dX2_makeRow_36 : decode cX2_makeRow 36 = .ok (.iinc 3 1, 3) := by decide +kernel
theorem dX2_makeRow_39 : decode cX2_makeRow 39 = .ok (.goto (-18), 3) := by decide +kernel
theorem dX2_makeRow_42 : decode cX2_makeRow 42 = .ok (.return_, 1) := by decide +kernel
theorem dX2_has_0 : decode cX2_has 0 = .ok (.aload_n 0, 1) := by decide +kernel
theorem dX2_has_1 : decode cX2_has 1 = .ok (.invokevirtual 28, 3) := by decide +kernel
theorem dX2_has_4 : decode cX2_has 4 = .ok (.ifCond .eq 19, 3) := by decide +kernel
theorem dX2_has_7 : decode cX2_has 7 = .ok (.iload_n 1, 1) := by decide +kernel
theorem dX2_has_8 : decode cX2_has 8 = .ok (.ifCond .lt 15, 3) := by decide +kernel
theorem dX2_has_11 : decode cX2_has 11 = .ok (.iload_n 1, 1) := by decide +kernel
theorem dX2_has_12 : decode cX2_has 12 = .ok (.aload_n 0, 1) := by decide +kernel
theorem dX2_has_13 : decode cX2_has 13 = .ok (.getfield 19, 3) := by decide +kernel
theorem dX2_has_16 : decode cX2_has 16 = .ok (.if_icmp .ge 7, 3) := by decide +kernel
theorem dX2_has_19 : decode cX2_has 19 = .ok (.iconst 1, 1) := by decide +kernel
theorem dX2_has_20 : decode cX2_has 20 = .ok (.goto 4, 3) := by decide +kernel
theorem dX2_has_23 : decode cX2_has 23 = .ok (.iconst 0, 1) := by decide +kernel
theorem dX2_has_24 : decode cX2_has 24 = .ok (.ireturn, 1) := by decide +kernel
theorem dX2_hasPart_0 : decode cX2_hasPart 0 = .ok (.iload_n 1, 1) := by decide +kernel
theorem dX2_hasPart_1 : decode cX2_hasPart 1 = .ok (.ifCond .lt 25, 3) := by decide +kernel
theorem dX2_hasPart_4 : decode cX2_hasPart 4 = .ok (.iload_n 2, 1) := by decide +kernel
theorem dX2_hasPart_5 : decode cX2_hasPart 5 = .ok (.ifCond .lt 21, 3) := by decide +kernel
theorem dX2_hasPart_8 : decode cX2_hasPart 8 = .ok (.iload_n 1, 1) := by decide +kernel
theorem dX2_hasPart_9 : decode cX2_hasPart 9 = .ok (.i2l, 1) := by decide +kernel
theorem dX2_hasPart_10 : decode cX2_hasPart 10 = .ok (.iload_n 2, 1) := by decide +kernel
theorem dX2_hasPart_11 : decode cX2_hasPart 11 = .ok (.i2l, 1) := by decide +kernel
theorem dX2_hasPart_12 : decode cX2_hasPart 12 = .ok (.ladd, 1) := by decide +kernel
theorem dX2_hasPart_13 : decode cX2_hasPart 13 = .ok (.aload_n 0, 1) := by decide +kernel
theorem dX2_hasPart_14 : decode cX2_hasPart 14 = .ok (.getfield 19, 3) := by decide +kernel
theorem dX2_hasPart_17 : decode cX2_hasPart 17 = .ok (.i2l, 1) := by decide +kernel
theorem dX2_hasPart_18 : decode cX2_hasPart 18 = .ok (.lcmp, 1) := by decide +kernel
theorem dX2_hasPart_19 : decode cX2_hasPart 19 = .ok (.ifCond .gt 7, 3) := by decide +kernel
theorem dX2_hasPart_22 : decode cX2_hasPart 22 = .ok (.iconst 1, 1) := by decide +kernel
theorem dX2_hasPart_23 : decode cX2_hasPart 23 = .ok (.goto 4, 3) := by decide +kernel
theorem dX2_hasPart_26 : decode cX2_hasPart 26 = .ok (.iconst 0, 1) := by decide +kernel
theorem dX2_hasPart_27 : decode cX2_hasPart 27 = .ok (.ireturn, 1) := by decide +kernel
theorem dX2_put_0 : decode cX2_put 0 = .ok (.aload_n 0, 1) := by decide +kernel
theorem dX2_put_1 : decode cX2_put 1 = .ok (.getfield 15, 3) := by decide +kernel
theorem dX2_put_4 : decode cX2_put 4 = .ok (.bipush 100, 2) := by decide +kernel
theorem dX2_put_6 : decode cX2_put 6 = .ok (.isub, 1) := by decide +kernel
theorem dX2_put_7 : decode cX2_put 7 = .ok (.tableswitch 63 0 2 #[25, 38, 51], 25) := by decide +kernel
theorem dX2_put_32 : decode cX2_put 32 = .ok (.aload_n 0, 1) := by decide +kernel
theorem dX2_put_33 : decode cX2_put 33 = .ok (.getfield 9, 3) := by decide +kernel
theorem dX2_put_36 : decode cX2_put 36 = .ok (.iload_n 1, 1) := by decide +kernel
theorem dX2_put_37 : decode cX2_put 37 = .ok (.lload_n 2, 1) := by decide +kernel
theorem dX2_put_38 : decode cX2_put 38 = .ok (.l2i, 1) := by decide +kernel
theorem dX2_put_39 : decode cX2_put 39 = .ok (.i2b, 1) := by decide +kernel
theorem dX2_put_40 : decode cX2_put 40 = .ok (.i2l, 1) := by decide +kernel
theorem dX2_put_41 : decode cX2_put 41 = .ok (.lastore, 1) := by decide +kernel
theorem dX2_put_42 : decode cX2_put 42 = .ok (.goto 35, 3) := by decide +kernel
theorem dX2_put_45 : decode cX2_put 45 = .ok (.aload_n 0, 1) := by decide +kernel
theorem dX2_put_46 : decode cX2_put 46 = .ok (.getfield 9, 3) := by decide +kernel
theorem dX2_put_49 : decode cX2_put 49 = .ok (.iload_n 1, 1) := by decide +kernel
theorem dX2_put_50 : decode cX2_put 50 = .ok (.lload_n 2, 1) := by decide +kernel
theorem dX2_put_51 : decode cX2_put 51 = .ok (.l2i, 1) := by decide +kernel
theorem dX2_put_52 : decode cX2_put 52 = .ok (.i2s, 1) := by decide +kernel
theorem dX2_put_53 : decode cX2_put 53 = .ok (.i2l, 1) := by decide +kernel
theorem dX2_put_54 : decode cX2_put 54 = .ok (.lastore, 1) := by decide +kernel
theorem dX2_put_55 : decode cX2_put 55 = .ok (.goto 22, 3) := by decide +kernel
theorem dX2_put_58 : decode cX2_put 58 = .ok (.aload_n 0, 1) := by decide +kernel
theorem dX2_put_59 : decode cX2_put 59 = .ok (.getfield 9, 3) := by decide +kernel
theorem dX2_put_62 : decode cX2_put 62 = .ok (.iload_n 1, 1) := by decide +kernel
theorem dX2_put_63 : decode cX2_put 63 = .ok (.lload_n 2, 1) := by decide +kernel
theorem dX2_put_64 : decode cX2_put 64 = .ok (.l2i, 1) := by decide +kernel
theorem dX2_put_65 : decode cX2_put 65 = .ok (.i2l, 1) := by decide +kernel
theorem dX2_put_66 : decode cX2_put 66 = .ok (.lastore, 1) := by decide +kernel
theorem dX2_put_67 : decode cX2_put 67 = .ok (.goto 10, 3) := by decide +kernel
theorem dX2_put_70 : decode cX2_put 70 = .ok (.aload_n 0, 1) := by decide +kernel
theorem dX2_put_71 : decode cX2_put 71 = .ok (.getfield 9, 3) := by decide +kernel
theorem dX2_put_74 : decode cX2_put 74 = .ok (.iload_n 1, 1) := by decide +kernel
theorem dX2_put_75 : decode cX2_put 75 = .ok (.lload_n 2, 1) := by decide +kernel
theorem dX2_put_76 : decode cX2_put 76 = .ok (.lastore, 1) := by decide +kernel
theorem dX2_put_77 : decode cX2_put 77 = .ok (.return_, 1) := by decide +kernel
theorem dX2_asInt_0 : decode cX2_asInt 0 = .ok (.aload_n 0, 1) := by decide +kernel
theorem dX2_asInt_1 : decode cX2_asInt 1 = .ok (.getfield 9, 3) := by decide +kernel
theorem dX2_asInt_4 : decode cX2_asInt 4 = .ok (.iload_n 1, 1) := by decide +kernel
theorem dX2_asInt_5 : decode cX2_asInt 5 = .ok (.laload, 1) := by decide +kernel
theorem dX2_asInt_6 : decode cX2_asInt 6 = .ok (.l2i, 1) := by decide +kernel
theorem dX2_asInt_7 : decode cX2_asInt 7 = .ok (.ireturn, 1) := by decide +kernel
theorem dX3_init_0 : decode cX3_init 0 = .ok (.aload_n 0, 1) := by decide +kernel
theorem dX3_init_1 : decode cX3_init 1 = .ok (.invokespecial 3, 3) := by decide +kernel
theorem dX3_init_4 : decode cX3_init 4 = .ok (.aload_n 0, 1) := by decide +kernel
theorem dX3_init_5 : decode cX3_init 5 = .ok (.bipush 6, 2) := by decide +kernel
theorem dX3_init_7 : decode cX3_init 7 = .ok (.newarray .int, 2) := by decide +kernel
theorem dX3_init_9 : decode cX3_init 9 = .ok (.putfield 9, 3) := by decide +kernel
theorem dX3_init_12 : decode cX3_init 12 = .ok (.aload_n 0, 1) := by decide +kernel
theorem dX3_init_13 : decode cX3_init 13 = .ok (.bipush 6, 2) := by decide +kernel
theorem dX3_init_15 : decode cX3_init 15 = .ok (.newarray .int, 2) := by decide +kernel
theorem dX3_init_17 : decode cX3_init 17 = .ok (.putfield 15, 3) := by decide +kernel
theorem dX3_init_20 : decode cX3_init 20 = .ok (.aload_n 0, 1) := by decide +kernel
theorem dX3_init_21 : decode cX3_init 21 = .ok (.bipush 6, 2) := by decide +kernel
theorem dX3_init_23 : decode cX3_init 23 = .ok (.newarray .int, 2) := by decide +kernel
theorem dX3_init_25 : decode cX3_init 25 = .ok (.putfield 18, 3) := by decide +kernel
theorem dX3_init_28 : decode cX3_init 28 = .ok (.aload_n 0, 1) := by decide +kernel
theorem dX3_init_29 : decode cX3_init 29 = .ok (.bipush 6, 2) := by decide +kernel
theorem dX3_init_31 : decode cX3_init 31 = .ok (.newarray .int, 2) := by decide +kernel
theorem dX3_init_33 : decode cX3_init 33 = .ok (.putfield 21, 3) := by decide +kernel
theorem dX3_init_36 : decode cX3_init 36 = .ok (.aload_n 0, 1) := by decide +kernel
theorem dX3_init_37 : decode cX3_init 37 = .ok (.bipush 48, 2) := by decide +kernel
theorem dX3_init_39 : decode cX3_init 39 = .ok (.newarray .int, 2) := by decide +kernel
theorem dX3_init_41 : decode cX3_init 41 = .ok (.putfield 24, 3) := by decide +kernel
theorem dX3_init_44 : decode cX3_init 44 = .ok (.aload_n 0, 1) := by decide +kernel
theorem dX3_init_45 : decode cX3_init 45 = .ok (.bipush 48, 2) := by decide +kernel
theorem dX3_init_47 : decode cX3_init 47 = .ok (.newarray .int, 2) := by decide +kernel
theorem dX3_init_49 : decode cX3_init 49 = .ok (.putfield 27, 3) := by decide +kernel
theorem dX3_init_52 : decode cX3_init 52 = .ok (.aload_n 0, 1) := by decide +kernel
theorem dX3_init_53 : decode cX3_init 53 = .ok (.bipush 48, 2) := by decide +kernel
theorem dX3_init_55 : decode cX3_init 55 = .ok (.newarray .int, 2) := by decide +kernel
theorem dX3_init_57 : decode cX3_init 57 = .ok (.putfield 30, 3) := by decide +kernel
theorem dX3_init_60 : decode cX3_init 60 = .ok (.aload_n 0, 1) := by decide +kernel
theorem dX3_init_61 : decode cX3_init 61 = .ok (.bipush 48, 2) := by decide +kernel
theorem dX3_init_63 : decode cX3_init 63 = .ok (.newarray .long, 2) := by decide +kernel
theorem dX3_init_65 : decode cX3_init 65 = .ok (.putfield 33, 3) := by decide +kernel
theorem dX3_init_68 : decode cX3_init 68 = .ok (.aload_n 0, 1) := by decide +kernel
theorem dX3_init_69 : decode cX3_init 69 = .ok (.iconst 0, 1) := by decide +kernel
theorem dX3_init_70 : decode cX3_init 70 = .ok (.putfield 37, 3) := by decide +kernel
theorem dX3_init_73 : decode cX3_init 73 = .ok (.aload_n 0, 1) := by decide +kernel
theorem dX3_init_74 : decode cX3_init 74 = .ok (.iconst 0, 1) := by decide +kernel
theorem dX3_init_75 : decode cX3_init 75 = .ok (.putfield 41, 3) := by decide +kernel
theorem dX3_init_78 : decode cX3_init 78 = .ok (.aload_n 0, 1) := by decide +kernel
theorem dX3_init_79 : decode cX3_init 79 = .ok (.iconst 0, 1) := by decide +kernel
theorem dX3_init_80 : decode cX3_init 80 = .ok (.putfield 44, 3) := by decide +kernel
theorem dX3_init_83 : decode cX3_init 83 = .ok (.aload_n 0, 1) := by decide +kernel
theorem dX3_init_84 : decode cX3_init 84 = .ok (.lconst 1, 1) := by decide +kernel
theorem dX3_init_85 : decode cX3_init 85 = .ok (.putfield 47, 3) := by decide +kernel
theorem dX3_init_88 : decode cX3_init 88 = .ok (.aload_n 0, 1) := by decide +kernel
theorem dX3_init_89 : decode cX3_init 89 = .ok (.iconst 4, 1) := by decide +kernel
theorem dX3_init_90 : decode cX3_init 90 = .ok (.putfield 51, 3) := by decide +kernel
theorem dX3_init_93 : decode cX3_init 93 = .ok (.aload_n 0, 1) := by decide +kernel
theorem dX3_init_94 : decode cX3_init 94 = .ok (.iconst 2, 1) := by decide +kernel
theorem dX3_init_95 : decode cX3_init 95 = .ok (.putfield 54, 3) := by decide +kernel
theorem dX3_init_98 : decode cX3_init 98 = .ok (.aload_n 0, 1) := by decide +kernel
theorem dX3_init_99 : decode cX3_init 99 = .ok (.iconst 0, 1) := by decide +kernel
theorem dX3_init_100 : decode cX3_init 100 = .ok (.putfield 57, 3) := by decide +kernel
theorem dX3_init_103 : decode cX3_init 103 = .ok (.aload_n 0, 1) := by decide +kernel
theorem dX3_init_104 : decode cX3_init 104 = .ok (.iconst 1, 1) := by decide +kernel
theorem dX3_init_105 : decode cX3_init 105 = .ok (.putfield 60, 3) := by decide +kernel
theorem dX3_init_108 : decode cX3_init 108 = .ok (.aload_n 0, 1) := by decide +kernel
theorem dX3_init_109 : decode cX3_init 109 = .ok (.iconst (-1), 1) := by decide +kernel
theorem dX3_init_110 : decode cX3_init 110 = .ok (.putfield 63, 3) := by decide +kernel
theorem dX3_init_113 : decode cX3_init 113 = .ok (.return_, 1) := by decide +kernel
theorem dX3_takeOver_0 : decode cX3_takeOver 0 = .ok (.aload_n 1, 1) := by decide +kernel
theorem dX3_takeOver_1 : decode cX3_takeOver 1 = .ok (.getfield 9, 3) := by decide +kernel
theorem dX3_takeOver_4 : decode cX3_takeOver 4 = .ok (.iconst 0, 1) := by decide +kernel
theorem dX3_takeOver_5 : decode cX3_takeOver 5 = .ok (.aload_n 0, 1) := by decide +kernel
theorem dX3_takeOver_6 : decode cX3_takeOver 6 = .ok (.getfield 9, 3) := by decide +kernel
theorem dX3_takeOver_9 : decode cX3_takeOver 9 = .ok (.iconst 0, 1) := by decide +kernel
theorem dX3_takeOver_10 : decode cX3_takeOver 10 = .ok (.bipush 6, 2) := by decide +kernel
theorem dX3_takeOver_12 : decode cX3_takeOver 12 = .ok (.invokestatic 66, 3) := by decide +kernel
theorem dX3_takeOver_15 : decode cX3_takeOver 15 = .ok (.aload_n 1, 1) := by decide +kernel
theorem dX3_takeOver_16 : decode cX3_takeOver 16 = .ok (.getfield 15, 3) := by decide +kernel
theorem dX3_takeOver_19 : decode cX3_takeOver 19 = .ok (.iconst 0, 1) := by decide +kernel
theorem dX3_takeOver_20 : decode cX3_takeOver 20 = .ok (.aload_n 0, 1) := by decide +kernel
theorem dX3_takeOver_21 : decode cX3_takeOver 21 = .ok (.getfield 15, 3) := by decide +kernel
theorem dX3_takeOver_24 : decode cX3_takeOver 24 = .ok (.iconst 0, 1) := by decide +kernel
theorem dX3_takeOver_25 : decode cX3_takeOver 25 = .ok (.bipush 6, 2) := by decide +kernel
theorem dX3_takeOver_27 : decode cX3_takeOver 27 = .ok (.invokestatic 66, 3) := by decide +kernel
theorem dX3_takeOver_30 : decode cX3_takeOver 30 = .ok (.aload_n 1, 1) := by decide +kernel
theorem dX3_takeOver_31 : decode cX3_takeOver 31 = .ok (.getfield 18, 3) := by decide +kernel
theorem dX3_takeOver_34 : decode cX3_takeOver 34 = .ok (.iconst 0, 1) := by decide +kernel
theorem dX3_takeOver_35 : decode cX3_takeOver 35 = .ok (.aload_n 0, 1) := by decide +kernel
theorem dX3_takeOver_36 : decode cX3_takeOver 36 = .ok (.getfield 18, 3) := by decide +kernel
theorem dX3_takeOver_39 : decode cX3_takeOver 39 = .ok (.iconst 0, 1) := by decide +kernel
theorem dX3_takeOver_40 : decode cX3_takeOver 40 = .ok (.bipush 6, 2) := by decide +kernel
theorem dX3_takeOver_42 : decode cX3_takeOver 42 = .ok (.invokestatic 66, 3) := by decide +kernel
theorem dX3_takeOver_45 : decode cX3_takeOver 45 = .ok (.aload_n 1, 1) := by decide +kernel
theorem dX3_takeOver_46 : decode cX3_takeOver 46 = .ok (.getfield 21, 3) := by decide +kernel
theorem dX3_takeOver_49 : decode cX3_takeOver 49 = .ok (.iconst 0, 1) := by decide +kernel
theorem dX3_takeOver_50 : decode cX3_takeOver 50 = .ok (.aload_n 0, 1) := by decide +kernel
theorem dX3_takeOver_51 : decode cX3_takeOver 51 = .ok (.getfield 21, 3) := by decide +kernel
theorem dX3_takeOver_54 : decode cX3_takeOver 54 = .ok (.iconst 0, 1) := by decide +kernel
theorem dX3_takeOver_55 : decode cX3_takeOver 55 = .ok (.bipush 6, 2) := by decide +kernel
theorem dX3_takeOver_57 : decode cX3_takeOver 57 = .ok (.invokestatic 66, 3) := by decide +kernel
theorem dX3_takeOver_60 : decode cX3_takeOver 60 = .ok (.aload_n 1, 1) := by decide +kernel
theorem dX3_takeOver_61 : decode cX3_takeOver 61 = .ok (.getfield 24, 3) := by decide +kernel
theorem dX3_takeOver_64 : decode cX3_takeOver 64 = .ok (.iconst 0, 1) := by decide +kernel
theorem dX3_takeOver_65 : decode cX3_takeOver 65 = .ok (.aload_n 0, 1) := by decide +kernel
theorem dX3_takeOver_66 : decode cX3_takeOver 66 = .ok (.getfield 24, 3) := by decide +kernel
theorem dX3_takeOver_69 : decode cX3_takeOver 69 = .ok (.iconst 0, 1) := by decide +kernel
theorem dX3_takeOver_70 : decode cX3_takeOver 70 = .ok (.bipush 48, 2) := by decide +kernel
theorem dX3_takeOver_72 : decode cX3_takeOver 72 = .ok (.invokestatic 66, 3) := by decide +kernel
theorem dX3_takeOver_75 : decode cX3_takeOver 75 = .ok (.aload_n 1, 1) := by decide +kernel
theorem dX3_takeOver_76 : decode cX3_takeOver 76 = .ok (.getfield 27, 3) := by decide +kernel
theorem dX3_takeOver_79 : decode cX3_takeOver 79 = .ok (.iconst 0, 1) := by decide +kernel
theorem dX3_takeOver_80 : decode cX3_takeOver 80 = .ok (.aload_n 0, 1) := by decide +kernel
theorem dX3_takeOver_81 : decode cX3_takeOver 81 = .ok (.getfield 27, 3) := by decide +kernel
theorem dX3_takeOver_84 : decode cX3_takeOver 84 = .ok (.iconst 0, 1) := by decide +kernel
theorem dX3_takeOver_85 : decode cX3_takeOver 85 = .ok (.bipush 48, 2) := by decide +kernel
theorem dX3_takeOver_87 : decode cX3_takeOver 87 = .ok (.invokestatic 66, 3) := by decide +kernel
theorem dX3_takeOver_90 : decode cX3_takeOver 90 = .ok (.aload_n 1, 1) := by decide +kernel
theorem dX3_takeOver_91 : decode cX3_takeOver 91 = .ok (.getfield 30, 3) := by decide +kernel
theorem dX3_takeOver_94 : decode cX3_takeOver 94 = .ok (.iconst 0, 1) := by decide +kernel
theorem dX3_takeOver_95 : decode cX3_takeOver 95 = .ok (.aload_n 0, 1) := by decide +kernel
theorem dX3_takeOver_96 : decode cX3_takeOver 96 = .ok (.getfield 30, 3) := by decide +kernel
theorem dX3_takeOver_99 : decode cX3_takeOver 99 = .ok (.iconst 0, 1) := by decide +kernel
theorem dX3_takeOver_100 : decode cX3_takeOver 100 = .ok (.bipush 48, 2) := by decide +kernel
theorem dX3_takeOver_102 : decode cX3_takeOver 102 = .ok (.invokestatic 66, 3) := by decide +kernel
theorem dX3_takeOver_105 : decode cX3_takeOver 105 = .ok (.aload_n 1, 1) := by decide +kernel
theorem dX3_takeOver_106 : decode cX3_takeOver 106 = .ok (.getfield 33, 3) := by decide +kernel
theorem dX3_takeOver_109 : decode cX3_takeOver 109 = .ok (.iconst 0, 1) := by decide +kernel
theorem dX3_takeOver_110 : decode cX3_takeOver 110 = .ok (.aload_n 0, 1) := by decide +kernel
theorem dX3_takeOver_111 : decode cX3_takeOver 111 = .ok (.getfield 33, 3) := by decide +kernel
theorem dX3_takeOver_114 : decode cX3_takeOver 114 = .ok (.iconst 0, 1) := by decide +kernel
theorem dX3_takeOver_115 : decode cX3_takeOver 115 = .ok (.bipush 48, 2) := by decide +kernel
theorem dX3_takeOver_117 : decode cX3_takeOver 117 = .ok (.invokestatic 66, 3) := by decide +kernel
theorem dX3_takeOver_120 : decode cX3_takeOver 120 = .ok (.aload_n 0, 1) := by decide +kernel
theorem dX3_takeOver_121 : decode cX3_takeOver 121 = .ok (.aload_n 1, 1) := by decide +kernel
theorem dX3_takeOver_122 : decode cX3_takeOver 122 = .ok (.getfield 37, 3) := by decide +kernel
theorem dX3_takeOver_125 : decode cX3_takeOver 125 = .ok (.putfield 37, 3) := by decide +kernel
theorem dX3_takeOver_128 : decode cX3_takeOver 128 = .ok (.aload_n 0, 1) := by decide +kernel
theorem dX3_takeOver_129 : decode cX3_takeOver 129 = .ok (.aload_n 1, 1) := by decide +kernel
theorem dX3_takeOver_130 : decode cX3_takeOver 130 = .ok (.getfield 41, 3) := by decide +kernel
theorem dX3_takeOver_133 : decode cX3_takeOver 133 = .ok (.putfield 41, 3) := by decide +kernel
theorem dX3_takeOver_136 : decode cX3_takeOver 136 = .ok (.aload_n 0, 1) := by decide +kernel
theorem dX3_takeOver_137 : decode cX3_takeOver 137 = .ok (.aload_n 1, 1) := by decide +kernel
theorem dX3_takeOver_138 : decode cX3_takeOver 138 = .ok (.getfield 44, 3) := by decide +kernel
theorem dX3_takeOver_141 : decode cX3_takeOver 141 = .ok (.putfield 44, 3) := by decide +kernel
theorem dX3_takeOver_144 : decode cX3_takeOver 144 = .ok (.aload_n 0, 1) := by decide +kernel
theorem dX3_takeOver_145 : decode cX3_takeOver 145 = .ok (.aload_n 1, 1) := by decide +kernel
theorem dX3_takeOver_146 : decode cX3_takeOver 146 = .ok (.getfield 47, 3) := by decide +kernel
theorem dX3_takeOver_149 : decode cX3_takeOver 149 = .ok (.putfield 47, 3) := by decide +kernel
theorem dX3_takeOver_152 : decode cX3_takeOver 152 = .ok (.aload_n 0, 1) := by decide +kernel
theorem dX3_takeOver_153 : decode cX3_takeOver 153 = .ok (.aload_n 1, 1) := by decide +kernel
theorem dX3_takeOver_154 : decode cX3_takeOver 154 = .ok (.getfield 51, 3) := by decide +kernel
theorem dX3_takeOver_157 : decode cX3_takeOver 157 = .ok (.putfield 51, 3) := by decide +kernel
theorem dX3_takeOver_160 : decode cX3_takeOver 160 = .ok (.aload_n 0, 1) := by decide +kernel
theorem dX3_takeOver_161 : decode cX3_takeOver 161 = .ok (.aload_n 1, 1) := by decide +kernel
theorem dX3_takeOver_162 : decode cX3_takeOver 162 = .ok (.getfield 54, 3) := by decide +kernel
theorem dX3_takeOver_165 : decode cX3_takeOver 165 = .ok (.putfield 54, 3) := by decide +kernel
theorem dX3_takeOver_168 : decode cX3_takeOver 168 = .ok (.aload_n 0, 1) := by decide +kernel
theorem dX3_takeOver_169 : decode cX3_takeOver 169 = .ok (.aload_n 1, 1) := by decide +kernel
theorem dX3_takeOver_170 : decode cX3_takeOver 170 = .ok (.getfield 57, 3) := by decide +kernel
theorem dX3_takeOver_173 : decode cX3_takeOver 173 = .ok (.putfield 57, 3) := by decide +kernel
theorem dX3_takeOver_176 : decode cX3_takeOver 176 = .ok (.aload_n 0, 1) := by decide +kernel
theorem dX3_takeOver_177 : decode cX3_takeOver 177 = .ok (.aload_n 1, 1) := by decide +kernel
theorem dX3_takeOver_178 : decode cX3_takeOver 178 = .ok (.getfield 60, 3) := by decide +kernel
theorem dX3_takeOver_181 : decode cX3_takeOver 181 = .ok (.putfield 60, 3) := by decide +kernel
theorem dX3_takeOver_184 : decode cX3_takeOver 184 = .ok (.aload_n 0, 1) := by decide +kernel
theorem dX3_takeOver_185 : decode cX3_takeOver 185 = .ok (.aload_n 1, 1) := by decide +kernel
theorem dX3_takeOver_186 : decode cX3_takeOver 186 = .ok (.getfield 63, 3) := by decide +kernel
theorem dX3_takeOver_189 : decode cX3_takeOver 189 = .ok (.putfield 63, 3) := by decide +kernel
theorem dX3_takeOver_192 : decode cX3_takeOver 192 = .ok (.return_, 1) := by decide +kernel
theorem dX3_isFact_0 : decode cX3_isFact 0 = .ok (.iload_n 1, 1) := by decide +kernel
theorem dX3_isFact_1 : decode cX3_isFact 1 = .ok (.ifCond .lt 15, 3) := by decide +kernel
theorem dX3_isFact_4 : decode cX3_isFact 4 = .ok (.iload_n 1, 1) := by decide +kernel
theorem dX3_isFact_5 : decode cX3_isFact 5 = .ok (.aload_n 0, 1) := by decide +kernel
theorem dX3_isFact_6 : decode cX3_isFact 6 = .ok (.getfield 37, 3) := by decide +kernel
theorem dX3_isFact_9 : decode cX3_isFact 9 = .ok (.if_icmp .ge 7, 3) := by decide +kernel
theorem dX3_isFact_12 : decode cX3_isFact 12 = .ok (.iconst 1, 1) := by decide +kernel
theorem dX3_isFact_13 : decode cX3_isFact 13 = .ok (.goto 4, 3) := by decide +kernel
theorem dX3_isFact_16 : decode cX3_isFact 16 = .ok (.iconst 0, 1) := by decide +kernel
theorem dX3_isFact_17 : decode cX3_isFact 17 = .ok (.ireturn, 1) := by decide +kernel
theorem dX3_isSpeaker_0 : decode cX3_isSpeaker 0 = .ok (.iload_n 1, 1) := by decide +kernel
theorem dX3_isSpeaker_1 : decode cX3_isSpeaker 1 = .ok (.ifCond .lt 15, 3) := by decide +kernel
theorem dX3_isSpeaker_4 : decode cX3_isSpeaker 4 = .ok (.iload_n 1, 1) := by decide +kernel
theorem dX3_isSpeaker_5 : decode cX3_isSpeaker 5 = .ok (.aload_n 0, 1) := by decide +kernel
theorem dX3_isSpeaker_6 : decode cX3_isSpeaker 6 = .ok (.getfield 41, 3) := by decide +kernel
theorem dX3_isSpeaker_9 : decode cX3_isSpeaker 9 = .ok (.if_icmp .ge 7, 3) := by decide +kernel
theorem dX3_isSpeaker_12 : decode cX3_isSpeaker 12 = .ok (.iconst 1, 1) := by decide +kernel
theorem dX3_isSpeaker_13 : decode cX3_isSpeaker 13 = .ok (.goto 4, 3) := by decide +kernel
theorem dX3_isSpeaker_16 : decode cX3_isSpeaker 16 = .ok (.iconst 0, 1) := by decide +kernel
theorem dX3_isSpeaker_17 : decode cX3_isSpeaker 17 = .ok (.ireturn, 1) := by decide +kernel
theorem dX3_isWorld_0 : decode cX3_isWorld 0 = .ok (.iload_n 1, 1) := by decide +kernel
theorem dX3_isWorld_1 : decode cX3_isWorld 1 = .ok (.ifCond .lt 17, 3) := by decide +kernel
theorem dX3_isWorld_4 : decode cX3_isWorld 4 = .ok (.iload_n 1, 1) := by decide +kernel
theorem dX3_isWorld_5 : decode cX3_isWorld 5 = .ok (.iconst 1, 1) := by decide +kernel
theorem dX3_isWorld_6 : decode cX3_isWorld 6 = .ok (.aload_n 0, 1) := by decide +kernel
theorem dX3_isWorld_7 : decode cX3_isWorld 7 = .ok (.getfield 37, 3) := by decide +kernel
theorem dX3_isWorld_10 : decode cX3_isWorld 10 = .ok (.ishl, 1) := by decide +kernel
theorem dX3_isWorld_11 : decode cX3_isWorld 11 = .ok (.if_icmp .ge 7, 3) := by decide +kernel
theorem dX3_isWorld_14 : decode cX3_isWorld 14 = .ok (.iconst 1, 1) := by decide +kernel
theorem dX3_isWorld_15 : decode cX3_isWorld 15 = .ok (.goto 4, 3) := by decide +kernel
theorem dX3_isWorld_18 : decode cX3_isWorld 18 = .ok (.iconst 0, 1) := by decide +kernel
theorem dX3_isWorld_19 : decode cX3_isWorld 19 = .ok (.ireturn, 1) := by decide +kernel
theorem dX3_isFull_0 : decode cX3_isFull 0 = .ok (.aload_n 0, 1) := by decide +kernel
theorem dX3_isFull_1 : decode cX3_isFull 1 = .ok (.getfield 21, 3) := by decide +kernel
theorem dX3_isFull_4 : decode cX3_isFull 4 = .ok (.iload_n 1, 1) := by decide +kernel
theorem dX3_isFull_5 : decode cX3_isFull 5 = .ok (.iaload, 1) := by decide +kernel
theorem dX3_isFull_6 : decode cX3_isFull 6 = .ok (.aload_n 0, 1) := by decide +kernel
theorem dX3_isFull_7 : decode cX3_isFull 7 = .ok (.getfield 51, 3) := by decide +kernel
theorem dX3_isFull_10 : decode cX3_isFull 10 = .ok (.if_icmp .lt 7, 3) := by decide +kernel
theorem dX3_isFull_13 : decode cX3_isFull 13 = .ok (.iconst 1, 1) := by decide +kernel
theorem dX3_isFull_14 : decode cX3_isFull 14 = .ok (.goto 4, 3) := by decide +kernel
theorem dX3_isFull_17 : decode cX3_isFull 17 = .ok (.iconst 0, 1) := by decide +kernel
theorem dX3_isFull_18 : decode cX3_isFull 18 = .ok (.ireturn, 1) := by decide +kernel
theorem dX3_isFree_0 : decode cX3_isFree 0 = .ok (.aload_n 0, 1) := by decide +kernel
theorem dX3_isFree_1 : decode cX3_isFree 1 = .ok (.getfield 15, 3) := by decide +kernel
theorem dX3_isFree_4 : decode cX3_isFree 4 = .ok (.iload_n 1, 1) := by decide +kernel
theorem dX3_isFree_5 : decode cX3_isFree 5 = .ok (.iaload, 1) := by decide +kernel
theorem dX3_isFree_6 : decode cX3_isFree 6 = .ok (.ifCond .eq 14, 3) := by decide +kernel
theorem dX3_isFree_9 : decode cX3_isFree 9 = .ok (.aload_n 0, 1) := by decide +kernel
theorem dX3_isFree_10 : decode cX3_isFree 10 = .ok (.getfield 15, 3) := by decide +kernel
theorem dX3_isFree_13 : decode cX3_isFree 13 = .ok (.iload_n 1, 1) := by decide +kernel
theorem dX3_isFree_14 : decode cX3_isFree 14 = .ok (.iaload, 1) := by decide +kernel
theorem dX3_isFree_15 : decode cX3_isFree 15 = .ok (.bipush 6, 2) := by decide +kernel
theorem dX3_isFree_17 : decode cX3_isFree 17 = .ok (.if_icmp .ne 7, 3) := by decide +kernel
theorem dX3_isFree_20 : decode cX3_isFree 20 = .ok (.iconst 1, 1) := by decide +kernel
theorem dX3_isFree_21 : decode cX3_isFree 21 = .ok (.goto 4, 3) := by decide +kernel
theorem dX3_isFree_24 : decode cX3_isFree 24 = .ok (.iconst 0, 1) := by decide +kernel
theorem dX3_isFree_25 : decode cX3_isFree 25 = .ok (.ireturn, 1) := by decide +kernel
theorem dX3_addFact_0 : decode cX3_addFact 0 = .ok (.aload_n 0, 1) := by decide +kernel
theorem dX3_addFact_1 : decode cX3_addFact 1 = .ok (.getfield 37, 3) := by decide +kernel
theorem dX3_addFact_4 : decode cX3_addFact 4 = .ok (.bipush 6, 2) := by decide +kernel
theorem dX3_addFact_6 : decode cX3_addFact 6 = .ok (.if_icmp .ge 43, 3) := by decide +kernel
theorem dX3_addFact_9 : decode cX3_addFact 9 = .ok (.aload_n 0, 1) := by decide +kernel
theorem dX3_addFact_10 : decode cX3_addFact 10 = .ok (.getfield 9, 3) := by decide +kernel
theorem dX3_addFact_13 : decode cX3_addFact 13 = .ok (.aload_n 0, 1) := by decide +kernel
theorem dX3_addFact_14 : decode cX3_addFact 14 = .ok (.getfield 37, 3) := by decide +kernel
theorem dX3_addFact_17 : decode cX3_addFact 17 = .ok (.iload_n 1, 1) := by decide +kernel
theorem dX3_addFact_18 : decode cX3_addFact 18 = .ok (.iastore, 1) := by decide +kernel
theorem dX3_addFact_19 : decode cX3_addFact 19 = .ok (.aload_n 0, 1) := by decide +kernel
theorem dX3_addFact_20 : decode cX3_addFact 20 = .ok (.dup, 1) := by decide +kernel
theorem dX3_addFact_21 : decode cX3_addFact 21 = .ok (.getfield 47, 3) := by decide +kernel
theorem dX3_addFact_24 : decode cX3_addFact 24 = .ok (.aload_n 0, 1) := by decide +kernel
theorem dX3_addFact_25 : decode cX3_addFact 25 = .ok (.getfield 47, 3) := by decide +kernel
theorem dX3_addFact_28 : decode cX3_addFact 28 = .ok (.iconst 1, 1) := by decide +kernel
theorem dX3_addFact_29 : decode cX3_addFact 29 = .ok (.aload_n 0, 1) := by decide +kernel
theorem dX3_addFact_30 : decode cX3_addFact 30 = .ok (.getfield 37, 3) := by decide +kernel
theorem dX3_addFact_33 : decode cX3_addFact 33 = .ok (.ishl, 1) := by decide +kernel
theorem dX3_addFact_34 : decode cX3_addFact 34 = .ok (.lshl, 1) := by decide +kernel
theorem dX3_addFact_35 : decode cX3_addFact 35 = .ok (.lor, 1) := by decide +kernel
theorem dX3_addFact_36 : decode cX3_addFact 36 = .ok (.putfield 47, 3) := by decide +kernel
theorem dX3_addFact_39 : decode cX3_addFact 39 = .ok (.aload_n 0, 1) := by decide +kernel
theorem dX3_addFact_40 : decode cX3_addFact 40 = .ok (.dup, 1) := by decide +kernel
theorem dX3_addFact_41 : decode cX3_addFact 41 = .ok (.getfield 37, 3) := by decide +kernel
theorem dX3_addFact_44 : decode cX3_addFact 44 = .ok (.iconst 1, 1) := by decide +kernel
theorem dX3_addFact_45 : decode cX3_addFact 45 = .ok (.iadd, 1) := by decide +kernel
theorem dX3_addFact_46 : decode cX3_addFact 46 = .ok (.putfield 37, 3) := by decide +kernel
theorem dX3_addFact_49 : decode cX3_addFact 49 = .ok (.return_, 1) := by decide +kernel
theorem dX3_addSpeaker_0 : decode cX3_addSpeaker 0 = .ok (.aload_n 0, 1) := by decide +kernel
theorem dX3_addSpeaker_1 : decode cX3_addSpeaker 1 = .ok (.getfield 41, 3) := by decide +kernel
theorem dX3_addSpeaker_4 : decode cX3_addSpeaker 4 = .ok (.bipush 6, 2) := by decide +kernel
theorem dX3_addSpeaker_6 : decode cX3_addSpeaker 6 = .ok (.if_icmp .ge 43, 3) := by decide +kernel
theorem dX3_addSpeaker_9 : decode cX3_addSpeaker 9 = .ok (.aload_n 0, 1) := by decide +kernel
theorem dX3_addSpeaker_10 : decode cX3_addSpeaker 10 = .ok (.getfield 15, 3) := by decide +kernel
theorem dX3_addSpeaker_13 : decode cX3_addSpeaker 13 = .ok (.aload_n 0, 1) := by decide +kernel
theorem dX3_addSpeaker_14 : decode cX3_addSpeaker 14 = .ok (.getfield 41, 3) := by decide +kernel
theorem dX3_addSpeaker_17 : decode cX3_addSpeaker 17 = .ok (.iload_n 1, 1) := by decide +kernel
theorem dX3_addSpeaker_18 : decode cX3_addSpeaker 18 = .ok (.iastore, 1) := by decide +kernel
theorem dX3_addSpeaker_19 : decode cX3_addSpeaker 19 = .ok (.aload_n 0, 1) := by decide +kernel
theorem dX3_addSpeaker_20 : decode cX3_addSpeaker 20 = .ok (.getfield 18, 3) := by decide +kernel
theorem dX3_addSpeaker_23 : decode cX3_addSpeaker 23 = .ok (.aload_n 0, 1) := by decide +kernel
theorem dX3_addSpeaker_24 : decode cX3_addSpeaker 24 = .ok (.getfield 41, 3) := by decide +kernel
theorem dX3_addSpeaker_27 : decode cX3_addSpeaker 27 = .ok (.iload_n 2, 1) := by decide +kernel
theorem dX3_addSpeaker_28 : decode cX3_addSpeaker 28 = .ok (.iastore, 1) := by decide +kernel
theorem dX3_addSpeaker_29 : decode cX3_addSpeaker 29 = .ok (.aload_n 0, 1) := by decide +kernel
theorem dX3_addSpeaker_30 : decode cX3_addSpeaker 30 = .ok (.getfield 21, 3) := by decide +kernel
theorem dX3_addSpeaker_33 : decode cX3_addSpeaker 33 = .ok (.aload_n 0, 1) := by decide +kernel
theorem dX3_addSpeaker_34 : decode cX3_addSpeaker 34 = .ok (.getfield 41, 3) := by decide +kernel
theorem dX3_addSpeaker_37 : decode cX3_addSpeaker 37 = .ok (.iconst 0, 1) := by decide +kernel
theorem dX3_addSpeaker_38 : decode cX3_addSpeaker 38 = .ok (.iastore, 1) := by decide +kernel
theorem dX3_addSpeaker_39 : decode cX3_addSpeaker 39 = .ok (.aload_n 0, 1) := by decide +kernel
theorem dX3_addSpeaker_40 : decode cX3_addSpeaker 40 = .ok (.dup, 1) := by decide +kernel
theorem dX3_addSpeaker_41 : decode cX3_addSpeaker 41 = .ok (.getfield 41, 3) := by decide +kernel
theorem dX3_addSpeaker_44 : decode cX3_addSpeaker 44 = .ok (.iconst 1, 1) := by decide +kernel
theorem dX3_addSpeaker_45 : decode cX3_addSpeaker 45 = .ok (.iadd, 1) := by decide +kernel
theorem dX3_addSpeaker_46 : decode cX3_addSpeaker 46 = .ok (.putfield 41, 3) := by decide +kernel
theorem dX3_addSpeaker_49 : decode cX3_addSpeaker 49 = .ok (.return_, 1) := by decide +kernel
theorem dX3_put_0 : decode cX3_put 0 = .ok (.aload_n 0, 1) := by decide +kernel
theorem dX3_put_1 : decode cX3_put 1 = .ok (.iload_n 1, 1) := by decide +kernel
theorem dX3_put_2 : decode cX3_put 2 = .ok (.bipush 100, 2) := by decide +kernel
theorem dX3_put_4 : decode cX3_put 4 = .ok (.iload_n 1, 1) := by decide +kernel
theorem dX3_put_5 : decode cX3_put 5 = .ok (.imul, 1) := by decide +kernel
theorem dX3_put_6 : decode cX3_put 6 = .ok (.bipush 10, 2) := by decide +kernel
theorem dX3_put_8 : decode cX3_put 8 = .ok (.iload_n 2, 1) := by decide +kernel
theorem dX3_put_9 : decode cX3_put 9 = .ok (.imul, 1) := by decide +kernel
theorem dX3_put_10 : decode cX3_put 10 = .ok (.iadd, 1) := by decide +kernel
theorem dX3_put_11 : decode cX3_put 11 = .ok (.iload_n 3, 1) := by decide +kernel
theorem dX3_put_12 : decode cX3_put 12 = .ok (.ifCond .eq 7, 3) := by decide +kernel
theorem dX3_put_15 : decode cX3_put 15 = .ok (.iconst 1, 1) := by decide +kernel
theorem dX3_put_16 : decode cX3_put 16 = .ok (.goto 4, 3) := by decide +kernel
theorem dX3_put_19 : decode cX3_put 19 = .ok (.iconst 0, 1) := by decide +kernel
theorem dX3_put_20 : decode cX3_put 20 = .ok (.iadd, 1) := by decide +kernel
theorem dX3_put_21 : decode cX3_put 21 = .ok (.iload_n 2, 1) := by decide +kernel
theorem dX3_put_22 : decode cX3_put 22 = .ok (.iload_n 3, 1) := by decide +kernel
theorem dX3_put_23 : decode cX3_put 23 = .ok (.invokestatic 72, 3) := by decide +kernel
theorem dX3_put_26 : decode cX3_put 26 = .ok (.invokevirtual 76, 3) := by decide +kernel
theorem dX3_put_29 : decode cX3_put 29 = .ok (.return_, 1) := by decide +kernel
theorem dX3_putTrueIn_0 : decode cX3_putTrueIn 0 = .ok (.aload_n 0, 1) := by decide +kernel
theorem dX3_putTrueIn_1 : decode cX3_putTrueIn 1 = .ok (.getfield 44, 3) := by decide +kernel
theorem dX3_putTrueIn_4 : decode cX3_putTrueIn 4 = .ok (.bipush 48, 2) := by decide +kernel
theorem dX3_putTrueIn_6 : decode cX3_putTrueIn 6 = .ok (.if_icmp .ge 68, 3) := by decide +kernel
theorem dX3_putTrueIn_9 : decode cX3_putTrueIn 9 = .ok (.aload_n 0, 1) := by decide +kernel
theorem dX3_putTrueIn_10 : decode cX3_putTrueIn 10 = .ok (.getfield 24, 3) := by decide +kernel
theorem dX3_putTrueIn_13 : decode cX3_putTrueIn 13 = .ok (.aload_n 0, 1) := by decide +kernel
theorem dX3_putTrueIn_14 : decode cX3_putTrueIn 14 = .ok (.getfield 44, 3) := by decide +kernel
theorem dX3_putTrueIn_17 : decode cX3_putTrueIn 17 = .ok (.iload_n 1, 1) := by decide +kernel
theorem dX3_putTrueIn_18 : decode cX3_putTrueIn 18 = .ok (.iastore, 1) := by decide +kernel
theorem dX3_putTrueIn_19 : decode cX3_putTrueIn 19 = .ok (.aload_n 0, 1) := by decide +kernel
theorem dX3_putTrueIn_20 : decode cX3_putTrueIn 20 = .ok (.getfield 27, 3) := by decide +kernel
theorem dX3_putTrueIn_23 : decode cX3_putTrueIn 23 = .ok (.aload_n 0, 1) := by decide +kernel
theorem dX3_putTrueIn_24 : decode cX3_putTrueIn 24 = .ok (.getfield 44, 3) := by decide +kernel
theorem dX3_putTrueIn_27 : decode cX3_putTrueIn 27 = .ok (.aload_n 0, 1) := by decide +kernel
theorem dX3_putTrueIn_28 : decode cX3_putTrueIn 28 = .ok (.getfield 21, 3) := by decide +kernel
theorem dX3_putTrueIn_31 : decode cX3_putTrueIn 31 = .ok (.iload_n 1, 1) := by decide +kernel
theorem dX3_putTrueIn_32 : decode cX3_putTrueIn 32 = .ok (.iaload, 1) := by decide +kernel
theorem dX3_putTrueIn_33 : decode cX3_putTrueIn 33 = .ok (.iastore, 1) := by decide +kernel
theorem dX3_putTrueIn_34 : decode cX3_putTrueIn 34 = .ok (.aload_n 0, 1) := by decide +kernel
theorem dX3_putTrueIn_35 : decode cX3_putTrueIn 35 = .ok (.getfield 30, 3) := by decide +kernel
theorem dX3_putTrueIn_38 : decode cX3_putTrueIn 38 = .ok (.aload_n 0, 1) := by decide +kernel
theorem dX3_putTrueIn_39 : decode cX3_putTrueIn 39 = .ok (.getfield 44, 3) := by decide +kernel
theorem dX3_putTrueIn_42 : decode cX3_putTrueIn 42 = .ok (.iload_n 2, 1) := by decide +kernel
theorem dX3_putTrueIn_43 : decode cX3_putTrueIn 43 = .ok (.iastore, 1) := by decide +kernel
theorem dX3_putTrueIn_44 : decode cX3_putTrueIn 44 = .ok (.aload_n 0, 1) := by decide +kernel
theorem dX3_putTrueIn_45 : decode cX3_putTrueIn 45 = .ok (.getfield 33, 3) := by decide +kernel
theorem dX3_putTrueIn_48 : decode cX3_putTrueIn 48 = .ok (.aload_n 0, 1) := by decide +kernel
theorem dX3_putTrueIn_49 : decode cX3_putTrueIn 49 = .ok (.getfield 44, 3) := by decide +kernel
theorem dX3_putTrueIn_52 : decode cX3_putTrueIn 52 = .ok (.lload_n 3, 1) := by decide +kernel
theorem dX3_putTrueIn_53 : decode cX3_putTrueIn 53 = .ok (.lastore, 1) := by decide +kernel
theorem dX3_putTrueIn_54 : decode cX3_putTrueIn 54 = .ok (.aload_n 0, 1) := by decide +kernel
theorem dX3_putTrueIn_55 : decode cX3_putTrueIn 55 = .ok (.getfield 21, 3) := by decide +kernel
theorem dX3_putTrueIn_58 : decode cX3_putTrueIn 58 = .ok (.iload_n 1, 1) := by decide +kernel
theorem dX3_putTrueIn_59 : decode cX3_putTrueIn 59 = .ok (.dup2, 1) := by decide +kernel
theorem dX3_putTrueIn_60 : decode cX3_putTrueIn 60 = .ok (.iaload, 1) := by decide +kernel
theorem dX3_putTrueIn_61 : decode cX3_putTrueIn 61 = .ok (.iconst 1, 1) := by decide +kernel
theorem dX3_putTrueIn_62 : decode cX3_putTrueIn 62 = .ok (.iadd, 1) := by decide +kernel
theorem dX3_putTrueIn_63 : decode cX3_putTrueIn 63 = .ok (.iastore, 1) := by decide +kernel
theorem dX3_putTrueIn_64 : decode cX3_putTrueIn 64 = .ok (.aload_n 0, 1) := by decide +kernel
theorem dX3_putTrueIn_65 : decode cX3_putTrueIn 65 = .ok (.dup, 1) := by decide +kernel
theorem dX3_putTrueIn_66 : decode cX3_putTrueIn 66 = .ok (.getfield 44, 3) := by decide +kernel
theorem dX3_putTrueIn_69 : decode cX3_putTrueIn 69 = .ok (.iconst 1, 1) := by decide +kernel
theorem dX3_putTrueIn_70 : decode cX3_putTrueIn 70 = .ok (.iadd, 1) := by decide +kernel
theorem dX3_putTrueIn_71 : decode cX3_putTrueIn 71 = .ok (.putfield 44, 3) := by decide +kernel
theorem dX3_putTrueIn_74 : decode cX3_putTrueIn 74 = .ok (.return_, 1) := by decide +kernel
theorem dX3_takeBack_0 : decode cX3_takeBack 0 = .ok (.aload_n 0, 1) := by decide +kernel
theorem dX3_takeBack_1 : decode cX3_takeBack 1 = .ok (.getfield 44, 3) := by decide +kernel
theorem dX3_takeBack_4 : decode cX3_takeBack 4 = .ok (.ifCond .le 31, 3) := by decide +kernel
theorem dX3_takeBack_7 : decode cX3_takeBack 7 = .ok (.aload_n 0, 1) := by decide +kernel
theorem dX3_takeBack_8 : decode cX3_takeBack 8 = .ok (.dup, 1) := by decide +kernel
theorem dX3_takeBack_9 : decode cX3_takeBack 9 = .ok (.getfield 44, 3) := by decide +kernel
theorem dX3_takeBack_12 : decode cX3_takeBack 12 = .ok (.iconst 1, 1) := by decide +kernel
theorem dX3_takeBack_13 : decode cX3_takeBack 13 = .ok (.isub, 1) := by decide +kernel
theorem dX3_takeBack_14 : decode cX3_takeBack 14 = .ok (.putfield 44, 3) := by decide +kernel
theorem dX3_takeBack_17 : decode cX3_takeBack 17 = .ok (.aload_n 0, 1) := by decide +kernel
theorem dX3_takeBack_18 : decode cX3_takeBack 18 = .ok (.getfield 21, 3) := by decide +kernel
theorem dX3_takeBack_21 : decode cX3_takeBack 21 = .ok (.aload_n 0, 1) := by decide +kernel
theorem dX3_takeBack_22 : decode cX3_takeBack 22 = .ok (.getfield 24, 3) := by decide +kernel
theorem dX3_takeBack_25 : decode cX3_takeBack 25 = .ok (.aload_n 0, 1) := by decide +kernel
theorem dX3_takeBack_26 : decode cX3_takeBack 26 = .ok (.getfield 44, 3) := by decide +kernel
theorem dX3_takeBack_29 : decode cX3_takeBack 29 = .ok (.iaload, 1) := by decide +kernel
theorem dX3_takeBack_30 : decode cX3_takeBack 30 = .ok (.dup2, 1) := by decide +kernel
theorem dX3_takeBack_31 : decode cX3_takeBack 31 = .ok (.iaload, 1) := by decide +kernel
theorem dX3_takeBack_32 : decode cX3_takeBack 32 = .ok (.iconst 1, 1) := by decide +kernel
theorem dX3_takeBack_33 : decode cX3_takeBack 33 = .ok (.isub, 1) := by decide +kernel
theorem dX3_takeBack_34 : decode cX3_takeBack 34 = .ok (.iastore, 1) := by decide +kernel
theorem dX3_takeBack_35 : decode cX3_takeBack 35 = .ok (.return_, 1) := by decide +kernel
theorem dX3_forgetSayings_0 : decode cX3_forgetSayings 0 = .ok (.aload_n 0, 1) := by decide +kernel
theorem dX3_forgetSayings_1 : decode cX3_forgetSayings 1 = .ok (.iconst 0, 1) := by decide +kernel
theorem dX3_forgetSayings_2 : decode cX3_forgetSayings 2 = .ok (.putfield 44, 3) := by decide +kernel
theorem dX3_forgetSayings_5 : decode cX3_forgetSayings 5 = .ok (.iconst 0, 1) := by decide +kernel
theorem dX3_forgetSayings_6 : decode cX3_forgetSayings 6 = .ok (.istore_n 1, 1) := by decide +kernel
theorem dX3_forgetSayings_7 : decode cX3_forgetSayings 7 = .ok (.iload_n 1, 1) := by decide +kernel
theorem dX3_forgetSayings_8 : decode cX3_forgetSayings 8 = .ok (.aload_n 0, 1) := by decide +kernel
theorem dX3_forgetSayings_9 : decode cX3_forgetSayings 9 = .ok (.getfield 41, 3) := by decide +kernel
theorem dX3_forgetSayings_12 : decode cX3_forgetSayings 12 = .ok (.if_icmp .ge 16, 3) := by decide +kernel
theorem dX3_forgetSayings_15 : decode cX3_forgetSayings 15 = .ok (.aload_n 0, 1) := by decide +kernel
theorem dX3_forgetSayings_16 : decode cX3_forgetSayings 16 = .ok (.getfield 21, 3) := by decide +kernel
theorem dX3_forgetSayings_19 : decode cX3_forgetSayings 19 = .ok (.iload_n 1, 1) := by decide +kernel
theorem dX3_forgetSayings_20 : decode cX3_forgetSayings 20 = .ok (.iconst 0, 1) := by decide +kernel
theorem dX3_forgetSayings_21 : decode cX3_forgetSayings 21 = .ok (.iastore, 1) := by decide +kernel
theorem dX3_forgetSayings_22 : decode cX3_forgetSayings 22 = .ok (.iinc 1 1, 3) := by decide +kernel
theorem dX3_forgetSayings_25 : decode cX3_forgetSayings 25 = .ok (.goto (-18), 3) := by decide +kernel
theorem dX3_forgetSayings_28 : decode cX3_forgetSayings 28 = .ok (.return_, 1) := by decide +kernel
theorem dX3_learn_0 : decode cX3_learn 0 = .ok (.aload_n 0, 1) := by decide +kernel
theorem dX3_learn_1 : decode cX3_learn 1 = .ok (.dup, 1) := by decide +kernel
theorem dX3_learn_2 : decode cX3_learn 2 = .ok (.getfield 47, 3) := by decide +kernel
theorem dX3_learn_5 : decode cX3_learn 5 = .ok (.iload_n 1, 1) := by decide +kernel
theorem dX3_learn_6 : decode cX3_learn 6 = .ok (.iload_n 2, 1) := by decide +kernel
theorem dX3_learn_7 : decode cX3_learn 7 = .ok (.invokestatic 72, 3) := by decide +kernel
theorem dX3_learn_10 : decode cX3_learn 10 = .ok (.land, 1) := by decide +kernel
theorem dX3_learn_11 : decode cX3_learn 11 = .ok (.putfield 47, 3) := by decide +kernel
theorem dX3_learn_14 : decode cX3_learn 14 = .ok (.return_, 1) := by decide +kernel
theorem dX3_drawBelow_0 : decode cX3_drawBelow 0 = .ok (.aload_n 0, 1) := by decide +kernel
theorem dX3_drawBelow_1 : decode cX3_drawBelow 1 = .ok (.aload_n 0, 1) := by decide +kernel
theorem dX3_drawBelow_2 : decode cX3_drawBelow 2 = .ok (.getfield 60, 3) := by decide +kernel
theorem dX3_drawBelow_5 : decode cX3_drawBelow 5 = .ok (.ldc 80, 2) := by decide +kernel
theorem dX3_drawBelow_7 : decode cX3_drawBelow 7 = .ok (.imul, 1) := by decide +kernel
theorem dX3_drawBelow_8 : decode cX3_drawBelow 8 = .ok (.sipush 12345, 3) := by decide +kernel
theorem dX3_drawBelow_11 : decode cX3_drawBelow 11 = .ok (.iadd, 1) := by decide +kernel
theorem dX3_drawBelow_12 : decode cX3_drawBelow 12 = .ok (.putfield 60, 3) := by decide +kernel
theorem dX3_drawBelow_15 : decode cX3_drawBelow 15 = .ok (.iload_n 1, 1) := by decide +kernel
theorem dX3_drawBelow_16 : decode cX3_drawBelow 16 = .ok (.ifCond .le 15, 3) := by decide +kernel
theorem dX3_drawBelow_19 : decode cX3_drawBelow 19 = .ok (.aload_n 0, 1) := by decide +kernel
theorem dX3_drawBelow_20 : decode cX3_drawBelow 20 = .ok (.getfield 60, 3) := by decide +kernel
theorem dX3_drawBelow_23 : decode cX3_drawBelow 23 = .ok (.bipush 16, 2) := by decide +kernel
theorem dX3_drawBelow_25 : decode cX3_drawBelow 25 = .ok (.iushr, 1) := by decide +kernel
theorem dX3_drawBelow_26 : decode cX3_drawBelow 26 = .ok (.iload_n 1, 1) := by decide +kernel
theorem dX3_drawBelow_27 : decode cX3_drawBelow 27 = .ok (.irem, 1) := by decide +kernel
theorem dX3_drawBelow_28 : decode cX3_drawBelow 28 = .ok (.goto 4, 3) := by decide +kernel
theorem dX3_drawBelow_31 : decode cX3_drawBelow 31 = .ok (.iconst 0, 1) := by decide +kernel
theorem dX3_drawBelow_32 : decode cX3_drawBelow 32 = .ok (.ireturn, 1) := by decide +kernel
theorem dX3_possible_0 : decode cX3_possible 0 = .ok (.aload_n 0, 1) := by decide +kernel
theorem dX3_possible_1 : decode cX3_possible 1 = .ok (.getfield 47, 3) := by decide +kernel
theorem dX3_possible_4 : decode cX3_possible 4 = .ok (.lstore_n 3, 1) := by decide +kernel
theorem dX3_possible_5 : decode cX3_possible 5 = .ok (.iconst 0, 1) := by decide +kernel
theorem dX3_possible_6 : decode cX3_possible 6 = .ok (.istore 5, 2) := by decide +kernel
theorem dX3_possible_8 : decode cX3_possible 8 = .ok (.iload 5, 2) := by decide +kernel
theorem dX3_possible_10 : decode cX3_possible 10 = .ok (.aload_n 0, 1) := by decide +kernel
theorem dX3_possible_11 : decode cX3_possible 11 = .ok (.getfield 41, 3) := by decide +kernel
theorem dX3_possible_14 : decode cX3_possible 14 = .ok (.if_icmp .ge 19, 3) := by decide +kernel
theorem dX3_possible_17 : decode cX3_possible 17 = .ok (.lload_n 3, 1) := by decide +kernel
theorem dX3_possible_18 : decode cX3_possible 18 = .ok (.aload_n 0, 1) := by decide +kernel
theorem dX3_possible_19 : decode cX3_possible 19 = .ok (.iload 5, 2) := by decide +kernel
theorem dX3_possible_21 : decode cX3_possible 21 = .ok (.lload_n 1, 1) := by decide +kernel
theorem dX3_possible_22 : decode cX3_possible 22 = .ok (.invokevirtual 81, 3) := by decide +kernel
theorem dX3_possible_25 : decode cX3_possible 25 = .ok (.land, 1) := by decide +kernel
theorem dX3_possible_26 : decode cX3_possible 26 = .ok (.lstore_n 3, 1) := by decide +kernel
theorem dX3_possible_27 : decode cX3_possible 27 = .ok (.iinc 5 1, 3) := by decide +kernel
theorem dX3_possible_30 : decode cX3_possible 30 = .ok (.goto (-22), 3) := by decide +kernel
theorem dX3_possible_33 : decode cX3_possible 33 = .ok (.lload_n 3, 1) := by decide +kernel
theorem dX3_possible_34 : decode cX3_possible 34 = .ok (.lreturn, 1) := by decide +kernel
theorem dX3_possibleWithout_0 : decode cX3_possibleWithout 0 = .ok (.aload_n 0, 1) := by decide +kernel
theorem dX3_possibleWithout_1 : decode cX3_possibleWithout 1 = .ok (.getfield 47, 3) := by decide +kernel
theorem dX3_possibleWithout_4 : decode cX3_possibleWithout 4 = .ok (.lstore_n 2, 1) := by decide +kernel
theorem dX3_possibleWithout_5 : decode cX3_possibleWithout 5 = .ok (.iconst 0, 1) := by decide +kernel
theorem dX3_possibleWithout_6 : decode cX3_possibleWithout 6 = .ok (.istore 4, 2) := by decide +kernel
theorem dX3_possibleWithout_8 : decode cX3_possibleWithout 8 = .ok (.iload 4, 2) := by decide +kernel
theorem dX3_possibleWithout_10 : decode cX3_possibleWithout 10 = .ok (.aload_n 0, 1) := by decide +kernel
theorem dX3_possibleWithout_11 : decode cX3_possibleWithout 11 = .ok (.getfield 41, 3) := by decide +kernel
theorem dX3_possibleWithout_14 : decode cX3_possibleWithout 14 = .ok (.if_icmp .ge 27, 3) := by decide +kernel
theorem dX3_possibleWithout_17 : decode cX3_possibleWithout 17 = .ok (.iload 4, 2) := by decide +kernel
theorem dX3_possibleWithout_19 : decode cX3_possibleWithout 19 = .ok (.iload_n 1, 1) := by decide +kernel
theorem dX3_possibleWithout_20 : decode cX3_possibleWithout 20 = .ok (.if_icmp .eq 15, 3) := by decide +kernel
theorem dX3_possibleWithout_23 : decode cX3_possibleWithout 23 = .ok (.lload_n 2, 1) := by decide +kernel
theorem dX3_possibleWithout_24 : decode cX3_possibleWithout 24 = .ok (.aload_n 0, 1) := by decide +kernel
theorem dX3_possibleWithout_25 : decode cX3_possibleWithout 25 = .ok (.iload 4, 2) := by decide +kernel
theorem dX3_possibleWithout_27 : decode cX3_possibleWithout 27 = .ok (.ldc2_w 85, 3) := by decide +kernel
theorem dX3_possibleWithout_30 : decode cX3_possibleWithout 30 = .ok (.invokevirtual 81, 3) := by decide +kernel
theorem dX3_possibleWithout_33 : decode cX3_possibleWithout 33 = .ok (.land, 1) := by decide +kernel
theorem dX3_possibleWithout_34 : decode cX3_possibleWithout 34 = .ok (.lstore_n 2, 1) := by decide +kernel
theorem dX3_possibleWithout_35 : decode cX3_possibleWithout 35 = .ok (.iinc 4 1, 3) := by decide +kernel
theorem dX3_possibleWithout_38 : decode cX3_possibleWithout 38 = .ok (.goto (-30), 3) := by decide +kernel
theorem dX3_possibleWithout_41 : decode cX3_possibleWithout 41 = .ok (.lload_n 2, 1) := by decide +kernel
theorem dX3_possibleWithout_42 : decode cX3_possibleWithout 42 = .ok (.lreturn, 1) := by decide +kernel
theorem dX3_after_0 : decode cX3_after 0 = .ok (.aload_n 0, 1) := by decide +kernel
theorem dX3_after_1 : decode cX3_after 1 = .ok (.iload_n 1, 1) := by decide +kernel
theorem dX3_after_2 : decode cX3_after 2 = .ok (.iload_n 2, 1) := by decide +kernel
theorem dX3_after_3 : decode cX3_after 3 = .ok (.iload_n 3, 1) := by decide +kernel
theorem dX3_after_4 : decode cX3_after 4 = .ok (.invokevirtual 87, 3) := by decide +kernel
theorem dX3_after_7 : decode cX3_after 7 = .ok (.lload 4, 2) := by decide +kernel
theorem dX3_after_9 : decode cX3_after 9 = .ok (.aload_n 0, 1) := by decide +kernel
theorem dX3_after_10 : decode cX3_after 10 = .ok (.iload_n 1, 1) := by decide +kernel
theorem dX3_after_11 : decode cX3_after 11 = .ok (.ldc2_w 85, 3) := by decide +kernel
theorem dX3_after_14 : decode cX3_after 14 = .ok (.invokevirtual 81, 3) := by decide +kernel
theorem dX3_after_17 : decode cX3_after 17 = .ok (.land, 1) := by decide +kernel
theorem dX3_after_18 : decode cX3_after 18 = .ok (.lstore 6, 2) := by decide +kernel
theorem dX3_after_20 : decode cX3_after 20 = .ok (.aload_n 0, 1) := by decide +kernel
theorem dX3_after_21 : decode cX3_after 21 = .ok (.invokevirtual 91, 3) := by decide +kernel
theorem dX3_after_24 : decode cX3_after 24 = .ok (.lload 6, 2) := by decide +kernel
theorem dX3_after_26 : decode cX3_after 26 = .ok (.lreturn, 1) := by decide +kernel
theorem dX3_allowedNext_0 : decode cX3_allowedNext 0 = .ok (.aload_n 0, 1) := by decide +kernel
theorem dX3_allowedNext_1 : decode cX3_allowedNext 1 = .ok (.iload_n 1, 1) := by decide +kernel
theorem dX3_allowedNext_2 : decode cX3_allowedNext 2 = .ok (.iconst 0, 1) := by decide +kernel
theorem dX3_allowedNext_3 : decode cX3_allowedNext 3 = .ok (.iload_n 2, 1) := by decide +kernel
theorem dX3_allowedNext_4 : decode cX3_allowedNext 4 = .ok (.ifCond .eq 9, 3) := by decide +kernel
theorem dX3_allowedNext_7 : decode cX3_allowedNext 7 = .ok (.ldc2_w 85, 3) := by decide +kernel
theorem dX3_allowedNext_10 : decode cX3_allowedNext 10 = .ok (.goto 4, 3) := by decide +kernel
theorem dX3_allowedNext_13 : decode cX3_allowedNext 13 = .ok (.lconst 0, 1) := by decide +kernel
theorem dX3_allowedNext_14 : decode cX3_allowedNext 14 = .ok (.invokevirtual 76, 3) := by decide +kernel
theorem dX3_allowedNext_17 : decode cX3_allowedNext 17 = .ok (.aload_n 0, 1) := by decide +kernel
theorem dX3_allowedNext_18 : decode cX3_allowedNext 18 = .ok (.iload_n 1, 1) := by decide +kernel
theorem dX3_allowedNext_19 : decode cX3_allowedNext 19 = .ok (.ldc2_w 85, 3) := by decide +kernel
theorem dX3_allowedNext_22 : decode cX3_allowedNext 22 = .ok (.invokevirtual 81, 3) := by decide +kernel
theorem dX3_allowedNext_25 : decode cX3_allowedNext 25 = .ok (.lstore_n 3, 1) := by decide +kernel
theorem dX3_allowedNext_26 : decode cX3_allowedNext 26 = .ok (.aload_n 0, 1) := by decide +kernel
theorem dX3_allowedNext_27 : decode cX3_allowedNext 27 = .ok (.invokevirtual 91, 3) := by decide +kernel
theorem dX3_allowedNext_30 : decode cX3_allowedNext 30 = .ok (.lload_n 3, 1) := by decide +kernel
theorem dX3_allowedNext_31 : decode cX3_allowedNext 31 = .ok (.lreturn, 1) := by decide +kernel
theorem dX3_allowed_0 : decode cX3_allowed 0 = .ok (.aload_n 0, 1) := by decide +kernel
theorem dX3_allowed_1 : decode cX3_allowed 1 = .ok (.getfield 15, 3) := by decide +kernel
theorem dX3_allowed_4 : decode cX3_allowed 4 = .ok (.iload_n 1, 1) := by decide +kernel
theorem dX3_allowed_5 : decode cX3_allowed 5 = .ok (.iaload, 1) := by decide +kernel
theorem dX3_allowed_6 : decode cX3_allowed 6 = .ok (.ifCond .ne 10, 3) := by decide +kernel
theorem dX3_allowed_9 : decode cX3_allowed 9 = .ok (.aload_n 0, 1) := by decide +kernel
theorem dX3_allowed_10 : decode cX3_allowed 10 = .ok (.iload_n 1, 1) := by decide +kernel
theorem dX3_allowed_11 : decode cX3_allowed 11 = .ok (.lload_n 2, 1) := by decide +kernel
theorem dX3_allowed_12 : decode cX3_allowed 12 = .ok (.invokevirtual 94, 3) := by decide +kernel
theorem dX3_allowed_15 : decode cX3_allowed 15 = .ok (.lreturn, 1) := by decide +kernel
theorem dX3_allowed_16 : decode cX3_allowed 16 = .ok (.aload_n 0, 1) := by decide +kernel
theorem dX3_allowed_17 : decode cX3_allowed 17 = .ok (.getfield 15, 3) := by decide +kernel
theorem dX3_allowed_20 : decode cX3_allowed 20 = .ok (.iload_n 1, 1) := by decide +kernel
theorem dX3_allowed_21 : decode cX3_allowed 21 = .ok (.iaload, 1) := by decide +kernel
theorem dX3_allowed_22 : decode cX3_allowed 22 = .ok (.bipush 6, 2) := by decide +kernel
theorem dX3_allowed_24 : decode cX3_allowed 24 = .ok (.if_icmp .ne 10, 3) := by decide +kernel
theorem dX3_allowed_27 : decode cX3_allowed 27 = .ok (.aload_n 0, 1) := by decide +kernel
theorem dX3_allowed_28 : decode cX3_allowed 28 = .ok (.iload_n 1, 1) := by decide +kernel
theorem dX3_allowed_29 : decode cX3_allowed 29 = .ok (.lload_n 2, 1) := by decide +kernel
theorem dX3_allowed_30 : decode cX3_allowed 30 = .ok (.invokevirtual 97, 3) := by decide +kernel
theorem dX3_allowed_33 : decode cX3_allowed 33 = .ok (.lreturn, 1) := by decide +kernel
theorem dX3_allowed_34 : decode cX3_allowed 34 = .ok (.ldc2_w 85, 3) := by decide +kernel
theorem dX3_allowed_37 : decode cX3_allowed 37 = .ok (.lstore 4, 2) := by decide +kernel
theorem dX3_allowed_39 : decode cX3_allowed 39 = .ok (.iconst 0, 1) := by decide +kernel
theorem dX3_allowed_40 : decode cX3_allowed 40 = .ok (.istore 6, 2) := by decide +kernel
theorem dX3_allowed_42 : decode cX3_allowed 42 = .ok (.iload 6, 2) := by decide +kernel
theorem dX3_allowed_44 : decode cX3_allowed 44 = .ok (.aload_n 0, 1) := by decide +kernel
theorem dX3_allowed_45 : decode cX3_allowed 45 = .ok (.getfield 44, 3) := by decide +kernel
theorem dX3_allowed_48 : decode cX3_allowed 48 = .ok (.if_icmp .ge 61, 3) := by decide +kernel
theorem dX3_allowed_51 : decode cX3_allowed 51 = .ok (.aload_n 0, 1) := by decide +kernel
theorem dX3_allowed_52 : decode cX3_allowed 52 = .ok (.iload 6, 2) := by decide +kernel
theorem dX3_allowed_54 : decode cX3_allowed 54 = .ok (.iload_n 1, 1) := by decide +kernel
theorem dX3_allowed_55 : decode cX3_allowed 55 = .ok (.lload_n 2, 1) := by decide +kernel
theorem dX3_allowed_56 : decode cX3_allowed 56 = .ok (.invokevirtual 100, 3) := by decide +kernel
theorem dX3_allowed_59 : decode cX3_allowed 59 = .ok (.ifCond .eq 44, 3) := by decide +kernel
theorem dX3_allowed_62 : decode cX3_allowed 62 = .ok (.lload 4, 2) := by decide +kernel
theorem dX3_allowed_64 : decode cX3_allowed 64 = .ok (.aload_n 0, 1) := by decide +kernel
theorem dX3_allowed_65 : decode cX3_allowed 65 = .ok (.iload_n 1, 1) := by decide +kernel
theorem dX3_allowed_66 : decode cX3_allowed 66 = .ok (.aload_n 0, 1) := by decide +kernel
theorem dX3_allowed_67 : decode cX3_allowed 67 = .ok (.getfield 27, 3) := by decide +kernel
theorem dX3_allowed_70 : decode cX3_allowed 70 = .ok (.iload 6, 2) := by decide +kernel
theorem dX3_allowed_72 : decode cX3_allowed 72 = .ok (.iaload, 1) := by decide +kernel
theorem dX3_allowed_73 : decode cX3_allowed 73 = .ok (.invokevirtual 104, 3) := by decide +kernel
theorem dX3_allowed_76 : decode cX3_allowed 76 = .ok (.ifCond .eq 13, 3) := by decide +kernel
theorem dX3_allowed_79 : decode cX3_allowed 79 = .ok (.aload_n 0, 1) := by decide +kernel
theorem dX3_allowed_80 : decode cX3_allowed 80 = .ok (.getfield 33, 3) := by decide +kernel
theorem dX3_allowed_83 : decode cX3_allowed 83 = .ok (.iload 6, 2) := by decide +kernel
theorem dX3_allowed_85 : decode cX3_allowed 85 = .ok (.laload, 1) := by decide +kernel
theorem dX3_allowed_86 : decode cX3_allowed 86 = .ok (.goto 14, 3) := by decide +kernel
theorem dX3_allowed_89 : decode cX3_allowed 89 = .ok (.aload_n 0, 1) := by decide +kernel
theorem dX3_allowed_90 : decode cX3_allowed 90 = .ok (.getfield 33, 3) := by decide +kernel
theorem dX3_allowed_93 : decode cX3_allowed 93 = .ok (.iload 6, 2) := by decide +kernel
theorem dX3_allowed_95 : decode cX3_allowed 95 = .ok (.laload, 1) := by decide +kernel
theorem dX3_allowed_96 : decode cX3_allowed 96 = .ok (.ldc2_w 85, 3) := by decide +kernel
theorem dX3_allowed_99 : decode cX3_allowed 99 = .ok (.lxor, 1) := by decide +kernel
theorem dX3_allowed_100 : decode cX3_allowed 100 = .ok (.land, 1) := by decide +kernel
theorem dX3_allowed_101 : decode cX3_allowed 101 = .ok (.lstore 4, 2) := by decide +kernel
theorem dX3_allowed_103 : decode cX3_allowed 103 = .ok (.iinc 6 1, 3) := by decide +kernel
theorem dX3_allowed_106 : decode cX3_allowed 106 = .ok (.goto (-64), 3) := by decide +kernel
theorem dX3_allowed_109 : decode cX3_allowed 109 = .ok (.lload 4, 2) := by decide +kernel
theorem dX3_allowed_111 : decode cX3_allowed 111 = .ok (.lreturn, 1) := by decide +kernel
theorem dX3_isChosen_0 : decode cX3_isChosen 0 = .ok (.aload_n 0, 1) := by decide +kernel
theorem dX3_isChosen_1 : decode cX3_isChosen 1 = .ok (.getfield 24, 3) := by decide +kernel
theorem dX3_isChosen_4 : decode cX3_isChosen 4 = .ok (.iload_n 1, 1) := by decide +kernel
theorem dX3_isChosen_5 : decode cX3_isChosen 5 = .ok (.iaload, 1) := by decide +kernel
theorem dX3_isChosen_6 : decode cX3_isChosen 6 = .ok (.iload_n 2, 1) := by decide +kernel
theorem dX3_isChosen_7 : decode cX3_isChosen 7 = .ok (.if_icmp .ne 17, 3) := by decide +kernel
theorem dX3_isChosen_10 : decode cX3_isChosen 10 = .ok (.lload_n 3, 1) := by decide +kernel
theorem dX3_isChosen_11 : decode cX3_isChosen 11 = .ok (.iload_n 1, 1) := by decide +kernel
theorem dX3_isChosen_12 : decode cX3_isChosen 12 = .ok (.lushr, 1) := by decide +kernel
theorem dX3_isChosen_13 : decode cX3_isChosen 13 = .ok (.lconst 1, 1) := by decide +kernel
theorem dX3_isChosen_14 : decode cX3_isChosen 14 = .ok (.land, 1) := by decide +kernel
theorem dX3_isChosen_15 : decode cX3_isChosen 15 = .ok (.lconst 1, 1) := by decide +kernel
theorem dX3_isChosen_16 : decode cX3_isChosen 16 = .ok (.lcmp, 1) := by decide +kernel
theorem dX3_isChosen_17 : decode cX3_isChosen 17 = .ok (.ifCond .ne 7, 3) := by decide +kernel
theorem dX3_isChosen_20 : decode cX3_isChosen 20 = .ok (.iconst 1, 1) := by decide +kernel
theorem dX3_isChosen_21 : decode cX3_isChosen 21 = .ok (.goto 4, 3) := by decide +kernel
theorem dX3_isChosen_24 : decode cX3_isChosen 24 = .ok (.iconst 0, 1) := by decide +kernel
theorem dX3_isChosen_25 : decode cX3_isChosen 25 = .ok (.ireturn, 1) := by decide +kernel
theorem dX3_allowedByCount_0 : decode cX3_allowedByCount 0 = .ok (.lconst 0, 1) := by decide +kernel
theorem dX3_allowedByCount_1 : decode cX3_allowedByCount 1 = .ok (.lstore 4, 2) := by decide +kernel
theorem dX3_allowedByCount_3 : decode cX3_allowedByCount 3 = .ok (.lconst 0, 1) := by decide +kernel
theorem dX3_allowedByCount_4 : decode cX3_allowedByCount 4 = .ok (.lstore 6, 2) := by decide +kernel
theorem dX3_allowedByCount_6 : decode cX3_allowedByCount 6 = .ok (.lconst 0, 1) := by decide +kernel
theorem dX3_allowedByCount_7 : decode cX3_allowedByCount 7 = .ok (.lstore 8, 2) := by decide +kernel
theorem dX3_allowedByCount_9 : decode cX3_allowedByCount 9 = .ok (.lconst 0, 1) := by decide +kernel
theorem dX3_allowedByCount_10 : decode cX3_allowedByCount 10 = .ok (.lstore 10, 2) := by decide +kernel
theorem dX3_allowedByCount_12 : decode cX3_allowedByCount 12 = .ok (.iconst 0, 1) := by decide +kernel
theorem dX3_allowedByCount_13 : decode cX3_allowedByCount 13 = .ok (.istore 12, 2) := by decide +kernel
theorem dX3_allowedByCount_15 : decode cX3_allowedByCount 15 = .ok (.iconst 0, 1) := by decide +kernel
theorem dX3_allowedByCount_16 : decode cX3_allowedByCount 16 = .ok (.istore 13, 2) := by decide +kernel
theorem dX3_allowedByCount_18 : decode cX3_allowedByCount 18 = .ok (.iload 13, 2) := by decide +kernel
theorem dX3_allowedByCount_20 : decode cX3_allowedByCount 20 = .ok (.aload_n 0, 1) := by decide +kernel
theorem dX3_allowedByCount_21 : decode cX3_allowedByCount 21 = .ok (.getfield 44, 3) := by decide +kernel
theorem dX3_allowedByCount_24 : decode cX3_allowedByCount 24 = .ok (.if_icmp .ge 78, 3) := by decide +kernel
theorem dX3_allowedByCount_27 : decode cX3_allowedByCount 27 = .ok (.aload_n 0, 1) := by decide +kernel
theorem dX3_allowedByCount_28 : decode cX3_allowedByCount 28 = .ok (.iload 13, 2) := by decide +kernel
theorem dX3_allowedByCount_30 : decode cX3_allowedByCount 30 = .ok (.iload_n 1, 1) := by decide +kernel
theorem dX3_allowedByCount_31 : decode cX3_allowedByCount 31 = .ok (.lload_n 2, 1) := by decide +kernel
theorem dX3_allowedByCount_32 : decode cX3_allowedByCount 32 = .ok (.invokevirtual 100, 3) := by decide +kernel
theorem dX3_allowedByCount_35 : decode cX3_allowedByCount 35 = .ok (.ifCond .eq 61, 3) := by decide +kernel
theorem dX3_allowedByCount_38 : decode cX3_allowedByCount 38 = .ok (.lload 4, 2) := by decide +kernel
theorem dX3_allowedByCount_40 : decode cX3_allowedByCount 40 = .ok (.aload_n 0, 1) := by decide +kernel
theorem dX3_allowedByCount_41 : decode cX3_allowedByCount 41 = .ok (.getfield 33, 3) := by decide +kernel
theorem dX3_allowedByCount_44 : decode cX3_allowedByCount 44 = .ok (.iload 13, 2) := by decide +kernel
theorem dX3_allowedByCount_46 : decode cX3_allowedByCount 46 = .ok (.laload, 1) := by decide +kernel
theorem dX3_allowedByCount_47 : decode cX3_allowedByCount 47 = .ok (.land, 1) := by decide +kernel
theorem dX3_allowedByCount_48 : decode cX3_allowedByCount 48 = .ok (.lstore 14, 2) := by decide +kernel
theorem dX3_allowedByCount_50 : decode cX3_allowedByCount 50 = .ok (.lload 6, 2) := by decide +kernel
theorem dX3_allowedByCount_52 : decode cX3_allowedByCount 52 = .ok (.lload 14, 2) := by decide +kernel
theorem dX3_allowedByCount_54 : decode cX3_allowedByCount 54 = .ok (.land, 1) := by decide +kernel
theorem dX3_allowedByCount_55 : decode cX3_allowedByCount 55 = .ok (.lstore 16, 2) := by decide +kernel
theorem dX3_allowedByCount_57 : decode cX3_allowedByCount 57 = .ok (.lload 4, 2) := by decide +kernel
theorem dX3_allowedByCount_59 : decode cX3_allowedByCount 59 = .ok (.aload_n 0, 1) := by decide +kernel
theorem dX3_allowedByCount_60 : decode cX3_allowedByCount 60 = .ok (.getfield 33, 3) := by decide +kernel
theorem dX3_allowedByCount_63 : decode cX3_allowedByCount 63 = .ok (.iload 13, 2) := by decide +kernel
theorem dX3_allowedByCount_65 : decode cX3_allowedByCount 65 = .ok (.laload, 1) := by decide +kernel
theorem dX3_allowedByCount_66 : decode cX3_allowedByCount 66 = .ok (.lxor, 1) := by decide +kernel
theorem dX3_allowedByCount_67 : decode cX3_allowedByCount 67 = .ok (.lstore 4, 2) := by decide +kernel
theorem dX3_allowedByCount_69 : decode cX3_allowedByCount 69 = .ok (.lload 6, 2) := by decide +kernel
theorem dX3_allowedByCount_71 : decode cX3_allowedByCount 71 = .ok (.lload 14, 2) := by decide +kernel
theorem dX3_allowedByCount_73 : decode cX3_allowedByCount 73 = .ok (.lxor, 1) := by decide +kernel
theorem dX3_allowedByCount_74 : decode cX3_allowedByCount 74 = .ok (.lstore 6, 2) := by decide +kernel
theorem dX3_allowedByCount_76 : decode cX3_allowedByCount 76 = .ok (.lload 10, 2) := by decide +kernel
theorem dX3_allowedByCount_78 : decode cX3_allowedByCount 78 = .ok (.lload 8, 2) := by decide +kernel
theorem dX3_allowedByCount_80 : decode cX3_allowedByCount 80 = .ok (.lload 16, 2) := by decide +kernel
theorem dX3_allowedByCount_82 : decode cX3_allowedByCount 82 = .ok (.land, 1) := by decide +kernel
theorem dX3_allowedByCount_83 : decode cX3_allowedByCount 83 = .ok (.lxor, 1) := by decide +kernel
theorem dX3_allowedByCount_84 : decode cX3_allowedByCount 84 = .ok (.lstore 10, 2) := by decide +kernel
theorem dX3_allowedByCount_86 : decode cX3_allowedByCount 86 = .ok (.lload 8, 2) := by decide +kernel
theorem dX3_allowedByCount_88 : decode cX3_allowedByCount 88 = .ok (.lload 16, 2) := by decide +kernel
theorem dX3_allowedByCount_90 : decode cX3_allowedByCount 90 = .ok (.lxor, 1) := by decide +kernel
theorem dX3_allowedByCount_91 : decode cX3_allowedByCount 91 = .ok (.lstore 8, 2) := by decide +kernel
theorem dX3_allowedByCount_93 : decode cX3_allowedByCount 93 = .ok (.iinc 12 1, 3) := by decide +kernel
theorem dX3_allowedByCount_96 : decode cX3_allowedByCount 96 = .ok (.iinc 13 1, 3) := by decide +kernel
theorem dX3_allowedByCount_99 : decode cX3_allowedByCount 99 = .ok (.goto (-81), 3) := by decide +kernel
theorem dX3_allowedByCount_102 : decode cX3_allowedByCount 102 = .ok (.lconst 0, 1) := by decide +kernel
theorem dX3_allowedByCount_103 : decode cX3_allowedByCount 103 = .ok (.lstore 13, 2) := by decide +kernel
theorem dX3_allowedByCount_105 : decode cX3_allowedByCount 105 = .ok (.aload_n 0, 1) := by decide +kernel
theorem dX3_allowedByCount_106 : decode cX3_allowedByCount 106 = .ok (.getfield 54, 3) := by decide +kernel
theorem dX3_allowedByCount_109 : decode cX3_allowedByCount 109 = .ok (.iload 12, 2) := by decide +kernel
theorem dX3_allowedByCount_111 : decode cX3_allowedByCount 111 = .ok (.invokestatic 108, 3) := by decide +kernel
theorem dX3_allowedByCount_114 : decode cX3_allowedByCount 114 = .ok (.istore 15, 2) := by decide +kernel
theorem dX3_allowedByCount_116 : decode cX3_allowedByCount 116 = .ok (.iconst 0, 1) := by decide +kernel
theorem dX3_allowedByCount_117 : decode cX3_allowedByCount 117 = .ok (.iload 12, 2) := by decide +kernel
theorem dX3_allowedByCount_119 : decode cX3_allowedByCount 119 = .ok (.aload_n 0, 1) := by decide +kernel
theorem dX3_allowedByCount_120 : decode cX3_allowedByCount 120 = .ok (.getfield 51, 3) := by decide +kernel
theorem dX3_allowedByCount_123 : decode cX3_allowedByCount 123 = .ok (.aload_n 0, 1) := by decide +kernel
theorem dX3_allowedByCount_124 : decode cX3_allowedByCount 124 = .ok (.getfield 54, 3) := by decide +kernel
theorem dX3_allowedByCount_127 : decode cX3_allowedByCount 127 = .ok (.isub, 1) := by decide +kernel
theorem dX3_allowedByCount_128 : decode cX3_allowedByCount 128 = .ok (.isub, 1) := by decide +kernel
theorem dX3_allowedByCount_129 : decode cX3_allowedByCount 129 = .ok (.invokestatic 114, 3) := by decide +kernel
theorem dX3_allowedByCount_132 : decode cX3_allowedByCount 132 = .ok (.istore 16, 2) := by decide +kernel
theorem dX3_allowedByCount_134 : decode cX3_allowedByCount 134 = .ok (.iload 16, 2) := by decide +kernel
theorem dX3_allowedByCount_136 : decode cX3_allowedByCount 136 = .ok (.iload 15, 2) := by decide +kernel
theorem dX3_allowedByCount_138 : decode cX3_allowedByCount 138 = .ok (.if_icmp .gt 51, 3) := by decide +kernel
theorem dX3_allowedByCount_141 : decode cX3_allowedByCount 141 = .ok (.lload 13, 2) := by decide +kernel
theorem dX3_allowedByCount_143 : decode cX3_allowedByCount 143 = .ok (.lload 4, 2) := by decide +kernel
theorem dX3_allowedByCount_145 : decode cX3_allowedByCount 145 = .ok (.iload 16, 2) := by decide +kernel
theorem dX3_allowedByCount_147 : decode cX3_allowedByCount 147 = .ok (.invokestatic 117, 3) := by decide +kernel
theorem dX3_allowedByCount_150 : decode cX3_allowedByCount 150 = .ok (.lload 6, 2) := by decide +kernel
theorem dX3_allowedByCount_152 : decode cX3_allowedByCount 152 = .ok (.iload 16, 2) := by decide +kernel
theorem dX3_allowedByCount_154 : decode cX3_allowedByCount 154 = .ok (.iconst 1, 1) := by decide +kernel
theorem dX3_allowedByCount_155 : decode cX3_allowedByCount 155 = .ok (.ishr, 1) := by decide +kernel
theorem dX3_allowedByCount_156 : decode cX3_allowedByCount 156 = .ok (.invokestatic 117, 3) := by decide +kernel
theorem dX3_allowedByCount_159 : decode cX3_allowedByCount 159 = .ok (.land, 1) := by decide +kernel
theorem dX3_allowedByCount_160 : decode cX3_allowedByCount 160 = .ok (.lload 8, 2) := by decide +kernel
theorem dX3_allowedByCount_162 : decode cX3_allowedByCount 162 = .ok (.iload 16, 2) := by decide +kernel
theorem dX3_allowedByCount_164 : decode cX3_allowedByCount 164 = .ok (.iconst 2, 1) := by decide +kernel
theorem dX3_allowedByCount_165 : decode cX3_allowedByCount 165 = .ok (.ishr, 1) := by decide +kernel
theorem dX3_allowedByCount_166 : decode cX3_allowedByCount 166 = .ok (.invokestatic 117, 3) := by decide +kernel
theorem dX3_allowedByCount_169 : decode cX3_allowedByCount 169 = .ok (.land, 1) := by decide +kernel
theorem dX3_allowedByCount_170 : decode cX3_allowedByCount 170 = .ok (.lload 10, 2) := by decide +kernel
theorem dX3_allowedByCount_172 : decode cX3_allowedByCount 172 = .ok (.iload 16, 2) := by decide +kernel
theorem dX3_allowedByCount_174 : decode cX3_allowedByCount 174 = .ok (.iconst 3, 1) := by decide +kernel
theorem dX3_allowedByCount_175 : decode cX3_allowedByCount 175 = .ok (.ishr, 1) := by decide +kernel
theorem dX3_allowedByCount_176 : decode cX3_allowedByCount 176 = .ok (.invokestatic 117, 3) := by decide +kernel
theorem dX3_allowedByCount_179 : decode cX3_allowedByCount 179 = .ok (.land, 1) := by decide +kernel
theorem dX3_allowedByCount_180 : decode cX3_allowedByCount 180 = .ok (.lor, 1) := by decide +kernel
theorem dX3_allowedByCount_181 : decode cX3_allowedByCount 181 = .ok (.lstore 13, 2) := by decide +kernel
theorem dX3_allowedByCount_183 : decode cX3_allowedByCount 183 = .ok (.iinc 16 1, 3) := by decide +kernel
theorem dX3_allowedByCount_186 : decode cX3_allowedByCount 186 = .ok (.goto (-52), 3) := by decide +kernel
theorem dX3_allowedByCount_189 : decode cX3_allowedByCount 189 = .ok (.lload 13, 2) := by decide +kernel
theorem dX3_allowedByCount_191 : decode cX3_allowedByCount 191 = .ok (.lreturn, 1) := by decide +kernel
theorem dX3_digit_0 : decode cX3_digit 0 = .ok (.iload_n 2, 1) := by decide +kernel
theorem dX3_digit_1 : decode cX3_digit 1 = .ok (.iconst 1, 1) := by decide +kernel
theorem dX3_digit_2 : decode cX3_digit 2 = .ok (.iand, 1) := by decide +kernel
theorem dX3_digit_3 : decode cX3_digit 3 = .ok (.iconst 1, 1) := by decide +kernel
theorem dX3_digit_4 : decode cX3_digit 4 = .ok (.if_icmp .ne 7, 3) := by decide +kernel
theorem dX3_digit_7 : decode cX3_digit 7 = .ok (.lload_n 0, 1) := by decide +kernel
theorem dX3_digit_8 : decode cX3_digit 8 = .ok (.goto 8, 3) := by decide +kernel
theorem dX3_digit_11 : decode cX3_digit 11 = .ok (.lload_n 0, 1) := by decide +kernel
theorem dX3_digit_12 : decode cX3_digit 12 = .ok (.ldc2_w 85, 3) := by decide +kernel
theorem dX3_digit_15 : decode cX3_digit 15 = .ok (.lxor, 1) := by decide +kernel
theorem dX3_digit_16 : decode cX3_digit 16 = .ok (.lreturn, 1) := by decide +kernel
theorem dX3_allowedByPairs_0 : decode cX3_allowedByPairs 0 = .ok (.ldc2_w 85, 3) := by decide +kernel
theorem dX3_allowedByPairs_3 : decode cX3_allowedByPairs 3 = .ok (.lstore 4, 2) := by decide +kernel
theorem dX3_allowedByPairs_5 : decode cX3_allowedByPairs 5 = .ok (.iconst (-1), 1) := by decide +kernel
theorem dX3_allowedByPairs_6 : decode cX3_allowedByPairs 6 = .ok (.istore 6, 2) := by decide +kernel
theorem dX3_allowedByPairs_8 : decode cX3_allowedByPairs 8 = .ok (.iconst 0, 1) := by decide +kernel
theorem dX3_allowedByPairs_9 : decode cX3_allowedByPairs 9 = .ok (.istore 7, 2) := by decide +kernel
theorem dX3_allowedByPairs_11 : decode cX3_allowedByPairs 11 = .ok (.iload 7, 2) := by decide +kernel
theorem dX3_allowedByPairs_13 : decode cX3_allowedByPairs 13 = .ok (.aload_n 0, 1) := by decide +kernel
theorem dX3_allowedByPairs_14 : decode cX3_allowedByPairs 14 = .ok (.getfield 44, 3) := by decide +kernel
theorem dX3_allowedByPairs_17 : decode cX3_allowedByPairs 17 = .ok (.if_icmp .ge 82, 3) := by decide +kernel
theorem dX3_allowedByPairs_20 : decode cX3_allowedByPairs 20 = .ok (.aload_n 0, 1) := by decide +kernel
theorem dX3_allowedByPairs_21 : decode cX3_allowedByPairs 21 = .ok (.iload 7, 2) := by decide +kernel
theorem dX3_allowedByPairs_23 : decode cX3_allowedByPairs 23 = .ok (.iload_n 1, 1) := by decide +kernel
theorem dX3_allowedByPairs_24 : decode cX3_allowedByPairs 24 = .ok (.lload_n 2, 1) := by decide +kernel
theorem dX3_allowedByPairs_25 : decode cX3_allowedByPairs 25 = .ok (.invokevirtual 100, 3) := by decide +kernel
theorem dX3_allowedByPairs_28 : decode cX3_allowedByPairs 28 = .ok (.ifCond .eq 65, 3) := by decide +kernel
theorem dX3_allowedByPairs_31 : decode cX3_allowedByPairs 31 = .ok (.iload 6, 2) := by decide +kernel
theorem dX3_allowedByPairs_33 : decode cX3_allowedByPairs 33 = .ok (.iconst (-1), 1) := by decide +kernel
theorem dX3_allowedByPairs_34 : decode cX3_allowedByPairs 34 = .ok (.if_icmp .eq 55, 3) := by decide +kernel
theorem dX3_allowedByPairs_37 : decode cX3_allowedByPairs 37 = .ok (.aload_n 0, 1) := by decide +kernel
theorem dX3_allowedByPairs_38 : decode cX3_allowedByPairs 38 = .ok (.getfield 27, 3) := by decide +kernel
theorem dX3_allowedByPairs_41 : decode cX3_allowedByPairs 41 = .ok (.iload 7, 2) := by decide +kernel
theorem dX3_allowedByPairs_43 : decode cX3_allowedByPairs 43 = .ok (.iaload, 1) := by decide +kernel
theorem dX3_allowedByPairs_44 : decode cX3_allowedByPairs 44 = .ok (.iconst 1, 1) := by decide +kernel
theorem dX3_allowedByPairs_45 : decode cX3_allowedByPairs 45 = .ok (.iand, 1) := by decide +kernel
theorem dX3_allowedByPairs_46 : decode cX3_allowedByPairs 46 = .ok (.iconst 1, 1) := by decide +kernel
theorem dX3_allowedByPairs_47 : decode cX3_allowedByPairs 47 = .ok (.if_icmp .ne 42, 3) := by decide +kernel
theorem dX3_allowedByPairs_50 : decode cX3_allowedByPairs 50 = .ok (.aload_n 0, 1) := by decide +kernel
theorem dX3_allowedByPairs_51 : decode cX3_allowedByPairs 51 = .ok (.getfield 27, 3) := by decide +kernel
theorem dX3_allowedByPairs_54 : decode cX3_allowedByPairs 54 = .ok (.iload 6, 2) := by decide +kernel
theorem dX3_allowedByPairs_56 : decode cX3_allowedByPairs 56 = .ok (.iaload, 1) := by decide +kernel
theorem dX3_allowedByPairs_57 : decode cX3_allowedByPairs 57 = .ok (.aload_n 0, 1) := by decide +kernel
theorem dX3_allowedByPairs_58 : decode cX3_allowedByPairs 58 = .ok (.getfield 27, 3) := by decide +kernel
theorem dX3_allowedByPairs_61 : decode cX3_allowedByPairs 61 = .ok (.iload 7, 2) := by decide +kernel
theorem dX3_allowedByPairs_63 : decode cX3_allowedByPairs 63 = .ok (.iaload, 1) := by decide +kernel
theorem dX3_allowedByPairs_64 : decode cX3_allowedByPairs 64 = .ok (.iconst 1, 1) := by decide +kernel
theorem dX3_allowedByPairs_65 : decode cX3_allowedByPairs 65 = .ok (.isub, 1) := by decide +kernel
theorem dX3_allowedByPairs_66 : decode cX3_allowedByPairs 66 = .ok (.if_icmp .ne 23, 3) := by decide +kernel
theorem dX3_allowedByPairs_69 : decode cX3_allowedByPairs 69 = .ok (.lload 4, 2) := by decide +kernel
theorem dX3_allowedByPairs_71 : decode cX3_allowedByPairs 71 = .ok (.aload_n 0, 1) := by decide +kernel
theorem dX3_allowedByPairs_72 : decode cX3_allowedByPairs 72 = .ok (.getfield 33, 3) := by decide +kernel
end
section
theorem dX3_allowedByPairs_75 : decode cX3_allowedByPairs 75 = .ok (.iload 6, 2) := by decide +kernel
theorem dX3_allowedByPairs_77 : decode cX3_allowedByPairs 77 = .ok (.laload, 1) := by decide +kernel
theorem dX3_allowedByPairs_78 : decode cX3_allowedByPairs 78 = .ok (.aload_n 0, 1) := by decide +kernel
theorem dX3_allowedByPairs_79 : decode cX3_allowedByPairs 79 = .ok (.getfield 33, 3) := by decide +kernel
theorem dX3_allowedByPairs_82 : decode cX3_allowedByPairs 82 = .ok (.iload 7, 2) := by decide +kernel
theorem dX3_allowedByPairs_84 : decode cX3_allowedByPairs 84 = .ok (.laload, 1) := by decide +kernel
theorem dX3_allowedByPairs_85 : decode cX3_allowedByPairs 85 = .ok (.lxor, 1) := by decide +kernel
theorem dX3_allowedByPairs_86 : decode cX3_allowedByPairs 86 = .ok (.land, 1) := by decide +kernel
theorem dX3_allowedByPairs_87 : decode cX3_allowedByPairs 87 = .ok (.lstore 4, 2) := by decide +kernel
theorem dX3_allowedByPairs_89 : decode cX3_allowedByPairs 89 = .ok (.iload 7, 2) := by decide +kernel
theorem dX3_allowedByPairs_91 : decode cX3_allowedByPairs 91 = .ok (.istore 6, 2) := by decide +kernel
theorem dX3_allowedByPairs_93 : decode cX3_allowedByPairs 93 = .ok (.iinc 7 1, 3) := by decide +kernel
theorem dX3_allowedByPairs_96 : decode cX3_allowedByPairs 96 = .ok (.goto (-85), 3) := by decide +kernel
theorem dX3_allowedByPairs_99 : decode cX3_allowedByPairs 99 = .ok (.lload 4, 2) := by decide +kernel
theorem dX3_allowedByPairs_101 : decode cX3_allowedByPairs 101 = .ok (.lreturn, 1) := by decide +kernel
theorem dX3_mustBeTrue_0 : decode cX3_mustBeTrue 0 = .ok (.aload_n 0, 1) := by decide +kernel
theorem dX3_mustBeTrue_1 : decode cX3_mustBeTrue 1 = .ok (.getfield 15, 3) := by decide +kernel
theorem dX3_mustBeTrue_4 : decode cX3_mustBeTrue 4 = .ok (.iload_n 1, 1) := by decide +kernel
theorem dX3_mustBeTrue_5 : decode cX3_mustBeTrue 5 = .ok (.iaload, 1) := by decide +kernel
theorem dX3_mustBeTrue_6 : decode cX3_mustBeTrue 6 = .ok (.tableswitch 112 1 5 #[34, 48, 67, 73, 93], 34) := by decide +kernel
theorem dX3_mustBeTrue_40 : decode cX3_mustBeTrue 40 = .ok (.iload_n 2, 1) := by decide +kernel
theorem dX3_mustBeTrue_41 : decode cX3_mustBeTrue 41 = .ok (.aload_n 0, 1) := by decide +kernel
theorem dX3_mustBeTrue_42 : decode cX3_mustBeTrue 42 = .ok (.getfield 54, 3) := by decide +kernel
theorem dX3_mustBeTrue_45 : decode cX3_mustBeTrue 45 = .ok (.if_icmp .ge 7, 3) := by decide +kernel
theorem dX3_mustBeTrue_48 : decode cX3_mustBeTrue 48 = .ok (.iconst 1, 1) := by decide +kernel
theorem dX3_mustBeTrue_49 : decode cX3_mustBeTrue 49 = .ok (.goto 4, 3) := by decide +kernel
theorem dX3_mustBeTrue_52 : decode cX3_mustBeTrue 52 = .ok (.iconst 0, 1) := by decide +kernel
theorem dX3_mustBeTrue_53 : decode cX3_mustBeTrue 53 = .ok (.ireturn, 1) := by decide +kernel
theorem dX3_mustBeTrue_54 : decode cX3_mustBeTrue 54 = .ok (.iload_n 2, 1) := by decide +kernel
theorem dX3_mustBeTrue_55 : decode cX3_mustBeTrue 55 = .ok (.aload_n 0, 1) := by decide +kernel
theorem dX3_mustBeTrue_56 : decode cX3_mustBeTrue 56 = .ok (.getfield 51, 3) := by decide +kernel
theorem dX3_mustBeTrue_59 : decode cX3_mustBeTrue 59 = .ok (.aload_n 0, 1) := by decide +kernel
theorem dX3_mustBeTrue_60 : decode cX3_mustBeTrue 60 = .ok (.getfield 54, 3) := by decide +kernel
theorem dX3_mustBeTrue_63 : decode cX3_mustBeTrue 63 = .ok (.isub, 1) := by decide +kernel
theorem dX3_mustBeTrue_64 : decode cX3_mustBeTrue 64 = .ok (.if_icmp .lt 7, 3) := by decide +kernel
theorem dX3_mustBeTrue_67 : decode cX3_mustBeTrue 67 = .ok (.iconst 1, 1) := by decide +kernel
theorem dX3_mustBeTrue_68 : decode cX3_mustBeTrue 68 = .ok (.goto 4, 3) := by decide +kernel
theorem dX3_mustBeTrue_71 : decode cX3_mustBeTrue 71 = .ok (.iconst 0, 1) := by decide +kernel
theorem dX3_mustBeTrue_72 : decode cX3_mustBeTrue 72 = .ok (.ireturn, 1) := by decide +kernel
theorem dX3_mustBeTrue_73 : decode cX3_mustBeTrue 73 = .ok (.aload_n 0, 1) := by decide +kernel
theorem dX3_mustBeTrue_74 : decode cX3_mustBeTrue 74 = .ok (.iload_n 2, 1) := by decide +kernel
theorem dX3_mustBeTrue_75 : decode cX3_mustBeTrue 75 = .ok (.invokevirtual 121, 3) := by decide +kernel
theorem dX3_mustBeTrue_78 : decode cX3_mustBeTrue 78 = .ok (.ireturn, 1) := by decide +kernel
theorem dX3_mustBeTrue_79 : decode cX3_mustBeTrue 79 = .ok (.aload_n 0, 1) := by decide +kernel
theorem dX3_mustBeTrue_80 : decode cX3_mustBeTrue 80 = .ok (.getfield 18, 3) := by decide +kernel
theorem dX3_mustBeTrue_83 : decode cX3_mustBeTrue 83 = .ok (.iload_n 1, 1) := by decide +kernel
theorem dX3_mustBeTrue_84 : decode cX3_mustBeTrue 84 = .ok (.iaload, 1) := by decide +kernel
theorem dX3_mustBeTrue_85 : decode cX3_mustBeTrue 85 = .ok (.iload_n 2, 1) := by decide +kernel
theorem dX3_mustBeTrue_86 : decode cX3_mustBeTrue 86 = .ok (.ishr, 1) := by decide +kernel
theorem dX3_mustBeTrue_87 : decode cX3_mustBeTrue 87 = .ok (.iconst 1, 1) := by decide +kernel
theorem dX3_mustBeTrue_88 : decode cX3_mustBeTrue 88 = .ok (.iand, 1) := by decide +kernel
theorem dX3_mustBeTrue_89 : decode cX3_mustBeTrue 89 = .ok (.iconst 1, 1) := by decide +kernel
theorem dX3_mustBeTrue_90 : decode cX3_mustBeTrue 90 = .ok (.if_icmp .ne 7, 3) := by decide +kernel
theorem dX3_mustBeTrue_93 : decode cX3_mustBeTrue 93 = .ok (.iconst 1, 1) := by decide +kernel
theorem dX3_mustBeTrue_94 : decode cX3_mustBeTrue 94 = .ok (.goto 4, 3) := by decide +kernel
theorem dX3_mustBeTrue_97 : decode cX3_mustBeTrue 97 = .ok (.iconst 0, 1) := by decide +kernel
theorem dX3_mustBeTrue_98 : decode cX3_mustBeTrue 98 = .ok (.ireturn, 1) := by decide +kernel
theorem dX3_mustBeTrue_99 : decode cX3_mustBeTrue 99 = .ok (.aload_n 0, 1) := by decide +kernel
theorem dX3_mustBeTrue_100 : decode cX3_mustBeTrue 100 = .ok (.getfield 18, 3) := by decide +kernel
theorem dX3_mustBeTrue_103 : decode cX3_mustBeTrue 103 = .ok (.iload_n 1, 1) := by decide +kernel
theorem dX3_mustBeTrue_104 : decode cX3_mustBeTrue 104 = .ok (.iaload, 1) := by decide +kernel
theorem dX3_mustBeTrue_105 : decode cX3_mustBeTrue 105 = .ok (.iload_n 2, 1) := by decide +kernel
theorem dX3_mustBeTrue_106 : decode cX3_mustBeTrue 106 = .ok (.ishr, 1) := by decide +kernel
theorem dX3_mustBeTrue_107 : decode cX3_mustBeTrue 107 = .ok (.iconst 1, 1) := by decide +kernel
theorem dX3_mustBeTrue_108 : decode cX3_mustBeTrue 108 = .ok (.iand, 1) := by decide +kernel
theorem dX3_mustBeTrue_109 : decode cX3_mustBeTrue 109 = .ok (.ifCond .ne 7, 3) := by decide +kernel
theorem dX3_mustBeTrue_112 : decode cX3_mustBeTrue 112 = .ok (.iconst 1, 1) := by decide +kernel
theorem dX3_mustBeTrue_113 : decode cX3_mustBeTrue 113 = .ok (.goto 4, 3) := by decide +kernel
theorem dX3_mustBeTrue_116 : decode cX3_mustBeTrue 116 = .ok (.iconst 0, 1) := by decide +kernel
theorem dX3_mustBeTrue_117 : decode cX3_mustBeTrue 117 = .ok (.ireturn, 1) := by decide +kernel
theorem dX3_mustBeTrue_118 : decode cX3_mustBeTrue 118 = .ok (.iconst 0, 1) := by decide +kernel
theorem dX3_mustBeTrue_119 : decode cX3_mustBeTrue 119 = .ok (.ireturn, 1) := by decide +kernel
theorem dX3_mustLateBeTrue_0 : decode cX3_mustLateBeTrue 0 = .ok (.aload_n 0, 1) := by decide +kernel
theorem dX3_mustLateBeTrue_1 : decode cX3_mustLateBeTrue 1 = .ok (.getfield 54, 3) := by decide +kernel
theorem dX3_mustLateBeTrue_4 : decode cX3_mustLateBeTrue 4 = .ok (.ifCond .eq 14, 3) := by decide +kernel
theorem dX3_mustLateBeTrue_7 : decode cX3_mustLateBeTrue 7 = .ok (.aload_n 0, 1) := by decide +kernel
theorem dX3_mustLateBeTrue_8 : decode cX3_mustLateBeTrue 8 = .ok (.getfield 54, 3) := by decide +kernel
theorem dX3_mustLateBeTrue_11 : decode cX3_mustLateBeTrue 11 = .ok (.aload_n 0, 1) := by decide +kernel
theorem dX3_mustLateBeTrue_12 : decode cX3_mustLateBeTrue 12 = .ok (.getfield 51, 3) := by decide +kernel
theorem dX3_mustLateBeTrue_15 : decode cX3_mustLateBeTrue 15 = .ok (.if_icmp .ne 17, 3) := by decide +kernel
theorem dX3_mustLateBeTrue_18 : decode cX3_mustLateBeTrue 18 = .ok (.iload_n 1, 1) := by decide +kernel
theorem dX3_mustLateBeTrue_19 : decode cX3_mustLateBeTrue 19 = .ok (.aload_n 0, 1) := by decide +kernel
theorem dX3_mustLateBeTrue_20 : decode cX3_mustLateBeTrue 20 = .ok (.getfield 54, 3) := by decide +kernel
theorem dX3_mustLateBeTrue_23 : decode cX3_mustLateBeTrue 23 = .ok (.if_icmp .ge 7, 3) := by decide +kernel
theorem dX3_mustLateBeTrue_26 : decode cX3_mustLateBeTrue 26 = .ok (.iconst 1, 1) := by decide +kernel
theorem dX3_mustLateBeTrue_27 : decode cX3_mustLateBeTrue 27 = .ok (.goto 4, 3) := by decide +kernel
theorem dX3_mustLateBeTrue_30 : decode cX3_mustLateBeTrue 30 = .ok (.iconst 0, 1) := by decide +kernel
theorem dX3_mustLateBeTrue_31 : decode cX3_mustLateBeTrue 31 = .ok (.ireturn, 1) := by decide +kernel
theorem dX3_mustLateBeTrue_32 : decode cX3_mustLateBeTrue 32 = .ok (.iload_n 1, 1) := by decide +kernel
theorem dX3_mustLateBeTrue_33 : decode cX3_mustLateBeTrue 33 = .ok (.aload_n 0, 1) := by decide +kernel
theorem dX3_mustLateBeTrue_34 : decode cX3_mustLateBeTrue 34 = .ok (.getfield 54, 3) := by decide +kernel
theorem dX3_mustLateBeTrue_37 : decode cX3_mustLateBeTrue 37 = .ok (.iconst 1, 1) := by decide +kernel
theorem dX3_mustLateBeTrue_38 : decode cX3_mustLateBeTrue 38 = .ok (.isub, 1) := by decide +kernel
theorem dX3_mustLateBeTrue_39 : decode cX3_mustLateBeTrue 39 = .ok (.if_icmp .lt 13, 3) := by decide +kernel
theorem dX3_mustLateBeTrue_42 : decode cX3_mustLateBeTrue 42 = .ok (.iload_n 1, 1) := by decide +kernel
theorem dX3_mustLateBeTrue_43 : decode cX3_mustLateBeTrue 43 = .ok (.aload_n 0, 1) := by decide +kernel
theorem dX3_mustLateBeTrue_44 : decode cX3_mustLateBeTrue 44 = .ok (.getfield 51, 3) := by decide +kernel
theorem dX3_mustLateBeTrue_47 : decode cX3_mustLateBeTrue 47 = .ok (.iconst 1, 1) := by decide +kernel
theorem dX3_mustLateBeTrue_48 : decode cX3_mustLateBeTrue 48 = .ok (.isub, 1) := by decide +kernel
theorem dX3_mustLateBeTrue_49 : decode cX3_mustLateBeTrue 49 = .ok (.if_icmp .ne 7, 3) := by decide +kernel
theorem dX3_mustLateBeTrue_52 : decode cX3_mustLateBeTrue 52 = .ok (.iconst 1, 1) := by decide +kernel
theorem dX3_mustLateBeTrue_53 : decode cX3_mustLateBeTrue 53 = .ok (.goto 4, 3) := by decide +kernel
theorem dX3_mustLateBeTrue_56 : decode cX3_mustLateBeTrue 56 = .ok (.iconst 0, 1) := by decide +kernel
theorem dX3_mustLateBeTrue_57 : decode cX3_mustLateBeTrue 57 = .ok (.ireturn, 1) := by decide +kernel
theorem dX3_lawfulRows_0 : decode cX3_lawfulRows 0 = .ok (.aload_n 0, 1) := by decide +kernel
theorem dX3_lawfulRows_1 : decode cX3_lawfulRows 1 = .ok (.getfield 15, 3) := by decide +kernel
theorem dX3_lawfulRows_4 : decode cX3_lawfulRows 4 = .ok (.iload_n 1, 1) := by decide +kernel
theorem dX3_lawfulRows_5 : decode cX3_lawfulRows 5 = .ok (.iaload, 1) := by decide +kernel
theorem dX3_lawfulRows_6 : decode cX3_lawfulRows 6 = .ok (.bipush 6, 2) := by decide +kernel
theorem dX3_lawfulRows_8 : decode cX3_lawfulRows 8 = .ok (.if_icmp .ne 11, 3) := by decide +kernel
theorem dX3_lawfulRows_11 : decode cX3_lawfulRows 11 = .ok (.iconst 1, 1) := by decide +kernel
theorem dX3_lawfulRows_12 : decode cX3_lawfulRows 12 = .ok (.iload_n 2, 1) := by decide +kernel
theorem dX3_lawfulRows_13 : decode cX3_lawfulRows 13 = .ok (.iconst 1, 1) := by decide +kernel
theorem dX3_lawfulRows_14 : decode cX3_lawfulRows 14 = .ok (.iadd, 1) := by decide +kernel
theorem dX3_lawfulRows_15 : decode cX3_lawfulRows 15 = .ok (.iconst 2, 1) := by decide +kernel
theorem dX3_lawfulRows_16 : decode cX3_lawfulRows 16 = .ok (.idiv, 1) := by decide +kernel
theorem dX3_lawfulRows_17 : decode cX3_lawfulRows 17 = .ok (.ishl, 1) := by decide +kernel
theorem dX3_lawfulRows_18 : decode cX3_lawfulRows 18 = .ok (.ireturn, 1) := by decide +kernel
theorem dX3_lawfulRows_19 : decode cX3_lawfulRows 19 = .ok (.aload_n 0, 1) := by decide +kernel
theorem dX3_lawfulRows_20 : decode cX3_lawfulRows 20 = .ok (.getfield 15, 3) := by decide +kernel
theorem dX3_lawfulRows_23 : decode cX3_lawfulRows 23 = .ok (.iload_n 1, 1) := by decide +kernel
theorem dX3_lawfulRows_24 : decode cX3_lawfulRows 24 = .ok (.iaload, 1) := by decide +kernel
theorem dX3_lawfulRows_25 : decode cX3_lawfulRows 25 = .ok (.ifCond .eq 5, 3) := by decide +kernel
theorem dX3_lawfulRows_28 : decode cX3_lawfulRows 28 = .ok (.iconst 1, 1) := by decide +kernel
theorem dX3_lawfulRows_29 : decode cX3_lawfulRows 29 = .ok (.ireturn, 1) := by decide +kernel
theorem dX3_lawfulRows_30 : decode cX3_lawfulRows 30 = .ok (.iconst 0, 1) := by decide +kernel
theorem dX3_lawfulRows_31 : decode cX3_lawfulRows 31 = .ok (.istore_n 3, 1) := by decide +kernel
theorem dX3_lawfulRows_32 : decode cX3_lawfulRows 32 = .ok (.iconst 1, 1) := by decide +kernel
theorem dX3_lawfulRows_33 : decode cX3_lawfulRows 33 = .ok (.istore 4, 2) := by decide +kernel
theorem dX3_lawfulRows_35 : decode cX3_lawfulRows 35 = .ok (.iconst 0, 1) := by decide +kernel
theorem dX3_lawfulRows_36 : decode cX3_lawfulRows 36 = .ok (.istore 5, 2) := by decide +kernel
theorem dX3_lawfulRows_38 : decode cX3_lawfulRows 38 = .ok (.iload 5, 2) := by decide +kernel
theorem dX3_lawfulRows_40 : decode cX3_lawfulRows 40 = .ok (.iload_n 2, 1) := by decide +kernel
theorem dX3_lawfulRows_41 : decode cX3_lawfulRows 41 = .ok (.if_icmp .gt 53, 3) := by decide +kernel
theorem dX3_lawfulRows_44 : decode cX3_lawfulRows 44 = .ok (.iload 5, 2) := by decide +kernel
theorem dX3_lawfulRows_46 : decode cX3_lawfulRows 46 = .ok (.aload_n 0, 1) := by decide +kernel
theorem dX3_lawfulRows_47 : decode cX3_lawfulRows 47 = .ok (.getfield 54, 3) := by decide +kernel
theorem dX3_lawfulRows_50 : decode cX3_lawfulRows 50 = .ok (.if_icmp .gt 24, 3) := by decide +kernel
theorem dX3_lawfulRows_53 : decode cX3_lawfulRows 53 = .ok (.iload_n 2, 1) := by decide +kernel
theorem dX3_lawfulRows_54 : decode cX3_lawfulRows 54 = .ok (.iload 5, 2) := by decide +kernel
theorem dX3_lawfulRows_56 : decode cX3_lawfulRows 56 = .ok (.isub, 1) := by decide +kernel
theorem dX3_lawfulRows_57 : decode cX3_lawfulRows 57 = .ok (.aload_n 0, 1) := by decide +kernel
theorem dX3_lawfulRows_58 : decode cX3_lawfulRows 58 = .ok (.getfield 51, 3) := by decide +kernel
theorem dX3_lawfulRows_61 : decode cX3_lawfulRows 61 = .ok (.aload_n 0, 1) := by decide +kernel
theorem dX3_lawfulRows_62 : decode cX3_lawfulRows 62 = .ok (.getfield 54, 3) := by decide +kernel
theorem dX3_lawfulRows_65 : decode cX3_lawfulRows 65 = .ok (.isub, 1) := by decide +kernel
theorem dX3_lawfulRows_66 : decode cX3_lawfulRows 66 = .ok (.if_icmp .gt 8, 3) := by decide +kernel
theorem dX3_lawfulRows_69 : decode cX3_lawfulRows 69 = .ok (.iload_n 3, 1) := by decide +kernel
theorem dX3_lawfulRows_70 : decode cX3_lawfulRows 70 = .ok (.iload 4, 2) := by decide +kernel
theorem dX3_lawfulRows_72 : decode cX3_lawfulRows 72 = .ok (.iadd, 1) := by decide +kernel
theorem dX3_lawfulRows_73 : decode cX3_lawfulRows 73 = .ok (.istore_n 3, 1) := by decide +kernel
theorem dX3_lawfulRows_74 : decode cX3_lawfulRows 74 = .ok (.iload 4, 2) := by decide +kernel
theorem dX3_lawfulRows_76 : decode cX3_lawfulRows 76 = .ok (.iload_n 2, 1) := by decide +kernel
theorem dX3_lawfulRows_77 : decode cX3_lawfulRows 77 = .ok (.iload 5, 2) := by decide +kernel
theorem dX3_lawfulRows_79 : decode cX3_lawfulRows 79 = .ok (.isub, 1) := by decide +kernel
theorem dX3_lawfulRows_80 : decode cX3_lawfulRows 80 = .ok (.imul, 1) := by decide +kernel
theorem dX3_lawfulRows_81 : decode cX3_lawfulRows 81 = .ok (.iload 5, 2) := by decide +kernel
theorem dX3_lawfulRows_83 : decode cX3_lawfulRows 83 = .ok (.iconst 1, 1) := by decide +kernel
theorem dX3_lawfulRows_84 : decode cX3_lawfulRows 84 = .ok (.iadd, 1) := by decide +kernel
theorem dX3_lawfulRows_85 : decode cX3_lawfulRows 85 = .ok (.idiv, 1) := by decide +kernel
theorem dX3_lawfulRows_86 : decode cX3_lawfulRows 86 = .ok (.istore 4, 2) := by decide +kernel
theorem dX3_lawfulRows_88 : decode cX3_lawfulRows 88 = .ok (.iinc 5 1, 3) := by decide +kernel
theorem dX3_lawfulRows_91 : decode cX3_lawfulRows 91 = .ok (.goto (-53), 3) := by decide +kernel
theorem dX3_lawfulRows_94 : decode cX3_lawfulRows 94 = .ok (.iload_n 3, 1) := by decide +kernel
theorem dX3_lawfulRows_95 : decode cX3_lawfulRows 95 = .ok (.ireturn, 1) := by decide +kernel
theorem dX4_init_0 : decode cX4_init 0 = .ok (.aload_n 0, 1) := by decide +kernel
theorem dX4_init_1 : decode cX4_init 1 = .ok (.invokespecial 1, 3) := by decide +kernel
theorem dX4_init_4 : decode cX4_init 4 = .ok (.aload_n 0, 1) := by decide +kernel
theorem dX4_init_5 : decode cX4_init 5 = .ok (.new 7, 3) := by decide +kernel
theorem dX4_init_8 : decode cX4_init 8 = .ok (.dup, 1) := by decide +kernel
theorem dX4_init_9 : decode cX4_init 9 = .ok (.invokespecial 9, 3) := by decide +kernel
theorem dX4_init_12 : decode cX4_init 12 = .ok (.putfield 10, 3) := by decide +kernel
theorem dX4_init_15 : decode cX4_init 15 = .ok (.aload_n 0, 1) := by decide +kernel
theorem dX4_init_16 : decode cX4_init 16 = .ok (.new 7, 3) := by decide +kernel
theorem dX4_init_19 : decode cX4_init 19 = .ok (.dup, 1) := by decide +kernel
theorem dX4_init_20 : decode cX4_init 20 = .ok (.invokespecial 9, 3) := by decide +kernel
theorem dX4_init_23 : decode cX4_init 23 = .ok (.putfield 16, 3) := by decide +kernel
theorem dX4_init_26 : decode cX4_init 26 = .ok (.aload_n 0, 1) := by decide +kernel
theorem dX4_init_27 : decode cX4_init 27 = .ok (.new 7, 3) := by decide +kernel
theorem dX4_init_30 : decode cX4_init 30 = .ok (.dup, 1) := by decide +kernel
theorem dX4_init_31 : decode cX4_init 31 = .ok (.invokespecial 9, 3) := by decide +kernel
theorem dX4_init_34 : decode cX4_init 34 = .ok (.putfield 19, 3) := by decide +kernel
theorem dX4_init_37 : decode cX4_init 37 = .ok (.aload_n 0, 1) := by decide +kernel
theorem dX4_init_38 : decode cX4_init 38 = .ok (.bipush 8, 2) := by decide +kernel
theorem dX4_init_40 : decode cX4_init 40 = .ok (.anewarray 22, 3) := by decide +kernel
theorem dX4_init_43 : decode cX4_init 43 = .ok (.putfield 24, 3) := by decide +kernel
theorem dX4_init_46 : decode cX4_init 46 = .ok (.aload_n 0, 1) := by decide +kernel
theorem dX4_init_47 : decode cX4_init 47 = .ok (.new 28, 3) := by decide +kernel
theorem dX4_init_50 : decode cX4_init 50 = .ok (.dup, 1) := by decide +kernel
theorem dX4_init_51 : decode cX4_init 51 = .ok (.invokespecial 30, 3) := by decide +kernel
theorem dX4_init_54 : decode cX4_init 54 = .ok (.putfield 31, 3) := by decide +kernel
theorem dX4_init_57 : decode cX4_init 57 = .ok (.aload_n 0, 1) := by decide +kernel
theorem dX4_init_58 : decode cX4_init 58 = .ok (.new 35, 3) := by decide +kernel
theorem dX4_init_61 : decode cX4_init 61 = .ok (.dup, 1) := by decide +kernel
theorem dX4_init_62 : decode cX4_init 62 = .ok (.invokespecial 37, 3) := by decide +kernel
theorem dX4_init_65 : decode cX4_init 65 = .ok (.putfield 38, 3) := by decide +kernel
theorem dX4_init_68 : decode cX4_init 68 = .ok (.aload_n 0, 1) := by decide +kernel
theorem dX4_init_69 : decode cX4_init 69 = .ok (.bipush 8, 2) := by decide +kernel
theorem dX4_init_71 : decode cX4_init 71 = .ok (.newarray .int, 2) := by decide +kernel
theorem dX4_init_73 : decode cX4_init 73 = .ok (.putfield 42, 3) := by decide +kernel
theorem dX4_init_76 : decode cX4_init 76 = .ok (.aload_n 0, 1) := by decide +kernel
theorem dX4_init_77 : decode cX4_init 77 = .ok (.iconst 0, 1) := by decide +kernel
theorem dX4_init_78 : decode cX4_init 78 = .ok (.putfield 46, 3) := by decide +kernel
theorem dX4_init_81 : decode cX4_init 81 = .ok (.aload_n 0, 1) := by decide +kernel
theorem dX4_init_82 : decode cX4_init 82 = .ok (.iconst (-1), 1) := by decide +kernel
theorem dX4_init_83 : decode cX4_init 83 = .ok (.putfield 50, 3) := by decide +kernel
theorem dX4_init_86 : decode cX4_init 86 = .ok (.iconst 0, 1) := by decide +kernel
theorem dX4_init_87 : decode cX4_init 87 = .ok (.istore_n 1, 1) := by decide +kernel
theorem dX4_init_88 : decode cX4_init 88 = .ok (.iload_n 1, 1) := by decide +kernel
theorem dX4_init_89 : decode cX4_init 89 = .ok (.bipush 8, 2) := by decide +kernel
theorem dX4_init_91 : decode cX4_init 91 = .ok (.if_icmp .ge 22, 3) := by decide +kernel
theorem dX4_init_94 : decode cX4_init 94 = .ok (.aload_n 0, 1) := by decide +kernel
theorem dX4_init_95 : decode cX4_init 95 = .ok (.getfield 24, 3) := by decide +kernel
theorem dX4_init_98 : decode cX4_init 98 = .ok (.iload_n 1, 1) := by decide +kernel
theorem dX4_init_99 : decode cX4_init 99 = .ok (.new 22, 3) := by decide +kernel
theorem dX4_init_102 : decode cX4_init 102 = .ok (.dup, 1) := by decide +kernel
theorem dX4_init_103 : decode cX4_init 103 = .ok (.invokespecial 54, 3) := by decide +kernel
theorem dX4_init_106 : decode cX4_init 106 = .ok (.aastore, 1) := by decide +kernel
theorem dX4_init_107 : decode cX4_init 107 = .ok (.iinc 1 1, 3) := by decide +kernel
theorem dX4_init_110 : decode cX4_init 110 = .ok (.goto (-22), 3) := by decide +kernel
theorem dX4_init_113 : decode cX4_init 113 = .ok (.return_, 1) := by decide +kernel
theorem dX4_refuse_0 : decode cX4_refuse 0 = .ok (.aload_n 0, 1) := by decide +kernel
theorem dX4_refuse_1 : decode cX4_refuse 1 = .ok (.iload_n 1, 1) := by decide +kernel
theorem dX4_refuse_2 : decode cX4_refuse 2 = .ok (.iload_n 1, 1) := by decide +kernel
theorem dX4_refuse_3 : decode cX4_refuse 3 = .ok (.invokevirtual 55, 3) := by decide +kernel
theorem dX4_refuse_6 : decode cX4_refuse 6 = .ok (.ireturn, 1) := by decide +kernel
theorem dX4_refuse__0 : decode cX4_refuse_ 0 = .ok (.iload_n 1, 1) := by decide +kernel
theorem dX4_refuse__1 : decode cX4_refuse_ 1 = .ok (.ineg, 1) := by decide +kernel
theorem dX4_refuse__2 : decode cX4_refuse_ 2 = .ok (.istore_n 3, 1) := by decide +kernel
theorem dX4_refuse__3 : decode cX4_refuse_ 3 = .ok (.iload_n 3, 1) := by decide +kernel
theorem dX4_refuse__4 : decode cX4_refuse_ 4 = .ok (.ifCond .le 22, 3) := by decide +kernel
theorem dX4_refuse__7 : decode cX4_refuse_ 7 = .ok (.iload_n 3, 1) := by decide +kernel
theorem dX4_refuse__8 : decode cX4_refuse_ 8 = .ok (.aload_n 0, 1) := by decide +kernel
theorem dX4_refuse__9 : decode cX4_refuse_ 9 = .ok (.getfield 42, 3) := by decide +kernel
theorem dX4_refuse__12 : decode cX4_refuse_ 12 = .ok (.arraylength, 1) := by decide +kernel
theorem dX4_refuse__13 : decode cX4_refuse_ 13 = .ok (.if_icmp .ge 13, 3) := by decide +kernel
theorem dX4_refuse__16 : decode cX4_refuse_ 16 = .ok (.aload_n 0, 1) := by decide +kernel
theorem dX4_refuse__17 : decode cX4_refuse_ 17 = .ok (.getfield 42, 3) := by decide +kernel
theorem dX4_refuse__20 : decode cX4_refuse_ 20 = .ok (.iload_n 3, 1) := by decide +kernel
theorem dX4_refuse__21 : decode cX4_refuse_ 21 = .ok (.dup2, 1) := by decide +kernel
theorem dX4_refuse__22 : decode cX4_refuse_ 22 = .ok (.iaload, 1) := by decide +kernel
theorem dX4_refuse__23 : decode cX4_refuse_ 23 = .ok (.iconst 1, 1) := by decide +kernel
theorem dX4_refuse__24 : decode cX4_refuse_ 24 = .ok (.iadd, 1) := by decide +kernel
theorem dX4_refuse__25 : decode cX4_refuse_ 25 = .ok (.iastore, 1) := by decide +kernel
theorem dX4_refuse__26 : decode cX4_refuse_ 26 = .ok (.iload_n 2, 1) := by decide +kernel
theorem dX4_refuse__27 : decode cX4_refuse_ 27 = .ok (.ireturn, 1) := by decide +kernel
theorem dX4_isShelf_0 : decode cX4_isShelf 0 = .ok (.iload_n 0, 1) := by decide +kernel
theorem dX4_isShelf_1 : decode cX4_isShelf 1 = .ok (.ifCond .lt 13, 3) := by decide +kernel
theorem dX4_isShelf_4 : decode cX4_isShelf 4 = .ok (.iload_n 0, 1) := by decide +kernel
theorem dX4_isShelf_5 : decode cX4_isShelf 5 = .ok (.bipush 8, 2) := by decide +kernel
theorem dX4_isShelf_7 : decode cX4_isShelf 7 = .ok (.if_icmp .ge 7, 3) := by decide +kernel
theorem dX4_isShelf_10 : decode cX4_isShelf 10 = .ok (.iconst 1, 1) := by decide +kernel
theorem dX4_isShelf_11 : decode cX4_isShelf 11 = .ok (.goto 4, 3) := by decide +kernel
theorem dX4_isShelf_14 : decode cX4_isShelf 14 = .ok (.iconst 0, 1) := by decide +kernel
theorem dX4_isShelf_15 : decode cX4_isShelf 15 = .ok (.ireturn, 1) := by decide +kernel
theorem dX4_isKind_0 : decode cX4_isKind 0 = .ok (.iload_n 0, 1) := by decide +kernel
theorem dX4_isKind_1 : decode cX4_isKind 1 = .ok (.ifCond .lt 13, 3) := by decide +kernel
theorem dX4_isKind_4 : decode cX4_isKind 4 = .ok (.iload_n 0, 1) := by decide +kernel
theorem dX4_isKind_5 : decode cX4_isKind 5 = .ok (.bipush 6, 2) := by decide +kernel
theorem dX4_isKind_7 : decode cX4_isKind 7 = .ok (.if_icmp .gt 7, 3) := by decide +kernel
theorem dX4_isKind_10 : decode cX4_isKind 10 = .ok (.iconst 1, 1) := by decide +kernel
theorem dX4_isKind_11 : decode cX4_isKind 11 = .ok (.goto 4, 3) := by decide +kernel
theorem dX4_isKind_14 : decode cX4_isKind 14 = .ok (.iconst 0, 1) := by decide +kernel
theorem dX4_isKind_15 : decode cX4_isKind 15 = .ok (.ireturn, 1) := by decide +kernel
theorem dX4_truthOf_0 : decode cX4_truthOf 0 = .ok (.iload_n 1, 1) := by decide +kernel
theorem dX4_truthOf_1 : decode cX4_truthOf 1 = .ok (.ifCond .eq 11, 3) := by decide +kernel
theorem dX4_truthOf_4 : decode cX4_truthOf 4 = .ok (.getstatic 59, 3) := by decide +kernel
theorem dX4_truthOf_7 : decode cX4_truthOf 7 = .ok (.iload_n 0, 1) := by decide +kernel
theorem dX4_truthOf_8 : decode cX4_truthOf 8 = .ok (.laload, 1) := by decide +kernel
theorem dX4_truthOf_9 : decode cX4_truthOf 9 = .ok (.goto 12, 3) := by decide +kernel
theorem dX4_truthOf_12 : decode cX4_truthOf 12 = .ok (.getstatic 59, 3) := by decide +kernel
theorem dX4_truthOf_15 : decode cX4_truthOf 15 = .ok (.iload_n 0, 1) := by decide +kernel
theorem dX4_truthOf_16 : decode cX4_truthOf 16 = .ok (.laload, 1) := by decide +kernel
theorem dX4_truthOf_17 : decode cX4_truthOf 17 = .ok (.ldc2_w 63, 3) := by decide +kernel
theorem dX4_truthOf_20 : decode cX4_truthOf 20 = .ok (.lxor, 1) := by decide +kernel
theorem dX4_truthOf_21 : decode cX4_truthOf 21 = .ok (.lreturn, 1) := by decide +kernel
theorem dX4_within_0 : decode cX4_within 0 = .ok (.iload_n 0, 1) := by decide +kernel
theorem dX4_within_1 : decode cX4_within 1 = .ok (.iload_n 1, 1) := by decide +kernel
theorem dX4_within_2 : decode cX4_within 2 = .ok (.if_icmp .lt 12, 3) := by decide +kernel
theorem dX4_within_5 : decode cX4_within 5 = .ok (.iload_n 0, 1) := by decide +kernel
theorem dX4_within_6 : decode cX4_within 6 = .ok (.iload_n 2, 1) := by decide +kernel
theorem dX4_within_7 : decode cX4_within 7 = .ok (.if_icmp .gt 7, 3) := by decide +kernel
theorem dX4_within_10 : decode cX4_within 10 = .ok (.iconst 1, 1) := by decide +kernel
theorem dX4_within_11 : decode cX4_within 11 = .ok (.goto 4, 3) := by decide +kernel
theorem dX4_within_14 : decode cX4_within 14 = .ok (.iconst 0, 1) := by decide +kernel
theorem dX4_within_15 : decode cX4_within 15 = .ok (.ireturn, 1) := by decide +kernel
theorem dX4_isUnder_0 : decode cX4_isUnder 0 = .ok (.iload_n 0, 1) := by decide +kernel
theorem dX4_isUnder_1 : decode cX4_isUnder 1 = .ok (.istore_n 2, 1) := by decide +kernel
theorem dX4_isUnder_2 : decode cX4_isUnder 2 = .ok (.iconst 0, 1) := by decide +kernel
theorem dX4_isUnder_3 : decode cX4_isUnder 3 = .ok (.istore_n 3, 1) := by decide +kernel
theorem dX4_isUnder_4 : decode cX4_isUnder 4 = .ok (.iload_n 3, 1) := by decide +kernel
theorem dX4_isUnder_5 : decode cX4_isUnder 5 = .ok (.getstatic 65, 3) := by decide +kernel
theorem dX4_isUnder_8 : decode cX4_isUnder 8 = .ok (.arraylength, 1) := by decide +kernel
theorem dX4_isUnder_9 : decode cX4_isUnder 9 = .ok (.if_icmp .ge 29, 3) := by decide +kernel
theorem dX4_isUnder_12 : decode cX4_isUnder 12 = .ok (.iload_n 2, 1) := by decide +kernel
theorem dX4_isUnder_13 : decode cX4_isUnder 13 = .ok (.invokestatic 68, 3) := by decide +kernel
theorem dX4_isUnder_16 : decode cX4_isUnder 16 = .ok (.ifCond .eq 22, 3) := by decide +kernel
theorem dX4_isUnder_19 : decode cX4_isUnder 19 = .ok (.iload_n 2, 1) := by decide +kernel
theorem dX4_isUnder_20 : decode cX4_isUnder 20 = .ok (.iload_n 1, 1) := by decide +kernel
theorem dX4_isUnder_21 : decode cX4_isUnder 21 = .ok (.if_icmp .ne 5, 3) := by decide +kernel
theorem dX4_isUnder_24 : decode cX4_isUnder 24 = .ok (.iconst 1, 1) := by decide +kernel
theorem dX4_isUnder_25 : decode cX4_isUnder 25 = .ok (.ireturn, 1) := by decide +kernel
theorem dX4_isUnder_26 : decode cX4_isUnder 26 = .ok (.getstatic 65, 3) := by decide +kernel
theorem dX4_isUnder_29 : decode cX4_isUnder 29 = .ok (.iload_n 2, 1) := by decide +kernel
theorem dX4_isUnder_30 : decode cX4_isUnder 30 = .ok (.iaload, 1) := by decide +kernel
theorem dX4_isUnder_31 : decode cX4_isUnder 31 = .ok (.istore_n 2, 1) := by decide +kernel
theorem dX4_isUnder_32 : decode cX4_isUnder 32 = .ok (.iinc 3 1, 3) := by decide +kernel
theorem dX4_isUnder_35 : decode cX4_isUnder 35 = .ok (.goto (-31), 3) := by decide +kernel
theorem dX4_isUnder_38 : decode cX4_isUnder 38 = .ok (.iconst 0, 1) := by decide +kernel
theorem dX4_isUnder_39 : decode cX4_isUnder 39 = .ok (.ireturn, 1) := by decide +kernel
theorem dX4_noRow_0 : decode cX4_noRow 0 = .ok (.iload_n 1, 1) := by decide +kernel
theorem dX4_noRow_1 : decode cX4_noRow 1 = .ok (.invokestatic 72, 3) := by decide +kernel
theorem dX4_noRow_4 : decode cX4_noRow 4 = .ok (.ifCond .ne 5, 3) := by decide +kernel
theorem dX4_noRow_7 : decode cX4_noRow 7 = .ok (.iconst (-1), 1) := by decide +kernel
theorem dX4_noRow_8 : decode cX4_noRow 8 = .ok (.ireturn, 1) := by decide +kernel
theorem dX4_noRow_9 : decode cX4_noRow 9 = .ok (.aload_n 0, 1) := by decide +kernel
theorem dX4_noRow_10 : decode cX4_noRow 10 = .ok (.getfield 24, 3) := by decide +kernel
theorem dX4_noRow_13 : decode cX4_noRow 13 = .ok (.iload_n 1, 1) := by decide +kernel
theorem dX4_noRow_14 : decode cX4_noRow 14 = .ok (.aaload, 1) := by decide +kernel
theorem dX4_noRow_15 : decode cX4_noRow 15 = .ok (.invokevirtual 75, 3) := by decide +kernel
theorem dX4_noRow_18 : decode cX4_noRow 18 = .ok (.ifCond .eq 6, 3) := by decide +kernel
theorem dX4_noRow_21 : decode cX4_noRow 21 = .ok (.bipush (-2), 2) := by decide +kernel
theorem dX4_noRow_23 : decode cX4_noRow 23 = .ok (.ireturn, 1) := by decide +kernel
theorem dX4_noRow_24 : decode cX4_noRow 24 = .ok (.aload_n 0, 1) := by decide +kernel
theorem dX4_noRow_25 : decode cX4_noRow 25 = .ok (.getfield 24, 3) := by decide +kernel
theorem dX4_noRow_28 : decode cX4_noRow 28 = .ok (.iload_n 1, 1) := by decide +kernel
theorem dX4_noRow_29 : decode cX4_noRow 29 = .ok (.aaload, 1) := by decide +kernel
theorem dX4_noRow_30 : decode cX4_noRow 30 = .ok (.invokevirtual 79, 3) := by decide +kernel
theorem dX4_noRow_33 : decode cX4_noRow 33 = .ok (.ifCond .eq 7, 3) := by decide +kernel
theorem dX4_noRow_36 : decode cX4_noRow 36 = .ok (.iconst 0, 1) := by decide +kernel
theorem dX4_noRow_37 : decode cX4_noRow 37 = .ok (.goto 5, 3) := by decide +kernel
theorem dX4_noRow_40 : decode cX4_noRow 40 = .ok (.bipush (-3), 2) := by decide +kernel
theorem dX4_noRow_42 : decode cX4_noRow 42 = .ok (.ireturn, 1) := by decide +kernel
theorem dX4_row_0 : decode cX4_row 0 = .ok (.iload_n 1, 1) := by decide +kernel
theorem dX4_row_1 : decode cX4_row 1 = .ok (.invokestatic 72, 3) := by decide +kernel
theorem dX4_row_4 : decode cX4_row 4 = .ok (.ifCond .ne 9, 3) := by decide +kernel
theorem dX4_row_7 : decode cX4_row 7 = .ok (.aload_n 0, 1) := by decide +kernel
theorem dX4_row_8 : decode cX4_row 8 = .ok (.iconst (-1), 1) := by decide +kernel
theorem dX4_row_9 : decode cX4_row 9 = .ok (.invokevirtual 82, 3) := by decide +kernel
theorem dX4_row_12 : decode cX4_row 12 = .ok (.ireturn, 1) := by decide +kernel
theorem dX4_row_13 : decode cX4_row 13 = .ok (.iload_n 3, 1) := by decide +kernel
theorem dX4_row_14 : decode cX4_row 14 = .ok (.ifCond .ge 10, 3) := by decide +kernel
theorem dX4_row_17 : decode cX4_row 17 = .ok (.aload_n 0, 1) := by decide +kernel
theorem dX4_row_18 : decode cX4_row 18 = .ok (.bipush (-4), 2) := by decide +kernel
theorem dX4_row_20 : decode cX4_row 20 = .ok (.invokevirtual 82, 3) := by decide +kernel
theorem dX4_row_23 : decode cX4_row 23 = .ok (.ireturn, 1) := by decide +kernel
theorem dX4_row_24 : decode cX4_row 24 = .ok (.iload_n 2, 1) := by decide +kernel
theorem dX4_row_25 : decode cX4_row 25 = .ok (.iconst 0, 1) := by decide +kernel
theorem dX4_row_26 : decode cX4_row 26 = .ok (.iconst 3, 1) := by decide +kernel
theorem dX4_row_27 : decode cX4_row 27 = .ok (.invokestatic 85, 3) := by decide +kernel
theorem dX4_row_30 : decode cX4_row 30 = .ok (.ifCond .ne 10, 3) := by decide +kernel
theorem dX4_row_33 : decode cX4_row 33 = .ok (.aload_n 0, 1) := by decide +kernel
theorem dX4_row_34 : decode cX4_row 34 = .ok (.bipush (-6), 2) := by decide +kernel
theorem dX4_row_36 : decode cX4_row 36 = .ok (.invokevirtual 82, 3) := by decide +kernel
theorem dX4_row_39 : decode cX4_row 39 = .ok (.ireturn, 1) := by decide +kernel
theorem dX4_row_40 : decode cX4_row 40 = .ok (.iload_n 3, 1) := by decide +kernel
theorem dX4_row_41 : decode cX4_row 41 = .ok (.sipush 160, 3) := by decide +kernel
theorem dX4_row_44 : decode cX4_row 44 = .ok (.if_icmp .le 10, 3) := by decide +kernel
theorem dX4_row_47 : decode cX4_row 47 = .ok (.aload_n 0, 1) := by decide +kernel
theorem dX4_row_48 : decode cX4_row 48 = .ok (.bipush (-7), 2) := by decide +kernel
theorem dX4_row_50 : decode cX4_row 50 = .ok (.invokevirtual 82, 3) := by decide +kernel
theorem dX4_row_53 : decode cX4_row 53 = .ok (.ireturn, 1) := by decide +kernel
theorem dX4_row_54 : decode cX4_row 54 = .ok (.aload_n 0, 1) := by decide +kernel
theorem dX4_row_55 : decode cX4_row 55 = .ok (.getfield 24, 3) := by decide +kernel
theorem dX4_row_58 : decode cX4_row 58 = .ok (.iload_n 1, 1) := by decide +kernel
theorem dX4_row_59 : decode cX4_row 59 = .ok (.aaload, 1) := by decide +kernel
theorem dX4_row_60 : decode cX4_row 60 = .ok (.iload_n 2, 1) := by decide +kernel
theorem dX4_row_61 : decode cX4_row 61 = .ok (.iload_n 3, 1) := by decide +kernel
theorem dX4_row_62 : decode cX4_row 62 = .ok (.invokevirtual 89, 3) := by decide +kernel
theorem dX4_row_65 : decode cX4_row 65 = .ok (.iconst 1, 1) := by decide +kernel
theorem dX4_row_66 : decode cX4_row 66 = .ok (.ireturn, 1) := by decide +kernel
theorem dX4_set_0 : decode cX4_set 0 = .ok (.aload_n 0, 1) := by decide +kernel
theorem dX4_set_1 : decode cX4_set 1 = .ok (.iload_n 1, 1) := by decide +kernel
theorem dX4_set_2 : decode cX4_set 2 = .ok (.invokevirtual 93, 3) := by decide +kernel
theorem dX4_set_5 : decode cX4_set 5 = .ok (.istore 5, 2) := by decide +kernel
theorem dX4_set_7 : decode cX4_set 7 = .ok (.iload 5, 2) := by decide +kernel
theorem dX4_set_9 : decode cX4_set 9 = .ok (.ifCond .eq 10, 3) := by decide +kernel
theorem dX4_set_12 : decode cX4_set 12 = .ok (.aload_n 0, 1) := by decide +kernel
theorem dX4_set_13 : decode cX4_set 13 = .ok (.iload 5, 2) := by decide +kernel
theorem dX4_set_15 : decode cX4_set 15 = .ok (.invokevirtual 82, 3) := by decide +kernel
theorem dX4_set_18 : decode cX4_set 18 = .ok (.ireturn, 1) := by decide +kernel
theorem dX4_set_19 : decode cX4_set 19 = .ok (.aload_n 0, 1) := by decide +kernel
theorem dX4_set_20 : decode cX4_set 20 = .ok (.getfield 24, 3) := by decide +kernel
theorem dX4_set_23 : decode cX4_set 23 = .ok (.iload_n 1, 1) := by decide +kernel
theorem dX4_set_24 : decode cX4_set 24 = .ok (.aaload, 1) := by decide +kernel
theorem dX4_set_25 : decode cX4_set 25 = .ok (.iload_n 2, 1) := by decide +kernel
theorem dX4_set_26 : decode cX4_set 26 = .ok (.invokevirtual 96, 3) := by decide +kernel
theorem dX4_set_29 : decode cX4_set 29 = .ok (.ifCond .ne 10, 3) := by decide +kernel
theorem dX4_set_32 : decode cX4_set 32 = .ok (.aload_n 0, 1) := by decide +kernel
theorem dX4_set_33 : decode cX4_set 33 = .ok (.bipush (-5), 2) := by decide +kernel
theorem dX4_set_35 : decode cX4_set 35 = .ok (.invokevirtual 82, 3) := by decide +kernel
theorem dX4_set_38 : decode cX4_set 38 = .ok (.ireturn, 1) := by decide +kernel
theorem dX4_set_39 : decode cX4_set 39 = .ok (.aload_n 0, 1) := by decide +kernel
theorem dX4_set_40 : decode cX4_set 40 = .ok (.getfield 24, 3) := by decide +kernel
theorem dX4_set_43 : decode cX4_set 43 = .ok (.iload_n 1, 1) := by decide +kernel
theorem dX4_set_44 : decode cX4_set 44 = .ok (.aaload, 1) := by decide +kernel
theorem dX4_set_45 : decode cX4_set 45 = .ok (.iload_n 2, 1) := by decide +kernel
theorem dX4_set_46 : decode cX4_set 46 = .ok (.lload_n 3, 1) := by decide +kernel
theorem dX4_set_47 : decode cX4_set 47 = .ok (.invokevirtual 99, 3) := by decide +kernel
theorem dX4_set_50 : decode cX4_set 50 = .ok (.iconst 1, 1) := by decide +kernel
theorem dX4_set_51 : decode cX4_set 51 = .ok (.ireturn, 1) := by decide +kernel
theorem dX4_copy_0 : decode cX4_copy 0 = .ok (.iload_n 1, 1) := by decide +kernel
theorem dX4_copy_1 : decode cX4_copy 1 = .ok (.invokestatic 72, 3) := by decide +kernel
theorem dX4_copy_4 : decode cX4_copy 4 = .ok (.ifCond .eq 10, 3) := by decide +kernel
theorem dX4_copy_7 : decode cX4_copy 7 = .ok (.iload_n 2, 1) := by decide +kernel
theorem dX4_copy_8 : decode cX4_copy 8 = .ok (.invokestatic 72, 3) := by decide +kernel
theorem dX4_copy_11 : decode cX4_copy 11 = .ok (.ifCond .ne 9, 3) := by decide +kernel
theorem dX4_copy_14 : decode cX4_copy 14 = .ok (.aload_n 0, 1) := by decide +kernel
theorem dX4_copy_15 : decode cX4_copy 15 = .ok (.iconst (-1), 1) := by decide +kernel
theorem dX4_copy_16 : decode cX4_copy 16 = .ok (.invokevirtual 82, 3) := by decide +kernel
theorem dX4_copy_19 : decode cX4_copy 19 = .ok (.ireturn, 1) := by decide +kernel
theorem dX4_copy_20 : decode cX4_copy 20 = .ok (.aload_n 0, 1) := by decide +kernel
theorem dX4_copy_21 : decode cX4_copy 21 = .ok (.getfield 24, 3) := by decide +kernel
theorem dX4_copy_24 : decode cX4_copy 24 = .ok (.iload_n 1, 1) := by decide +kernel
theorem dX4_copy_25 : decode cX4_copy 25 = .ok (.aaload, 1) := by decide +kernel
theorem dX4_copy_26 : decode cX4_copy 26 = .ok (.astore 6, 2) := by decide +kernel
theorem dX4_copy_28 : decode cX4_copy 28 = .ok (.aload_n 0, 1) := by decide +kernel
theorem dX4_copy_29 : decode cX4_copy 29 = .ok (.getfield 24, 3) := by decide +kernel
theorem dX4_copy_32 : decode cX4_copy 32 = .ok (.iload_n 2, 1) := by decide +kernel
theorem dX4_copy_33 : decode cX4_copy 33 = .ok (.aaload, 1) := by decide +kernel
theorem dX4_copy_34 : decode cX4_copy 34 = .ok (.astore 7, 2) := by decide +kernel
theorem dX4_copy_36 : decode cX4_copy 36 = .ok (.aload 6, 2) := by decide +kernel
theorem dX4_copy_38 : decode cX4_copy 38 = .ok (.invokevirtual 75, 3) := by decide +kernel
theorem dX4_copy_41 : decode cX4_copy 41 = .ok (.ifCond .ne 40, 3) := by decide +kernel
theorem dX4_copy_44 : decode cX4_copy 44 = .ok (.aload 7, 2) := by decide +kernel
theorem dX4_copy_46 : decode cX4_copy 46 = .ok (.invokevirtual 75, 3) := by decide +kernel
theorem dX4_copy_49 : decode cX4_copy 49 = .ok (.ifCond .ne 32, 3) := by decide +kernel
theorem dX4_copy_52 : decode cX4_copy 52 = .ok (.aload 6, 2) := by decide +kernel
theorem dX4_copy_54 : decode cX4_copy 54 = .ok (.invokevirtual 79, 3) := by decide +kernel
theorem dX4_copy_57 : decode cX4_copy 57 = .ok (.ifCond .eq 31, 3) := by decide +kernel
theorem dX4_copy_60 : decode cX4_copy 60 = .ok (.aload 7, 2) := by decide +kernel
theorem dX4_copy_62 : decode cX4_copy 62 = .ok (.invokevirtual 79, 3) := by decide +kernel
theorem dX4_copy_65 : decode cX4_copy 65 = .ok (.ifCond .eq 23, 3) := by decide +kernel
theorem dX4_copy_68 : decode cX4_copy 68 = .ok (.aload 6, 2) := by decide +kernel
theorem dX4_copy_70 : decode cX4_copy 70 = .ok (.getfield 103, 3) := by decide +kernel
theorem dX4_copy_73 : decode cX4_copy 73 = .ok (.aload 7, 2) := by decide +kernel
theorem dX4_copy_75 : decode cX4_copy 75 = .ok (.getfield 103, 3) := by decide +kernel
theorem dX4_copy_78 : decode cX4_copy 78 = .ok (.if_icmp .eq 10, 3) := by decide +kernel
theorem dX4_copy_81 : decode cX4_copy 81 = .ok (.aload_n 0, 1) := by decide +kernel
theorem dX4_copy_82 : decode cX4_copy 82 = .ok (.bipush (-2), 2) := by decide +kernel
theorem dX4_copy_84 : decode cX4_copy 84 = .ok (.invokevirtual 82, 3) := by decide +kernel
theorem dX4_copy_87 : decode cX4_copy 87 = .ok (.ireturn, 1) := by decide +kernel
theorem dX4_copy_88 : decode cX4_copy 88 = .ok (.aload 6, 2) := by decide +kernel
theorem dX4_copy_90 : decode cX4_copy 90 = .ok (.invokevirtual 79, 3) := by decide +kernel
theorem dX4_copy_93 : decode cX4_copy 93 = .ok (.ifCond .eq 11, 3) := by decide +kernel
theorem dX4_copy_96 : decode cX4_copy 96 = .ok (.aload 7, 2) := by decide +kernel
theorem dX4_copy_98 : decode cX4_copy 98 = .ok (.invokevirtual 79, 3) := by decide +kernel
theorem dX4_copy_101 : decode cX4_copy 101 = .ok (.ifCond .ne 10, 3) := by decide +kernel
theorem dX4_copy_104 : decode cX4_copy 104 = .ok (.aload_n 0, 1) := by decide +kernel
theorem dX4_copy_105 : decode cX4_copy 105 = .ok (.bipush (-3), 2) := by decide +kernel
theorem dX4_copy_107 : decode cX4_copy 107 = .ok (.invokevirtual 82, 3) := by decide +kernel
theorem dX4_copy_110 : decode cX4_copy 110 = .ok (.ireturn, 1) := by decide +kernel
theorem dX4_copy_111 : decode cX4_copy 111 = .ok (.iload 5, 2) := by decide +kernel
theorem dX4_copy_113 : decode cX4_copy 113 = .ok (.ifCond .ge 10, 3) := by decide +kernel
theorem dX4_copy_116 : decode cX4_copy 116 = .ok (.aload_n 0, 1) := by decide +kernel
theorem dX4_copy_117 : decode cX4_copy 117 = .ok (.bipush (-4), 2) := by decide +kernel
theorem dX4_copy_119 : decode cX4_copy 119 = .ok (.invokevirtual 82, 3) := by decide +kernel
theorem dX4_copy_122 : decode cX4_copy 122 = .ok (.ireturn, 1) := by decide +kernel
theorem dX4_copy_123 : decode cX4_copy 123 = .ok (.aload 6, 2) := by decide +kernel
theorem dX4_copy_125 : decode cX4_copy 125 = .ok (.iload_n 3, 1) := by decide +kernel
theorem dX4_copy_126 : decode cX4_copy 126 = .ok (.iload 5, 2) := by decide +kernel
theorem dX4_copy_128 : decode cX4_copy 128 = .ok (.invokevirtual 106, 3) := by decide +kernel
theorem dX4_copy_131 : decode cX4_copy 131 = .ok (.ifCond .eq 15, 3) := by decide +kernel
theorem dX4_copy_134 : decode cX4_copy 134 = .ok (.aload 7, 2) := by decide +kernel
theorem dX4_copy_136 : decode cX4_copy 136 = .ok (.iload 4, 2) := by decide +kernel
theorem dX4_copy_138 : decode cX4_copy 138 = .ok (.iload 5, 2) := by decide +kernel
theorem dX4_copy_140 : decode cX4_copy 140 = .ok (.invokevirtual 106, 3) := by decide +kernel
theorem dX4_copy_143 : decode cX4_copy 143 = .ok (.ifCond .ne 10, 3) := by decide +kernel
theorem dX4_copy_146 : decode cX4_copy 146 = .ok (.aload_n 0, 1) := by decide +kernel
theorem dX4_copy_147 : decode cX4_copy 147 = .ok (.bipush (-5), 2) := by decide +kernel
theorem dX4_copy_149 : decode cX4_copy 149 = .ok (.invokevirtual 82, 3) := by decide +kernel
theorem dX4_copy_152 : decode cX4_copy 152 = .ok (.ireturn, 1) := by decide +kernel
theorem dX4_copy_153 : decode cX4_copy 153 = .ok (.aload 6, 2) := by decide +kernel
theorem dX4_copy_155 : decode cX4_copy 155 = .ok (.getfield 110, 3) := by decide +kernel
theorem dX4_copy_158 : decode cX4_copy 158 = .ok (.iload_n 3, 1) := by decide +kernel
theorem dX4_copy_159 : decode cX4_copy 159 = .ok (.aload 7, 2) := by decide +kernel
theorem dX4_copy_161 : decode cX4_copy 161 = .ok (.getfield 110, 3) := by decide +kernel
theorem dX4_copy_164 : decode cX4_copy 164 = .ok (.iload 4, 2) := by decide +kernel
theorem dX4_copy_166 : decode cX4_copy 166 = .ok (.iload 5, 2) := by decide +kernel
theorem dX4_copy_168 : decode cX4_copy 168 = .ok (.invokestatic 113, 3) := by decide +kernel
theorem dX4_copy_171 : decode cX4_copy 171 = .ok (.iconst 1, 1) := by decide +kernel
theorem dX4_copy_172 : decode cX4_copy 172 = .ok (.ireturn, 1) := by decide +kernel
theorem dX4_element_0 : decode cX4_element 0 = .ok (.iload_n 1, 1) := by decide +kernel
theorem dX4_element_1 : decode cX4_element 1 = .ok (.invokestatic 72, 3) := by decide +kernel
theorem dX4_element_4 : decode cX4_element 4 = .ok (.ifCond .eq 30, 3) := by decide +kernel
theorem dX4_element_7 : decode cX4_element 7 = .ok (.aload_n 0, 1) := by decide +kernel
theorem dX4_element_8 : decode cX4_element 8 = .ok (.getfield 24, 3) := by decide +kernel
theorem dX4_element_11 : decode cX4_element 11 = .ok (.iload_n 1, 1) := by decide +kernel
theorem dX4_element_12 : decode cX4_element 12 = .ok (.aaload, 1) := by decide +kernel
theorem dX4_element_13 : decode cX4_element 13 = .ok (.iload_n 2, 1) := by decide +kernel
theorem dX4_element_14 : decode cX4_element 14 = .ok (.invokevirtual 96, 3) := by decide +kernel
theorem dX4_element_17 : decode cX4_element 17 = .ok (.ifCond .eq 17, 3) := by decide +kernel
theorem dX4_element_20 : decode cX4_element 20 = .ok (.aload_n 0, 1) := by decide +kernel
theorem dX4_element_21 : decode cX4_element 21 = .ok (.getfield 24, 3) := by decide +kernel
theorem dX4_element_24 : decode cX4_element 24 = .ok (.iload_n 1, 1) := by decide +kernel
theorem dX4_element_25 : decode cX4_element 25 = .ok (.aaload, 1) := by decide +kernel
theorem dX4_element_26 : decode cX4_element 26 = .ok (.getfield 110, 3) := by decide +kernel
theorem dX4_element_29 : decode cX4_element 29 = .ok (.iload_n 2, 1) := by decide +kernel
theorem dX4_element_30 : decode cX4_element 30 = .ok (.laload, 1) := by decide +kernel
theorem dX4_element_31 : decode cX4_element 31 = .ok (.goto 4, 3) := by decide +kernel
theorem dX4_element_34 : decode cX4_element 34 = .ok (.lconst 0, 1) := by decide +kernel
theorem dX4_element_35 : decode cX4_element 35 = .ok (.lreturn, 1) := by decide +kernel
theorem dX4_show_0 : decode cX4_show 0 = .ok (.iload_n 1, 1) := by decide +kernel
theorem dX4_show_1 : decode cX4_show 1 = .ok (.invokestatic 72, 3) := by decide +kernel
theorem dX4_show_4 : decode cX4_show 4 = .ok (.ifCond .eq 19, 3) := by decide +kernel
theorem dX4_show_7 : decode cX4_show 7 = .ok (.iload_n 2, 1) := by decide +kernel
theorem dX4_show_8 : decode cX4_show 8 = .ok (.iconst (-1), 1) := by decide +kernel
theorem dX4_show_9 : decode cX4_show 9 = .ok (.if_icmp .eq 20, 3) := by decide +kernel
theorem dX4_show_12 : decode cX4_show 12 = .ok (.aload_n 0, 1) := by decide +kernel
theorem dX4_show_13 : decode cX4_show 13 = .ok (.getfield 10, 3) := by decide +kernel
theorem dX4_show_16 : decode cX4_show 16 = .ok (.iload_n 2, 1) := by decide +kernel
theorem dX4_show_17 : decode cX4_show 17 = .ok (.invokevirtual 119, 3) := by decide +kernel
theorem dX4_show_20 : decode cX4_show 20 = .ok (.ifCond .ne 9, 3) := by decide +kernel
theorem dX4_show_23 : decode cX4_show 23 = .ok (.aload_n 0, 1) := by decide +kernel
theorem dX4_show_24 : decode cX4_show 24 = .ok (.iconst (-1), 1) := by decide +kernel
theorem dX4_show_25 : decode cX4_show 25 = .ok (.invokevirtual 82, 3) := by decide +kernel
theorem dX4_show_28 : decode cX4_show 28 = .ok (.ireturn, 1) := by decide +kernel
theorem dX4_show_29 : decode cX4_show 29 = .ok (.aload_n 0, 1) := by decide +kernel
theorem dX4_show_30 : decode cX4_show 30 = .ok (.getfield 24, 3) := by decide +kernel
theorem dX4_show_33 : decode cX4_show 33 = .ok (.iload_n 1, 1) := by decide +kernel
theorem dX4_show_34 : decode cX4_show 34 = .ok (.aaload, 1) := by decide +kernel
theorem dX4_show_35 : decode cX4_show 35 = .ok (.iload_n 2, 1) := by decide +kernel
theorem dX4_show_36 : decode cX4_show 36 = .ok (.putfield 103, 3) := by decide +kernel
theorem dX4_show_39 : decode cX4_show 39 = .ok (.iload_n 2, 1) := by decide +kernel
theorem dX4_show_40 : decode cX4_show 40 = .ok (.iconst (-1), 1) := by decide +kernel
theorem dX4_show_41 : decode cX4_show 41 = .ok (.if_icmp .ne 7, 3) := by decide +kernel
theorem dX4_show_44 : decode cX4_show 44 = .ok (.iconst 0, 1) := by decide +kernel
theorem dX4_show_45 : decode cX4_show 45 = .ok (.goto 4, 3) := by decide +kernel
theorem dX4_show_48 : decode cX4_show 48 = .ok (.iconst 1, 1) := by decide +kernel
theorem dX4_show_49 : decode cX4_show 49 = .ok (.ireturn, 1) := by decide +kernel
theorem dX4_holds_0 : decode cX4_holds 0 = .ok (.iload_n 1, 1) := by decide +kernel
theorem dX4_holds_1 : decode cX4_holds 1 = .ok (.invokestatic 72, 3) := by decide +kernel
theorem dX4_holds_4 : decode cX4_holds 4 = .ok (.ifCond .eq 15, 3) := by decide +kernel
theorem dX4_holds_7 : decode cX4_holds 7 = .ok (.aload_n 0, 1) := by decide +kernel
theorem dX4_holds_8 : decode cX4_holds 8 = .ok (.getfield 24, 3) := by decide +kernel
theorem dX4_holds_11 : decode cX4_holds 11 = .ok (.iload_n 1, 1) := by decide +kernel
theorem dX4_holds_12 : decode cX4_holds 12 = .ok (.aaload, 1) := by decide +kernel
theorem dX4_holds_13 : decode cX4_holds 13 = .ok (.getfield 103, 3) := by decide +kernel
theorem dX4_holds_16 : decode cX4_holds 16 = .ok (.goto 4, 3) := by decide +kernel
theorem dX4_holds_19 : decode cX4_holds 19 = .ok (.iconst (-1), 1) := by decide +kernel
theorem dX4_holds_20 : decode cX4_holds 20 = .ok (.ireturn, 1) := by decide +kernel
theorem dX4_says_0 : decode cX4_says 0 = .ok (.iload_n 1, 1) := by decide +kernel
theorem dX4_says_1 : decode cX4_says 1 = .ok (.invokestatic 72, 3) := by decide +kernel
theorem dX4_says_4 : decode cX4_says 4 = .ok (.ifCond .eq 10, 3) := by decide +kernel
theorem dX4_says_7 : decode cX4_says 7 = .ok (.iload_n 2, 1) := by decide +kernel
theorem dX4_says_8 : decode cX4_says 8 = .ok (.invokestatic 68, 3) := by decide +kernel
theorem dX4_says_11 : decode cX4_says 11 = .ok (.ifCond .ne 9, 3) := by decide +kernel
theorem dX4_says_14 : decode cX4_says 14 = .ok (.aload_n 0, 1) := by decide +kernel
theorem dX4_says_15 : decode cX4_says 15 = .ok (.iconst (-1), 1) := by decide +kernel
theorem dX4_says_16 : decode cX4_says 16 = .ok (.invokevirtual 82, 3) := by decide +kernel
theorem dX4_says_19 : decode cX4_says 19 = .ok (.ireturn, 1) := by decide +kernel
theorem dX4_says_20 : decode cX4_says 20 = .ok (.aload_n 0, 1) := by decide +kernel
theorem dX4_says_21 : decode cX4_says 21 = .ok (.getfield 24, 3) := by decide +kernel
theorem dX4_says_24 : decode cX4_says 24 = .ok (.iload_n 1, 1) := by decide +kernel
theorem dX4_says_25 : decode cX4_says 25 = .ok (.aaload, 1) := by decide +kernel
theorem dX4_says_26 : decode cX4_says 26 = .ok (.invokevirtual 79, 3) := by decide +kernel
theorem dX4_says_29 : decode cX4_says 29 = .ok (.ifCond .eq 10, 3) := by decide +kernel
theorem dX4_says_32 : decode cX4_says 32 = .ok (.aload_n 0, 1) := by decide +kernel
theorem dX4_says_33 : decode cX4_says 33 = .ok (.bipush (-2), 2) := by decide +kernel
theorem dX4_says_35 : decode cX4_says 35 = .ok (.invokevirtual 82, 3) := by decide +kernel
theorem dX4_says_38 : decode cX4_says 38 = .ok (.ireturn, 1) := by decide +kernel
theorem dX4_says_39 : decode cX4_says 39 = .ok (.aload_n 0, 1) := by decide +kernel
theorem dX4_says_40 : decode cX4_says 40 = .ok (.getfield 24, 3) := by decide +kernel
theorem dX4_says_43 : decode cX4_says 43 = .ok (.iload_n 1, 1) := by decide +kernel
theorem dX4_says_44 : decode cX4_says 44 = .ok (.aaload, 1) := by decide +kernel
theorem dX4_says_45 : decode cX4_says 45 = .ok (.getfield 103, 3) := by decide +kernel
theorem dX4_says_48 : decode cX4_says 48 = .ok (.istore_n 3, 1) := by decide +kernel
theorem dX4_says_49 : decode cX4_says 49 = .ok (.aload_n 0, 1) := by decide +kernel
theorem dX4_says_50 : decode cX4_says 50 = .ok (.getfield 10, 3) := by decide +kernel
theorem dX4_says_53 : decode cX4_says 53 = .ok (.iload_n 3, 1) := by decide +kernel
theorem dX4_says_54 : decode cX4_says 54 = .ok (.invokevirtual 119, 3) := by decide +kernel
theorem dX4_says_57 : decode cX4_says 57 = .ok (.ifCond .ne 10, 3) := by decide +kernel
theorem dX4_says_60 : decode cX4_says 60 = .ok (.aload_n 0, 1) := by decide +kernel
theorem dX4_says_61 : decode cX4_says 61 = .ok (.bipush (-3), 2) := by decide +kernel
theorem dX4_says_63 : decode cX4_says 63 = .ok (.invokevirtual 82, 3) := by decide +kernel
theorem dX4_says_66 : decode cX4_says 66 = .ok (.ireturn, 1) := by decide +kernel
theorem dX4_says_67 : decode cX4_says 67 = .ok (.aload_n 0, 1) := by decide +kernel
theorem dX4_says_68 : decode cX4_says 68 = .ok (.getfield 10, 3) := by decide +kernel
theorem dX4_says_71 : decode cX4_says 71 = .ok (.getfield 121, 3) := by decide +kernel
theorem dX4_says_74 : decode cX4_says 74 = .ok (.iload_n 3, 1) := by decide +kernel
theorem dX4_says_75 : decode cX4_says 75 = .ok (.iaload, 1) := by decide +kernel
theorem dX4_says_76 : decode cX4_says 76 = .ok (.iload_n 2, 1) := by decide +kernel
theorem dX4_says_77 : decode cX4_says 77 = .ok (.invokestatic 124, 3) := by decide +kernel
theorem dX4_says_80 : decode cX4_says 80 = .ok (.ifCond .ne 10, 3) := by decide +kernel
theorem dX4_says_83 : decode cX4_says 83 = .ok (.aload_n 0, 1) := by decide +kernel
theorem dX4_says_84 : decode cX4_says 84 = .ok (.bipush (-2), 2) := by decide +kernel
theorem dX4_says_86 : decode cX4_says 86 = .ok (.invokevirtual 82, 3) := by decide +kernel
theorem dX4_says_89 : decode cX4_says 89 = .ok (.ireturn, 1) := by decide +kernel
theorem dX4_says_90 : decode cX4_says 90 = .ok (.aload_n 0, 1) := by decide +kernel
theorem dX4_says_91 : decode cX4_says 91 = .ok (.getfield 10, 3) := by decide +kernel
theorem dX4_says_94 : decode cX4_says 94 = .ok (.getfield 127, 3) := by decide +kernel
theorem dX4_says_97 : decode cX4_says 97 = .ok (.iload_n 3, 1) := by decide +kernel
theorem dX4_says_98 : decode cX4_says 98 = .ok (.iaload, 1) := by decide +kernel
theorem dX4_says_99 : decode cX4_says 99 = .ok (.istore 4, 2) := by decide +kernel
theorem dX4_says_101 : decode cX4_says 101 = .ok (.iload_n 2, 1) := by decide +kernel
theorem dX4_says_102 : decode cX4_says 102 = .ok (.ifCond .ne 6, 3) := by decide +kernel
theorem dX4_says_105 : decode cX4_says 105 = .ok (.iload 4, 2) := by decide +kernel
theorem dX4_says_107 : decode cX4_says 107 = .ok (.ireturn, 1) := by decide +kernel
theorem dX4_says_108 : decode cX4_says 108 = .ok (.iload_n 2, 1) := by decide +kernel
theorem dX4_says_109 : decode cX4_says 109 = .ok (.bipush 6, 2) := by decide +kernel
theorem dX4_says_111 : decode cX4_says 111 = .ok (.if_icmp .ne 8, 3) := by decide +kernel
theorem dX4_says_114 : decode cX4_says 114 = .ok (.iload 4, 2) := by decide +kernel
theorem dX4_says_116 : decode cX4_says 116 = .ok (.iconst 2, 1) := by decide +kernel
theorem dX4_says_117 : decode cX4_says 117 = .ok (.idiv, 1) := by decide +kernel
theorem dX4_says_118 : decode cX4_says 118 = .ok (.ireturn, 1) := by decide +kernel
theorem dX4_says_119 : decode cX4_says 119 = .ok (.aload_n 0, 1) := by decide +kernel
theorem dX4_says_120 : decode cX4_says 120 = .ok (.getfield 10, 3) := by decide +kernel
theorem dX4_says_123 : decode cX4_says 123 = .ok (.iload_n 3, 1) := by decide +kernel
theorem dX4_says_124 : decode cX4_says 124 = .ok (.iload 4, 2) := by decide +kernel
theorem dX4_says_126 : decode cX4_says 126 = .ok (.invokevirtual 130, 3) := by decide +kernel
theorem dX4_says_129 : decode cX4_says 129 = .ok (.ifCond .eq 7, 3) := by decide +kernel
theorem dX4_says_132 : decode cX4_says 132 = .ok (.iconst 1, 1) := by decide +kernel
theorem dX4_says_133 : decode cX4_says 133 = .ok (.goto 4, 3) := by decide +kernel
theorem dX4_says_136 : decode cX4_says 136 = .ok (.iconst 0, 1) := by decide +kernel
theorem dX4_says_137 : decode cX4_says 137 = .ok (.ireturn, 1) := by decide +kernel
theorem dX4_fact_0 : decode cX4_fact 0 = .ok (.iload_n 1, 1) := by decide +kernel
theorem dX4_fact_1 : decode cX4_fact 1 = .ok (.iconst 0, 1) := by decide +kernel
theorem dX4_fact_2 : decode cX4_fact 2 = .ok (.bipush 99, 2) := by decide +kernel
theorem dX4_fact_4 : decode cX4_fact 4 = .ok (.invokestatic 85, 3) := by decide +kernel
theorem dX4_fact_7 : decode cX4_fact 7 = .ok (.ifCond .ne 10, 3) := by decide +kernel
theorem dX4_fact_10 : decode cX4_fact 10 = .ok (.aload_n 0, 1) := by decide +kernel
theorem dX4_fact_11 : decode cX4_fact 11 = .ok (.bipush (-6), 2) := by decide +kernel
theorem dX4_fact_13 : decode cX4_fact 13 = .ok (.invokevirtual 82, 3) := by decide +kernel
theorem dX4_fact_16 : decode cX4_fact 16 = .ok (.ireturn, 1) := by decide +kernel
theorem dX4_fact_17 : decode cX4_fact 17 = .ok (.aload_n 0, 1) := by decide +kernel
theorem dX4_fact_18 : decode cX4_fact 18 = .ok (.getfield 10, 3) := by decide +kernel
theorem dX4_fact_21 : decode cX4_fact 21 = .ok (.getfield 133, 3) := by decide +kernel
theorem dX4_fact_24 : decode cX4_fact 24 = .ok (.bipush 6, 2) := by decide +kernel
theorem dX4_fact_26 : decode cX4_fact 26 = .ok (.if_icmp .lt 10, 3) := by decide +kernel
theorem dX4_fact_29 : decode cX4_fact 29 = .ok (.aload_n 0, 1) := by decide +kernel
theorem dX4_fact_30 : decode cX4_fact 30 = .ok (.bipush (-7), 2) := by decide +kernel
theorem dX4_fact_32 : decode cX4_fact 32 = .ok (.invokevirtual 82, 3) := by decide +kernel
theorem dX4_fact_35 : decode cX4_fact 35 = .ok (.ireturn, 1) := by decide +kernel
theorem dX4_fact_36 : decode cX4_fact 36 = .ok (.aload_n 0, 1) := by decide +kernel
theorem dX4_fact_37 : decode cX4_fact 37 = .ok (.getfield 10, 3) := by decide +kernel
theorem dX4_fact_40 : decode cX4_fact 40 = .ok (.iload_n 1, 1) := by decide +kernel
theorem dX4_fact_41 : decode cX4_fact 41 = .ok (.invokevirtual 136, 3) := by decide +kernel
theorem dX4_fact_44 : decode cX4_fact 44 = .ok (.aload_n 0, 1) := by decide +kernel
theorem dX4_fact_45 : decode cX4_fact 45 = .ok (.getfield 10, 3) := by decide +kernel
theorem dX4_fact_48 : decode cX4_fact 48 = .ok (.getfield 133, 3) := by decide +kernel
theorem dX4_fact_51 : decode cX4_fact 51 = .ok (.iconst 1, 1) := by decide +kernel
theorem dX4_fact_52 : decode cX4_fact 52 = .ok (.isub, 1) := by decide +kernel
theorem dX4_fact_53 : decode cX4_fact 53 = .ok (.ireturn, 1) := by decide +kernel
theorem dX4_speaker_0 : decode cX4_speaker 0 = .ok (.iload_n 1, 1) := by decide +kernel
theorem dX4_speaker_1 : decode cX4_speaker 1 = .ok (.invokestatic 68, 3) := by decide +kernel
theorem dX4_speaker_4 : decode cX4_speaker 4 = .ok (.ifCond .ne 9, 3) := by decide +kernel
theorem dX4_speaker_7 : decode cX4_speaker 7 = .ok (.aload_n 0, 1) := by decide +kernel
theorem dX4_speaker_8 : decode cX4_speaker 8 = .ok (.iconst (-1), 1) := by decide +kernel
theorem dX4_speaker_9 : decode cX4_speaker 9 = .ok (.invokevirtual 82, 3) := by decide +kernel
theorem dX4_speaker_12 : decode cX4_speaker 12 = .ok (.ireturn, 1) := by decide +kernel
theorem dX4_speaker_13 : decode cX4_speaker 13 = .ok (.iload_n 2, 1) := by decide +kernel
theorem dX4_speaker_14 : decode cX4_speaker 14 = .ok (.iconst 0, 1) := by decide +kernel
theorem dX4_speaker_15 : decode cX4_speaker 15 = .ok (.sipush 1023, 3) := by decide +kernel
theorem dX4_speaker_18 : decode cX4_speaker 18 = .ok (.invokestatic 85, 3) := by decide +kernel
theorem dX4_speaker_21 : decode cX4_speaker 21 = .ok (.ifCond .ne 10, 3) := by decide +kernel
theorem dX4_speaker_24 : decode cX4_speaker 24 = .ok (.aload_n 0, 1) := by decide +kernel
theorem dX4_speaker_25 : decode cX4_speaker 25 = .ok (.bipush (-6), 2) := by decide +kernel
theorem dX4_speaker_27 : decode cX4_speaker 27 = .ok (.invokevirtual 82, 3) := by decide +kernel
theorem dX4_speaker_30 : decode cX4_speaker 30 = .ok (.ireturn, 1) := by decide +kernel
theorem dX4_speaker_31 : decode cX4_speaker 31 = .ok (.aload_n 0, 1) := by decide +kernel
theorem dX4_speaker_32 : decode cX4_speaker 32 = .ok (.getfield 10, 3) := by decide +kernel
theorem dX4_speaker_35 : decode cX4_speaker 35 = .ok (.getfield 140, 3) := by decide +kernel
theorem dX4_speaker_38 : decode cX4_speaker 38 = .ok (.bipush 6, 2) := by decide +kernel
theorem dX4_speaker_40 : decode cX4_speaker 40 = .ok (.if_icmp .lt 10, 3) := by decide +kernel
theorem dX4_speaker_43 : decode cX4_speaker 43 = .ok (.aload_n 0, 1) := by decide +kernel
theorem dX4_speaker_44 : decode cX4_speaker 44 = .ok (.bipush (-7), 2) := by decide +kernel
theorem dX4_speaker_46 : decode cX4_speaker 46 = .ok (.invokevirtual 82, 3) := by decide +kernel
theorem dX4_speaker_49 : decode cX4_speaker 49 = .ok (.ireturn, 1) := by decide +kernel
theorem dX4_speaker_50 : decode cX4_speaker 50 = .ok (.aload_n 0, 1) := by decide +kernel
theorem dX4_speaker_51 : decode cX4_speaker 51 = .ok (.getfield 10, 3) := by decide +kernel
theorem dX4_speaker_54 : decode cX4_speaker 54 = .ok (.iload_n 1, 1) := by decide +kernel
theorem dX4_speaker_55 : decode cX4_speaker 55 = .ok (.iload_n 2, 1) := by decide +kernel
theorem dX4_speaker_56 : decode cX4_speaker 56 = .ok (.invokevirtual 143, 3) := by decide +kernel
theorem dX4_speaker_59 : decode cX4_speaker 59 = .ok (.aload_n 0, 1) := by decide +kernel
theorem dX4_speaker_60 : decode cX4_speaker 60 = .ok (.getfield 10, 3) := by decide +kernel
theorem dX4_speaker_63 : decode cX4_speaker 63 = .ok (.getfield 140, 3) := by decide +kernel
theorem dX4_speaker_66 : decode cX4_speaker 66 = .ok (.iconst 1, 1) := by decide +kernel
theorem dX4_speaker_67 : decode cX4_speaker 67 = .ok (.isub, 1) := by decide +kernel
theorem dX4_speaker_68 : decode cX4_speaker 68 = .ok (.ireturn, 1) := by decide +kernel
theorem dX4_law_0 : decode cX4_law 0 = .ok (.iload_n 1, 1) := by decide +kernel
theorem dX4_law_1 : decode cX4_law 1 = .ok (.iconst 2, 1) := by decide +kernel
theorem dX4_law_2 : decode cX4_law 2 = .ok (.bipush 10, 2) := by decide +kernel
theorem dX4_law_4 : decode cX4_law 4 = .ok (.invokestatic 85, 3) := by decide +kernel
theorem dX4_law_7 : decode cX4_law 7 = .ok (.ifCond .eq 22, 3) := by decide +kernel
theorem dX4_law_10 : decode cX4_law 10 = .ok (.iload_n 2, 1) := by decide +kernel
theorem dX4_law_11 : decode cX4_law 11 = .ok (.iconst 0, 1) := by decide +kernel
theorem dX4_law_12 : decode cX4_law 12 = .ok (.iload_n 1, 1) := by decide +kernel
theorem dX4_law_13 : decode cX4_law 13 = .ok (.invokestatic 85, 3) := by decide +kernel
theorem dX4_law_16 : decode cX4_law 16 = .ok (.ifCond .eq 13, 3) := by decide +kernel
theorem dX4_law_19 : decode cX4_law 19 = .ok (.aload_n 0, 1) := by decide +kernel
theorem dX4_law_20 : decode cX4_law 20 = .ok (.getfield 10, 3) := by decide +kernel
theorem dX4_law_23 : decode cX4_law 23 = .ok (.getfield 146, 3) := by decide +kernel
theorem dX4_law_26 : decode cX4_law 26 = .ok (.ifCond .le 10, 3) := by decide +kernel
theorem dX4_law_29 : decode cX4_law 29 = .ok (.aload_n 0, 1) := by decide +kernel
theorem dX4_law_30 : decode cX4_law 30 = .ok (.bipush (-6), 2) := by decide +kernel
theorem dX4_law_32 : decode cX4_law 32 = .ok (.invokevirtual 82, 3) := by decide +kernel
theorem dX4_law_35 : decode cX4_law 35 = .ok (.ireturn, 1) := by decide +kernel
theorem dX4_law_36 : decode cX4_law 36 = .ok (.bipush 100, 2) := by decide +kernel
theorem dX4_law_38 : decode cX4_law 38 = .ok (.aload_n 0, 1) := by decide +kernel
theorem dX4_law_39 : decode cX4_law 39 = .ok (.getfield 10, 3) := by decide +kernel
theorem dX4_law_42 : decode cX4_law 42 = .ok (.getfield 149, 3) := by decide +kernel
theorem dX4_law_45 : decode cX4_law 45 = .ok (.imul, 1) := by decide +kernel
theorem dX4_law_46 : decode cX4_law 46 = .ok (.aload_n 0, 1) := by decide +kernel
theorem dX4_law_47 : decode cX4_law 47 = .ok (.getfield 10, 3) := by decide +kernel
theorem dX4_law_50 : decode cX4_law 50 = .ok (.getfield 152, 3) := by decide +kernel
theorem dX4_law_53 : decode cX4_law 53 = .ok (.iadd, 1) := by decide +kernel
theorem dX4_law_54 : decode cX4_law 54 = .ok (.istore_n 3, 1) := by decide +kernel
theorem dX4_law_55 : decode cX4_law 55 = .ok (.aload_n 0, 1) := by decide +kernel
theorem dX4_law_56 : decode cX4_law 56 = .ok (.getfield 10, 3) := by decide +kernel
theorem dX4_law_59 : decode cX4_law 59 = .ok (.iload_n 1, 1) := by decide +kernel
theorem dX4_law_60 : decode cX4_law 60 = .ok (.putfield 149, 3) := by decide +kernel
theorem dX4_law_63 : decode cX4_law 63 = .ok (.aload_n 0, 1) := by decide +kernel
theorem dX4_law_64 : decode cX4_law 64 = .ok (.getfield 10, 3) := by decide +kernel
theorem dX4_law_67 : decode cX4_law 67 = .ok (.iload_n 2, 1) := by decide +kernel
theorem dX4_law_68 : decode cX4_law 68 = .ok (.putfield 152, 3) := by decide +kernel
theorem dX4_law_71 : decode cX4_law 71 = .ok (.iload_n 3, 1) := by decide +kernel
theorem dX4_law_72 : decode cX4_law 72 = .ok (.ireturn, 1) := by decide +kernel
theorem dX4_speakerOf_0 : decode cX4_speakerOf 0 = .ok (.aload_n 0, 1) := by decide +kernel
theorem dX4_speakerOf_1 : decode cX4_speakerOf 1 = .ok (.getfield 10, 3) := by decide +kernel
theorem dX4_speakerOf_4 : decode cX4_speakerOf 4 = .ok (.iload_n 1, 1) := by decide +kernel
theorem dX4_speakerOf_5 : decode cX4_speakerOf 5 = .ok (.invokevirtual 119, 3) := by decide +kernel
theorem dX4_speakerOf_8 : decode cX4_speakerOf 8 = .ok (.ifCond .ne 10, 3) := by decide +kernel
theorem dX4_speakerOf_11 : decode cX4_speakerOf 11 = .ok (.aload_n 0, 1) := by decide +kernel
theorem dX4_speakerOf_12 : decode cX4_speakerOf 12 = .ok (.bipush (-5), 2) := by decide +kernel
theorem dX4_speakerOf_14 : decode cX4_speakerOf 14 = .ok (.invokevirtual 82, 3) := by decide +kernel
theorem dX4_speakerOf_17 : decode cX4_speakerOf 17 = .ok (.ireturn, 1) := by decide +kernel
theorem dX4_speakerOf_18 : decode cX4_speakerOf 18 = .ok (.iload_n 2, 1) := by decide +kernel
theorem dX4_speakerOf_19 : decode cX4_speakerOf 19 = .ok (.tableswitch 55 0 2 #[25, 35, 45], 25) := by decide +kernel
theorem dX4_speakerOf_44 : decode cX4_speakerOf 44 = .ok (.aload_n 0, 1) := by decide +kernel
theorem dX4_speakerOf_45 : decode cX4_speakerOf 45 = .ok (.getfield 10, 3) := by decide +kernel
theorem dX4_speakerOf_48 : decode cX4_speakerOf 48 = .ok (.getfield 121, 3) := by decide +kernel
theorem dX4_speakerOf_51 : decode cX4_speakerOf 51 = .ok (.iload_n 1, 1) := by decide +kernel
theorem dX4_speakerOf_52 : decode cX4_speakerOf 52 = .ok (.iaload, 1) := by decide +kernel
theorem dX4_speakerOf_53 : decode cX4_speakerOf 53 = .ok (.ireturn, 1) := by decide +kernel
theorem dX4_speakerOf_54 : decode cX4_speakerOf 54 = .ok (.aload_n 0, 1) := by decide +kernel
theorem dX4_speakerOf_55 : decode cX4_speakerOf 55 = .ok (.getfield 10, 3) := by decide +kernel
theorem dX4_speakerOf_58 : decode cX4_speakerOf 58 = .ok (.getfield 155, 3) := by decide +kernel
theorem dX4_speakerOf_61 : decode cX4_speakerOf 61 = .ok (.iload_n 1, 1) := by decide +kernel
theorem dX4_speakerOf_62 : decode cX4_speakerOf 62 = .ok (.iaload, 1) := by decide +kernel
theorem dX4_speakerOf_63 : decode cX4_speakerOf 63 = .ok (.ireturn, 1) := by decide +kernel
theorem dX4_speakerOf_64 : decode cX4_speakerOf 64 = .ok (.aload_n 0, 1) := by decide +kernel
theorem dX4_speakerOf_65 : decode cX4_speakerOf 65 = .ok (.getfield 10, 3) := by decide +kernel
theorem dX4_speakerOf_68 : decode cX4_speakerOf 68 = .ok (.getfield 127, 3) := by decide +kernel
theorem dX4_speakerOf_71 : decode cX4_speakerOf 71 = .ok (.iload_n 1, 1) := by decide +kernel
theorem dX4_speakerOf_72 : decode cX4_speakerOf 72 = .ok (.iaload, 1) := by decide +kernel
theorem dX4_speakerOf_73 : decode cX4_speakerOf 73 = .ok (.ireturn, 1) := by decide +kernel
theorem dX4_speakerOf_74 : decode cX4_speakerOf 74 = .ok (.aload_n 0, 1) := by decide +kernel
theorem dX4_speakerOf_75 : decode cX4_speakerOf 75 = .ok (.bipush (-5), 2) := by decide +kernel
theorem dX4_speakerOf_77 : decode cX4_speakerOf 77 = .ok (.invokevirtual 82, 3) := by decide +kernel
theorem dX4_speakerOf_80 : decode cX4_speakerOf 80 = .ok (.ireturn, 1) := by decide +kernel
theorem dX4_harm_0 : decode cX4_harm 0 = .ok (.aload_n 0, 1) := by decide +kernel
theorem dX4_harm_1 : decode cX4_harm 1 = .ok (.getfield 10, 3) := by decide +kernel
theorem dX4_harm_4 : decode cX4_harm 4 = .ok (.iload_n 1, 1) := by decide +kernel
theorem dX4_harm_5 : decode cX4_harm 5 = .ok (.invokevirtual 158, 3) := by decide +kernel
theorem dX4_harm_8 : decode cX4_harm 8 = .ok (.ifCond .ne 9, 3) := by decide +kernel
theorem dX4_harm_11 : decode cX4_harm 11 = .ok (.aload_n 0, 1) := by decide +kernel
theorem dX4_harm_12 : decode cX4_harm 12 = .ok (.iconst (-1), 1) := by decide +kernel
theorem dX4_harm_13 : decode cX4_harm 13 = .ok (.invokevirtual 82, 3) := by decide +kernel
theorem dX4_harm_16 : decode cX4_harm 16 = .ok (.ireturn, 1) := by decide +kernel
theorem dX4_harm_17 : decode cX4_harm 17 = .ok (.iload_n 2, 1) := by decide +kernel
theorem dX4_harm_18 : decode cX4_harm 18 = .ok (.iconst 0, 1) := by decide +kernel
theorem dX4_harm_19 : decode cX4_harm 19 = .ok (.bipush 99, 2) := by decide +kernel
theorem dX4_harm_21 : decode cX4_harm 21 = .ok (.invokestatic 85, 3) := by decide +kernel
theorem dX4_harm_24 : decode cX4_harm 24 = .ok (.ifCond .ne 10, 3) := by decide +kernel
theorem dX4_harm_27 : decode cX4_harm 27 = .ok (.aload_n 0, 1) := by decide +kernel
theorem dX4_harm_28 : decode cX4_harm 28 = .ok (.bipush (-6), 2) := by decide +kernel
theorem dX4_harm_30 : decode cX4_harm 30 = .ok (.invokevirtual 82, 3) := by decide +kernel
theorem dX4_harm_33 : decode cX4_harm 33 = .ok (.ireturn, 1) := by decide +kernel
theorem dX4_harm_34 : decode cX4_harm 34 = .ok (.aload_n 0, 1) := by decide +kernel
theorem dX4_harm_35 : decode cX4_harm 35 = .ok (.getfield 10, 3) := by decide +kernel
theorem dX4_harm_38 : decode cX4_harm 38 = .ok (.getfield 161, 3) := by decide +kernel
theorem dX4_harm_41 : decode cX4_harm 41 = .ok (.iload_n 1, 1) := by decide +kernel
theorem dX4_harm_42 : decode cX4_harm 42 = .ok (.iaload, 1) := by decide +kernel
theorem dX4_harm_43 : decode cX4_harm 43 = .ok (.istore_n 3, 1) := by decide +kernel
theorem dX4_harm_44 : decode cX4_harm 44 = .ok (.aload_n 0, 1) := by decide +kernel
theorem dX4_harm_45 : decode cX4_harm 45 = .ok (.getfield 10, 3) := by decide +kernel
theorem dX4_harm_48 : decode cX4_harm 48 = .ok (.getfield 161, 3) := by decide +kernel
theorem dX4_harm_51 : decode cX4_harm 51 = .ok (.iload_n 1, 1) := by decide +kernel
theorem dX4_harm_52 : decode cX4_harm 52 = .ok (.iload_n 2, 1) := by decide +kernel
theorem dX4_harm_53 : decode cX4_harm 53 = .ok (.iastore, 1) := by decide +kernel
theorem dX4_harm_54 : decode cX4_harm 54 = .ok (.iload_n 3, 1) := by decide +kernel
theorem dX4_harm_55 : decode cX4_harm 55 = .ok (.ireturn, 1) := by decide +kernel
theorem dX4_say_0 : decode cX4_say 0 = .ok (.aload_n 0, 1) := by decide +kernel
theorem dX4_say_1 : decode cX4_say 1 = .ok (.getfield 10, 3) := by decide +kernel
theorem dX4_say_4 : decode cX4_say 4 = .ok (.iload_n 1, 1) := by decide +kernel
theorem dX4_say_5 : decode cX4_say 5 = .ok (.invokevirtual 119, 3) := by decide +kernel
theorem dX4_say_8 : decode cX4_say 8 = .ok (.ifCond .eq 14, 3) := by decide +kernel
theorem dX4_say_11 : decode cX4_say 11 = .ok (.aload_n 0, 1) := by decide +kernel
theorem dX4_say_12 : decode cX4_say 12 = .ok (.getfield 10, 3) := by decide +kernel
theorem dX4_say_15 : decode cX4_say 15 = .ok (.iload_n 2, 1) := by decide +kernel
theorem dX4_say_16 : decode cX4_say 16 = .ok (.invokevirtual 158, 3) := by decide +kernel
theorem dX4_say_19 : decode cX4_say 19 = .ok (.ifCond .ne 9, 3) := by decide +kernel
theorem dX4_say_22 : decode cX4_say 22 = .ok (.aload_n 0, 1) := by decide +kernel
theorem dX4_say_23 : decode cX4_say 23 = .ok (.iconst (-1), 1) := by decide +kernel
theorem dX4_say_24 : decode cX4_say 24 = .ok (.invokevirtual 82, 3) := by decide +kernel
theorem dX4_say_27 : decode cX4_say 27 = .ok (.ireturn, 1) := by decide +kernel
theorem dX4_say_28 : decode cX4_say 28 = .ok (.aload_n 0, 1) := by decide +kernel
theorem dX4_say_29 : decode cX4_say 29 = .ok (.getfield 10, 3) := by decide +kernel
theorem dX4_say_32 : decode cX4_say 32 = .ok (.iload_n 1, 1) := by decide +kernel
theorem dX4_say_33 : decode cX4_say 33 = .ok (.invokevirtual 164, 3) := by decide +kernel
theorem dX4_say_36 : decode cX4_say 36 = .ok (.ifCond .eq 10, 3) := by decide +kernel
theorem dX4_say_39 : decode cX4_say 39 = .ok (.aload_n 0, 1) := by decide +kernel
theorem dX4_say_40 : decode cX4_say 40 = .ok (.bipush (-6), 2) := by decide +kernel
theorem dX4_say_42 : decode cX4_say 42 = .ok (.invokevirtual 82, 3) := by decide +kernel
theorem dX4_say_45 : decode cX4_say 45 = .ok (.ireturn, 1) := by decide +kernel
theorem dX4_say_46 : decode cX4_say 46 = .ok (.aload_n 0, 1) := by decide +kernel
theorem dX4_say_47 : decode cX4_say 47 = .ok (.getfield 10, 3) := by decide +kernel
theorem dX4_say_50 : decode cX4_say 50 = .ok (.iload_n 1, 1) := by decide +kernel
theorem dX4_say_51 : decode cX4_say 51 = .ok (.iload_n 2, 1) := by decide +kernel
theorem dX4_say_52 : decode cX4_say 52 = .ok (.iload_n 3, 1) := by decide +kernel
theorem dX4_say_53 : decode cX4_say 53 = .ok (.aload_n 0, 1) := by decide +kernel
theorem dX4_say_54 : decode cX4_say 54 = .ok (.getfield 10, 3) := by decide +kernel
theorem dX4_say_57 : decode cX4_say 57 = .ok (.ldc2_w 63, 3) := by decide +kernel
theorem dX4_say_60 : decode cX4_say 60 = .ok (.invokevirtual 167, 3) := by decide +kernel
theorem dX4_say_63 : decode cX4_say 63 = .ok (.invokevirtual 171, 3) := by decide +kernel
theorem dX4_say_66 : decode cX4_say 66 = .ok (.lstore 4, 2) := by decide +kernel
theorem dX4_say_68 : decode cX4_say 68 = .ok (.lload 4, 2) := by decide +kernel
theorem dX4_say_70 : decode cX4_say 70 = .ok (.lconst 0, 1) := by decide +kernel
theorem dX4_say_71 : decode cX4_say 71 = .ok (.lcmp, 1) := by decide +kernel
theorem dX4_say_72 : decode cX4_say 72 = .ok (.ifCond .ne 10, 3) := by decide +kernel
theorem dX4_say_75 : decode cX4_say 75 = .ok (.aload_n 0, 1) := by decide +kernel
theorem dX4_say_76 : decode cX4_say 76 = .ok (.bipush (-6), 2) := by decide +kernel
theorem dX4_say_78 : decode cX4_say 78 = .ok (.invokevirtual 82, 3) := by decide +kernel
theorem dX4_say_81 : decode cX4_say 81 = .ok (.ireturn, 1) := by decide +kernel
theorem dX4_say_82 : decode cX4_say 82 = .ok (.aload_n 0, 1) := by decide +kernel
theorem dX4_say_83 : decode cX4_say 83 = .ok (.getfield 10, 3) := by decide +kernel
theorem dX4_say_86 : decode cX4_say 86 = .ok (.getfield 146, 3) := by decide +kernel
theorem dX4_say_89 : decode cX4_say 89 = .ok (.bipush 24, 2) := by decide +kernel
theorem dX4_say_91 : decode cX4_say 91 = .ok (.if_icmp .lt 10, 3) := by decide +kernel
theorem dX4_say_94 : decode cX4_say 94 = .ok (.aload_n 0, 1) := by decide +kernel
theorem dX4_say_95 : decode cX4_say 95 = .ok (.bipush (-7), 2) := by decide +kernel
theorem dX4_say_97 : decode cX4_say 97 = .ok (.invokevirtual 82, 3) := by decide +kernel
theorem dX4_say_100 : decode cX4_say 100 = .ok (.ireturn, 1) := by decide +kernel
theorem dX4_say_101 : decode cX4_say 101 = .ok (.aload_n 0, 1) := by decide +kernel
theorem dX4_say_102 : decode cX4_say 102 = .ok (.getfield 10, 3) := by decide +kernel
theorem dX4_say_105 : decode cX4_say 105 = .ok (.iload_n 1, 1) := by decide +kernel
theorem dX4_say_106 : decode cX4_say 106 = .ok (.iload_n 2, 1) := by decide +kernel
theorem dX4_say_107 : decode cX4_say 107 = .ok (.iload_n 3, 1) := by decide +kernel
theorem dX4_say_108 : decode cX4_say 108 = .ok (.invokevirtual 175, 3) := by decide +kernel
theorem dX4_say_111 : decode cX4_say 111 = .ok (.lload 4, 2) := by decide +kernel
theorem dX4_say_113 : decode cX4_say 113 = .ok (.invokestatic 178, 3) := by decide +kernel
theorem dX4_say_116 : decode cX4_say 116 = .ok (.ireturn, 1) := by decide +kernel
theorem dX4_unsay_0 : decode cX4_unsay 0 = .ok (.aload_n 0, 1) := by decide +kernel
theorem dX4_unsay_1 : decode cX4_unsay 1 = .ok (.getfield 10, 3) := by decide +kernel
theorem dX4_unsay_4 : decode cX4_unsay 4 = .ok (.getfield 146, 3) := by decide +kernel
theorem dX4_unsay_7 : decode cX4_unsay 7 = .ok (.ifCond .ne 10, 3) := by decide +kernel
theorem dX4_unsay_10 : decode cX4_unsay 10 = .ok (.aload_n 0, 1) := by decide +kernel
theorem dX4_unsay_11 : decode cX4_unsay 11 = .ok (.bipush (-6), 2) := by decide +kernel
theorem dX4_unsay_13 : decode cX4_unsay 13 = .ok (.invokevirtual 82, 3) := by decide +kernel
theorem dX4_unsay_16 : decode cX4_unsay 16 = .ok (.ireturn, 1) := by decide +kernel
theorem dX4_unsay_17 : decode cX4_unsay 17 = .ok (.aload_n 0, 1) := by decide +kernel
theorem dX4_unsay_18 : decode cX4_unsay 18 = .ok (.getfield 10, 3) := by decide +kernel
theorem dX4_unsay_21 : decode cX4_unsay 21 = .ok (.invokevirtual 184, 3) := by decide +kernel
theorem dX4_unsay_24 : decode cX4_unsay 24 = .ok (.aload_n 0, 1) := by decide +kernel
theorem dX4_unsay_25 : decode cX4_unsay 25 = .ok (.getfield 10, 3) := by decide +kernel
theorem dX4_unsay_28 : decode cX4_unsay 28 = .ok (.getfield 146, 3) := by decide +kernel
theorem dX4_unsay_31 : decode cX4_unsay 31 = .ok (.ireturn, 1) := by decide +kernel
theorem dX4_sayingOf_0 : decode cX4_sayingOf 0 = .ok (.iload_n 1, 1) := by decide +kernel
theorem dX4_sayingOf_1 : decode cX4_sayingOf 1 = .ok (.ifCond .lt 26, 3) := by decide +kernel
theorem dX4_sayingOf_4 : decode cX4_sayingOf 4 = .ok (.iload_n 1, 1) := by decide +kernel
theorem dX4_sayingOf_5 : decode cX4_sayingOf 5 = .ok (.aload_n 0, 1) := by decide +kernel
theorem dX4_sayingOf_6 : decode cX4_sayingOf 6 = .ok (.getfield 10, 3) := by decide +kernel
theorem dX4_sayingOf_9 : decode cX4_sayingOf 9 = .ok (.getfield 146, 3) := by decide +kernel
theorem dX4_sayingOf_12 : decode cX4_sayingOf 12 = .ok (.if_icmp .ge 15, 3) := by decide +kernel
theorem dX4_sayingOf_15 : decode cX4_sayingOf 15 = .ok (.aload_n 0, 1) := by decide +kernel
theorem dX4_sayingOf_16 : decode cX4_sayingOf 16 = .ok (.getfield 10, 3) := by decide +kernel
theorem dX4_sayingOf_19 : decode cX4_sayingOf 19 = .ok (.getfield 187, 3) := by decide +kernel
theorem dX4_sayingOf_22 : decode cX4_sayingOf 22 = .ok (.iload_n 1, 1) := by decide +kernel
theorem dX4_sayingOf_23 : decode cX4_sayingOf 23 = .ok (.iaload, 1) := by decide +kernel
theorem dX4_sayingOf_24 : decode cX4_sayingOf 24 = .ok (.goto 4, 3) := by decide +kernel
theorem dX4_sayingOf_27 : decode cX4_sayingOf 27 = .ok (.iconst (-1), 1) := by decide +kernel
theorem dX4_sayingOf_28 : decode cX4_sayingOf 28 = .ok (.ireturn, 1) := by decide +kernel
theorem dX4_known_0 : decode cX4_known 0 = .ok (.aload_n 0, 1) := by decide +kernel
theorem dX4_known_1 : decode cX4_known 1 = .ok (.getfield 10, 3) := by decide +kernel
theorem dX4_known_4 : decode cX4_known 4 = .ok (.iload_n 1, 1) := by decide +kernel
theorem dX4_known_5 : decode cX4_known 5 = .ok (.invokevirtual 158, 3) := by decide +kernel
theorem dX4_known_8 : decode cX4_known 8 = .ok (.ifCond .ne 9, 3) := by decide +kernel
theorem dX4_known_11 : decode cX4_known 11 = .ok (.aload_n 0, 1) := by decide +kernel
theorem dX4_known_12 : decode cX4_known 12 = .ok (.iconst (-1), 1) := by decide +kernel
theorem dX4_known_13 : decode cX4_known 13 = .ok (.invokevirtual 82, 3) := by decide +kernel
theorem dX4_known_16 : decode cX4_known 16 = .ok (.ireturn, 1) := by decide +kernel
theorem dX4_known_17 : decode cX4_known 17 = .ok (.aload_n 0, 1) := by decide +kernel
theorem dX4_known_18 : decode cX4_known 18 = .ok (.getfield 10, 3) := by decide +kernel
theorem dX4_known_21 : decode cX4_known 21 = .ok (.ldc2_w 63, 3) := by decide +kernel
theorem dX4_known_24 : decode cX4_known 24 = .ok (.invokevirtual 167, 3) := by decide +kernel
theorem dX4_known_27 : decode cX4_known 27 = .ok (.iload_n 1, 1) := by decide +kernel
theorem dX4_known_28 : decode cX4_known 28 = .ok (.iload_n 2, 1) := by decide +kernel
theorem dX4_known_29 : decode cX4_known 29 = .ok (.invokestatic 190, 3) := by decide +kernel
theorem dX4_known_32 : decode cX4_known 32 = .ok (.land, 1) := by decide +kernel
theorem dX4_known_33 : decode cX4_known 33 = .ok (.lconst 0, 1) := by decide +kernel
theorem dX4_known_34 : decode cX4_known 34 = .ok (.lcmp, 1) := by decide +kernel
theorem dX4_known_35 : decode cX4_known 35 = .ok (.ifCond .ne 10, 3) := by decide +kernel
theorem dX4_known_38 : decode cX4_known 38 = .ok (.aload_n 0, 1) := by decide +kernel
theorem dX4_known_39 : decode cX4_known 39 = .ok (.bipush (-6), 2) := by decide +kernel
theorem dX4_known_41 : decode cX4_known 41 = .ok (.invokevirtual 82, 3) := by decide +kernel
theorem dX4_known_44 : decode cX4_known 44 = .ok (.ireturn, 1) := by decide +kernel
theorem dX4_known_45 : decode cX4_known 45 = .ok (.aload_n 0, 1) := by decide +kernel
theorem dX4_known_46 : decode cX4_known 46 = .ok (.getfield 10, 3) := by decide +kernel
theorem dX4_known_49 : decode cX4_known 49 = .ok (.iload_n 1, 1) := by decide +kernel
theorem dX4_known_50 : decode cX4_known 50 = .ok (.iload_n 2, 1) := by decide +kernel
theorem dX4_known_51 : decode cX4_known 51 = .ok (.invokevirtual 194, 3) := by decide +kernel
theorem dX4_known_54 : decode cX4_known 54 = .ok (.aload_n 0, 1) := by decide +kernel
theorem dX4_known_55 : decode cX4_known 55 = .ok (.getfield 10, 3) := by decide +kernel
theorem dX4_known_58 : decode cX4_known 58 = .ok (.getfield 198, 3) := by decide +kernel
theorem dX4_known_61 : decode cX4_known 61 = .ok (.invokestatic 178, 3) := by decide +kernel
theorem dX4_known_64 : decode cX4_known 64 = .ok (.ireturn, 1) := by decide +kernel
theorem dX4_town_0 : decode cX4_town 0 = .ok (.aload_n 0, 1) := by decide +kernel
theorem dX4_town_1 : decode cX4_town 1 = .ok (.iload_n 1, 1) := by decide +kernel
theorem dX4_town_2 : decode cX4_town 2 = .ok (.invokevirtual 93, 3) := by decide +kernel
theorem dX4_town_5 : decode cX4_town 5 = .ok (.istore_n 2, 1) := by decide +kernel
theorem dX4_town_6 : decode cX4_town 6 = .ok (.iload_n 2, 1) := by decide +kernel
theorem dX4_town_7 : decode cX4_town 7 = .ok (.ifCond .eq 9, 3) := by decide +kernel
theorem dX4_town_10 : decode cX4_town 10 = .ok (.aload_n 0, 1) := by decide +kernel
theorem dX4_town_11 : decode cX4_town 11 = .ok (.iload_n 2, 1) := by decide +kernel
theorem dX4_town_12 : decode cX4_town 12 = .ok (.invokevirtual 82, 3) := by decide +kernel
theorem dX4_town_15 : decode cX4_town 15 = .ok (.ireturn, 1) := by decide +kernel
theorem dX4_town_16 : decode cX4_town 16 = .ok (.aload_n 0, 1) := by decide +kernel
theorem dX4_town_17 : decode cX4_town 17 = .ok (.getfield 19, 3) := by decide +kernel
theorem dX4_town_20 : decode cX4_town 20 = .ok (.aload_n 0, 1) := by decide +kernel
theorem dX4_town_21 : decode cX4_town 21 = .ok (.getfield 10, 3) := by decide +kernel
theorem dX4_town_24 : decode cX4_town 24 = .ok (.invokevirtual 202, 3) := by decide +kernel
theorem dX4_town_27 : decode cX4_town 27 = .ok (.aload_n 0, 1) := by decide +kernel
theorem dX4_town_28 : decode cX4_town 28 = .ok (.aload_n 0, 1) := by decide +kernel
theorem dX4_town_29 : decode cX4_town 29 = .ok (.getfield 31, 3) := by decide +kernel
theorem dX4_town_32 : decode cX4_town 32 = .ok (.aload_n 0, 1) := by decide +kernel
theorem dX4_town_33 : decode cX4_town 33 = .ok (.getfield 24, 3) := by decide +kernel
theorem dX4_town_36 : decode cX4_town 36 = .ok (.iload_n 1, 1) := by decide +kernel
theorem dX4_town_37 : decode cX4_town 37 = .ok (.aaload, 1) := by decide +kernel
theorem dX4_town_38 : decode cX4_town 38 = .ok (.aload_n 0, 1) := by decide +kernel
theorem dX4_town_39 : decode cX4_town 39 = .ok (.getfield 19, 3) := by decide +kernel
theorem dX4_town_42 : decode cX4_town 42 = .ok (.invokevirtual 206, 3) := by decide +kernel
theorem dX4_town_45 : decode cX4_town 45 = .ok (.putfield 50, 3) := by decide +kernel
theorem dX4_town_48 : decode cX4_town 48 = .ok (.aload_n 0, 1) := by decide +kernel
theorem dX4_town_49 : decode cX4_town 49 = .ok (.getfield 50, 3) := by decide +kernel
theorem dX4_town_52 : decode cX4_town 52 = .ok (.iconst (-1), 1) := by decide +kernel
theorem dX4_town_53 : decode cX4_town 53 = .ok (.if_icmp .eq 10, 3) := by decide +kernel
theorem dX4_town_56 : decode cX4_town 56 = .ok (.aload_n 0, 1) := by decide +kernel
theorem dX4_town_57 : decode cX4_town 57 = .ok (.bipush (-6), 2) := by decide +kernel
theorem dX4_town_59 : decode cX4_town 59 = .ok (.invokevirtual 82, 3) := by decide +kernel
theorem dX4_town_62 : decode cX4_town 62 = .ok (.ireturn, 1) := by decide +kernel
theorem dX4_town_63 : decode cX4_town 63 = .ok (.aload_n 0, 1) := by decide +kernel
theorem dX4_town_64 : decode cX4_town 64 = .ok (.getfield 10, 3) := by decide +kernel
theorem dX4_town_67 : decode cX4_town 67 = .ok (.aload_n 0, 1) := by decide +kernel
theorem dX4_town_68 : decode cX4_town 68 = .ok (.getfield 19, 3) := by decide +kernel
theorem dX4_town_71 : decode cX4_town 71 = .ok (.invokevirtual 202, 3) := by decide +kernel
theorem dX4_town_74 : decode cX4_town 74 = .ok (.aload_n 0, 1) := by decide +kernel
theorem dX4_town_75 : decode cX4_town 75 = .ok (.getfield 31, 3) := by decide +kernel
theorem dX4_town_78 : decode cX4_town 78 = .ok (.getfield 210, 3) := by decide +kernel
theorem dX4_town_81 : decode cX4_town 81 = .ok (.ireturn, 1) := by decide +kernel
theorem dX4_fault_0 : decode cX4_fault 0 = .ok (.aload_n 0, 1) := by decide +kernel
theorem dX4_fault_1 : decode cX4_fault 1 = .ok (.getfield 50, 3) := by decide +kernel
theorem dX4_fault_4 : decode cX4_fault 4 = .ok (.ireturn, 1) := by decide +kernel
theorem dX4_canBe_0 : decode cX4_canBe 0 = .ok (.aload_n 0, 1) := by decide +kernel
theorem dX4_canBe_1 : decode cX4_canBe 1 = .ok (.getfield 10, 3) := by decide +kernel
theorem dX4_canBe_4 : decode cX4_canBe 4 = .ok (.iload_n 1, 1) := by decide +kernel
theorem dX4_canBe_5 : decode cX4_canBe 5 = .ok (.invokevirtual 119, 3) := by decide +kernel
theorem dX4_canBe_8 : decode cX4_canBe 8 = .ok (.ifCond .eq 14, 3) := by decide +kernel
theorem dX4_canBe_11 : decode cX4_canBe 11 = .ok (.aload_n 0, 1) := by decide +kernel
theorem dX4_canBe_12 : decode cX4_canBe 12 = .ok (.getfield 10, 3) := by decide +kernel
theorem dX4_canBe_15 : decode cX4_canBe 15 = .ok (.iload_n 2, 1) := by decide +kernel
theorem dX4_canBe_16 : decode cX4_canBe 16 = .ok (.invokevirtual 213, 3) := by decide +kernel
theorem dX4_canBe_19 : decode cX4_canBe 19 = .ok (.ifCond .ne 9, 3) := by decide +kernel
theorem dX4_canBe_22 : decode cX4_canBe 22 = .ok (.aload_n 0, 1) := by decide +kernel
theorem dX4_canBe_23 : decode cX4_canBe 23 = .ok (.iconst (-1), 1) := by decide +kernel
theorem dX4_canBe_24 : decode cX4_canBe 24 = .ok (.invokevirtual 82, 3) := by decide +kernel
theorem dX4_canBe_27 : decode cX4_canBe 27 = .ok (.ireturn, 1) := by decide +kernel
theorem dX4_canBe_28 : decode cX4_canBe 28 = .ok (.aload_n 0, 1) := by decide +kernel
theorem dX4_canBe_29 : decode cX4_canBe 29 = .ok (.getfield 10, 3) := by decide +kernel
theorem dX4_canBe_32 : decode cX4_canBe 32 = .ok (.iload_n 1, 1) := by decide +kernel
theorem dX4_canBe_33 : decode cX4_canBe 33 = .ok (.ldc2_w 63, 3) := by decide +kernel
theorem dX4_canBe_36 : decode cX4_canBe 36 = .ok (.invokevirtual 216, 3) := by decide +kernel
theorem dX4_canBe_39 : decode cX4_canBe 39 = .ok (.iload_n 2, 1) := by decide +kernel
theorem dX4_canBe_40 : decode cX4_canBe 40 = .ok (.invokestatic 220, 3) := by decide +kernel
theorem dX4_canBe_43 : decode cX4_canBe 43 = .ok (.ireturn, 1) := by decide +kernel
theorem dX4_can_0 : decode cX4_can 0 = .ok (.aload_n 0, 1) := by decide +kernel
theorem dX4_can_1 : decode cX4_can 1 = .ok (.getfield 10, 3) := by decide +kernel
theorem dX4_can_4 : decode cX4_can 4 = .ok (.iload_n 1, 1) := by decide +kernel
theorem dX4_can_5 : decode cX4_can 5 = .ok (.invokevirtual 119, 3) := by decide +kernel
theorem dX4_can_8 : decode cX4_can 8 = .ok (.ifCond .eq 14, 3) := by decide +kernel
theorem dX4_can_11 : decode cX4_can 11 = .ok (.aload_n 0, 1) := by decide +kernel
theorem dX4_can_12 : decode cX4_can 12 = .ok (.getfield 10, 3) := by decide +kernel
theorem dX4_can_15 : decode cX4_can 15 = .ok (.iload_n 2, 1) := by decide +kernel
theorem dX4_can_16 : decode cX4_can 16 = .ok (.invokevirtual 158, 3) := by decide +kernel
theorem dX4_can_19 : decode cX4_can 19 = .ok (.ifCond .ne 9, 3) := by decide +kernel
theorem dX4_can_22 : decode cX4_can 22 = .ok (.aload_n 0, 1) := by decide +kernel
theorem dX4_can_23 : decode cX4_can 23 = .ok (.iconst (-1), 1) := by decide +kernel
theorem dX4_can_24 : decode cX4_can 24 = .ok (.invokevirtual 82, 3) := by decide +kernel
theorem dX4_can_27 : decode cX4_can 27 = .ok (.ireturn, 1) := by decide +kernel
theorem dX4_can_28 : decode cX4_can 28 = .ok (.iload_n 3, 1) := by decide +kernel
theorem dX4_can_29 : decode cX4_can 29 = .ok (.iconst 0, 1) := by decide +kernel
theorem dX4_can_30 : decode cX4_can 30 = .ok (.iconst 3, 1) := by decide +kernel
theorem dX4_can_31 : decode cX4_can 31 = .ok (.invokestatic 85, 3) := by decide +kernel
theorem dX4_can_34 : decode cX4_can 34 = .ok (.ifCond .ne 10, 3) := by decide +kernel
theorem dX4_can_37 : decode cX4_can 37 = .ok (.aload_n 0, 1) := by decide +kernel
theorem dX4_can_38 : decode cX4_can 38 = .ok (.bipush (-5), 2) := by decide +kernel
theorem dX4_can_40 : decode cX4_can 40 = .ok (.invokevirtual 82, 3) := by decide +kernel
theorem dX4_can_43 : decode cX4_can 43 = .ok (.ireturn, 1) := by decide +kernel
theorem dX4_can_44 : decode cX4_can 44 = .ok (.aload_n 0, 1) := by decide +kernel
theorem dX4_can_45 : decode cX4_can 45 = .ok (.getfield 10, 3) := by decide +kernel
theorem dX4_can_48 : decode cX4_can 48 = .ok (.iload_n 1, 1) := by decide +kernel
theorem dX4_can_49 : decode cX4_can 49 = .ok (.invokevirtual 164, 3) := by decide +kernel
theorem dX4_can_52 : decode cX4_can 52 = .ok (.ifCond .eq 5, 3) := by decide +kernel
theorem dX4_can_55 : decode cX4_can 55 = .ok (.iconst 0, 1) := by decide +kernel
theorem dX4_can_56 : decode cX4_can 56 = .ok (.ireturn, 1) := by decide +kernel
theorem dX4_can_57 : decode cX4_can 57 = .ok (.aload_n 0, 1) := by decide +kernel
theorem dX4_can_58 : decode cX4_can 58 = .ok (.getfield 10, 3) := by decide +kernel
theorem dX4_can_61 : decode cX4_can 61 = .ok (.ldc2_w 63, 3) := by decide +kernel
theorem dX4_can_64 : decode cX4_can 64 = .ok (.invokevirtual 167, 3) := by decide +kernel
theorem dX4_can_67 : decode cX4_can 67 = .ok (.lstore 4, 2) := by decide +kernel
theorem dX4_can_69 : decode cX4_can 69 = .ok (.aload_n 0, 1) := by decide +kernel
theorem dX4_can_70 : decode cX4_can 70 = .ok (.getfield 10, 3) := by decide +kernel
theorem dX4_can_73 : decode cX4_can 73 = .ok (.iload_n 1, 1) := by decide +kernel
theorem dX4_can_74 : decode cX4_can 74 = .ok (.iload_n 2, 1) := by decide +kernel
theorem dX4_can_75 : decode cX4_can 75 = .ok (.iconst 1, 1) := by decide +kernel
theorem dX4_can_76 : decode cX4_can 76 = .ok (.lload 4, 2) := by decide +kernel
theorem dX4_can_78 : decode cX4_can 78 = .ok (.invokevirtual 171, 3) := by decide +kernel
theorem dX4_can_81 : decode cX4_can 81 = .ok (.lstore 6, 2) := by decide +kernel
theorem dX4_can_83 : decode cX4_can 83 = .ok (.aload_n 0, 1) := by decide +kernel
theorem dX4_can_84 : decode cX4_can 84 = .ok (.getfield 10, 3) := by decide +kernel
theorem dX4_can_87 : decode cX4_can 87 = .ok (.iload_n 1, 1) := by decide +kernel
theorem dX4_can_88 : decode cX4_can 88 = .ok (.iload_n 2, 1) := by decide +kernel
theorem dX4_can_89 : decode cX4_can 89 = .ok (.iconst 0, 1) := by decide +kernel
theorem dX4_can_90 : decode cX4_can 90 = .ok (.lload 4, 2) := by decide +kernel
theorem dX4_can_92 : decode cX4_can 92 = .ok (.invokevirtual 171, 3) := by decide +kernel
theorem dX4_can_95 : decode cX4_can 95 = .ok (.lstore 8, 2) := by decide +kernel
theorem dX4_can_97 : decode cX4_can 97 = .ok (.iload_n 3, 1) := by decide +kernel
theorem dX4_can_98 : decode cX4_can 98 = .ok (.tableswitch 82 0 2 #[26, 51, 76], 26) := by decide +kernel
theorem dX4_can_124 : decode cX4_can 124 = .ok (.lload 6, 2) := by decide +kernel
theorem dX4_can_126 : decode cX4_can 126 = .ok (.getstatic 59, 3) := by decide +kernel
theorem dX4_can_129 : decode cX4_can 129 = .ok (.iload_n 2, 1) := by decide +kernel
theorem dX4_can_130 : decode cX4_can 130 = .ok (.laload, 1) := by decide +kernel
theorem dX4_can_131 : decode cX4_can 131 = .ok (.ldc2_w 63, 3) := by decide +kernel
theorem dX4_can_134 : decode cX4_can 134 = .ok (.lxor, 1) := by decide +kernel
theorem dX4_can_135 : decode cX4_can 135 = .ok (.land, 1) := by decide +kernel
theorem dX4_can_136 : decode cX4_can 136 = .ok (.lload 8, 2) := by decide +kernel
theorem dX4_can_138 : decode cX4_can 138 = .ok (.getstatic 59, 3) := by decide +kernel
theorem dX4_can_141 : decode cX4_can 141 = .ok (.iload_n 2, 1) := by decide +kernel
theorem dX4_can_142 : decode cX4_can 142 = .ok (.laload, 1) := by decide +kernel
theorem dX4_can_143 : decode cX4_can 143 = .ok (.land, 1) := by decide +kernel
theorem dX4_can_144 : decode cX4_can 144 = .ok (.lor, 1) := by decide +kernel
theorem dX4_can_145 : decode cX4_can 145 = .ok (.invokestatic 224, 3) := by decide +kernel
theorem dX4_can_148 : decode cX4_can 148 = .ok (.ireturn, 1) := by decide +kernel
theorem dX4_can_149 : decode cX4_can 149 = .ok (.lload 6, 2) := by decide +kernel
theorem dX4_can_151 : decode cX4_can 151 = .ok (.getstatic 59, 3) := by decide +kernel
theorem dX4_can_154 : decode cX4_can 154 = .ok (.iload_n 2, 1) := by decide +kernel
theorem dX4_can_155 : decode cX4_can 155 = .ok (.laload, 1) := by decide +kernel
theorem dX4_can_156 : decode cX4_can 156 = .ok (.land, 1) := by decide +kernel
theorem dX4_can_157 : decode cX4_can 157 = .ok (.lload 8, 2) := by decide +kernel
theorem dX4_can_159 : decode cX4_can 159 = .ok (.getstatic 59, 3) := by decide +kernel
theorem dX4_can_162 : decode cX4_can 162 = .ok (.iload_n 2, 1) := by decide +kernel
theorem dX4_can_163 : decode cX4_can 163 = .ok (.laload, 1) := by decide +kernel
theorem dX4_can_164 : decode cX4_can 164 = .ok (.ldc2_w 63, 3) := by decide +kernel
theorem dX4_can_167 : decode cX4_can 167 = .ok (.lxor, 1) := by decide +kernel
theorem dX4_can_168 : decode cX4_can 168 = .ok (.land, 1) := by decide +kernel
theorem dX4_can_169 : decode cX4_can 169 = .ok (.lor, 1) := by decide +kernel
theorem dX4_can_170 : decode cX4_can 170 = .ok (.invokestatic 224, 3) := by decide +kernel
theorem dX4_can_173 : decode cX4_can 173 = .ok (.ireturn, 1) := by decide +kernel
theorem dX4_can_174 : decode cX4_can 174 = .ok (.lload 6, 2) := by decide +kernel
theorem dX4_can_176 : decode cX4_can 176 = .ok (.invokestatic 224, 3) := by decide +kernel
theorem dX4_can_179 : decode cX4_can 179 = .ok (.ireturn, 1) := by decide +kernel
theorem dX4_can_180 : decode cX4_can 180 = .ok (.lload 8, 2) := by decide +kernel
theorem dX4_can_182 : decode cX4_can 182 = .ok (.invokestatic 224, 3) := by decide +kernel
theorem dX4_can_185 : decode cX4_can 185 = .ok (.ireturn, 1) := by decide +kernel
theorem dX4_isAny_0 : decode cX4_isAny 0 = .ok (.lload_n 0, 1) := by decide +kernel
theorem dX4_isAny_1 : decode cX4_isAny 1 = .ok (.lconst 0, 1) := by decide +kernel
theorem dX4_isAny_2 : decode cX4_isAny 2 = .ok (.lcmp, 1) := by decide +kernel
theorem dX4_isAny_3 : decode cX4_isAny 3 = .ok (.ifCond .ne 7, 3) := by decide +kernel
theorem dX4_isAny_6 : decode cX4_isAny 6 = .ok (.iconst 0, 1) := by decide +kernel
theorem dX4_isAny_7 : decode cX4_isAny 7 = .ok (.goto 4, 3) := by decide +kernel
theorem dX4_isAny_10 : decode cX4_isAny 10 = .ok (.iconst 1, 1) := by decide +kernel
theorem dX4_isAny_11 : decode cX4_isAny 11 = .ok (.ireturn, 1) := by decide +kernel
theorem dX4_bit_0 : decode cX4_bit 0 = .ok (.lload_n 0, 1) := by decide +kernel
theorem dX4_bit_1 : decode cX4_bit 1 = .ok (.iload_n 2, 1) := by decide +kernel
theorem dX4_bit_2 : decode cX4_bit 2 = .ok (.lushr, 1) := by decide +kernel
theorem dX4_bit_3 : decode cX4_bit 3 = .ok (.lconst 1, 1) := by decide +kernel
theorem dX4_bit_4 : decode cX4_bit 4 = .ok (.land, 1) := by decide +kernel
theorem dX4_bit_5 : decode cX4_bit 5 = .ok (.l2i, 1) := by decide +kernel
theorem dX4_bit_6 : decode cX4_bit 6 = .ok (.ireturn, 1) := by decide +kernel
theorem dX4_worlds_0 : decode cX4_worlds 0 = .ok (.aload_n 0, 1) := by decide +kernel
theorem dX4_worlds_1 : decode cX4_worlds 1 = .ok (.getfield 10, 3) := by decide +kernel
theorem dX4_worlds_4 : decode cX4_worlds 4 = .ok (.ldc2_w 63, 3) := by decide +kernel
theorem dX4_worlds_7 : decode cX4_worlds 7 = .ok (.invokevirtual 167, 3) := by decide +kernel
theorem dX4_worlds_10 : decode cX4_worlds 10 = .ok (.lreturn, 1) := by decide +kernel
theorem dX4_many_0 : decode cX4_many 0 = .ok (.aload_n 0, 1) := by decide +kernel
theorem dX4_many_1 : decode cX4_many 1 = .ok (.getfield 10, 3) := by decide +kernel
theorem dX4_many_4 : decode cX4_many 4 = .ok (.ldc2_w 63, 3) := by decide +kernel
theorem dX4_many_7 : decode cX4_many 7 = .ok (.invokevirtual 167, 3) := by decide +kernel
theorem dX4_many_10 : decode cX4_many 10 = .ok (.invokestatic 178, 3) := by decide +kernel
theorem dX4_many_13 : decode cX4_many 13 = .ok (.ireturn, 1) := by decide +kernel
theorem dX4_sure_0 : decode cX4_sure 0 = .ok (.aload_n 0, 1) := by decide +kernel
theorem dX4_sure_1 : decode cX4_sure 1 = .ok (.getfield 10, 3) := by decide +kernel
theorem dX4_sure_4 : decode cX4_sure 4 = .ok (.iload_n 1, 1) := by decide +kernel
theorem dX4_sure_5 : decode cX4_sure 5 = .ok (.invokevirtual 158, 3) := by decide +kernel
theorem dX4_sure_8 : decode cX4_sure 8 = .ok (.ifCond .ne 11, 3) := by decide +kernel
theorem dX4_sure_11 : decode cX4_sure 11 = .ok (.aload_n 0, 1) := by decide +kernel
theorem dX4_sure_12 : decode cX4_sure 12 = .ok (.iconst (-1), 1) := by decide +kernel
theorem dX4_sure_13 : decode cX4_sure 13 = .ok (.bipush (-11), 2) := by decide +kernel
theorem dX4_sure_15 : decode cX4_sure 15 = .ok (.invokevirtual 55, 3) := by decide +kernel
theorem dX4_sure_18 : decode cX4_sure 18 = .ok (.ireturn, 1) := by decide +kernel
theorem dX4_sure_19 : decode cX4_sure 19 = .ok (.aload_n 0, 1) := by decide +kernel
theorem dX4_sure_20 : decode cX4_sure 20 = .ok (.getfield 10, 3) := by decide +kernel
theorem dX4_sure_23 : decode cX4_sure 23 = .ok (.ldc2_w 63, 3) := by decide +kernel
theorem dX4_sure_26 : decode cX4_sure 26 = .ok (.invokevirtual 167, 3) := by decide +kernel
theorem dX4_sure_29 : decode cX4_sure 29 = .ok (.iload_n 1, 1) := by decide +kernel
theorem dX4_sure_30 : decode cX4_sure 30 = .ok (.invokestatic 227, 3) := by decide +kernel
theorem dX4_sure_33 : decode cX4_sure 33 = .ok (.ireturn, 1) := by decide +kernel
theorem dX4_surety_0 : decode cX4_surety 0 = .ok (.lload_n 0, 1) := by decide +kernel
theorem dX4_surety_1 : decode cX4_surety 1 = .ok (.getstatic 59, 3) := by decide +kernel
theorem dX4_surety_4 : decode cX4_surety 4 = .ok (.iload_n 2, 1) := by decide +kernel
theorem dX4_surety_5 : decode cX4_surety 5 = .ok (.laload, 1) := by decide +kernel
theorem dX4_surety_6 : decode cX4_surety 6 = .ok (.land, 1) := by decide +kernel
theorem dX4_surety_7 : decode cX4_surety 7 = .ok (.lconst 0, 1) := by decide +kernel
theorem dX4_surety_8 : decode cX4_surety 8 = .ok (.lcmp, 1) := by decide +kernel
theorem dX4_surety_9 : decode cX4_surety 9 = .ok (.ifCond .eq 7, 3) := by decide +kernel
theorem dX4_surety_12 : decode cX4_surety 12 = .ok (.iconst 1, 1) := by decide +kernel
theorem dX4_surety_13 : decode cX4_surety 13 = .ok (.goto 4, 3) := by decide +kernel
theorem dX4_surety_16 : decode cX4_surety 16 = .ok (.iconst 0, 1) := by decide +kernel
theorem dX4_surety_17 : decode cX4_surety 17 = .ok (.istore_n 3, 1) := by decide +kernel
theorem dX4_surety_18 : decode cX4_surety 18 = .ok (.lload_n 0, 1) := by decide +kernel
theorem dX4_surety_19 : decode cX4_surety 19 = .ok (.getstatic 59, 3) := by decide +kernel
theorem dX4_surety_22 : decode cX4_surety 22 = .ok (.iload_n 2, 1) := by decide +kernel
theorem dX4_surety_23 : decode cX4_surety 23 = .ok (.laload, 1) := by decide +kernel
theorem dX4_surety_24 : decode cX4_surety 24 = .ok (.ldc2_w 63, 3) := by decide +kernel
theorem dX4_surety_27 : decode cX4_surety 27 = .ok (.lxor, 1) := by decide +kernel
theorem dX4_surety_28 : decode cX4_surety 28 = .ok (.land, 1) := by decide +kernel
theorem dX4_surety_29 : decode cX4_surety 29 = .ok (.lconst 0, 1) := by decide +kernel
theorem dX4_surety_30 : decode cX4_surety 30 = .ok (.lcmp, 1) := by decide +kernel
theorem dX4_surety_31 : decode cX4_surety 31 = .ok (.ifCond .eq 7, 3) := by decide +kernel
theorem dX4_surety_34 : decode cX4_surety 34 = .ok (.iconst 1, 1) := by decide +kernel
theorem dX4_surety_35 : decode cX4_surety 35 = .ok (.goto 4, 3) := by decide +kernel
theorem dX4_surety_38 : decode cX4_surety 38 = .ok (.iconst 0, 1) := by decide +kernel
theorem dX4_surety_39 : decode cX4_surety 39 = .ok (.istore 4, 2) := by decide +kernel
theorem dX4_surety_41 : decode cX4_surety 41 = .ok (.iload_n 3, 1) := by decide +kernel
theorem dX4_surety_42 : decode cX4_surety 42 = .ok (.iload 4, 2) := by decide +kernel
theorem dX4_surety_44 : decode cX4_surety 44 = .ok (.if_icmp .ne 5, 3) := by decide +kernel
theorem dX4_surety_47 : decode cX4_surety 47 = .ok (.iconst (-1), 1) := by decide +kernel
theorem dX4_surety_48 : decode cX4_surety 48 = .ok (.ireturn, 1) := by decide +kernel
theorem dX4_surety_49 : decode cX4_surety 49 = .ok (.iload_n 3, 1) := by decide +kernel
theorem dX4_surety_50 : decode cX4_surety 50 = .ok (.ifCond .eq 7, 3) := by decide +kernel
theorem dX4_surety_53 : decode cX4_surety 53 = .ok (.iconst 1, 1) := by decide +kernel
theorem dX4_surety_54 : decode cX4_surety 54 = .ok (.goto 4, 3) := by decide +kernel
theorem dX4_surety_57 : decode cX4_surety 57 = .ok (.iconst 0, 1) := by decide +kernel
theorem dX4_surety_58 : decode cX4_surety 58 = .ok (.ireturn, 1) := by decide +kernel
theorem dX4_sures_0 : decode cX4_sures 0 = .ok (.aload_n 0, 1) := by decide +kernel
theorem dX4_sures_1 : decode cX4_sures 1 = .ok (.getfield 10, 3) := by decide +kernel
theorem dX4_sures_4 : decode cX4_sures 4 = .ok (.ldc2_w 63, 3) := by decide +kernel
theorem dX4_sures_7 : decode cX4_sures 7 = .ok (.invokevirtual 167, 3) := by decide +kernel
theorem dX4_sures_10 : decode cX4_sures 10 = .ok (.lstore_n 1, 1) := by decide +kernel
theorem dX4_sures_11 : decode cX4_sures 11 = .ok (.iconst 0, 1) := by decide +kernel
theorem dX4_sures_12 : decode cX4_sures 12 = .ok (.istore_n 3, 1) := by decide +kernel
theorem dX4_sures_13 : decode cX4_sures 13 = .ok (.iconst 0, 1) := by decide +kernel
theorem dX4_sures_14 : decode cX4_sures 14 = .ok (.istore 4, 2) := by decide +kernel
theorem dX4_sures_16 : decode cX4_sures 16 = .ok (.iload 4, 2) := by decide +kernel
theorem dX4_sures_18 : decode cX4_sures 18 = .ok (.aload_n 0, 1) := by decide +kernel
theorem dX4_sures_19 : decode cX4_sures 19 = .ok (.getfield 10, 3) := by decide +kernel
theorem dX4_sures_22 : decode cX4_sures 22 = .ok (.getfield 133, 3) := by decide +kernel
theorem dX4_sures_25 : decode cX4_sures 25 = .ok (.if_icmp .ge 26, 3) := by decide +kernel
theorem dX4_sures_28 : decode cX4_sures 28 = .ok (.lload_n 1, 1) := by decide +kernel
theorem dX4_sures_29 : decode cX4_sures 29 = .ok (.iload 4, 2) := by decide +kernel
theorem dX4_sures_31 : decode cX4_sures 31 = .ok (.invokestatic 227, 3) := by decide +kernel
theorem dX4_sures_34 : decode cX4_sures 34 = .ok (.iconst (-1), 1) := by decide +kernel
theorem dX4_sures_35 : decode cX4_sures 35 = .ok (.if_icmp .eq 10, 3) := by decide +kernel
theorem dX4_sures_38 : decode cX4_sures 38 = .ok (.iload_n 3, 1) := by decide +kernel
theorem dX4_sures_39 : decode cX4_sures 39 = .ok (.iconst 1, 1) := by decide +kernel
theorem dX4_sures_40 : decode cX4_sures 40 = .ok (.iload 4, 2) := by decide +kernel
theorem dX4_sures_42 : decode cX4_sures 42 = .ok (.ishl, 1) := by decide +kernel
theorem dX4_sures_43 : decode cX4_sures 43 = .ok (.ior, 1) := by decide +kernel
theorem dX4_sures_44 : decode cX4_sures 44 = .ok (.istore_n 3, 1) := by decide +kernel
theorem dX4_sures_45 : decode cX4_sures 45 = .ok (.iinc 4 1, 3) := by decide +kernel
theorem dX4_sures_48 : decode cX4_sures 48 = .ok (.goto (-32), 3) := by decide +kernel
theorem dX4_sures_51 : decode cX4_sures 51 = .ok (.iload_n 3, 1) := by decide +kernel
theorem dX4_sures_52 : decode cX4_sures 52 = .ok (.ireturn, 1) := by decide +kernel
theorem dX4_shown_0 : decode cX4_shown 0 = .ok (.aload_n 0, 1) := by decide +kernel
theorem dX4_shown_1 : decode cX4_shown 1 = .ok (.getfield 10, 3) := by decide +kernel
theorem dX4_shown_4 : decode cX4_shown 4 = .ok (.iload_n 1, 1) := by decide +kernel
theorem dX4_shown_5 : decode cX4_shown 5 = .ok (.invokevirtual 158, 3) := by decide +kernel
theorem dX4_shown_8 : decode cX4_shown 8 = .ok (.ifCond .ne 9, 3) := by decide +kernel
theorem dX4_shown_11 : decode cX4_shown 11 = .ok (.aload_n 0, 1) := by decide +kernel
theorem dX4_shown_12 : decode cX4_shown 12 = .ok (.iconst (-1), 1) := by decide +kernel
theorem dX4_shown_13 : decode cX4_shown 13 = .ok (.invokevirtual 82, 3) := by decide +kernel
theorem dX4_shown_16 : decode cX4_shown 16 = .ok (.ireturn, 1) := by decide +kernel
theorem dX4_shown_17 : decode cX4_shown 17 = .ok (.aload_n 0, 1) := by decide +kernel
theorem dX4_shown_18 : decode cX4_shown 18 = .ok (.getfield 10, 3) := by decide +kernel
theorem dX4_shown_21 : decode cX4_shown 21 = .ok (.ldc2_w 63, 3) := by decide +kernel
theorem dX4_shown_24 : decode cX4_shown 24 = .ok (.invokevirtual 167, 3) := by decide +kernel
theorem dX4_shown_27 : decode cX4_shown 27 = .ok (.iload_n 1, 1) := by decide +kernel
theorem dX4_shown_28 : decode cX4_shown 28 = .ok (.invokestatic 227, 3) := by decide +kernel
theorem dX4_shown_31 : decode cX4_shown 31 = .ok (.iconst (-1), 1) := by decide +kernel
theorem dX4_shown_32 : decode cX4_shown 32 = .ok (.if_icmp .ne 10, 3) := by decide +kernel
theorem dX4_shown_35 : decode cX4_shown 35 = .ok (.aload_n 0, 1) := by decide +kernel
theorem dX4_shown_36 : decode cX4_shown 36 = .ok (.bipush (-5), 2) := by decide +kernel
theorem dX4_shown_38 : decode cX4_shown 38 = .ok (.invokevirtual 82, 3) := by decide +kernel
theorem dX4_shown_41 : decode cX4_shown 41 = .ok (.ireturn, 1) := by decide +kernel
theorem dX4_shown_42 : decode cX4_shown 42 = .ok (.iconst 0, 1) := by decide +kernel
theorem dX4_shown_43 : decode cX4_shown 43 = .ok (.istore_n 2, 1) := by decide +kernel
theorem dX4_shown_44 : decode cX4_shown 44 = .ok (.iload_n 2, 1) := by decide +kernel
theorem dX4_shown_45 : decode cX4_shown 45 = .ok (.aload_n 0, 1) := by decide +kernel
theorem dX4_shown_46 : decode cX4_shown 46 = .ok (.getfield 10, 3) := by decide +kernel
theorem dX4_shown_49 : decode cX4_shown 49 = .ok (.getfield 146, 3) := by decide +kernel
theorem dX4_shown_52 : decode cX4_shown 52 = .ok (.if_icmp .ge 31, 3) := by decide +kernel
theorem dX4_shown_55 : decode cX4_shown 55 = .ok (.aload_n 0, 1) := by decide +kernel
theorem dX4_shown_56 : decode cX4_shown 56 = .ok (.getfield 10, 3) := by decide +kernel
theorem dX4_shown_59 : decode cX4_shown 59 = .ok (.lconst 1, 1) := by decide +kernel
theorem dX4_shown_60 : decode cX4_shown 60 = .ok (.iload_n 2, 1) := by decide +kernel
theorem dX4_shown_61 : decode cX4_shown 61 = .ok (.lshl, 1) := by decide +kernel
theorem dX4_shown_62 : decode cX4_shown 62 = .ok (.lconst 1, 1) := by decide +kernel
theorem dX4_shown_63 : decode cX4_shown 63 = .ok (.lsub, 1) := by decide +kernel
theorem dX4_shown_64 : decode cX4_shown 64 = .ok (.invokevirtual 167, 3) := by decide +kernel
theorem dX4_shown_67 : decode cX4_shown 67 = .ok (.iload_n 1, 1) := by decide +kernel
theorem dX4_shown_68 : decode cX4_shown 68 = .ok (.invokestatic 227, 3) := by decide +kernel
theorem dX4_shown_71 : decode cX4_shown 71 = .ok (.iconst (-1), 1) := by decide +kernel
theorem dX4_shown_72 : decode cX4_shown 72 = .ok (.if_icmp .eq 5, 3) := by decide +kernel
theorem dX4_shown_75 : decode cX4_shown 75 = .ok (.iload_n 2, 1) := by decide +kernel
theorem dX4_shown_76 : decode cX4_shown 76 = .ok (.ireturn, 1) := by decide +kernel
theorem dX4_shown_77 : decode cX4_shown 77 = .ok (.iinc 2 1, 3) := by decide +kernel
theorem dX4_shown_80 : decode cX4_shown 80 = .ok (.goto (-36), 3) := by decide +kernel
theorem dX4_shown_83 : decode cX4_shown 83 = .ok (.aload_n 0, 1) := by decide +kernel
theorem dX4_shown_84 : decode cX4_shown 84 = .ok (.getfield 10, 3) := by decide +kernel
theorem dX4_shown_87 : decode cX4_shown 87 = .ok (.getfield 146, 3) := by decide +kernel
theorem dX4_shown_90 : decode cX4_shown 90 = .ok (.ireturn, 1) := by decide +kernel
theorem dX4_proof_0 : decode cX4_proof 0 = .ok (.aload_n 0, 1) := by decide +kernel
theorem dX4_proof_1 : decode cX4_proof 1 = .ok (.getfield 10, 3) := by decide +kernel
theorem dX4_proof_4 : decode cX4_proof 4 = .ok (.iload_n 1, 1) := by decide +kernel
theorem dX4_proof_5 : decode cX4_proof 5 = .ok (.invokevirtual 158, 3) := by decide +kernel
theorem dX4_proof_8 : decode cX4_proof 8 = .ok (.ifCond .ne 9, 3) := by decide +kernel
theorem dX4_proof_11 : decode cX4_proof 11 = .ok (.aload_n 0, 1) := by decide +kernel
theorem dX4_proof_12 : decode cX4_proof 12 = .ok (.iconst (-1), 1) := by decide +kernel
theorem dX4_proof_13 : decode cX4_proof 13 = .ok (.invokevirtual 82, 3) := by decide +kernel
theorem dX4_proof_16 : decode cX4_proof 16 = .ok (.ireturn, 1) := by decide +kernel
theorem dX4_proof_17 : decode cX4_proof 17 = .ok (.aload_n 0, 1) := by decide +kernel
theorem dX4_proof_18 : decode cX4_proof 18 = .ok (.getfield 10, 3) := by decide +kernel
theorem dX4_proof_21 : decode cX4_proof 21 = .ok (.ldc2_w 63, 3) := by decide +kernel
theorem dX4_proof_24 : decode cX4_proof 24 = .ok (.invokevirtual 167, 3) := by decide +kernel
theorem dX4_proof_27 : decode cX4_proof 27 = .ok (.iload_n 1, 1) := by decide +kernel
theorem dX4_proof_28 : decode cX4_proof 28 = .ok (.invokestatic 227, 3) := by decide +kernel
theorem dX4_proof_31 : decode cX4_proof 31 = .ok (.istore_n 2, 1) := by decide +kernel
theorem dX4_proof_32 : decode cX4_proof 32 = .ok (.iload_n 2, 1) := by decide +kernel
theorem dX4_proof_33 : decode cX4_proof 33 = .ok (.iconst (-1), 1) := by decide +kernel
theorem dX4_proof_34 : decode cX4_proof 34 = .ok (.if_icmp .ne 10, 3) := by decide +kernel
theorem dX4_proof_37 : decode cX4_proof 37 = .ok (.aload_n 0, 1) := by decide +kernel
theorem dX4_proof_38 : decode cX4_proof 38 = .ok (.bipush (-5), 2) := by decide +kernel
theorem dX4_proof_40 : decode cX4_proof 40 = .ok (.invokevirtual 82, 3) := by decide +kernel
theorem dX4_proof_43 : decode cX4_proof 43 = .ok (.ireturn, 1) := by decide +kernel
theorem dX4_proof_44 : decode cX4_proof 44 = .ok (.aload_n 0, 1) := by decide +kernel
theorem dX4_proof_45 : decode cX4_proof 45 = .ok (.getfield 10, 3) := by decide +kernel
theorem dX4_proof_48 : decode cX4_proof 48 = .ok (.getfield 146, 3) := by decide +kernel
theorem dX4_proof_51 : decode cX4_proof 51 = .ok (.bipush 10, 2) := by decide +kernel
theorem dX4_proof_53 : decode cX4_proof 53 = .ok (.if_icmp .le 10, 3) := by decide +kernel
theorem dX4_proof_56 : decode cX4_proof 56 = .ok (.aload_n 0, 1) := by decide +kernel
theorem dX4_proof_57 : decode cX4_proof 57 = .ok (.bipush (-7), 2) := by decide +kernel
theorem dX4_proof_59 : decode cX4_proof 59 = .ok (.invokevirtual 82, 3) := by decide +kernel
theorem dX4_proof_62 : decode cX4_proof 62 = .ok (.ireturn, 1) := by decide +kernel
theorem dX4_proof_63 : decode cX4_proof 63 = .ok (.aload_n 0, 1) := by decide +kernel
theorem dX4_proof_64 : decode cX4_proof 64 = .ok (.getfield 10, 3) := by decide +kernel
theorem dX4_proof_67 : decode cX4_proof 67 = .ok (.getfield 146, 3) := by decide +kernel
theorem dX4_proof_70 : decode cX4_proof 70 = .ok (.istore_n 3, 1) := by decide +kernel
theorem dX4_proof_71 : decode cX4_proof 71 = .ok (.iconst 0, 1) := by decide +kernel
theorem dX4_proof_72 : decode cX4_proof 72 = .ok (.istore 4, 2) := by decide +kernel
theorem dX4_proof_74 : decode cX4_proof 74 = .ok (.iload 4, 2) := by decide +kernel
theorem dX4_proof_76 : decode cX4_proof 76 = .ok (.iconst 1, 1) := by decide +kernel
theorem dX4_proof_77 : decode cX4_proof 77 = .ok (.aload_n 0, 1) := by decide +kernel
theorem dX4_proof_78 : decode cX4_proof 78 = .ok (.getfield 10, 3) := by decide +kernel
theorem dX4_proof_81 : decode cX4_proof 81 = .ok (.getfield 146, 3) := by decide +kernel
theorem dX4_proof_84 : decode cX4_proof 84 = .ok (.ishl, 1) := by decide +kernel
theorem dX4_proof_85 : decode cX4_proof 85 = .ok (.if_icmp .ge 43, 3) := by decide +kernel
theorem dX4_proof_88 : decode cX4_proof 88 = .ok (.iload 4, 2) := by decide +kernel
theorem dX4_proof_90 : decode cX4_proof 90 = .ok (.invokestatic 230, 3) := by decide +kernel
theorem dX4_proof_93 : decode cX4_proof 93 = .ok (.istore 5, 2) := by decide +kernel
theorem dX4_proof_95 : decode cX4_proof 95 = .ok (.iload 5, 2) := by decide +kernel
theorem dX4_proof_97 : decode cX4_proof 97 = .ok (.iload_n 3, 1) := by decide +kernel
theorem dX4_proof_98 : decode cX4_proof 98 = .ok (.if_icmp .ge 24, 3) := by decide +kernel
theorem dX4_proof_101 : decode cX4_proof 101 = .ok (.aload_n 0, 1) := by decide +kernel
theorem dX4_proof_102 : decode cX4_proof 102 = .ok (.getfield 10, 3) := by decide +kernel
theorem dX4_proof_105 : decode cX4_proof 105 = .ok (.iload 4, 2) := by decide +kernel
theorem dX4_proof_107 : decode cX4_proof 107 = .ok (.i2l, 1) := by decide +kernel
theorem dX4_proof_108 : decode cX4_proof 108 = .ok (.invokevirtual 167, 3) := by decide +kernel
theorem dX4_proof_111 : decode cX4_proof 111 = .ok (.iload_n 1, 1) := by decide +kernel
theorem dX4_proof_112 : decode cX4_proof 112 = .ok (.invokestatic 227, 3) := by decide +kernel
theorem dX4_proof_115 : decode cX4_proof 115 = .ok (.iload_n 2, 1) := by decide +kernel
theorem dX4_proof_116 : decode cX4_proof 116 = .ok (.if_icmp .ne 6, 3) := by decide +kernel
theorem dX4_proof_119 : decode cX4_proof 119 = .ok (.iload 5, 2) := by decide +kernel
theorem dX4_proof_121 : decode cX4_proof 121 = .ok (.istore_n 3, 1) := by decide +kernel
theorem dX4_proof_122 : decode cX4_proof 122 = .ok (.iinc 4 1, 3) := by decide +kernel
theorem dX4_proof_125 : decode cX4_proof 125 = .ok (.goto (-51), 3) := by decide +kernel
theorem dX4_proof_128 : decode cX4_proof 128 = .ok (.iload_n 3, 1) := by decide +kernel
theorem dX4_proof_129 : decode cX4_proof 129 = .ok (.ireturn, 1) := by decide +kernel
theorem dX4_worst_0 : decode cX4_worst 0 = .ok (.aload_n 0, 1) := by decide +kernel
theorem dX4_worst_1 : decode cX4_worst 1 = .ok (.getfield 10, 3) := by decide +kernel
theorem dX4_worst_4 : decode cX4_worst 4 = .ok (.iload_n 1, 1) := by decide +kernel
theorem dX4_worst_5 : decode cX4_worst 5 = .ok (.invokevirtual 119, 3) := by decide +kernel
theorem dX4_worst_8 : decode cX4_worst 8 = .ok (.ifCond .eq 14, 3) := by decide +kernel
theorem dX4_worst_11 : decode cX4_worst 11 = .ok (.aload_n 0, 1) := by decide +kernel
theorem dX4_worst_12 : decode cX4_worst 12 = .ok (.getfield 10, 3) := by decide +kernel
theorem dX4_worst_15 : decode cX4_worst 15 = .ok (.iload_n 2, 1) := by decide +kernel
theorem dX4_worst_16 : decode cX4_worst 16 = .ok (.invokevirtual 158, 3) := by decide +kernel
theorem dX4_worst_19 : decode cX4_worst 19 = .ok (.ifCond .ne 9, 3) := by decide +kernel
theorem dX4_worst_22 : decode cX4_worst 22 = .ok (.aload_n 0, 1) := by decide +kernel
theorem dX4_worst_23 : decode cX4_worst 23 = .ok (.iconst (-1), 1) := by decide +kernel
theorem dX4_worst_24 : decode cX4_worst 24 = .ok (.invokevirtual 82, 3) := by decide +kernel
theorem dX4_worst_27 : decode cX4_worst 27 = .ok (.ireturn, 1) := by decide +kernel
theorem dX4_worst_28 : decode cX4_worst 28 = .ok (.aload_n 0, 1) := by decide +kernel
theorem dX4_worst_29 : decode cX4_worst 29 = .ok (.getfield 10, 3) := by decide +kernel
theorem dX4_worst_32 : decode cX4_worst 32 = .ok (.iload_n 1, 1) := by decide +kernel
theorem dX4_worst_33 : decode cX4_worst 33 = .ok (.invokevirtual 164, 3) := by decide +kernel
theorem dX4_worst_36 : decode cX4_worst 36 = .ok (.ifCond .eq 10, 3) := by decide +kernel
theorem dX4_worst_39 : decode cX4_worst 39 = .ok (.aload_n 0, 1) := by decide +kernel
theorem dX4_worst_40 : decode cX4_worst 40 = .ok (.bipush (-6), 2) := by decide +kernel
theorem dX4_worst_42 : decode cX4_worst 42 = .ok (.invokevirtual 82, 3) := by decide +kernel
theorem dX4_worst_45 : decode cX4_worst 45 = .ok (.ireturn, 1) := by decide +kernel
theorem dX4_worst_46 : decode cX4_worst 46 = .ok (.aload_n 0, 1) := by decide +kernel
theorem dX4_worst_47 : decode cX4_worst 47 = .ok (.iload_n 1, 1) := by decide +kernel
theorem dX4_worst_48 : decode cX4_worst 48 = .ok (.iload_n 2, 1) := by decide +kernel
theorem dX4_worst_49 : decode cX4_worst 49 = .ok (.aload_n 0, 1) := by decide +kernel
theorem dX4_worst_50 : decode cX4_worst 50 = .ok (.getfield 10, 3) := by decide +kernel
theorem dX4_worst_53 : decode cX4_worst 53 = .ok (.ldc2_w 63, 3) := by decide +kernel
theorem dX4_worst_56 : decode cX4_worst 56 = .ok (.invokevirtual 167, 3) := by decide +kernel
theorem dX4_worst_59 : decode cX4_worst 59 = .ok (.invokevirtual 234, 3) := by decide +kernel
theorem dX4_worst_62 : decode cX4_worst 62 = .ok (.ireturn, 1) := by decide +kernel
theorem dX4_worstOf_0 : decode cX4_worstOf 0 = .ok (.aload_n 0, 1) := by decide +kernel
theorem dX4_worstOf_1 : decode cX4_worstOf 1 = .ok (.getfield 10, 3) := by decide +kernel
theorem dX4_worstOf_4 : decode cX4_worstOf 4 = .ok (.iload_n 1, 1) := by decide +kernel
theorem dX4_worstOf_5 : decode cX4_worstOf 5 = .ok (.iload_n 2, 1) := by decide +kernel
theorem dX4_worstOf_6 : decode cX4_worstOf 6 = .ok (.iconst 1, 1) := by decide +kernel
theorem dX4_worstOf_7 : decode cX4_worstOf 7 = .ok (.lload_n 3, 1) := by decide +kernel
theorem dX4_worstOf_8 : decode cX4_worstOf 8 = .ok (.invokevirtual 171, 3) := by decide +kernel
theorem dX4_worstOf_11 : decode cX4_worstOf 11 = .ok (.invokestatic 178, 3) := by decide +kernel
theorem dX4_worstOf_14 : decode cX4_worstOf 14 = .ok (.istore 5, 2) := by decide +kernel
theorem dX4_worstOf_16 : decode cX4_worstOf 16 = .ok (.aload_n 0, 1) := by decide +kernel
theorem dX4_worstOf_17 : decode cX4_worstOf 17 = .ok (.getfield 10, 3) := by decide +kernel
theorem dX4_worstOf_20 : decode cX4_worstOf 20 = .ok (.iload_n 1, 1) := by decide +kernel
theorem dX4_worstOf_21 : decode cX4_worstOf 21 = .ok (.iload_n 2, 1) := by decide +kernel
theorem dX4_worstOf_22 : decode cX4_worstOf 22 = .ok (.iconst 0, 1) := by decide +kernel
theorem dX4_worstOf_23 : decode cX4_worstOf 23 = .ok (.lload_n 3, 1) := by decide +kernel
theorem dX4_worstOf_24 : decode cX4_worstOf 24 = .ok (.invokevirtual 171, 3) := by decide +kernel
theorem dX4_worstOf_27 : decode cX4_worstOf 27 = .ok (.invokestatic 178, 3) := by decide +kernel
theorem dX4_worstOf_30 : decode cX4_worstOf 30 = .ok (.istore 6, 2) := by decide +kernel
theorem dX4_worstOf_32 : decode cX4_worstOf 32 = .ok (.iload 5, 2) := by decide +kernel
theorem dX4_worstOf_34 : decode cX4_worstOf 34 = .ok (.iload 6, 2) := by decide +kernel
theorem dX4_worstOf_36 : decode cX4_worstOf 36 = .ok (.invokestatic 238, 3) := by decide +kernel
theorem dX4_worstOf_39 : decode cX4_worstOf 39 = .ok (.ireturn, 1) := by decide +kernel
theorem dX4_next_0 : decode cX4_next 0 = .ok (.aload_n 0, 1) := by decide +kernel
theorem dX4_next_1 : decode cX4_next 1 = .ok (.getfield 10, 3) := by decide +kernel
theorem dX4_next_4 : decode cX4_next 4 = .ok (.ldc2_w 63, 3) := by decide +kernel
theorem dX4_next_7 : decode cX4_next 7 = .ok (.invokevirtual 167, 3) := by decide +kernel
theorem dX4_next_10 : decode cX4_next 10 = .ok (.lstore_n 1, 1) := by decide +kernel
theorem dX4_next_11 : decode cX4_next 11 = .ok (.iconst (-1), 1) := by decide +kernel
theorem dX4_next_12 : decode cX4_next 12 = .ok (.istore_n 3, 1) := by decide +kernel
theorem dX4_next_13 : decode cX4_next 13 = .ok (.iconst 0, 1) := by decide +kernel
theorem dX4_next_14 : decode cX4_next 14 = .ok (.istore 4, 2) := by decide +kernel
theorem dX4_next_16 : decode cX4_next 16 = .ok (.iconst 0, 1) := by decide +kernel
theorem dX4_next_17 : decode cX4_next 17 = .ok (.istore 5, 2) := by decide +kernel
theorem dX4_next_19 : decode cX4_next 19 = .ok (.iload 5, 2) := by decide +kernel
theorem dX4_next_21 : decode cX4_next 21 = .ok (.aload_n 0, 1) := by decide +kernel
theorem dX4_next_22 : decode cX4_next 22 = .ok (.getfield 10, 3) := by decide +kernel
theorem dX4_next_25 : decode cX4_next 25 = .ok (.getfield 140, 3) := by decide +kernel
theorem dX4_next_28 : decode cX4_next 28 = .ok (.if_icmp .ge 78, 3) := by decide +kernel
theorem dX4_next_31 : decode cX4_next 31 = .ok (.iconst 0, 1) := by decide +kernel
theorem dX4_next_32 : decode cX4_next 32 = .ok (.istore 6, 2) := by decide +kernel
theorem dX4_next_34 : decode cX4_next 34 = .ok (.iload 6, 2) := by decide +kernel
theorem dX4_next_36 : decode cX4_next 36 = .ok (.aload_n 0, 1) := by decide +kernel
theorem dX4_next_37 : decode cX4_next 37 = .ok (.getfield 10, 3) := by decide +kernel
theorem dX4_next_40 : decode cX4_next 40 = .ok (.getfield 133, 3) := by decide +kernel
theorem dX4_next_43 : decode cX4_next 43 = .ok (.if_icmp .ge 57, 3) := by decide +kernel
theorem dX4_next_46 : decode cX4_next 46 = .ok (.aload_n 0, 1) := by decide +kernel
theorem dX4_next_47 : decode cX4_next 47 = .ok (.getfield 10, 3) := by decide +kernel
theorem dX4_next_50 : decode cX4_next 50 = .ok (.iload 5, 2) := by decide +kernel
theorem dX4_next_52 : decode cX4_next 52 = .ok (.invokevirtual 164, 3) := by decide +kernel
theorem dX4_next_55 : decode cX4_next 55 = .ok (.ifCond .ne 45, 3) := by decide +kernel
theorem dX4_next_58 : decode cX4_next 58 = .ok (.aload_n 0, 1) := by decide +kernel
theorem dX4_next_59 : decode cX4_next 59 = .ok (.iload 5, 2) := by decide +kernel
theorem dX4_next_61 : decode cX4_next 61 = .ok (.iload 6, 2) := by decide +kernel
theorem dX4_next_63 : decode cX4_next 63 = .ok (.lload_n 1, 1) := by decide +kernel
theorem dX4_next_64 : decode cX4_next 64 = .ok (.invokevirtual 234, 3) := by decide +kernel
theorem dX4_next_67 : decode cX4_next 67 = .ok (.istore 7, 2) := by decide +kernel
theorem dX4_next_69 : decode cX4_next 69 = .ok (.iload_n 3, 1) := by decide +kernel
theorem dX4_next_70 : decode cX4_next 70 = .ok (.iconst (-1), 1) := by decide +kernel
theorem dX4_next_71 : decode cX4_next 71 = .ok (.if_icmp .eq 10, 3) := by decide +kernel
theorem dX4_next_74 : decode cX4_next 74 = .ok (.iload 7, 2) := by decide +kernel
theorem dX4_next_76 : decode cX4_next 76 = .ok (.iload 4, 2) := by decide +kernel
theorem dX4_next_78 : decode cX4_next 78 = .ok (.if_icmp .ge 16, 3) := by decide +kernel
theorem dX4_next_81 : decode cX4_next 81 = .ok (.bipush 10, 2) := by decide +kernel
theorem dX4_next_83 : decode cX4_next 83 = .ok (.iload 5, 2) := by decide +kernel
theorem dX4_next_85 : decode cX4_next 85 = .ok (.imul, 1) := by decide +kernel
theorem dX4_next_86 : decode cX4_next 86 = .ok (.iload 6, 2) := by decide +kernel
theorem dX4_next_88 : decode cX4_next 88 = .ok (.iadd, 1) := by decide +kernel
theorem dX4_next_89 : decode cX4_next 89 = .ok (.istore_n 3, 1) := by decide +kernel
theorem dX4_next_90 : decode cX4_next 90 = .ok (.iload 7, 2) := by decide +kernel
theorem dX4_next_92 : decode cX4_next 92 = .ok (.istore 4, 2) := by decide +kernel
theorem dX4_next_94 : decode cX4_next 94 = .ok (.iinc 6 1, 3) := by decide +kernel
theorem dX4_next_97 : decode cX4_next 97 = .ok (.goto (-63), 3) := by decide +kernel
theorem dX4_next_100 : decode cX4_next 100 = .ok (.iinc 5 1, 3) := by decide +kernel
theorem dX4_next_103 : decode cX4_next 103 = .ok (.goto (-84), 3) := by decide +kernel
theorem dX4_next_106 : decode cX4_next 106 = .ok (.iload_n 3, 1) := by decide +kernel
theorem dX4_next_107 : decode cX4_next 107 = .ok (.iconst (-1), 1) := by decide +kernel
theorem dX4_next_108 : decode cX4_next 108 = .ok (.if_icmp .ne 12, 3) := by decide +kernel
theorem dX4_next_111 : decode cX4_next 111 = .ok (.aload_n 0, 1) := by decide +kernel
theorem dX4_next_112 : decode cX4_next 112 = .ok (.bipush (-5), 2) := by decide +kernel
theorem dX4_next_114 : decode cX4_next 114 = .ok (.invokevirtual 82, 3) := by decide +kernel
theorem dX4_next_117 : decode cX4_next 117 = .ok (.goto 4, 3) := by decide +kernel
theorem dX4_next_120 : decode cX4_next 120 = .ok (.iload_n 3, 1) := by decide +kernel
theorem dX4_next_121 : decode cX4_next 121 = .ok (.ireturn, 1) := by decide +kernel
theorem dX4_knows_0 : decode cX4_knows 0 = .ok (.aload_n 0, 1) := by decide +kernel
theorem dX4_knows_1 : decode cX4_knows 1 = .ok (.getfield 10, 3) := by decide +kernel
theorem dX4_knows_4 : decode cX4_knows 4 = .ok (.iload_n 1, 1) := by decide +kernel
theorem dX4_knows_5 : decode cX4_knows 5 = .ok (.invokevirtual 158, 3) := by decide +kernel
theorem dX4_knows_8 : decode cX4_knows 8 = .ok (.ifCond .ne 9, 3) := by decide +kernel
theorem dX4_knows_11 : decode cX4_knows 11 = .ok (.aload_n 0, 1) := by decide +kernel
theorem dX4_knows_12 : decode cX4_knows 12 = .ok (.iconst (-1), 1) := by decide +kernel
theorem dX4_knows_13 : decode cX4_knows 13 = .ok (.invokevirtual 82, 3) := by decide +kernel
theorem dX4_knows_16 : decode cX4_knows 16 = .ok (.ireturn, 1) := by decide +kernel
theorem dX4_knows_17 : decode cX4_knows 17 = .ok (.iload_n 2, 1) := by decide +kernel
theorem dX4_knows_18 : decode cX4_knows 18 = .ok (.iconst 0, 1) := by decide +kernel
theorem dX4_knows_19 : decode cX4_knows 19 = .ok (.iconst 2, 1) := by decide +kernel
theorem dX4_knows_20 : decode cX4_knows 20 = .ok (.invokestatic 85, 3) := by decide +kernel
theorem dX4_knows_23 : decode cX4_knows 23 = .ok (.ifCond .ne 10, 3) := by decide +kernel
theorem dX4_knows_26 : decode cX4_knows 26 = .ok (.aload_n 0, 1) := by decide +kernel
theorem dX4_knows_27 : decode cX4_knows 27 = .ok (.bipush (-6), 2) := by decide +kernel
theorem dX4_knows_29 : decode cX4_knows 29 = .ok (.invokevirtual 82, 3) := by decide +kernel
theorem dX4_knows_32 : decode cX4_knows 32 = .ok (.ireturn, 1) := by decide +kernel
theorem dX4_knows_33 : decode cX4_knows 33 = .ok (.aload_n 0, 1) := by decide +kernel
theorem dX4_knows_34 : decode cX4_knows 34 = .ok (.iload_n 2, 1) := by decide +kernel
theorem dX4_knows_35 : decode cX4_knows 35 = .ok (.iload_n 1, 1) := by decide +kernel
theorem dX4_knows_36 : decode cX4_knows 36 = .ok (.aload_n 0, 1) := by decide +kernel
theorem dX4_knows_37 : decode cX4_knows 37 = .ok (.getfield 10, 3) := by decide +kernel
theorem dX4_knows_40 : decode cX4_knows 40 = .ok (.ldc2_w 63, 3) := by decide +kernel
theorem dX4_knows_43 : decode cX4_knows 43 = .ok (.invokevirtual 167, 3) := by decide +kernel
theorem dX4_knows_46 : decode cX4_knows 46 = .ok (.invokevirtual 243, 3) := by decide +kernel
theorem dX4_knows_49 : decode cX4_knows 49 = .ok (.ifCond .eq 7, 3) := by decide +kernel
theorem dX4_knows_52 : decode cX4_knows 52 = .ok (.iconst 1, 1) := by decide +kernel
theorem dX4_knows_53 : decode cX4_knows 53 = .ok (.goto 4, 3) := by decide +kernel
theorem dX4_knows_56 : decode cX4_knows 56 = .ok (.iconst 0, 1) := by decide +kernel
theorem dX4_knows_57 : decode cX4_knows 57 = .ok (.ireturn, 1) := by decide +kernel
theorem dX4_tree_0 : decode cX4_tree 0 = .ok (.aload_n 0, 1) := by decide +kernel
theorem dX4_tree_1 : decode cX4_tree 1 = .ok (.getfield 10, 3) := by decide +kernel
theorem dX4_tree_4 : decode cX4_tree 4 = .ok (.iload_n 1, 1) := by decide +kernel
theorem dX4_tree_5 : decode cX4_tree 5 = .ok (.invokevirtual 158, 3) := by decide +kernel
theorem dX4_tree_8 : decode cX4_tree 8 = .ok (.ifCond .ne 11, 3) := by decide +kernel
theorem dX4_tree_11 : decode cX4_tree 11 = .ok (.aload_n 0, 1) := by decide +kernel
theorem dX4_tree_12 : decode cX4_tree 12 = .ok (.iconst (-1), 1) := by decide +kernel
theorem dX4_tree_13 : decode cX4_tree 13 = .ok (.bipush (-11), 2) := by decide +kernel
theorem dX4_tree_15 : decode cX4_tree 15 = .ok (.invokevirtual 55, 3) := by decide +kernel
theorem dX4_tree_18 : decode cX4_tree 18 = .ok (.ireturn, 1) := by decide +kernel
theorem dX4_tree_19 : decode cX4_tree 19 = .ok (.aload_n 0, 1) := by decide +kernel
theorem dX4_tree_20 : decode cX4_tree 20 = .ok (.getfield 10, 3) := by decide +kernel
theorem dX4_tree_23 : decode cX4_tree 23 = .ok (.ldc2_w 63, 3) := by decide +kernel
theorem dX4_tree_26 : decode cX4_tree 26 = .ok (.invokevirtual 167, 3) := by decide +kernel
theorem dX4_tree_29 : decode cX4_tree 29 = .ok (.lstore_n 2, 1) := by decide +kernel
theorem dX4_tree_30 : decode cX4_tree 30 = .ok (.iconst 0, 1) := by decide +kernel
theorem dX4_tree_31 : decode cX4_tree 31 = .ok (.istore 4, 2) := by decide +kernel
theorem dX4_tree_33 : decode cX4_tree 33 = .ok (.iload 4, 2) := by decide +kernel
theorem dX4_tree_35 : decode cX4_tree 35 = .ok (.iconst 2, 1) := by decide +kernel
theorem dX4_tree_36 : decode cX4_tree 36 = .ok (.if_icmp .gt 23, 3) := by decide +kernel
theorem dX4_tree_39 : decode cX4_tree 39 = .ok (.aload_n 0, 1) := by decide +kernel
theorem dX4_tree_40 : decode cX4_tree 40 = .ok (.iload 4, 2) := by decide +kernel
theorem dX4_tree_42 : decode cX4_tree 42 = .ok (.iload_n 1, 1) := by decide +kernel
theorem dX4_tree_43 : decode cX4_tree 43 = .ok (.lload_n 2, 1) := by decide +kernel
theorem dX4_tree_44 : decode cX4_tree 44 = .ok (.invokevirtual 243, 3) := by decide +kernel
theorem dX4_tree_47 : decode cX4_tree 47 = .ok (.ifCond .eq 6, 3) := by decide +kernel
theorem dX4_tree_50 : decode cX4_tree 50 = .ok (.iload 4, 2) := by decide +kernel
theorem dX4_tree_52 : decode cX4_tree 52 = .ok (.ireturn, 1) := by decide +kernel
theorem dX4_tree_53 : decode cX4_tree 53 = .ok (.iinc 4 1, 3) := by decide +kernel
theorem dX4_tree_56 : decode cX4_tree 56 = .ok (.goto (-23), 3) := by decide +kernel
theorem dX4_tree_59 : decode cX4_tree 59 = .ok (.iconst (-1), 1) := by decide +kernel
theorem dX4_tree_60 : decode cX4_tree 60 = .ok (.ireturn, 1) := by decide +kernel
theorem dX4_isKnownIn_0 : decode cX4_isKnownIn 0 = .ok (.lload_n 3, 1) := by decide +kernel
theorem dX4_isKnownIn_1 : decode cX4_isKnownIn 1 = .ok (.iload_n 2, 1) := by decide +kernel
theorem dX4_isKnownIn_2 : decode cX4_isKnownIn 2 = .ok (.invokestatic 227, 3) := by decide +kernel
theorem dX4_isKnownIn_5 : decode cX4_isKnownIn 5 = .ok (.iconst (-1), 1) := by decide +kernel
theorem dX4_isKnownIn_6 : decode cX4_isKnownIn 6 = .ok (.if_icmp .eq 5, 3) := by decide +kernel
theorem dX4_isKnownIn_9 : decode cX4_isKnownIn 9 = .ok (.iconst 1, 1) := by decide +kernel
theorem dX4_isKnownIn_10 : decode cX4_isKnownIn 10 = .ok (.ireturn, 1) := by decide +kernel
theorem dX4_isKnownIn_11 : decode cX4_isKnownIn 11 = .ok (.iload_n 1, 1) := by decide +kernel
theorem dX4_isKnownIn_12 : decode cX4_isKnownIn 12 = .ok (.ifCond .le 8, 3) := by decide +kernel
theorem dX4_isKnownIn_15 : decode cX4_isKnownIn 15 = .ok (.iload_n 1, 1) := by decide +kernel
theorem dX4_isKnownIn_16 : decode cX4_isKnownIn 16 = .ok (.iconst 2, 1) := by decide +kernel
theorem dX4_isKnownIn_17 : decode cX4_isKnownIn 17 = .ok (.if_icmp .le 5, 3) := by decide +kernel
theorem dX4_isKnownIn_20 : decode cX4_isKnownIn 20 = .ok (.iconst 0, 1) := by decide +kernel
theorem dX4_isKnownIn_21 : decode cX4_isKnownIn 21 = .ok (.ireturn, 1) := by decide +kernel
theorem dX4_isKnownIn_22 : decode cX4_isKnownIn 22 = .ok (.iconst 0, 1) := by decide +kernel
theorem dX4_isKnownIn_23 : decode cX4_isKnownIn 23 = .ok (.istore 5, 2) := by decide +kernel
theorem dX4_isKnownIn_25 : decode cX4_isKnownIn 25 = .ok (.iload 5, 2) := by decide +kernel
theorem dX4_isKnownIn_27 : decode cX4_isKnownIn 27 = .ok (.aload_n 0, 1) := by decide +kernel
theorem dX4_isKnownIn_28 : decode cX4_isKnownIn 28 = .ok (.getfield 10, 3) := by decide +kernel
theorem dX4_isKnownIn_31 : decode cX4_isKnownIn 31 = .ok (.getfield 140, 3) := by decide +kernel
theorem dX4_isKnownIn_34 : decode cX4_isKnownIn 34 = .ok (.if_icmp .ge 74, 3) := by decide +kernel
theorem dX4_isKnownIn_37 : decode cX4_isKnownIn 37 = .ok (.iconst 0, 1) := by decide +kernel
theorem dX4_isKnownIn_38 : decode cX4_isKnownIn 38 = .ok (.istore 6, 2) := by decide +kernel
theorem dX4_isKnownIn_40 : decode cX4_isKnownIn 40 = .ok (.iload 6, 2) := by decide +kernel
theorem dX4_isKnownIn_42 : decode cX4_isKnownIn 42 = .ok (.aload_n 0, 1) := by decide +kernel
theorem dX4_isKnownIn_43 : decode cX4_isKnownIn 43 = .ok (.getfield 10, 3) := by decide +kernel
theorem dX4_isKnownIn_46 : decode cX4_isKnownIn 46 = .ok (.getfield 133, 3) := by decide +kernel
theorem dX4_isKnownIn_49 : decode cX4_isKnownIn 49 = .ok (.if_icmp .ge 53, 3) := by decide +kernel
theorem dX4_isKnownIn_52 : decode cX4_isKnownIn 52 = .ok (.aload_n 0, 1) := by decide +kernel
theorem dX4_isKnownIn_53 : decode cX4_isKnownIn 53 = .ok (.getfield 10, 3) := by decide +kernel
theorem dX4_isKnownIn_56 : decode cX4_isKnownIn 56 = .ok (.iload 5, 2) := by decide +kernel
theorem dX4_isKnownIn_58 : decode cX4_isKnownIn 58 = .ok (.invokevirtual 164, 3) := by decide +kernel
theorem dX4_isKnownIn_61 : decode cX4_isKnownIn 61 = .ok (.ifCond .ne 41, 3) := by decide +kernel
theorem dX4_isKnownIn_64 : decode cX4_isKnownIn 64 = .ok (.aload_n 0, 1) := by decide +kernel
theorem dX4_isKnownIn_65 : decode cX4_isKnownIn 65 = .ok (.iload_n 1, 1) := by decide +kernel
theorem dX4_isKnownIn_66 : decode cX4_isKnownIn 66 = .ok (.iload_n 2, 1) := by decide +kernel
theorem dX4_isKnownIn_67 : decode cX4_isKnownIn 67 = .ok (.lload_n 3, 1) := by decide +kernel
theorem dX4_isKnownIn_68 : decode cX4_isKnownIn 68 = .ok (.iload 5, 2) := by decide +kernel
theorem dX4_isKnownIn_70 : decode cX4_isKnownIn 70 = .ok (.iload 6, 2) := by decide +kernel
theorem dX4_isKnownIn_72 : decode cX4_isKnownIn 72 = .ok (.iconst 1, 1) := by decide +kernel
theorem dX4_isKnownIn_73 : decode cX4_isKnownIn 73 = .ok (.invokevirtual 247, 3) := by decide +kernel
theorem dX4_isKnownIn_76 : decode cX4_isKnownIn 76 = .ok (.ifCond .eq 20, 3) := by decide +kernel
theorem dX4_isKnownIn_79 : decode cX4_isKnownIn 79 = .ok (.aload_n 0, 1) := by decide +kernel
theorem dX4_isKnownIn_80 : decode cX4_isKnownIn 80 = .ok (.iload_n 1, 1) := by decide +kernel
theorem dX4_isKnownIn_81 : decode cX4_isKnownIn 81 = .ok (.iload_n 2, 1) := by decide +kernel
theorem dX4_isKnownIn_82 : decode cX4_isKnownIn 82 = .ok (.lload_n 3, 1) := by decide +kernel
theorem dX4_isKnownIn_83 : decode cX4_isKnownIn 83 = .ok (.iload 5, 2) := by decide +kernel
theorem dX4_isKnownIn_85 : decode cX4_isKnownIn 85 = .ok (.iload 6, 2) := by decide +kernel
theorem dX4_isKnownIn_87 : decode cX4_isKnownIn 87 = .ok (.iconst 0, 1) := by decide +kernel
theorem dX4_isKnownIn_88 : decode cX4_isKnownIn 88 = .ok (.invokevirtual 247, 3) := by decide +kernel
theorem dX4_isKnownIn_91 : decode cX4_isKnownIn 91 = .ok (.ifCond .eq 5, 3) := by decide +kernel
theorem dX4_isKnownIn_94 : decode cX4_isKnownIn 94 = .ok (.iconst 1, 1) := by decide +kernel
theorem dX4_isKnownIn_95 : decode cX4_isKnownIn 95 = .ok (.ireturn, 1) := by decide +kernel
theorem dX4_isKnownIn_96 : decode cX4_isKnownIn 96 = .ok (.iinc 6 1, 3) := by decide +kernel
theorem dX4_isKnownIn_99 : decode cX4_isKnownIn 99 = .ok (.goto (-59), 3) := by decide +kernel
theorem dX4_isKnownIn_102 : decode cX4_isKnownIn 102 = .ok (.iinc 5 1, 3) := by decide +kernel
theorem dX4_isKnownIn_105 : decode cX4_isKnownIn 105 = .ok (.goto (-80), 3) := by decide +kernel
theorem dX4_isKnownIn_108 : decode cX4_isKnownIn 108 = .ok (.iconst 0, 1) := by decide +kernel
theorem dX4_isKnownIn_109 : decode cX4_isKnownIn 109 = .ok (.ireturn, 1) := by decide +kernel
theorem dX4_leavesKnown_0 : decode cX4_leavesKnown 0 = .ok (.aload_n 0, 1) := by decide +kernel
theorem dX4_leavesKnown_1 : decode cX4_leavesKnown 1 = .ok (.getfield 10, 3) := by decide +kernel
theorem dX4_leavesKnown_4 : decode cX4_leavesKnown 4 = .ok (.iload 5, 2) := by decide +kernel
theorem dX4_leavesKnown_6 : decode cX4_leavesKnown 6 = .ok (.iload 6, 2) := by decide +kernel
theorem dX4_leavesKnown_8 : decode cX4_leavesKnown 8 = .ok (.iload 7, 2) := by decide +kernel
theorem dX4_leavesKnown_10 : decode cX4_leavesKnown 10 = .ok (.invokevirtual 175, 3) := by decide +kernel
theorem dX4_leavesKnown_13 : decode cX4_leavesKnown 13 = .ok (.lload_n 3, 1) := by decide +kernel
theorem dX4_leavesKnown_14 : decode cX4_leavesKnown 14 = .ok (.aload_n 0, 1) := by decide +kernel
theorem dX4_leavesKnown_15 : decode cX4_leavesKnown 15 = .ok (.getfield 10, 3) := by decide +kernel
theorem dX4_leavesKnown_18 : decode cX4_leavesKnown 18 = .ok (.iload 5, 2) := by decide +kernel
theorem dX4_leavesKnown_20 : decode cX4_leavesKnown 20 = .ok (.ldc2_w 63, 3) := by decide +kernel
theorem dX4_leavesKnown_23 : decode cX4_leavesKnown 23 = .ok (.invokevirtual 216, 3) := by decide +kernel
theorem dX4_leavesKnown_26 : decode cX4_leavesKnown 26 = .ok (.land, 1) := by decide +kernel
theorem dX4_leavesKnown_27 : decode cX4_leavesKnown 27 = .ok (.lstore 8, 2) := by decide +kernel
theorem dX4_leavesKnown_29 : decode cX4_leavesKnown 29 = .ok (.lload 8, 2) := by decide +kernel
theorem dX4_leavesKnown_31 : decode cX4_leavesKnown 31 = .ok (.lconst 0, 1) := by decide +kernel
theorem dX4_leavesKnown_32 : decode cX4_leavesKnown 32 = .ok (.lcmp, 1) := by decide +kernel
theorem dX4_leavesKnown_33 : decode cX4_leavesKnown 33 = .ok (.ifCond .eq 16, 3) := by decide +kernel
theorem dX4_leavesKnown_36 : decode cX4_leavesKnown 36 = .ok (.aload_n 0, 1) := by decide +kernel
theorem dX4_leavesKnown_37 : decode cX4_leavesKnown 37 = .ok (.iload_n 1, 1) := by decide +kernel
theorem dX4_leavesKnown_38 : decode cX4_leavesKnown 38 = .ok (.iconst 1, 1) := by decide +kernel
theorem dX4_leavesKnown_39 : decode cX4_leavesKnown 39 = .ok (.isub, 1) := by decide +kernel
theorem dX4_leavesKnown_40 : decode cX4_leavesKnown 40 = .ok (.iload_n 2, 1) := by decide +kernel
theorem dX4_leavesKnown_41 : decode cX4_leavesKnown 41 = .ok (.lload 8, 2) := by decide +kernel
theorem dX4_leavesKnown_43 : decode cX4_leavesKnown 43 = .ok (.invokevirtual 243, 3) := by decide +kernel
theorem dX4_leavesKnown_46 : decode cX4_leavesKnown 46 = .ok (.ifCond .eq 7, 3) := by decide +kernel
theorem dX4_leavesKnown_49 : decode cX4_leavesKnown 49 = .ok (.iconst 1, 1) := by decide +kernel
theorem dX4_leavesKnown_50 : decode cX4_leavesKnown 50 = .ok (.goto 4, 3) := by decide +kernel
theorem dX4_leavesKnown_53 : decode cX4_leavesKnown 53 = .ok (.iconst 0, 1) := by decide +kernel
theorem dX4_leavesKnown_54 : decode cX4_leavesKnown 54 = .ok (.istore 10, 2) := by decide +kernel
theorem dX4_leavesKnown_56 : decode cX4_leavesKnown 56 = .ok (.aload_n 0, 1) := by decide +kernel
theorem dX4_leavesKnown_57 : decode cX4_leavesKnown 57 = .ok (.getfield 10, 3) := by decide +kernel
theorem dX4_leavesKnown_60 : decode cX4_leavesKnown 60 = .ok (.invokevirtual 184, 3) := by decide +kernel
theorem dX4_leavesKnown_63 : decode cX4_leavesKnown 63 = .ok (.iload 10, 2) := by decide +kernel
theorem dX4_leavesKnown_65 : decode cX4_leavesKnown 65 = .ok (.ireturn, 1) := by decide +kernel
theorem dX4_rows_0 : decode cX4_rows 0 = .ok (.aload_n 0, 1) := by decide +kernel
theorem dX4_rows_1 : decode cX4_rows 1 = .ok (.getfield 10, 3) := by decide +kernel
theorem dX4_rows_4 : decode cX4_rows 4 = .ok (.iload_n 1, 1) := by decide +kernel
theorem dX4_rows_5 : decode cX4_rows 5 = .ok (.invokevirtual 119, 3) := by decide +kernel
theorem dX4_rows_8 : decode cX4_rows 8 = .ok (.ifCond .ne 9, 3) := by decide +kernel
theorem dX4_rows_11 : decode cX4_rows 11 = .ok (.aload_n 0, 1) := by decide +kernel
theorem dX4_rows_12 : decode cX4_rows 12 = .ok (.iconst (-1), 1) := by decide +kernel
theorem dX4_rows_13 : decode cX4_rows 13 = .ok (.invokevirtual 82, 3) := by decide +kernel
theorem dX4_rows_16 : decode cX4_rows 16 = .ok (.ireturn, 1) := by decide +kernel
theorem dX4_rows_17 : decode cX4_rows 17 = .ok (.iload_n 2, 1) := by decide +kernel
theorem dX4_rows_18 : decode cX4_rows 18 = .ok (.iconst 0, 1) := by decide +kernel
theorem dX4_rows_19 : decode cX4_rows 19 = .ok (.aload_n 0, 1) := by decide +kernel
theorem dX4_rows_20 : decode cX4_rows 20 = .ok (.getfield 10, 3) := by decide +kernel
theorem dX4_rows_23 : decode cX4_rows 23 = .ok (.getfield 149, 3) := by decide +kernel
theorem dX4_rows_26 : decode cX4_rows 26 = .ok (.invokestatic 85, 3) := by decide +kernel
theorem dX4_rows_29 : decode cX4_rows 29 = .ok (.ifCond .ne 10, 3) := by decide +kernel
theorem dX4_rows_32 : decode cX4_rows 32 = .ok (.aload_n 0, 1) := by decide +kernel
theorem dX4_rows_33 : decode cX4_rows 33 = .ok (.bipush (-6), 2) := by decide +kernel
theorem dX4_rows_35 : decode cX4_rows 35 = .ok (.invokevirtual 82, 3) := by decide +kernel
theorem dX4_rows_38 : decode cX4_rows 38 = .ok (.ireturn, 1) := by decide +kernel
theorem dX4_rows_39 : decode cX4_rows 39 = .ok (.aload_n 0, 1) := by decide +kernel
theorem dX4_rows_40 : decode cX4_rows 40 = .ok (.getfield 10, 3) := by decide +kernel
theorem dX4_rows_43 : decode cX4_rows 43 = .ok (.iload_n 1, 1) := by decide +kernel
theorem dX4_rows_44 : decode cX4_rows 44 = .ok (.iload_n 2, 1) := by decide +kernel
theorem dX4_rows_45 : decode cX4_rows 45 = .ok (.invokevirtual 251, 3) := by decide +kernel
theorem dX4_rows_48 : decode cX4_rows 48 = .ok (.ireturn, 1) := by decide +kernel
theorem dX4_tells_0 : decode cX4_tells 0 = .ok (.aload_n 0, 1) := by decide +kernel
theorem dX4_tells_1 : decode cX4_tells 1 = .ok (.getfield 10, 3) := by decide +kernel
theorem dX4_tells_4 : decode cX4_tells 4 = .ok (.iload_n 1, 1) := by decide +kernel
theorem dX4_tells_5 : decode cX4_tells 5 = .ok (.invokevirtual 119, 3) := by decide +kernel
theorem dX4_tells_8 : decode cX4_tells 8 = .ok (.ifCond .ne 11, 3) := by decide +kernel
theorem dX4_tells_11 : decode cX4_tells 11 = .ok (.aload_n 0, 1) := by decide +kernel
theorem dX4_tells_12 : decode cX4_tells 12 = .ok (.iconst (-1), 1) := by decide +kernel
theorem dX4_tells_13 : decode cX4_tells 13 = .ok (.bipush (-11), 2) := by decide +kernel
theorem dX4_tells_15 : decode cX4_tells 15 = .ok (.invokevirtual 55, 3) := by decide +kernel
theorem dX4_tells_18 : decode cX4_tells 18 = .ok (.ireturn, 1) := by decide +kernel
theorem dX4_tells_19 : decode cX4_tells 19 = .ok (.iload_n 2, 1) := by decide +kernel
theorem dX4_tells_20 : decode cX4_tells 20 = .ok (.iconst 1, 1) := by decide +kernel
theorem dX4_tells_21 : decode cX4_tells 21 = .ok (.sipush 1024, 3) := by decide +kernel
theorem dX4_tells_24 : decode cX4_tells 24 = .ok (.invokestatic 85, 3) := by decide +kernel
theorem dX4_tells_27 : decode cX4_tells 27 = .ok (.ifCond .ne 12, 3) := by decide +kernel
theorem dX4_tells_30 : decode cX4_tells 30 = .ok (.aload_n 0, 1) := by decide +kernel
end
section
theorem dX4_tells_31 : decode cX4_tells 31 = .ok (.bipush (-6), 2) := by decide +kernel
theorem dX4_tells_33 : decode cX4_tells 33 = .ok (.bipush (-16), 2) := by decide +kernel
theorem dX4_tells_35 : decode cX4_tells 35 = .ok (.invokevirtual 55, 3) := by decide +kernel
theorem dX4_tells_38 : decode cX4_tells 38 = .ok (.ireturn, 1) := by decide +kernel
theorem dX4_tells_39 : decode cX4_tells 39 = .ok (.iconst 0, 1) := by decide +kernel
theorem dX4_tells_40 : decode cX4_tells 40 = .ok (.istore_n 3, 1) := by decide +kernel
theorem dX4_tells_41 : decode cX4_tells 41 = .ok (.iload_n 3, 1) := by decide +kernel
theorem dX4_tells_42 : decode cX4_tells 42 = .ok (.aload_n 0, 1) := by decide +kernel
theorem dX4_tells_43 : decode cX4_tells 43 = .ok (.getfield 10, 3) := by decide +kernel
theorem dX4_tells_46 : decode cX4_tells 46 = .ok (.getfield 149, 3) := by decide +kernel
theorem dX4_tells_49 : decode cX4_tells 49 = .ok (.if_icmp .gt 24, 3) := by decide +kernel
theorem dX4_tells_52 : decode cX4_tells 52 = .ok (.aload_n 0, 1) := by decide +kernel
theorem dX4_tells_53 : decode cX4_tells 53 = .ok (.getfield 10, 3) := by decide +kernel
theorem dX4_tells_56 : decode cX4_tells 56 = .ok (.iload_n 1, 1) := by decide +kernel
theorem dX4_tells_57 : decode cX4_tells 57 = .ok (.iload_n 3, 1) := by decide +kernel
theorem dX4_tells_58 : decode cX4_tells 58 = .ok (.invokevirtual 251, 3) := by decide +kernel
theorem dX4_tells_61 : decode cX4_tells 61 = .ok (.iload_n 2, 1) := by decide +kernel
theorem dX4_tells_62 : decode cX4_tells 62 = .ok (.if_icmp .lt 5, 3) := by decide +kernel
theorem dX4_tells_65 : decode cX4_tells 65 = .ok (.iload_n 3, 1) := by decide +kernel
theorem dX4_tells_66 : decode cX4_tells 66 = .ok (.ireturn, 1) := by decide +kernel
theorem dX4_tells_67 : decode cX4_tells 67 = .ok (.iinc 3 1, 3) := by decide +kernel
theorem dX4_tells_70 : decode cX4_tells 70 = .ok (.goto (-29), 3) := by decide +kernel
theorem dX4_tells_73 : decode cX4_tells 73 = .ok (.iconst (-1), 1) := by decide +kernel
theorem dX4_tells_74 : decode cX4_tells 74 = .ok (.ireturn, 1) := by decide +kernel
theorem dX4_errands_0 : decode cX4_errands 0 = .ok (.aload_n 0, 1) := by decide +kernel
theorem dX4_errands_1 : decode cX4_errands 1 = .ok (.iload_n 1, 1) := by decide +kernel
theorem dX4_errands_2 : decode cX4_errands 2 = .ok (.iload_n 2, 1) := by decide +kernel
theorem dX4_errands_3 : decode cX4_errands 3 = .ok (.invokevirtual 254, 3) := by decide +kernel
theorem dX4_errands_6 : decode cX4_errands 6 = .ok (.istore_n 3, 1) := by decide +kernel
theorem dX4_errands_7 : decode cX4_errands 7 = .ok (.iload_n 3, 1) := by decide +kernel
theorem dX4_errands_8 : decode cX4_errands 8 = .ok (.ifCond .eq 9, 3) := by decide +kernel
theorem dX4_errands_11 : decode cX4_errands 11 = .ok (.aload_n 0, 1) := by decide +kernel
theorem dX4_errands_12 : decode cX4_errands 12 = .ok (.iload_n 3, 1) := by decide +kernel
theorem dX4_errands_13 : decode cX4_errands 13 = .ok (.invokevirtual 82, 3) := by decide +kernel
theorem dX4_errands_16 : decode cX4_errands 16 = .ok (.ireturn, 1) := by decide +kernel
theorem dX4_errands_17 : decode cX4_errands 17 = .ok (.aload_n 0, 1) := by decide +kernel
theorem dX4_errands_18 : decode cX4_errands 18 = .ok (.getfield 24, 3) := by decide +kernel
theorem dX4_errands_21 : decode cX4_errands 21 = .ok (.iload_n 1, 1) := by decide +kernel
theorem dX4_errands_22 : decode cX4_errands 22 = .ok (.aaload, 1) := by decide +kernel
theorem dX4_errands_23 : decode cX4_errands 23 = .ok (.astore 4, 2) := by decide +kernel
theorem dX4_errands_25 : decode cX4_errands 25 = .ok (.aload_n 0, 1) := by decide +kernel
theorem dX4_errands_26 : decode cX4_errands 26 = .ok (.aload 4, 2) := by decide +kernel
theorem dX4_errands_28 : decode cX4_errands 28 = .ok (.iload_n 2, 1) := by decide +kernel
theorem dX4_errands_29 : decode cX4_errands 29 = .ok (.invokevirtual 257, 3) := by decide +kernel
theorem dX4_errands_32 : decode cX4_errands 32 = .ok (.istore 5, 2) := by decide +kernel
theorem dX4_errands_34 : decode cX4_errands 34 = .ok (.iconst 0, 1) := by decide +kernel
theorem dX4_errands_35 : decode cX4_errands 35 = .ok (.istore 6, 2) := by decide +kernel
theorem dX4_errands_37 : decode cX4_errands 37 = .ok (.iconst 0, 1) := by decide +kernel
theorem dX4_errands_38 : decode cX4_errands 38 = .ok (.istore 7, 2) := by decide +kernel
theorem dX4_errands_40 : decode cX4_errands 40 = .ok (.iload 7, 2) := by decide +kernel
theorem dX4_errands_42 : decode cX4_errands 42 = .ok (.aload 4, 2) := by decide +kernel
theorem dX4_errands_44 : decode cX4_errands 44 = .ok (.getfield 261, 3) := by decide +kernel
theorem dX4_errands_47 : decode cX4_errands 47 = .ok (.if_icmp .ge 56, 3) := by decide +kernel
theorem dX4_errands_50 : decode cX4_errands 50 = .ok (.aload 4, 2) := by decide +kernel
theorem dX4_errands_52 : decode cX4_errands 52 = .ok (.iload 7, 2) := by decide +kernel
theorem dX4_errands_54 : decode cX4_errands 54 = .ok (.invokevirtual 264, 3) := by decide +kernel
theorem dX4_errands_57 : decode cX4_errands 57 = .ok (.istore 8, 2) := by decide +kernel
theorem dX4_errands_59 : decode cX4_errands 59 = .ok (.iload 5, 2) := by decide +kernel
theorem dX4_errands_61 : decode cX4_errands 61 = .ok (.iload 7, 2) := by decide +kernel
theorem dX4_errands_63 : decode cX4_errands 63 = .ok (.ishr, 1) := by decide +kernel
theorem dX4_errands_64 : decode cX4_errands 64 = .ok (.iconst 1, 1) := by decide +kernel
theorem dX4_errands_65 : decode cX4_errands 65 = .ok (.iand, 1) := by decide +kernel
theorem dX4_errands_66 : decode cX4_errands 66 = .ok (.iconst 1, 1) := by decide +kernel
theorem dX4_errands_67 : decode cX4_errands 67 = .ok (.if_icmp .ne 30, 3) := by decide +kernel
theorem dX4_errands_70 : decode cX4_errands 70 = .ok (.aload_n 0, 1) := by decide +kernel
theorem dX4_errands_71 : decode cX4_errands 71 = .ok (.getfield 10, 3) := by decide +kernel
theorem dX4_errands_74 : decode cX4_errands 74 = .ok (.iload 8, 2) := by decide +kernel
theorem dX4_errands_76 : decode cX4_errands 76 = .ok (.invokevirtual 158, 3) := by decide +kernel
theorem dX4_errands_79 : decode cX4_errands 79 = .ok (.ifCond .eq 18, 3) := by decide +kernel
theorem dX4_errands_82 : decode cX4_errands 82 = .ok (.iload 6, 2) := by decide +kernel
theorem dX4_errands_84 : decode cX4_errands 84 = .ok (.aload_n 0, 1) := by decide +kernel
theorem dX4_errands_85 : decode cX4_errands 85 = .ok (.getfield 10, 3) := by decide +kernel
theorem dX4_errands_88 : decode cX4_errands 88 = .ok (.getfield 161, 3) := by decide +kernel
theorem dX4_errands_91 : decode cX4_errands 91 = .ok (.iload 8, 2) := by decide +kernel
theorem dX4_errands_93 : decode cX4_errands 93 = .ok (.iaload, 1) := by decide +kernel
theorem dX4_errands_94 : decode cX4_errands 94 = .ok (.iadd, 1) := by decide +kernel
theorem dX4_errands_95 : decode cX4_errands 95 = .ok (.istore 6, 2) := by decide +kernel
theorem dX4_errands_97 : decode cX4_errands 97 = .ok (.iinc 7 1, 3) := by decide +kernel
theorem dX4_errands_100 : decode cX4_errands 100 = .ok (.goto (-60), 3) := by decide +kernel
theorem dX4_errands_103 : decode cX4_errands 103 = .ok (.iload 6, 2) := by decide +kernel
theorem dX4_errands_105 : decode cX4_errands 105 = .ok (.ireturn, 1) := by decide +kernel
theorem dX4_placed_0 : decode cX4_placed 0 = .ok (.aload_n 0, 1) := by decide +kernel
theorem dX4_placed_1 : decode cX4_placed 1 = .ok (.iload_n 1, 1) := by decide +kernel
theorem dX4_placed_2 : decode cX4_placed 2 = .ok (.iload_n 2, 1) := by decide +kernel
theorem dX4_placed_3 : decode cX4_placed 3 = .ok (.invokevirtual 254, 3) := by decide +kernel
theorem dX4_placed_6 : decode cX4_placed 6 = .ok (.istore_n 3, 1) := by decide +kernel
theorem dX4_placed_7 : decode cX4_placed 7 = .ok (.iload_n 3, 1) := by decide +kernel
theorem dX4_placed_8 : decode cX4_placed 8 = .ok (.ifCond .eq 11, 3) := by decide +kernel
theorem dX4_placed_11 : decode cX4_placed 11 = .ok (.aload_n 0, 1) := by decide +kernel
theorem dX4_placed_12 : decode cX4_placed 12 = .ok (.iload_n 3, 1) := by decide +kernel
theorem dX4_placed_13 : decode cX4_placed 13 = .ok (.invokevirtual 82, 3) := by decide +kernel
theorem dX4_placed_16 : decode cX4_placed 16 = .ok (.goto 14, 3) := by decide +kernel
theorem dX4_placed_19 : decode cX4_placed 19 = .ok (.aload_n 0, 1) := by decide +kernel
theorem dX4_placed_20 : decode cX4_placed 20 = .ok (.aload_n 0, 1) := by decide +kernel
theorem dX4_placed_21 : decode cX4_placed 21 = .ok (.getfield 24, 3) := by decide +kernel
theorem dX4_placed_24 : decode cX4_placed 24 = .ok (.iload_n 1, 1) := by decide +kernel
theorem dX4_placed_25 : decode cX4_placed 25 = .ok (.aaload, 1) := by decide +kernel
theorem dX4_placed_26 : decode cX4_placed 26 = .ok (.iload_n 2, 1) := by decide +kernel
theorem dX4_placed_27 : decode cX4_placed 27 = .ok (.invokevirtual 257, 3) := by decide +kernel
theorem dX4_placed_30 : decode cX4_placed 30 = .ok (.ireturn, 1) := by decide +kernel
theorem dX4_noErrands_0 : decode cX4_noErrands 0 = .ok (.aload_n 0, 1) := by decide +kernel
theorem dX4_noErrands_1 : decode cX4_noErrands 1 = .ok (.iload_n 1, 1) := by decide +kernel
theorem dX4_noErrands_2 : decode cX4_noErrands 2 = .ok (.invokevirtual 93, 3) := by decide +kernel
theorem dX4_noErrands_5 : decode cX4_noErrands 5 = .ok (.istore_n 3, 1) := by decide +kernel
theorem dX4_noErrands_6 : decode cX4_noErrands 6 = .ok (.iload_n 3, 1) := by decide +kernel
theorem dX4_noErrands_7 : decode cX4_noErrands 7 = .ok (.ifCond .eq 5, 3) := by decide +kernel
theorem dX4_noErrands_10 : decode cX4_noErrands 10 = .ok (.iload_n 3, 1) := by decide +kernel
theorem dX4_noErrands_11 : decode cX4_noErrands 11 = .ok (.ireturn, 1) := by decide +kernel
theorem dX4_noErrands_12 : decode cX4_noErrands 12 = .ok (.aload_n 0, 1) := by decide +kernel
theorem dX4_noErrands_13 : decode cX4_noErrands 13 = .ok (.getfield 24, 3) := by decide +kernel
theorem dX4_noErrands_16 : decode cX4_noErrands 16 = .ok (.iload_n 1, 1) := by decide +kernel
theorem dX4_noErrands_17 : decode cX4_noErrands 17 = .ok (.aaload, 1) := by decide +kernel
theorem dX4_noErrands_18 : decode cX4_noErrands 18 = .ok (.getfield 261, 3) := by decide +kernel
theorem dX4_noErrands_21 : decode cX4_noErrands 21 = .ok (.bipush 10, 2) := by decide +kernel
theorem dX4_noErrands_23 : decode cX4_noErrands 23 = .ok (.if_icmp .gt 13, 3) := by decide +kernel
theorem dX4_noErrands_26 : decode cX4_noErrands 26 = .ok (.iload_n 2, 1) := by decide +kernel
theorem dX4_noErrands_27 : decode cX4_noErrands 27 = .ok (.iconst 0, 1) := by decide +kernel
theorem dX4_noErrands_28 : decode cX4_noErrands 28 = .ok (.bipush 10, 2) := by decide +kernel
theorem dX4_noErrands_30 : decode cX4_noErrands 30 = .ok (.invokestatic 85, 3) := by decide +kernel
theorem dX4_noErrands_33 : decode cX4_noErrands 33 = .ok (.ifCond .ne 8, 3) := by decide +kernel
theorem dX4_noErrands_36 : decode cX4_noErrands 36 = .ok (.bipush (-6), 2) := by decide +kernel
theorem dX4_noErrands_38 : decode cX4_noErrands 38 = .ok (.goto 4, 3) := by decide +kernel
theorem dX4_noErrands_41 : decode cX4_noErrands 41 = .ok (.iconst 0, 1) := by decide +kernel
theorem dX4_noErrands_42 : decode cX4_noErrands 42 = .ok (.ireturn, 1) := by decide +kernel
theorem dX4_liesPlaced_0 : decode cX4_liesPlaced 0 = .ok (.aload_n 0, 1) := by decide +kernel
theorem dX4_liesPlaced_1 : decode cX4_liesPlaced 1 = .ok (.getfield 10, 3) := by decide +kernel
theorem dX4_liesPlaced_4 : decode cX4_liesPlaced 4 = .ok (.getfield 149, 3) := by decide +kernel
theorem dX4_liesPlaced_7 : decode cX4_liesPlaced 7 = .ok (.aload_n 0, 1) := by decide +kernel
theorem dX4_liesPlaced_8 : decode cX4_liesPlaced 8 = .ok (.getfield 10, 3) := by decide +kernel
theorem dX4_liesPlaced_11 : decode cX4_liesPlaced 11 = .ok (.getfield 152, 3) := by decide +kernel
theorem dX4_liesPlaced_14 : decode cX4_liesPlaced 14 = .ok (.isub, 1) := by decide +kernel
theorem dX4_liesPlaced_15 : decode cX4_liesPlaced 15 = .ok (.iload_n 2, 1) := by decide +kernel
theorem dX4_liesPlaced_16 : decode cX4_liesPlaced 16 = .ok (.isub, 1) := by decide +kernel
theorem dX4_liesPlaced_17 : decode cX4_liesPlaced 17 = .ok (.istore_n 3, 1) := by decide +kernel
theorem dX4_liesPlaced_18 : decode cX4_liesPlaced 18 = .ok (.iconst 0, 1) := by decide +kernel
theorem dX4_liesPlaced_19 : decode cX4_liesPlaced 19 = .ok (.istore 4, 2) := by decide +kernel
theorem dX4_liesPlaced_21 : decode cX4_liesPlaced 21 = .ok (.iconst 0, 1) := by decide +kernel
theorem dX4_liesPlaced_22 : decode cX4_liesPlaced 22 = .ok (.istore 5, 2) := by decide +kernel
theorem dX4_liesPlaced_24 : decode cX4_liesPlaced 24 = .ok (.iload 5, 2) := by decide +kernel
theorem dX4_liesPlaced_26 : decode cX4_liesPlaced 26 = .ok (.iload_n 3, 1) := by decide +kernel
theorem dX4_liesPlaced_27 : decode cX4_liesPlaced 27 = .ok (.if_icmp .ge 36, 3) := by decide +kernel
theorem dX4_liesPlaced_30 : decode cX4_liesPlaced 30 = .ok (.aload_n 0, 1) := by decide +kernel
theorem dX4_liesPlaced_31 : decode cX4_liesPlaced 31 = .ok (.aload_n 1, 1) := by decide +kernel
theorem dX4_liesPlaced_32 : decode cX4_liesPlaced 32 = .ok (.iload 4, 2) := by decide +kernel
theorem dX4_liesPlaced_34 : decode cX4_liesPlaced 34 = .ok (.invokevirtual 267, 3) := by decide +kernel
theorem dX4_liesPlaced_37 : decode cX4_liesPlaced 37 = .ok (.istore 6, 2) := by decide +kernel
theorem dX4_liesPlaced_39 : decode cX4_liesPlaced 39 = .ok (.iload 6, 2) := by decide +kernel
theorem dX4_liesPlaced_41 : decode cX4_liesPlaced 41 = .ok (.iconst (-1), 1) := by decide +kernel
theorem dX4_liesPlaced_42 : decode cX4_liesPlaced 42 = .ok (.if_icmp .ne 6, 3) := by decide +kernel
theorem dX4_liesPlaced_45 : decode cX4_liesPlaced 45 = .ok (.iload 4, 2) := by decide +kernel
theorem dX4_liesPlaced_47 : decode cX4_liesPlaced 47 = .ok (.ireturn, 1) := by decide +kernel
theorem dX4_liesPlaced_48 : decode cX4_liesPlaced 48 = .ok (.iload 4, 2) := by decide +kernel
theorem dX4_liesPlaced_50 : decode cX4_liesPlaced 50 = .ok (.iconst 1, 1) := by decide +kernel
theorem dX4_liesPlaced_51 : decode cX4_liesPlaced 51 = .ok (.iload 6, 2) := by decide +kernel
theorem dX4_liesPlaced_53 : decode cX4_liesPlaced 53 = .ok (.ishl, 1) := by decide +kernel
theorem dX4_liesPlaced_54 : decode cX4_liesPlaced 54 = .ok (.ior, 1) := by decide +kernel
theorem dX4_liesPlaced_55 : decode cX4_liesPlaced 55 = .ok (.istore 4, 2) := by decide +kernel
theorem dX4_liesPlaced_57 : decode cX4_liesPlaced 57 = .ok (.iinc 5 1, 3) := by decide +kernel
theorem dX4_liesPlaced_60 : decode cX4_liesPlaced 60 = .ok (.goto (-36), 3) := by decide +kernel
theorem dX4_liesPlaced_63 : decode cX4_liesPlaced 63 = .ok (.iload 4, 2) := by decide +kernel
theorem dX4_liesPlaced_65 : decode cX4_liesPlaced 65 = .ok (.ireturn, 1) := by decide +kernel
theorem dX4_leastHarmful_0 : decode cX4_leastHarmful 0 = .ok (.iconst (-1), 1) := by decide +kernel
theorem dX4_leastHarmful_1 : decode cX4_leastHarmful 1 = .ok (.istore_n 3, 1) := by decide +kernel
theorem dX4_leastHarmful_2 : decode cX4_leastHarmful 2 = .ok (.iconst 0, 1) := by decide +kernel
theorem dX4_leastHarmful_3 : decode cX4_leastHarmful 3 = .ok (.istore 4, 2) := by decide +kernel
theorem dX4_leastHarmful_5 : decode cX4_leastHarmful 5 = .ok (.iconst 0, 1) := by decide +kernel
theorem dX4_leastHarmful_6 : decode cX4_leastHarmful 6 = .ok (.istore 5, 2) := by decide +kernel
theorem dX4_leastHarmful_8 : decode cX4_leastHarmful 8 = .ok (.iload 5, 2) := by decide +kernel
theorem dX4_leastHarmful_10 : decode cX4_leastHarmful 10 = .ok (.aload_n 1, 1) := by decide +kernel
theorem dX4_leastHarmful_11 : decode cX4_leastHarmful 11 = .ok (.getfield 261, 3) := by decide +kernel
theorem dX4_leastHarmful_14 : decode cX4_leastHarmful 14 = .ok (.if_icmp .ge 73, 3) := by decide +kernel
theorem dX4_leastHarmful_17 : decode cX4_leastHarmful 17 = .ok (.aload_n 1, 1) := by decide +kernel
theorem dX4_leastHarmful_18 : decode cX4_leastHarmful 18 = .ok (.iload 5, 2) := by decide +kernel
theorem dX4_leastHarmful_20 : decode cX4_leastHarmful 20 = .ok (.invokevirtual 264, 3) := by decide +kernel
theorem dX4_leastHarmful_23 : decode cX4_leastHarmful 23 = .ok (.istore 6, 2) := by decide +kernel
theorem dX4_leastHarmful_25 : decode cX4_leastHarmful 25 = .ok (.iload_n 2, 1) := by decide +kernel
theorem dX4_leastHarmful_26 : decode cX4_leastHarmful 26 = .ok (.iload 5, 2) := by decide +kernel
theorem dX4_leastHarmful_28 : decode cX4_leastHarmful 28 = .ok (.ishr, 1) := by decide +kernel
theorem dX4_leastHarmful_29 : decode cX4_leastHarmful 29 = .ok (.iconst 1, 1) := by decide +kernel
theorem dX4_leastHarmful_30 : decode cX4_leastHarmful 30 = .ok (.iand, 1) := by decide +kernel
theorem dX4_leastHarmful_31 : decode cX4_leastHarmful 31 = .ok (.ifCond .ne 50, 3) := by decide +kernel
theorem dX4_leastHarmful_34 : decode cX4_leastHarmful 34 = .ok (.aload_n 0, 1) := by decide +kernel
theorem dX4_leastHarmful_35 : decode cX4_leastHarmful 35 = .ok (.getfield 10, 3) := by decide +kernel
theorem dX4_leastHarmful_38 : decode cX4_leastHarmful 38 = .ok (.iload 6, 2) := by decide +kernel
theorem dX4_leastHarmful_40 : decode cX4_leastHarmful 40 = .ok (.invokevirtual 158, 3) := by decide +kernel
theorem dX4_leastHarmful_43 : decode cX4_leastHarmful 43 = .ok (.ifCond .eq 38, 3) := by decide +kernel
theorem dX4_leastHarmful_46 : decode cX4_leastHarmful 46 = .ok (.iload_n 3, 1) := by decide +kernel
theorem dX4_leastHarmful_47 : decode cX4_leastHarmful 47 = .ok (.iconst (-1), 1) := by decide +kernel
theorem dX4_leastHarmful_48 : decode cX4_leastHarmful 48 = .ok (.if_icmp .eq 18, 3) := by decide +kernel
theorem dX4_leastHarmful_51 : decode cX4_leastHarmful 51 = .ok (.aload_n 0, 1) := by decide +kernel
theorem dX4_leastHarmful_52 : decode cX4_leastHarmful 52 = .ok (.getfield 10, 3) := by decide +kernel
theorem dX4_leastHarmful_55 : decode cX4_leastHarmful 55 = .ok (.getfield 161, 3) := by decide +kernel
theorem dX4_leastHarmful_58 : decode cX4_leastHarmful 58 = .ok (.iload 6, 2) := by decide +kernel
theorem dX4_leastHarmful_60 : decode cX4_leastHarmful 60 = .ok (.iaload, 1) := by decide +kernel
theorem dX4_leastHarmful_61 : decode cX4_leastHarmful 61 = .ok (.iload 4, 2) := by decide +kernel
theorem dX4_leastHarmful_63 : decode cX4_leastHarmful 63 = .ok (.if_icmp .ge 18, 3) := by decide +kernel
theorem dX4_leastHarmful_66 : decode cX4_leastHarmful 66 = .ok (.iload 5, 2) := by decide +kernel
theorem dX4_leastHarmful_68 : decode cX4_leastHarmful 68 = .ok (.istore_n 3, 1) := by decide +kernel
theorem dX4_leastHarmful_69 : decode cX4_leastHarmful 69 = .ok (.aload_n 0, 1) := by decide +kernel
theorem dX4_leastHarmful_70 : decode cX4_leastHarmful 70 = .ok (.getfield 10, 3) := by decide +kernel
theorem dX4_leastHarmful_73 : decode cX4_leastHarmful 73 = .ok (.getfield 161, 3) := by decide +kernel
theorem dX4_leastHarmful_76 : decode cX4_leastHarmful 76 = .ok (.iload 6, 2) := by decide +kernel
theorem dX4_leastHarmful_78 : decode cX4_leastHarmful 78 = .ok (.iaload, 1) := by decide +kernel
theorem dX4_leastHarmful_79 : decode cX4_leastHarmful 79 = .ok (.istore 4, 2) := by decide +kernel
theorem dX4_leastHarmful_81 : decode cX4_leastHarmful 81 = .ok (.iinc 5 1, 3) := by decide +kernel
theorem dX4_leastHarmful_84 : decode cX4_leastHarmful 84 = .ok (.goto (-76), 3) := by decide +kernel
theorem dX4_leastHarmful_87 : decode cX4_leastHarmful 87 = .ok (.iload_n 3, 1) := by decide +kernel
theorem dX4_leastHarmful_88 : decode cX4_leastHarmful 88 = .ok (.ireturn, 1) := by decide +kernel
theorem dX4_trust_0 : decode cX4_trust 0 = .ok (.aload_n 0, 1) := by decide +kernel
theorem dX4_trust_1 : decode cX4_trust 1 = .ok (.getfield 10, 3) := by decide +kernel
theorem dX4_trust_4 : decode cX4_trust 4 = .ok (.iload_n 1, 1) := by decide +kernel
theorem dX4_trust_5 : decode cX4_trust 5 = .ok (.invokevirtual 119, 3) := by decide +kernel
theorem dX4_trust_8 : decode cX4_trust 8 = .ok (.ifCond .ne 12, 3) := by decide +kernel
theorem dX4_trust_11 : decode cX4_trust 11 = .ok (.aload_n 0, 1) := by decide +kernel
theorem dX4_trust_12 : decode cX4_trust 12 = .ok (.iconst (-1), 1) := by decide +kernel
theorem dX4_trust_13 : decode cX4_trust 13 = .ok (.ldc_w 270, 3) := by decide +kernel
theorem dX4_trust_16 : decode cX4_trust 16 = .ok (.invokevirtual 55, 3) := by decide +kernel
theorem dX4_trust_19 : decode cX4_trust 19 = .ok (.ireturn, 1) := by decide +kernel
theorem dX4_trust_20 : decode cX4_trust 20 = .ok (.aload_n 0, 1) := by decide +kernel
theorem dX4_trust_21 : decode cX4_trust 21 = .ok (.getfield 10, 3) := by decide +kernel
theorem dX4_trust_24 : decode cX4_trust 24 = .ok (.iload_n 1, 1) := by decide +kernel
theorem dX4_trust_25 : decode cX4_trust 25 = .ok (.invokevirtual 164, 3) := by decide +kernel
theorem dX4_trust_28 : decode cX4_trust 28 = .ok (.ifCond .eq 13, 3) := by decide +kernel
theorem dX4_trust_31 : decode cX4_trust 31 = .ok (.aload_n 0, 1) := by decide +kernel
theorem dX4_trust_32 : decode cX4_trust 32 = .ok (.bipush (-6), 2) := by decide +kernel
theorem dX4_trust_34 : decode cX4_trust 34 = .ok (.ldc_w 271, 3) := by decide +kernel
theorem dX4_trust_37 : decode cX4_trust 37 = .ok (.invokevirtual 55, 3) := by decide +kernel
theorem dX4_trust_40 : decode cX4_trust 40 = .ok (.ireturn, 1) := by decide +kernel
theorem dX4_trust_41 : decode cX4_trust 41 = .ok (.aload_n 0, 1) := by decide +kernel
theorem dX4_trust_42 : decode cX4_trust 42 = .ok (.getfield 10, 3) := by decide +kernel
theorem dX4_trust_45 : decode cX4_trust 45 = .ok (.ldc2_w 63, 3) := by decide +kernel
theorem dX4_trust_48 : decode cX4_trust 48 = .ok (.invokevirtual 167, 3) := by decide +kernel
theorem dX4_trust_51 : decode cX4_trust 51 = .ok (.lstore_n 2, 1) := by decide +kernel
theorem dX4_trust_52 : decode cX4_trust 52 = .ok (.aload_n 0, 1) := by decide +kernel
theorem dX4_trust_53 : decode cX4_trust 53 = .ok (.getfield 10, 3) := by decide +kernel
theorem dX4_trust_56 : decode cX4_trust 56 = .ok (.iload_n 1, 1) := by decide +kernel
theorem dX4_trust_57 : decode cX4_trust 57 = .ok (.invokevirtual 272, 3) := by decide +kernel
theorem dX4_trust_60 : decode cX4_trust 60 = .ok (.ifCond .ne 32, 3) := by decide +kernel
theorem dX4_trust_63 : decode cX4_trust 63 = .ok (.aload_n 0, 1) := by decide +kernel
theorem dX4_trust_64 : decode cX4_trust 64 = .ok (.getfield 10, 3) := by decide +kernel
theorem dX4_trust_67 : decode cX4_trust 67 = .ok (.iload_n 1, 1) := by decide +kernel
theorem dX4_trust_68 : decode cX4_trust 68 = .ok (.aload_n 0, 1) := by decide +kernel
theorem dX4_trust_69 : decode cX4_trust 69 = .ok (.getfield 10, 3) := by decide +kernel
theorem dX4_trust_72 : decode cX4_trust 72 = .ok (.getfield 127, 3) := by decide +kernel
theorem dX4_trust_75 : decode cX4_trust 75 = .ok (.iload_n 1, 1) := by decide +kernel
theorem dX4_trust_76 : decode cX4_trust 76 = .ok (.iaload, 1) := by decide +kernel
theorem dX4_trust_77 : decode cX4_trust 77 = .ok (.invokevirtual 130, 3) := by decide +kernel
theorem dX4_trust_80 : decode cX4_trust 80 = .ok (.ifCond .eq 10, 3) := by decide +kernel
theorem dX4_trust_83 : decode cX4_trust 83 = .ok (.lload_n 2, 1) := by decide +kernel
theorem dX4_trust_84 : decode cX4_trust 84 = .ok (.invokestatic 178, 3) := by decide +kernel
theorem dX4_trust_87 : decode cX4_trust 87 = .ok (.goto 4, 3) := by decide +kernel
theorem dX4_trust_90 : decode cX4_trust 90 = .ok (.iconst 0, 1) := by decide +kernel
theorem dX4_trust_91 : decode cX4_trust 91 = .ok (.ireturn, 1) := by decide +kernel
theorem dX4_trust_92 : decode cX4_trust 92 = .ok (.lload_n 2, 1) := by decide +kernel
theorem dX4_trust_93 : decode cX4_trust 93 = .ok (.aload_n 0, 1) := by decide +kernel
theorem dX4_trust_94 : decode cX4_trust 94 = .ok (.getfield 10, 3) := by decide +kernel
theorem dX4_trust_97 : decode cX4_trust 97 = .ok (.iload_n 1, 1) := by decide +kernel
theorem dX4_trust_98 : decode cX4_trust 98 = .ok (.iconst 1, 1) := by decide +kernel
theorem dX4_trust_99 : decode cX4_trust 99 = .ok (.invokevirtual 275, 3) := by decide +kernel
theorem dX4_trust_102 : decode cX4_trust 102 = .ok (.land, 1) := by decide +kernel
theorem dX4_trust_103 : decode cX4_trust 103 = .ok (.lstore 4, 2) := by decide +kernel
theorem dX4_trust_105 : decode cX4_trust 105 = .ok (.lload_n 2, 1) := by decide +kernel
theorem dX4_trust_106 : decode cX4_trust 106 = .ok (.aload_n 0, 1) := by decide +kernel
theorem dX4_trust_107 : decode cX4_trust 107 = .ok (.getfield 10, 3) := by decide +kernel
theorem dX4_trust_110 : decode cX4_trust 110 = .ok (.iload_n 1, 1) := by decide +kernel
theorem dX4_trust_111 : decode cX4_trust 111 = .ok (.iconst 0, 1) := by decide +kernel
theorem dX4_trust_112 : decode cX4_trust 112 = .ok (.invokevirtual 275, 3) := by decide +kernel
theorem dX4_trust_115 : decode cX4_trust 115 = .ok (.land, 1) := by decide +kernel
theorem dX4_trust_116 : decode cX4_trust 116 = .ok (.lstore 6, 2) := by decide +kernel
theorem dX4_trust_118 : decode cX4_trust 118 = .ok (.lload 4, 2) := by decide +kernel
theorem dX4_trust_120 : decode cX4_trust 120 = .ok (.invokestatic 178, 3) := by decide +kernel
theorem dX4_trust_123 : decode cX4_trust 123 = .ok (.lload 6, 2) := by decide +kernel
theorem dX4_trust_125 : decode cX4_trust 125 = .ok (.invokestatic 178, 3) := by decide +kernel
theorem dX4_trust_128 : decode cX4_trust 128 = .ok (.isub, 1) := by decide +kernel
theorem dX4_trust_129 : decode cX4_trust 129 = .ok (.ireturn, 1) := by decide +kernel
theorem dX4_witness_0 : decode cX4_witness 0 = .ok (.iconst (-1), 1) := by decide +kernel
theorem dX4_witness_1 : decode cX4_witness 1 = .ok (.istore_n 1, 1) := by decide +kernel
theorem dX4_witness_2 : decode cX4_witness 2 = .ok (.iconst 0, 1) := by decide +kernel
theorem dX4_witness_3 : decode cX4_witness 3 = .ok (.istore_n 2, 1) := by decide +kernel
theorem dX4_witness_4 : decode cX4_witness 4 = .ok (.iconst 0, 1) := by decide +kernel
theorem dX4_witness_5 : decode cX4_witness 5 = .ok (.istore_n 3, 1) := by decide +kernel
theorem dX4_witness_6 : decode cX4_witness 6 = .ok (.iload_n 3, 1) := by decide +kernel
theorem dX4_witness_7 : decode cX4_witness 7 = .ok (.aload_n 0, 1) := by decide +kernel
theorem dX4_witness_8 : decode cX4_witness 8 = .ok (.getfield 10, 3) := by decide +kernel
theorem dX4_witness_11 : decode cX4_witness 11 = .ok (.getfield 140, 3) := by decide +kernel
theorem dX4_witness_14 : decode cX4_witness 14 = .ok (.if_icmp .ge 38, 3) := by decide +kernel
theorem dX4_witness_17 : decode cX4_witness 17 = .ok (.aload_n 0, 1) := by decide +kernel
theorem dX4_witness_18 : decode cX4_witness 18 = .ok (.getfield 10, 3) := by decide +kernel
theorem dX4_witness_21 : decode cX4_witness 21 = .ok (.iload_n 3, 1) := by decide +kernel
theorem dX4_witness_22 : decode cX4_witness 22 = .ok (.invokevirtual 278, 3) := by decide +kernel
theorem dX4_witness_25 : decode cX4_witness 25 = .ok (.invokestatic 178, 3) := by decide +kernel
theorem dX4_witness_28 : decode cX4_witness 28 = .ok (.istore 4, 2) := by decide +kernel
theorem dX4_witness_30 : decode cX4_witness 30 = .ok (.iload_n 1, 1) := by decide +kernel
theorem dX4_witness_31 : decode cX4_witness 31 = .ok (.iconst (-1), 1) := by decide +kernel
theorem dX4_witness_32 : decode cX4_witness 32 = .ok (.if_icmp .eq 9, 3) := by decide +kernel
theorem dX4_witness_35 : decode cX4_witness 35 = .ok (.iload 4, 2) := by decide +kernel
theorem dX4_witness_37 : decode cX4_witness 37 = .ok (.iload_n 2, 1) := by decide +kernel
theorem dX4_witness_38 : decode cX4_witness 38 = .ok (.if_icmp .le 8, 3) := by decide +kernel
theorem dX4_witness_41 : decode cX4_witness 41 = .ok (.iload_n 3, 1) := by decide +kernel
theorem dX4_witness_42 : decode cX4_witness 42 = .ok (.istore_n 1, 1) := by decide +kernel
theorem dX4_witness_43 : decode cX4_witness 43 = .ok (.iload 4, 2) := by decide +kernel
theorem dX4_witness_45 : decode cX4_witness 45 = .ok (.istore_n 2, 1) := by decide +kernel
theorem dX4_witness_46 : decode cX4_witness 46 = .ok (.iinc 3 1, 3) := by decide +kernel
theorem dX4_witness_49 : decode cX4_witness 49 = .ok (.goto (-43), 3) := by decide +kernel
theorem dX4_witness_52 : decode cX4_witness 52 = .ok (.iload_n 1, 1) := by decide +kernel
theorem dX4_witness_53 : decode cX4_witness 53 = .ok (.iconst (-1), 1) := by decide +kernel
theorem dX4_witness_54 : decode cX4_witness 54 = .ok (.if_icmp .ne 12, 3) := by decide +kernel
theorem dX4_witness_57 : decode cX4_witness 57 = .ok (.aload_n 0, 1) := by decide +kernel
theorem dX4_witness_58 : decode cX4_witness 58 = .ok (.bipush (-5), 2) := by decide +kernel
theorem dX4_witness_60 : decode cX4_witness 60 = .ok (.invokevirtual 82, 3) := by decide +kernel
theorem dX4_witness_63 : decode cX4_witness 63 = .ok (.goto 4, 3) := by decide +kernel
theorem dX4_witness_66 : decode cX4_witness 66 = .ok (.iload_n 1, 1) := by decide +kernel
theorem dX4_witness_67 : decode cX4_witness 67 = .ok (.ireturn, 1) := by decide +kernel
theorem dX4_judge_0 : decode cX4_judge 0 = .ok (.aload_n 0, 1) := by decide +kernel
theorem dX4_judge_1 : decode cX4_judge 1 = .ok (.iload_n 1, 1) := by decide +kernel
theorem dX4_judge_2 : decode cX4_judge 2 = .ok (.invokevirtual 93, 3) := by decide +kernel
theorem dX4_judge_5 : decode cX4_judge 5 = .ok (.istore_n 3, 1) := by decide +kernel
theorem dX4_judge_6 : decode cX4_judge 6 = .ok (.iload_n 3, 1) := by decide +kernel
theorem dX4_judge_7 : decode cX4_judge 7 = .ok (.ifCond .eq 9, 3) := by decide +kernel
theorem dX4_judge_10 : decode cX4_judge 10 = .ok (.aload_n 0, 1) := by decide +kernel
theorem dX4_judge_11 : decode cX4_judge 11 = .ok (.iload_n 3, 1) := by decide +kernel
theorem dX4_judge_12 : decode cX4_judge 12 = .ok (.invokevirtual 82, 3) := by decide +kernel
theorem dX4_judge_15 : decode cX4_judge 15 = .ok (.ireturn, 1) := by decide +kernel
theorem dX4_judge_16 : decode cX4_judge 16 = .ok (.iload_n 2, 1) := by decide +kernel
theorem dX4_judge_17 : decode cX4_judge 17 = .ok (.ifCond .ge 10, 3) := by decide +kernel
theorem dX4_judge_20 : decode cX4_judge 20 = .ok (.aload_n 0, 1) := by decide +kernel
theorem dX4_judge_21 : decode cX4_judge 21 = .ok (.bipush (-4), 2) := by decide +kernel
theorem dX4_judge_23 : decode cX4_judge 23 = .ok (.invokevirtual 82, 3) := by decide +kernel
theorem dX4_judge_26 : decode cX4_judge 26 = .ok (.ireturn, 1) := by decide +kernel
theorem dX4_judge_27 : decode cX4_judge 27 = .ok (.iload_n 2, 1) := by decide +kernel
theorem dX4_judge_28 : decode cX4_judge 28 = .ok (.aload_n 0, 1) := by decide +kernel
theorem dX4_judge_29 : decode cX4_judge 29 = .ok (.getfield 24, 3) := by decide +kernel
theorem dX4_judge_32 : decode cX4_judge 32 = .ok (.iload_n 1, 1) := by decide +kernel
theorem dX4_judge_33 : decode cX4_judge 33 = .ok (.aaload, 1) := by decide +kernel
theorem dX4_judge_34 : decode cX4_judge 34 = .ok (.getfield 261, 3) := by decide +kernel
theorem dX4_judge_37 : decode cX4_judge 37 = .ok (.if_icmp .le 10, 3) := by decide +kernel
theorem dX4_judge_40 : decode cX4_judge 40 = .ok (.aload_n 0, 1) := by decide +kernel
theorem dX4_judge_41 : decode cX4_judge 41 = .ok (.bipush (-5), 2) := by decide +kernel
theorem dX4_judge_43 : decode cX4_judge 43 = .ok (.invokevirtual 82, 3) := by decide +kernel
theorem dX4_judge_46 : decode cX4_judge 46 = .ok (.ireturn, 1) := by decide +kernel
theorem dX4_judge_47 : decode cX4_judge 47 = .ok (.iload_n 2, 1) := by decide +kernel
theorem dX4_judge_48 : decode cX4_judge 48 = .ok (.bipush 24, 2) := by decide +kernel
theorem dX4_judge_50 : decode cX4_judge 50 = .ok (.if_icmp .le 10, 3) := by decide +kernel
theorem dX4_judge_53 : decode cX4_judge 53 = .ok (.aload_n 0, 1) := by decide +kernel
theorem dX4_judge_54 : decode cX4_judge 54 = .ok (.bipush (-6), 2) := by decide +kernel
theorem dX4_judge_56 : decode cX4_judge 56 = .ok (.invokevirtual 82, 3) := by decide +kernel
theorem dX4_judge_59 : decode cX4_judge 59 = .ok (.ireturn, 1) := by decide +kernel
theorem dX4_judge_60 : decode cX4_judge 60 = .ok (.aload_n 0, 1) := by decide +kernel
theorem dX4_judge_61 : decode cX4_judge 61 = .ok (.getfield 19, 3) := by decide +kernel
theorem dX4_judge_64 : decode cX4_judge 64 = .ok (.aload_n 0, 1) := by decide +kernel
theorem dX4_judge_65 : decode cX4_judge 65 = .ok (.getfield 10, 3) := by decide +kernel
theorem dX4_judge_68 : decode cX4_judge 68 = .ok (.invokevirtual 202, 3) := by decide +kernel
theorem dX4_judge_71 : decode cX4_judge 71 = .ok (.aload_n 0, 1) := by decide +kernel
theorem dX4_judge_72 : decode cX4_judge 72 = .ok (.getfield 19, 3) := by decide +kernel
theorem dX4_judge_75 : decode cX4_judge 75 = .ok (.ldc2_w 63, 3) := by decide +kernel
theorem dX4_judge_78 : decode cX4_judge 78 = .ok (.invokevirtual 167, 3) := by decide +kernel
theorem dX4_judge_81 : decode cX4_judge 81 = .ok (.lstore 4, 2) := by decide +kernel
theorem dX4_judge_83 : decode cX4_judge 83 = .ok (.iconst 0, 1) := by decide +kernel
theorem dX4_judge_84 : decode cX4_judge 84 = .ok (.istore 6, 2) := by decide +kernel
theorem dX4_judge_86 : decode cX4_judge 86 = .ok (.iload 6, 2) := by decide +kernel
theorem dX4_judge_88 : decode cX4_judge 88 = .ok (.iload_n 2, 1) := by decide +kernel
theorem dX4_judge_89 : decode cX4_judge 89 = .ok (.if_icmp .ge 38, 3) := by decide +kernel
theorem dX4_judge_92 : decode cX4_judge 92 = .ok (.aload_n 0, 1) := by decide +kernel
theorem dX4_judge_93 : decode cX4_judge 93 = .ok (.aload_n 0, 1) := by decide +kernel
theorem dX4_judge_94 : decode cX4_judge 94 = .ok (.getfield 24, 3) := by decide +kernel
theorem dX4_judge_97 : decode cX4_judge 97 = .ok (.iload_n 1, 1) := by decide +kernel
theorem dX4_judge_98 : decode cX4_judge 98 = .ok (.aaload, 1) := by decide +kernel
theorem dX4_judge_99 : decode cX4_judge 99 = .ok (.iload 6, 2) := by decide +kernel
theorem dX4_judge_101 : decode cX4_judge 101 = .ok (.invokevirtual 264, 3) := by decide +kernel
theorem dX4_judge_104 : decode cX4_judge 104 = .ok (.lload 4, 2) := by decide +kernel
theorem dX4_judge_106 : decode cX4_judge 106 = .ok (.invokevirtual 282, 3) := by decide +kernel
theorem dX4_judge_109 : decode cX4_judge 109 = .ok (.lstore 4, 2) := by decide +kernel
theorem dX4_judge_111 : decode cX4_judge 111 = .ok (.lload 4, 2) := by decide +kernel
theorem dX4_judge_113 : decode cX4_judge 113 = .ok (.lconst 0, 1) := by decide +kernel
theorem dX4_judge_114 : decode cX4_judge 114 = .ok (.lcmp, 1) := by decide +kernel
theorem dX4_judge_115 : decode cX4_judge 115 = .ok (.ifCond .ne 6, 3) := by decide +kernel
theorem dX4_judge_118 : decode cX4_judge 118 = .ok (.iload 6, 2) := by decide +kernel
theorem dX4_judge_120 : decode cX4_judge 120 = .ok (.ireturn, 1) := by decide +kernel
theorem dX4_judge_121 : decode cX4_judge 121 = .ok (.iinc 6 1, 3) := by decide +kernel
theorem dX4_judge_124 : decode cX4_judge 124 = .ok (.goto (-38), 3) := by decide +kernel
theorem dX4_judge_127 : decode cX4_judge 127 = .ok (.iconst (-1), 1) := by decide +kernel
theorem dX4_judge_128 : decode cX4_judge 128 = .ok (.ireturn, 1) := by decide +kernel
theorem dX4_toldAfter_0 : decode cX4_toldAfter 0 = .ok (.iload_n 1, 1) := by decide +kernel
theorem dX4_toldAfter_1 : decode cX4_toldAfter 1 = .ok (.bipush 100, 2) := by decide +kernel
theorem dX4_toldAfter_3 : decode cX4_toldAfter 3 = .ok (.idiv, 1) := by decide +kernel
theorem dX4_toldAfter_4 : decode cX4_toldAfter 4 = .ok (.istore 4, 2) := by decide +kernel
theorem dX4_toldAfter_6 : decode cX4_toldAfter 6 = .ok (.iload_n 1, 1) := by decide +kernel
theorem dX4_toldAfter_7 : decode cX4_toldAfter 7 = .ok (.bipush 10, 2) := by decide +kernel
theorem dX4_toldAfter_9 : decode cX4_toldAfter 9 = .ok (.idiv, 1) := by decide +kernel
theorem dX4_toldAfter_10 : decode cX4_toldAfter 10 = .ok (.bipush 10, 2) := by decide +kernel
theorem dX4_toldAfter_12 : decode cX4_toldAfter 12 = .ok (.irem, 1) := by decide +kernel
theorem dX4_toldAfter_13 : decode cX4_toldAfter 13 = .ok (.istore 5, 2) := by decide +kernel
theorem dX4_toldAfter_15 : decode cX4_toldAfter 15 = .ok (.iload_n 1, 1) := by decide +kernel
theorem dX4_toldAfter_16 : decode cX4_toldAfter 16 = .ok (.bipush 10, 2) := by decide +kernel
theorem dX4_toldAfter_18 : decode cX4_toldAfter 18 = .ok (.irem, 1) := by decide +kernel
theorem dX4_toldAfter_19 : decode cX4_toldAfter 19 = .ok (.istore 6, 2) := by decide +kernel
theorem dX4_toldAfter_21 : decode cX4_toldAfter 21 = .ok (.iload_n 1, 1) := by decide +kernel
theorem dX4_toldAfter_22 : decode cX4_toldAfter 22 = .ok (.ifCond .lt 45, 3) := by decide +kernel
theorem dX4_toldAfter_25 : decode cX4_toldAfter 25 = .ok (.iload 6, 2) := by decide +kernel
theorem dX4_toldAfter_27 : decode cX4_toldAfter 27 = .ok (.iconst 1, 1) := by decide +kernel
theorem dX4_toldAfter_28 : decode cX4_toldAfter 28 = .ok (.if_icmp .gt 39, 3) := by decide +kernel
theorem dX4_toldAfter_31 : decode cX4_toldAfter 31 = .ok (.aload_n 0, 1) := by decide +kernel
theorem dX4_toldAfter_32 : decode cX4_toldAfter 32 = .ok (.getfield 19, 3) := by decide +kernel
theorem dX4_toldAfter_35 : decode cX4_toldAfter 35 = .ok (.iload 5, 2) := by decide +kernel
theorem dX4_toldAfter_37 : decode cX4_toldAfter 37 = .ok (.invokevirtual 158, 3) := by decide +kernel
theorem dX4_toldAfter_40 : decode cX4_toldAfter 40 = .ok (.ifCond .eq 27, 3) := by decide +kernel
theorem dX4_toldAfter_43 : decode cX4_toldAfter 43 = .ok (.aload_n 0, 1) := by decide +kernel
theorem dX4_toldAfter_44 : decode cX4_toldAfter 44 = .ok (.getfield 19, 3) := by decide +kernel
theorem dX4_toldAfter_47 : decode cX4_toldAfter 47 = .ok (.iload 4, 2) := by decide +kernel
theorem dX4_toldAfter_49 : decode cX4_toldAfter 49 = .ok (.invokevirtual 119, 3) := by decide +kernel
theorem dX4_toldAfter_52 : decode cX4_toldAfter 52 = .ok (.ifCond .eq 15, 3) := by decide +kernel
theorem dX4_toldAfter_55 : decode cX4_toldAfter 55 = .ok (.aload_n 0, 1) := by decide +kernel
theorem dX4_toldAfter_56 : decode cX4_toldAfter 56 = .ok (.getfield 19, 3) := by decide +kernel
theorem dX4_toldAfter_59 : decode cX4_toldAfter 59 = .ok (.iload 4, 2) := by decide +kernel
theorem dX4_toldAfter_61 : decode cX4_toldAfter 61 = .ok (.invokevirtual 164, 3) := by decide +kernel
theorem dX4_toldAfter_64 : decode cX4_toldAfter 64 = .ok (.ifCond .eq 5, 3) := by decide +kernel
theorem dX4_toldAfter_67 : decode cX4_toldAfter 67 = .ok (.lconst 0, 1) := by decide +kernel
theorem dX4_toldAfter_68 : decode cX4_toldAfter 68 = .ok (.lreturn, 1) := by decide +kernel
theorem dX4_toldAfter_69 : decode cX4_toldAfter 69 = .ok (.aload_n 0, 1) := by decide +kernel
theorem dX4_toldAfter_70 : decode cX4_toldAfter 70 = .ok (.getfield 19, 3) := by decide +kernel
theorem dX4_toldAfter_73 : decode cX4_toldAfter 73 = .ok (.iload 4, 2) := by decide +kernel
theorem dX4_toldAfter_75 : decode cX4_toldAfter 75 = .ok (.iload 5, 2) := by decide +kernel
theorem dX4_toldAfter_77 : decode cX4_toldAfter 77 = .ok (.iload 6, 2) := by decide +kernel
theorem dX4_toldAfter_79 : decode cX4_toldAfter 79 = .ok (.iconst 1, 1) := by decide +kernel
theorem dX4_toldAfter_80 : decode cX4_toldAfter 80 = .ok (.if_icmp .ne 7, 3) := by decide +kernel
theorem dX4_toldAfter_83 : decode cX4_toldAfter 83 = .ok (.iconst 1, 1) := by decide +kernel
theorem dX4_toldAfter_84 : decode cX4_toldAfter 84 = .ok (.goto 4, 3) := by decide +kernel
theorem dX4_toldAfter_87 : decode cX4_toldAfter 87 = .ok (.iconst 0, 1) := by decide +kernel
theorem dX4_toldAfter_88 : decode cX4_toldAfter 88 = .ok (.invokevirtual 175, 3) := by decide +kernel
theorem dX4_toldAfter_91 : decode cX4_toldAfter 91 = .ok (.lload_n 2, 1) := by decide +kernel
theorem dX4_toldAfter_92 : decode cX4_toldAfter 92 = .ok (.aload_n 0, 1) := by decide +kernel
theorem dX4_toldAfter_93 : decode cX4_toldAfter 93 = .ok (.getfield 19, 3) := by decide +kernel
theorem dX4_toldAfter_96 : decode cX4_toldAfter 96 = .ok (.iload 4, 2) := by decide +kernel
theorem dX4_toldAfter_98 : decode cX4_toldAfter 98 = .ok (.ldc2_w 63, 3) := by decide +kernel
theorem dX4_toldAfter_101 : decode cX4_toldAfter 101 = .ok (.invokevirtual 216, 3) := by decide +kernel
theorem dX4_toldAfter_104 : decode cX4_toldAfter 104 = .ok (.land, 1) := by decide +kernel
theorem dX4_toldAfter_105 : decode cX4_toldAfter 105 = .ok (.lreturn, 1) := by decide +kernel
theorem dX4_sunset_0 : decode cX4_sunset 0 = .ok (.aload_n 0, 1) := by decide +kernel
theorem dX4_sunset_1 : decode cX4_sunset 1 = .ok (.getfield 10, 3) := by decide +kernel
theorem dX4_sunset_4 : decode cX4_sunset 4 = .ok (.aload_n 0, 1) := by decide +kernel
theorem dX4_sunset_5 : decode cX4_sunset 5 = .ok (.getfield 10, 3) := by decide +kernel
theorem dX4_sunset_8 : decode cX4_sunset 8 = .ok (.ldc2_w 63, 3) := by decide +kernel
theorem dX4_sunset_11 : decode cX4_sunset 11 = .ok (.invokevirtual 167, 3) := by decide +kernel
theorem dX4_sunset_14 : decode cX4_sunset 14 = .ok (.putfield 198, 3) := by decide +kernel
theorem dX4_sunset_17 : decode cX4_sunset 17 = .ok (.aload_n 0, 1) := by decide +kernel
theorem dX4_sunset_18 : decode cX4_sunset 18 = .ok (.getfield 10, 3) := by decide +kernel
theorem dX4_sunset_21 : decode cX4_sunset 21 = .ok (.invokevirtual 285, 3) := by decide +kernel
theorem dX4_sunset_24 : decode cX4_sunset 24 = .ok (.aload_n 0, 1) := by decide +kernel
theorem dX4_sunset_25 : decode cX4_sunset 25 = .ok (.getfield 10, 3) := by decide +kernel
theorem dX4_sunset_28 : decode cX4_sunset 28 = .ok (.dup, 1) := by decide +kernel
theorem dX4_sunset_29 : decode cX4_sunset 29 = .ok (.getfield 288, 3) := by decide +kernel
theorem dX4_sunset_32 : decode cX4_sunset 32 = .ok (.iconst 1, 1) := by decide +kernel
theorem dX4_sunset_33 : decode cX4_sunset 33 = .ok (.iadd, 1) := by decide +kernel
theorem dX4_sunset_34 : decode cX4_sunset 34 = .ok (.putfield 288, 3) := by decide +kernel
theorem dX4_sunset_37 : decode cX4_sunset 37 = .ok (.aload_n 0, 1) := by decide +kernel
theorem dX4_sunset_38 : decode cX4_sunset 38 = .ok (.getfield 10, 3) := by decide +kernel
theorem dX4_sunset_41 : decode cX4_sunset 41 = .ok (.getfield 198, 3) := by decide +kernel
theorem dX4_sunset_44 : decode cX4_sunset 44 = .ok (.invokestatic 178, 3) := by decide +kernel
theorem dX4_sunset_47 : decode cX4_sunset 47 = .ok (.ireturn, 1) := by decide +kernel
theorem dX4_draw_0 : decode cX4_draw 0 = .ok (.aload_n 0, 1) := by decide +kernel
theorem dX4_draw_1 : decode cX4_draw 1 = .ok (.getfield 10, 3) := by decide +kernel
theorem dX4_draw_4 : decode cX4_draw 4 = .ok (.ldc2_w 63, 3) := by decide +kernel
theorem dX4_draw_7 : decode cX4_draw 7 = .ok (.invokevirtual 167, 3) := by decide +kernel
theorem dX4_draw_10 : decode cX4_draw 10 = .ok (.lstore_n 1, 1) := by decide +kernel
theorem dX4_draw_11 : decode cX4_draw 11 = .ok (.lload_n 1, 1) := by decide +kernel
theorem dX4_draw_12 : decode cX4_draw 12 = .ok (.invokestatic 178, 3) := by decide +kernel
theorem dX4_draw_15 : decode cX4_draw 15 = .ok (.istore_n 3, 1) := by decide +kernel
theorem dX4_draw_16 : decode cX4_draw 16 = .ok (.aload_n 0, 1) := by decide +kernel
theorem dX4_draw_17 : decode cX4_draw 17 = .ok (.getfield 10, 3) := by decide +kernel
theorem dX4_draw_20 : decode cX4_draw 20 = .ok (.iload_n 3, 1) := by decide +kernel
theorem dX4_draw_21 : decode cX4_draw 21 = .ok (.invokevirtual 291, 3) := by decide +kernel
theorem dX4_draw_24 : decode cX4_draw 24 = .ok (.istore 4, 2) := by decide +kernel
theorem dX4_draw_26 : decode cX4_draw 26 = .ok (.iconst 0, 1) := by decide +kernel
theorem dX4_draw_27 : decode cX4_draw 27 = .ok (.istore 5, 2) := by decide +kernel
theorem dX4_draw_29 : decode cX4_draw 29 = .ok (.iload 5, 2) := by decide +kernel
theorem dX4_draw_31 : decode cX4_draw 31 = .ok (.bipush 64, 2) := by decide +kernel
theorem dX4_draw_33 : decode cX4_draw 33 = .ok (.if_icmp .ge 36, 3) := by decide +kernel
theorem dX4_draw_36 : decode cX4_draw 36 = .ok (.lload_n 1, 1) := by decide +kernel
theorem dX4_draw_37 : decode cX4_draw 37 = .ok (.iload 5, 2) := by decide +kernel
theorem dX4_draw_39 : decode cX4_draw 39 = .ok (.invokestatic 220, 3) := by decide +kernel
theorem dX4_draw_42 : decode cX4_draw 42 = .ok (.iconst 1, 1) := by decide +kernel
theorem dX4_draw_43 : decode cX4_draw 43 = .ok (.if_icmp .ne 20, 3) := by decide +kernel
theorem dX4_draw_46 : decode cX4_draw 46 = .ok (.iload 4, 2) := by decide +kernel
theorem dX4_draw_48 : decode cX4_draw 48 = .ok (.ifCond .ne 12, 3) := by decide +kernel
theorem dX4_draw_51 : decode cX4_draw 51 = .ok (.aload_n 0, 1) := by decide +kernel
theorem dX4_draw_52 : decode cX4_draw 52 = .ok (.getfield 10, 3) := by decide +kernel
theorem dX4_draw_55 : decode cX4_draw 55 = .ok (.iload 5, 2) := by decide +kernel
theorem dX4_draw_57 : decode cX4_draw 57 = .ok (.putfield 294, 3) := by decide +kernel
theorem dX4_draw_60 : decode cX4_draw 60 = .ok (.iinc 4 (-1), 3) := by decide +kernel
theorem dX4_draw_63 : decode cX4_draw 63 = .ok (.iinc 5 1, 3) := by decide +kernel
theorem dX4_draw_66 : decode cX4_draw 66 = .ok (.goto (-37), 3) := by decide +kernel
theorem dX4_draw_69 : decode cX4_draw 69 = .ok (.iload_n 3, 1) := by decide +kernel
theorem dX4_draw_70 : decode cX4_draw 70 = .ok (.ireturn, 1) := by decide +kernel
theorem dX4_ask_0 : decode cX4_ask 0 = .ok (.aload_n 0, 1) := by decide +kernel
theorem dX4_ask_1 : decode cX4_ask 1 = .ok (.getfield 10, 3) := by decide +kernel
theorem dX4_ask_4 : decode cX4_ask 4 = .ok (.iload_n 1, 1) := by decide +kernel
theorem dX4_ask_5 : decode cX4_ask 5 = .ok (.invokevirtual 119, 3) := by decide +kernel
theorem dX4_ask_8 : decode cX4_ask 8 = .ok (.ifCond .eq 14, 3) := by decide +kernel
theorem dX4_ask_11 : decode cX4_ask 11 = .ok (.aload_n 0, 1) := by decide +kernel
theorem dX4_ask_12 : decode cX4_ask 12 = .ok (.getfield 10, 3) := by decide +kernel
theorem dX4_ask_15 : decode cX4_ask 15 = .ok (.iload_n 2, 1) := by decide +kernel
theorem dX4_ask_16 : decode cX4_ask 16 = .ok (.invokevirtual 158, 3) := by decide +kernel
theorem dX4_ask_19 : decode cX4_ask 19 = .ok (.ifCond .ne 9, 3) := by decide +kernel
theorem dX4_ask_22 : decode cX4_ask 22 = .ok (.aload_n 0, 1) := by decide +kernel
theorem dX4_ask_23 : decode cX4_ask 23 = .ok (.iconst (-1), 1) := by decide +kernel
theorem dX4_ask_24 : decode cX4_ask 24 = .ok (.invokevirtual 82, 3) := by decide +kernel
theorem dX4_ask_27 : decode cX4_ask 27 = .ok (.ireturn, 1) := by decide +kernel
theorem dX4_ask_28 : decode cX4_ask 28 = .ok (.aload_n 0, 1) := by decide +kernel
theorem dX4_ask_29 : decode cX4_ask 29 = .ok (.getfield 10, 3) := by decide +kernel
theorem dX4_ask_32 : decode cX4_ask 32 = .ok (.iload_n 1, 1) := by decide +kernel
theorem dX4_ask_33 : decode cX4_ask 33 = .ok (.invokevirtual 164, 3) := by decide +kernel
theorem dX4_ask_36 : decode cX4_ask 36 = .ok (.ifCond .ne 14, 3) := by decide +kernel
theorem dX4_ask_39 : decode cX4_ask 39 = .ok (.aload_n 0, 1) := by decide +kernel
theorem dX4_ask_40 : decode cX4_ask 40 = .ok (.getfield 10, 3) := by decide +kernel
theorem dX4_ask_43 : decode cX4_ask 43 = .ok (.getfield 294, 3) := by decide +kernel
theorem dX4_ask_46 : decode cX4_ask 46 = .ok (.iconst (-1), 1) := by decide +kernel
theorem dX4_ask_47 : decode cX4_ask 47 = .ok (.if_icmp .ne 10, 3) := by decide +kernel
theorem dX4_ask_50 : decode cX4_ask 50 = .ok (.aload_n 0, 1) := by decide +kernel
theorem dX4_ask_51 : decode cX4_ask 51 = .ok (.bipush (-6), 2) := by decide +kernel
theorem dX4_ask_53 : decode cX4_ask 53 = .ok (.invokevirtual 82, 3) := by decide +kernel
theorem dX4_ask_56 : decode cX4_ask 56 = .ok (.ireturn, 1) := by decide +kernel
theorem dX4_ask_57 : decode cX4_ask 57 = .ok (.aload_n 0, 1) := by decide +kernel
theorem dX4_ask_58 : decode cX4_ask 58 = .ok (.getfield 10, 3) := by decide +kernel
theorem dX4_ask_61 : decode cX4_ask 61 = .ok (.getfield 297, 3) := by decide +kernel
theorem dX4_ask_64 : decode cX4_ask 64 = .ok (.istore_n 3, 1) := by decide +kernel
theorem dX4_ask_65 : decode cX4_ask 65 = .ok (.aload_n 0, 1) := by decide +kernel
theorem dX4_ask_66 : decode cX4_ask 66 = .ok (.iload_n 1, 1) := by decide +kernel
theorem dX4_ask_67 : decode cX4_ask 67 = .ok (.invokevirtual 300, 3) := by decide +kernel
theorem dX4_ask_70 : decode cX4_ask 70 = .ok (.istore 4, 2) := by decide +kernel
theorem dX4_ask_72 : decode cX4_ask 72 = .ok (.getstatic 59, 3) := by decide +kernel
theorem dX4_ask_75 : decode cX4_ask 75 = .ok (.iload_n 2, 1) := by decide +kernel
theorem dX4_ask_76 : decode cX4_ask 76 = .ok (.laload, 1) := by decide +kernel
theorem dX4_ask_77 : decode cX4_ask 77 = .ok (.aload_n 0, 1) := by decide +kernel
theorem dX4_ask_78 : decode cX4_ask 78 = .ok (.getfield 10, 3) := by decide +kernel
theorem dX4_ask_81 : decode cX4_ask 81 = .ok (.getfield 294, 3) := by decide +kernel
theorem dX4_ask_84 : decode cX4_ask 84 = .ok (.invokestatic 220, 3) := by decide +kernel
theorem dX4_ask_87 : decode cX4_ask 87 = .ok (.iload 4, 2) := by decide +kernel
theorem dX4_ask_89 : decode cX4_ask 89 = .ok (.if_icmp .ne 7, 3) := by decide +kernel
theorem dX4_ask_92 : decode cX4_ask 92 = .ok (.iconst 1, 1) := by decide +kernel
theorem dX4_ask_93 : decode cX4_ask 93 = .ok (.goto 4, 3) := by decide +kernel
theorem dX4_ask_96 : decode cX4_ask 96 = .ok (.iconst 0, 1) := by decide +kernel
theorem dX4_ask_97 : decode cX4_ask 97 = .ok (.istore 5, 2) := by decide +kernel
theorem dX4_ask_99 : decode cX4_ask 99 = .ok (.iload 4, 2) := by decide +kernel
theorem dX4_ask_101 : decode cX4_ask 101 = .ok (.iconst (-1), 1) := by decide +kernel
theorem dX4_ask_102 : decode cX4_ask 102 = .ok (.if_icmp .eq 29, 3) := by decide +kernel
theorem dX4_ask_105 : decode cX4_ask 105 = .ok (.aload_n 0, 1) := by decide +kernel
theorem dX4_ask_106 : decode cX4_ask 106 = .ok (.getfield 10, 3) := by decide +kernel
theorem dX4_ask_109 : decode cX4_ask 109 = .ok (.iload_n 1, 1) := by decide +kernel
theorem dX4_ask_110 : decode cX4_ask 110 = .ok (.iload_n 2, 1) := by decide +kernel
theorem dX4_ask_111 : decode cX4_ask 111 = .ok (.iload 5, 2) := by decide +kernel
theorem dX4_ask_113 : decode cX4_ask 113 = .ok (.aload_n 0, 1) := by decide +kernel
theorem dX4_ask_114 : decode cX4_ask 114 = .ok (.getfield 10, 3) := by decide +kernel
theorem dX4_ask_117 : decode cX4_ask 117 = .ok (.ldc2_w 63, 3) := by decide +kernel
theorem dX4_ask_120 : decode cX4_ask 120 = .ok (.invokevirtual 167, 3) := by decide +kernel
theorem dX4_ask_123 : decode cX4_ask 123 = .ok (.invokevirtual 171, 3) := by decide +kernel
theorem dX4_ask_126 : decode cX4_ask 126 = .ok (.lconst 0, 1) := by decide +kernel
theorem dX4_ask_127 : decode cX4_ask 127 = .ok (.lcmp, 1) := by decide +kernel
theorem dX4_ask_128 : decode cX4_ask 128 = .ok (.ifCond .ne 18, 3) := by decide +kernel
theorem dX4_ask_131 : decode cX4_ask 131 = .ok (.aload_n 0, 1) := by decide +kernel
theorem dX4_ask_132 : decode cX4_ask 132 = .ok (.getfield 10, 3) := by decide +kernel
theorem dX4_ask_135 : decode cX4_ask 135 = .ok (.iload_n 3, 1) := by decide +kernel
theorem dX4_ask_136 : decode cX4_ask 136 = .ok (.putfield 297, 3) := by decide +kernel
theorem dX4_ask_139 : decode cX4_ask 139 = .ok (.aload_n 0, 1) := by decide +kernel
theorem dX4_ask_140 : decode cX4_ask 140 = .ok (.bipush (-6), 2) := by decide +kernel
theorem dX4_ask_142 : decode cX4_ask 142 = .ok (.invokevirtual 82, 3) := by decide +kernel
theorem dX4_ask_145 : decode cX4_ask 145 = .ok (.ireturn, 1) := by decide +kernel
theorem dX4_ask_146 : decode cX4_ask 146 = .ok (.aload_n 0, 1) := by decide +kernel
theorem dX4_ask_147 : decode cX4_ask 147 = .ok (.getfield 10, 3) := by decide +kernel
theorem dX4_ask_150 : decode cX4_ask 150 = .ok (.getfield 146, 3) := by decide +kernel
theorem dX4_ask_153 : decode cX4_ask 153 = .ok (.bipush 24, 2) := by decide +kernel
theorem dX4_ask_155 : decode cX4_ask 155 = .ok (.if_icmp .lt 18, 3) := by decide +kernel
theorem dX4_ask_158 : decode cX4_ask 158 = .ok (.aload_n 0, 1) := by decide +kernel
theorem dX4_ask_159 : decode cX4_ask 159 = .ok (.getfield 10, 3) := by decide +kernel
theorem dX4_ask_162 : decode cX4_ask 162 = .ok (.iload_n 3, 1) := by decide +kernel
theorem dX4_ask_163 : decode cX4_ask 163 = .ok (.putfield 297, 3) := by decide +kernel
theorem dX4_ask_166 : decode cX4_ask 166 = .ok (.aload_n 0, 1) := by decide +kernel
theorem dX4_ask_167 : decode cX4_ask 167 = .ok (.bipush (-7), 2) := by decide +kernel
theorem dX4_ask_169 : decode cX4_ask 169 = .ok (.invokevirtual 82, 3) := by decide +kernel
theorem dX4_ask_172 : decode cX4_ask 172 = .ok (.ireturn, 1) := by decide +kernel
theorem dX4_ask_173 : decode cX4_ask 173 = .ok (.aload_n 0, 1) := by decide +kernel
theorem dX4_ask_174 : decode cX4_ask 174 = .ok (.getfield 10, 3) := by decide +kernel
theorem dX4_ask_177 : decode cX4_ask 177 = .ok (.iload_n 1, 1) := by decide +kernel
theorem dX4_ask_178 : decode cX4_ask 178 = .ok (.iload_n 2, 1) := by decide +kernel
theorem dX4_ask_179 : decode cX4_ask 179 = .ok (.iload 5, 2) := by decide +kernel
theorem dX4_ask_181 : decode cX4_ask 181 = .ok (.invokevirtual 175, 3) := by decide +kernel
theorem dX4_ask_184 : decode cX4_ask 184 = .ok (.iload 5, 2) := by decide +kernel
theorem dX4_ask_186 : decode cX4_ask 186 = .ok (.ifCond .eq 7, 3) := by decide +kernel
theorem dX4_ask_189 : decode cX4_ask 189 = .ok (.iconst 1, 1) := by decide +kernel
theorem dX4_ask_190 : decode cX4_ask 190 = .ok (.goto 4, 3) := by decide +kernel
theorem dX4_ask_193 : decode cX4_ask 193 = .ok (.iconst 0, 1) := by decide +kernel
theorem dX4_ask_194 : decode cX4_ask 194 = .ok (.ireturn, 1) := by decide +kernel
theorem dX4_truthInTruth_0 : decode cX4_truthInTruth 0 = .ok (.aload_n 0, 1) := by decide +kernel
theorem dX4_truthInTruth_1 : decode cX4_truthInTruth 1 = .ok (.getfield 10, 3) := by decide +kernel
theorem dX4_truthInTruth_4 : decode cX4_truthInTruth 4 = .ok (.iload_n 1, 1) := by decide +kernel
theorem dX4_truthInTruth_5 : decode cX4_truthInTruth 5 = .ok (.invokevirtual 272, 3) := by decide +kernel
theorem dX4_truthInTruth_8 : decode cX4_truthInTruth 8 = .ok (.ifCond .ne 29, 3) := by decide +kernel
theorem dX4_truthInTruth_11 : decode cX4_truthInTruth 11 = .ok (.aload_n 0, 1) := by decide +kernel
theorem dX4_truthInTruth_12 : decode cX4_truthInTruth 12 = .ok (.getfield 10, 3) := by decide +kernel
theorem dX4_truthInTruth_15 : decode cX4_truthInTruth 15 = .ok (.iload_n 1, 1) := by decide +kernel
theorem dX4_truthInTruth_16 : decode cX4_truthInTruth 16 = .ok (.aload_n 0, 1) := by decide +kernel
theorem dX4_truthInTruth_17 : decode cX4_truthInTruth 17 = .ok (.getfield 10, 3) := by decide +kernel
theorem dX4_truthInTruth_20 : decode cX4_truthInTruth 20 = .ok (.getfield 127, 3) := by decide +kernel
theorem dX4_truthInTruth_23 : decode cX4_truthInTruth 23 = .ok (.iload_n 1, 1) := by decide +kernel
theorem dX4_truthInTruth_24 : decode cX4_truthInTruth 24 = .ok (.iaload, 1) := by decide +kernel
theorem dX4_truthInTruth_25 : decode cX4_truthInTruth 25 = .ok (.invokevirtual 130, 3) := by decide +kernel
theorem dX4_truthInTruth_28 : decode cX4_truthInTruth 28 = .ok (.ifCond .eq 7, 3) := by decide +kernel
theorem dX4_truthInTruth_31 : decode cX4_truthInTruth 31 = .ok (.iconst 1, 1) := by decide +kernel
theorem dX4_truthInTruth_32 : decode cX4_truthInTruth 32 = .ok (.goto 4, 3) := by decide +kernel
theorem dX4_truthInTruth_35 : decode cX4_truthInTruth 35 = .ok (.iconst 0, 1) := by decide +kernel
theorem dX4_truthInTruth_36 : decode cX4_truthInTruth 36 = .ok (.ireturn, 1) := by decide +kernel
theorem dX4_truthInTruth_37 : decode cX4_truthInTruth 37 = .ok (.aload_n 0, 1) := by decide +kernel
theorem dX4_truthInTruth_38 : decode cX4_truthInTruth 38 = .ok (.getfield 10, 3) := by decide +kernel
theorem dX4_truthInTruth_41 : decode cX4_truthInTruth 41 = .ok (.iload_n 1, 1) := by decide +kernel
theorem dX4_truthInTruth_42 : decode cX4_truthInTruth 42 = .ok (.iconst 1, 1) := by decide +kernel
theorem dX4_truthInTruth_43 : decode cX4_truthInTruth 43 = .ok (.invokevirtual 275, 3) := by decide +kernel
theorem dX4_truthInTruth_46 : decode cX4_truthInTruth 46 = .ok (.aload_n 0, 1) := by decide +kernel
theorem dX4_truthInTruth_47 : decode cX4_truthInTruth 47 = .ok (.getfield 10, 3) := by decide +kernel
theorem dX4_truthInTruth_50 : decode cX4_truthInTruth 50 = .ok (.getfield 294, 3) := by decide +kernel
theorem dX4_truthInTruth_53 : decode cX4_truthInTruth 53 = .ok (.invokestatic 220, 3) := by decide +kernel
theorem dX4_truthInTruth_56 : decode cX4_truthInTruth 56 = .ok (.istore_n 2, 1) := by decide +kernel
theorem dX4_truthInTruth_57 : decode cX4_truthInTruth 57 = .ok (.aload_n 0, 1) := by decide +kernel
theorem dX4_truthInTruth_58 : decode cX4_truthInTruth 58 = .ok (.getfield 10, 3) := by decide +kernel
theorem dX4_truthInTruth_61 : decode cX4_truthInTruth 61 = .ok (.iload_n 1, 1) := by decide +kernel
theorem dX4_truthInTruth_62 : decode cX4_truthInTruth 62 = .ok (.iconst 0, 1) := by decide +kernel
theorem dX4_truthInTruth_63 : decode cX4_truthInTruth 63 = .ok (.invokevirtual 275, 3) := by decide +kernel
theorem dX4_truthInTruth_66 : decode cX4_truthInTruth 66 = .ok (.aload_n 0, 1) := by decide +kernel
theorem dX4_truthInTruth_67 : decode cX4_truthInTruth 67 = .ok (.getfield 10, 3) := by decide +kernel
theorem dX4_truthInTruth_70 : decode cX4_truthInTruth 70 = .ok (.getfield 294, 3) := by decide +kernel
theorem dX4_truthInTruth_73 : decode cX4_truthInTruth 73 = .ok (.invokestatic 220, 3) := by decide +kernel
theorem dX4_truthInTruth_76 : decode cX4_truthInTruth 76 = .ok (.istore_n 3, 1) := by decide +kernel
theorem dX4_truthInTruth_77 : decode cX4_truthInTruth 77 = .ok (.iload_n 2, 1) := by decide +kernel
theorem dX4_truthInTruth_78 : decode cX4_truthInTruth 78 = .ok (.iconst 1, 1) := by decide +kernel
theorem dX4_truthInTruth_79 : decode cX4_truthInTruth 79 = .ok (.if_icmp .ne 17, 3) := by decide +kernel
theorem dX4_truthInTruth_82 : decode cX4_truthInTruth 82 = .ok (.iload_n 3, 1) := by decide +kernel
theorem dX4_truthInTruth_83 : decode cX4_truthInTruth 83 = .ok (.iconst 1, 1) := by decide +kernel
theorem dX4_truthInTruth_84 : decode cX4_truthInTruth 84 = .ok (.if_icmp .ne 12, 3) := by decide +kernel
theorem dX4_truthInTruth_87 : decode cX4_truthInTruth 87 = .ok (.aload_n 0, 1) := by decide +kernel
theorem dX4_truthInTruth_88 : decode cX4_truthInTruth 88 = .ok (.getfield 10, 3) := by decide +kernel
theorem dX4_truthInTruth_91 : decode cX4_truthInTruth 91 = .ok (.iconst 2, 1) := by decide +kernel
theorem dX4_truthInTruth_92 : decode cX4_truthInTruth 92 = .ok (.invokevirtual 291, 3) := by decide +kernel
theorem dX4_truthInTruth_95 : decode cX4_truthInTruth 95 = .ok (.ireturn, 1) := by decide +kernel
theorem dX4_truthInTruth_96 : decode cX4_truthInTruth 96 = .ok (.iload_n 2, 1) := by decide +kernel
theorem dX4_truthInTruth_97 : decode cX4_truthInTruth 97 = .ok (.ifCond .ne 9, 3) := by decide +kernel
theorem dX4_truthInTruth_100 : decode cX4_truthInTruth 100 = .ok (.iload_n 3, 1) := by decide +kernel
theorem dX4_truthInTruth_101 : decode cX4_truthInTruth 101 = .ok (.ifCond .ne 5, 3) := by decide +kernel
theorem dX4_truthInTruth_104 : decode cX4_truthInTruth 104 = .ok (.iconst (-1), 1) := by decide +kernel
theorem dX4_truthInTruth_105 : decode cX4_truthInTruth 105 = .ok (.ireturn, 1) := by decide +kernel
theorem dX4_truthInTruth_106 : decode cX4_truthInTruth 106 = .ok (.iload_n 2, 1) := by decide +kernel
theorem dX4_truthInTruth_107 : decode cX4_truthInTruth 107 = .ok (.ireturn, 1) := by decide +kernel
theorem dX4_truly_0 : decode cX4_truly 0 = .ok (.aload_n 0, 1) := by decide +kernel
theorem dX4_truly_1 : decode cX4_truly 1 = .ok (.getfield 10, 3) := by decide +kernel
theorem dX4_truly_4 : decode cX4_truly 4 = .ok (.iload_n 1, 1) := by decide +kernel
theorem dX4_truly_5 : decode cX4_truly 5 = .ok (.invokevirtual 213, 3) := by decide +kernel
theorem dX4_truly_8 : decode cX4_truly 8 = .ok (.ifCond .ne 9, 3) := by decide +kernel
theorem dX4_truly_11 : decode cX4_truly 11 = .ok (.aload_n 0, 1) := by decide +kernel
theorem dX4_truly_12 : decode cX4_truly 12 = .ok (.iconst (-1), 1) := by decide +kernel
theorem dX4_truly_13 : decode cX4_truly 13 = .ok (.invokevirtual 82, 3) := by decide +kernel
theorem dX4_truly_16 : decode cX4_truly 16 = .ok (.ireturn, 1) := by decide +kernel
theorem dX4_truly_17 : decode cX4_truly 17 = .ok (.aload_n 0, 1) := by decide +kernel
theorem dX4_truly_18 : decode cX4_truly 18 = .ok (.getfield 10, 3) := by decide +kernel
theorem dX4_truly_21 : decode cX4_truly 21 = .ok (.getfield 294, 3) := by decide +kernel
theorem dX4_truly_24 : decode cX4_truly 24 = .ok (.iconst (-1), 1) := by decide +kernel
theorem dX4_truly_25 : decode cX4_truly 25 = .ok (.if_icmp .ne 10, 3) := by decide +kernel
theorem dX4_truly_28 : decode cX4_truly 28 = .ok (.aload_n 0, 1) := by decide +kernel
theorem dX4_truly_29 : decode cX4_truly 29 = .ok (.bipush (-6), 2) := by decide +kernel
theorem dX4_truly_31 : decode cX4_truly 31 = .ok (.invokevirtual 82, 3) := by decide +kernel
theorem dX4_truly_34 : decode cX4_truly 34 = .ok (.ireturn, 1) := by decide +kernel
theorem dX4_truly_35 : decode cX4_truly 35 = .ok (.aload_n 0, 1) := by decide +kernel
theorem dX4_truly_36 : decode cX4_truly 36 = .ok (.getfield 10, 3) := by decide +kernel
theorem dX4_truly_39 : decode cX4_truly 39 = .ok (.getfield 294, 3) := by decide +kernel
theorem dX4_truly_42 : decode cX4_truly 42 = .ok (.iload_n 1, 1) := by decide +kernel
theorem dX4_truly_43 : decode cX4_truly 43 = .ok (.if_icmp .ne 7, 3) := by decide +kernel
theorem dX4_truly_46 : decode cX4_truly 46 = .ok (.iconst 1, 1) := by decide +kernel
theorem dX4_truly_47 : decode cX4_truly 47 = .ok (.goto 4, 3) := by decide +kernel
theorem dX4_truly_50 : decode cX4_truly 50 = .ok (.iconst 0, 1) := by decide +kernel
theorem dX4_truly_51 : decode cX4_truly 51 = .ok (.ireturn, 1) := by decide +kernel
theorem dX4_seed_0 : decode cX4_seed 0 = .ok (.aload_n 0, 1) := by decide +kernel
theorem dX4_seed_1 : decode cX4_seed 1 = .ok (.getfield 10, 3) := by decide +kernel
theorem dX4_seed_4 : decode cX4_seed 4 = .ok (.getfield 297, 3) := by decide +kernel
theorem dX4_seed_7 : decode cX4_seed 7 = .ok (.istore_n 2, 1) := by decide +kernel
theorem dX4_seed_8 : decode cX4_seed 8 = .ok (.aload_n 0, 1) := by decide +kernel
theorem dX4_seed_9 : decode cX4_seed 9 = .ok (.getfield 10, 3) := by decide +kernel
theorem dX4_seed_12 : decode cX4_seed 12 = .ok (.iload_n 1, 1) := by decide +kernel
theorem dX4_seed_13 : decode cX4_seed 13 = .ok (.putfield 297, 3) := by decide +kernel
theorem dX4_seed_16 : decode cX4_seed 16 = .ok (.iload_n 2, 1) := by decide +kernel
theorem dX4_seed_17 : decode cX4_seed 17 = .ok (.ireturn, 1) := by decide +kernel
theorem dX4_act_0 : decode cX4_act 0 = .ok (.aload_n 0, 1) := by decide +kernel
theorem dX4_act_1 : decode cX4_act 1 = .ok (.getfield 38, 3) := by decide +kernel
theorem dX4_act_4 : decode cX4_act 4 = .ok (.invokevirtual 303, 3) := by decide +kernel
theorem dX4_act_7 : decode cX4_act 7 = .ok (.aload_n 0, 1) := by decide +kernel
theorem dX4_act_8 : decode cX4_act 8 = .ok (.getfield 10, 3) := by decide +kernel
theorem dX4_act_11 : decode cX4_act 11 = .ok (.iload_n 1, 1) := by decide +kernel
theorem dX4_act_12 : decode cX4_act 12 = .ok (.invokevirtual 119, 3) := by decide +kernel
theorem dX4_act_15 : decode cX4_act 15 = .ok (.ifCond .eq 12, 3) := by decide +kernel
theorem dX4_act_18 : decode cX4_act 18 = .ok (.iload_n 2, 1) := by decide +kernel
theorem dX4_act_19 : decode cX4_act 19 = .ok (.iconst 0, 1) := by decide +kernel
theorem dX4_act_20 : decode cX4_act 20 = .ok (.iconst 2, 1) := by decide +kernel
theorem dX4_act_21 : decode cX4_act 21 = .ok (.invokestatic 85, 3) := by decide +kernel
theorem dX4_act_24 : decode cX4_act 24 = .ok (.ifCond .ne 5, 3) := by decide +kernel
theorem dX4_act_27 : decode cX4_act 27 = .ok (.iconst 0, 1) := by decide +kernel
theorem dX4_act_28 : decode cX4_act 28 = .ok (.ireturn, 1) := by decide +kernel
theorem dX4_act_29 : decode cX4_act 29 = .ok (.aload_n 0, 1) := by decide +kernel
theorem dX4_act_30 : decode cX4_act 30 = .ok (.getfield 38, 3) := by decide +kernel
theorem dX4_act_33 : decode cX4_act 33 = .ok (.aload_n 0, 1) := by decide +kernel
theorem dX4_act_34 : decode cX4_act 34 = .ok (.getfield 10, 3) := by decide +kernel
theorem dX4_act_37 : decode cX4_act 37 = .ok (.getfield 121, 3) := by decide +kernel
theorem dX4_act_40 : decode cX4_act 40 = .ok (.iload_n 1, 1) := by decide +kernel
theorem dX4_act_41 : decode cX4_act 41 = .ok (.iaload, 1) := by decide +kernel
theorem dX4_act_42 : decode cX4_act 42 = .ok (.iload_n 1, 1) := by decide +kernel
theorem dX4_act_43 : decode cX4_act 43 = .ok (.aload_n 0, 1) := by decide +kernel
theorem dX4_act_44 : decode cX4_act 44 = .ok (.getfield 10, 3) := by decide +kernel
theorem dX4_act_47 : decode cX4_act 47 = .ok (.getfield 155, 3) := by decide +kernel
theorem dX4_act_50 : decode cX4_act 50 = .ok (.iload_n 1, 1) := by decide +kernel
theorem dX4_act_51 : decode cX4_act 51 = .ok (.iaload, 1) := by decide +kernel
theorem dX4_act_52 : decode cX4_act 52 = .ok (.iload_n 2, 1) := by decide +kernel
theorem dX4_act_53 : decode cX4_act 53 = .ok (.iload_n 3, 1) := by decide +kernel
theorem dX4_act_54 : decode cX4_act 54 = .ok (.invokevirtual 306, 3) := by decide +kernel
theorem dX4_act_57 : decode cX4_act 57 = .ok (.ireturn, 1) := by decide +kernel
theorem dX4_trace_0 : decode cX4_trace 0 = .ok (.iload_n 1, 1) := by decide +kernel
theorem dX4_trace_1 : decode cX4_trace 1 = .ok (.ifCond .lt 32, 3) := by decide +kernel
theorem dX4_trace_4 : decode cX4_trace 4 = .ok (.iload_n 1, 1) := by decide +kernel
theorem dX4_trace_5 : decode cX4_trace 5 = .ok (.bipush 20, 2) := by decide +kernel
theorem dX4_trace_7 : decode cX4_trace 7 = .ok (.if_icmp .ge 26, 3) := by decide +kernel
theorem dX4_trace_10 : decode cX4_trace 10 = .ok (.iload_n 1, 1) := by decide +kernel
theorem dX4_trace_11 : decode cX4_trace 11 = .ok (.aload_n 0, 1) := by decide +kernel
theorem dX4_trace_12 : decode cX4_trace 12 = .ok (.getfield 38, 3) := by decide +kernel
theorem dX4_trace_15 : decode cX4_trace 15 = .ok (.getfield 310, 3) := by decide +kernel
theorem dX4_trace_18 : decode cX4_trace 18 = .ok (.if_icmp .ge 15, 3) := by decide +kernel
theorem dX4_trace_21 : decode cX4_trace 21 = .ok (.aload_n 0, 1) := by decide +kernel
theorem dX4_trace_22 : decode cX4_trace 22 = .ok (.getfield 38, 3) := by decide +kernel
theorem dX4_trace_25 : decode cX4_trace 25 = .ok (.getfield 313, 3) := by decide +kernel
theorem dX4_trace_28 : decode cX4_trace 28 = .ok (.iload_n 1, 1) := by decide +kernel
theorem dX4_trace_29 : decode cX4_trace 29 = .ok (.iaload, 1) := by decide +kernel
theorem dX4_trace_30 : decode cX4_trace 30 = .ok (.goto 4, 3) := by decide +kernel
theorem dX4_trace_33 : decode cX4_trace 33 = .ok (.iconst (-1), 1) := by decide +kernel
theorem dX4_trace_34 : decode cX4_trace 34 = .ok (.ireturn, 1) := by decide +kernel
theorem dX4_image_0 : decode cX4_image 0 = .ok (.aload_n 0, 1) := by decide +kernel
theorem dX4_image_1 : decode cX4_image 1 = .ok (.getfield 16, 3) := by decide +kernel
theorem dX4_image_4 : decode cX4_image 4 = .ok (.aload_n 0, 1) := by decide +kernel
theorem dX4_image_5 : decode cX4_image 5 = .ok (.getfield 10, 3) := by decide +kernel
theorem dX4_image_8 : decode cX4_image 8 = .ok (.invokevirtual 202, 3) := by decide +kernel
theorem dX4_image_11 : decode cX4_image 11 = .ok (.aload_n 0, 1) := by decide +kernel
theorem dX4_image_12 : decode cX4_image 12 = .ok (.iconst 1, 1) := by decide +kernel
theorem dX4_image_13 : decode cX4_image 13 = .ok (.putfield 46, 3) := by decide +kernel
theorem dX4_image_16 : decode cX4_image 16 = .ok (.aload_n 0, 1) := by decide +kernel
theorem dX4_image_17 : decode cX4_image 17 = .ok (.getfield 10, 3) := by decide +kernel
theorem dX4_image_20 : decode cX4_image 20 = .ok (.getfield 146, 3) := by decide +kernel
theorem dX4_image_23 : decode cX4_image 23 = .ok (.ireturn, 1) := by decide +kernel
theorem dX4_restore_0 : decode cX4_restore 0 = .ok (.aload_n 0, 1) := by decide +kernel
theorem dX4_restore_1 : decode cX4_restore 1 = .ok (.getfield 46, 3) := by decide +kernel
theorem dX4_restore_4 : decode cX4_restore 4 = .ok (.ifCond .ne 10, 3) := by decide +kernel
theorem dX4_restore_7 : decode cX4_restore 7 = .ok (.aload_n 0, 1) := by decide +kernel
theorem dX4_restore_8 : decode cX4_restore 8 = .ok (.bipush (-6), 2) := by decide +kernel
theorem dX4_restore_10 : decode cX4_restore 10 = .ok (.invokevirtual 82, 3) := by decide +kernel
theorem dX4_restore_13 : decode cX4_restore 13 = .ok (.ireturn, 1) := by decide +kernel
theorem dX4_restore_14 : decode cX4_restore 14 = .ok (.aload_n 0, 1) := by decide +kernel
theorem dX4_restore_15 : decode cX4_restore 15 = .ok (.getfield 10, 3) := by decide +kernel
theorem dX4_restore_18 : decode cX4_restore 18 = .ok (.aload_n 0, 1) := by decide +kernel
theorem dX4_restore_19 : decode cX4_restore 19 = .ok (.getfield 16, 3) := by decide +kernel
theorem dX4_restore_22 : decode cX4_restore 22 = .ok (.invokevirtual 202, 3) := by decide +kernel
theorem dX4_restore_25 : decode cX4_restore 25 = .ok (.iconst 0, 1) := by decide +kernel
theorem dX4_restore_26 : decode cX4_restore 26 = .ok (.istore_n 1, 1) := by decide +kernel
theorem dX4_restore_27 : decode cX4_restore 27 = .ok (.iload_n 1, 1) := by decide +kernel
theorem dX4_restore_28 : decode cX4_restore 28 = .ok (.bipush 8, 2) := by decide +kernel
theorem dX4_restore_30 : decode cX4_restore 30 = .ok (.if_icmp .ge 50, 3) := by decide +kernel
theorem dX4_restore_33 : decode cX4_restore 33 = .ok (.aload_n 0, 1) := by decide +kernel
theorem dX4_restore_34 : decode cX4_restore 34 = .ok (.getfield 24, 3) := by decide +kernel
theorem dX4_restore_37 : decode cX4_restore 37 = .ok (.iload_n 1, 1) := by decide +kernel
theorem dX4_restore_38 : decode cX4_restore 38 = .ok (.aaload, 1) := by decide +kernel
theorem dX4_restore_39 : decode cX4_restore 39 = .ok (.invokevirtual 75, 3) := by decide +kernel
theorem dX4_restore_42 : decode cX4_restore 42 = .ok (.ifCond .eq 32, 3) := by decide +kernel
theorem dX4_restore_45 : decode cX4_restore 45 = .ok (.aload_n 0, 1) := by decide +kernel
theorem dX4_restore_46 : decode cX4_restore 46 = .ok (.getfield 10, 3) := by decide +kernel
theorem dX4_restore_49 : decode cX4_restore 49 = .ok (.aload_n 0, 1) := by decide +kernel
theorem dX4_restore_50 : decode cX4_restore 50 = .ok (.getfield 24, 3) := by decide +kernel
theorem dX4_restore_53 : decode cX4_restore 53 = .ok (.iload_n 1, 1) := by decide +kernel
theorem dX4_restore_54 : decode cX4_restore 54 = .ok (.aaload, 1) := by decide +kernel
theorem dX4_restore_55 : decode cX4_restore 55 = .ok (.getfield 103, 3) := by decide +kernel
theorem dX4_restore_58 : decode cX4_restore 58 = .ok (.invokevirtual 119, 3) := by decide +kernel
theorem dX4_restore_61 : decode cX4_restore 61 = .ok (.ifCond .ne 13, 3) := by decide +kernel
theorem dX4_restore_64 : decode cX4_restore 64 = .ok (.aload_n 0, 1) := by decide +kernel
theorem dX4_restore_65 : decode cX4_restore 65 = .ok (.getfield 24, 3) := by decide +kernel
theorem dX4_restore_68 : decode cX4_restore 68 = .ok (.iload_n 1, 1) := by decide +kernel
theorem dX4_restore_69 : decode cX4_restore 69 = .ok (.aaload, 1) := by decide +kernel
theorem dX4_restore_70 : decode cX4_restore 70 = .ok (.iconst (-1), 1) := by decide +kernel
theorem dX4_restore_71 : decode cX4_restore 71 = .ok (.putfield 103, 3) := by decide +kernel
theorem dX4_restore_74 : decode cX4_restore 74 = .ok (.iinc 1 1, 3) := by decide +kernel
theorem dX4_restore_77 : decode cX4_restore 77 = .ok (.goto (-50), 3) := by decide +kernel
theorem dX4_restore_80 : decode cX4_restore 80 = .ok (.aload_n 0, 1) := by decide +kernel
theorem dX4_restore_81 : decode cX4_restore 81 = .ok (.getfield 10, 3) := by decide +kernel
theorem dX4_restore_84 : decode cX4_restore 84 = .ok (.getfield 146, 3) := by decide +kernel
theorem dX4_restore_87 : decode cX4_restore 87 = .ok (.ireturn, 1) := by decide +kernel
theorem dX4_status_0 : decode cX4_status 0 = .ok (.iload_n 1, 1) := by decide +kernel
theorem dX4_status_1 : decode cX4_status 1 = .ok (.bipush 11, 2) := by decide +kernel
theorem dX4_status_3 : decode cX4_status 3 = .ok (.bipush 17, 2) := by decide +kernel
theorem dX4_status_5 : decode cX4_status 5 = .ok (.invokestatic 85, 3) := by decide +kernel
theorem dX4_status_8 : decode cX4_status 8 = .ok (.ifCond .eq 13, 3) := by decide +kernel
theorem dX4_status_11 : decode cX4_status 11 = .ok (.aload_n 0, 1) := by decide +kernel
theorem dX4_status_12 : decode cX4_status 12 = .ok (.getfield 42, 3) := by decide +kernel
theorem dX4_status_15 : decode cX4_status 15 = .ok (.iload_n 1, 1) := by decide +kernel
theorem dX4_status_16 : decode cX4_status 16 = .ok (.bipush 10, 2) := by decide +kernel
theorem dX4_status_18 : decode cX4_status 18 = .ok (.isub, 1) := by decide +kernel
theorem dX4_status_19 : decode cX4_status 19 = .ok (.iaload, 1) := by decide +kernel
theorem dX4_status_20 : decode cX4_status 20 = .ok (.ireturn, 1) := by decide +kernel
theorem dX4_status_21 : decode cX4_status 21 = .ok (.iload_n 1, 1) := by decide +kernel
theorem dX4_status_22 : decode cX4_status 22 = .ok (.tableswitch 125 0 8 #[50, 58, 66, 74, 85, 93, 101, 109, 117], 50) := by decide +kernel
theorem dX4_status_72 : decode cX4_status 72 = .ok (.aload_n 0, 1) := by decide +kernel
theorem dX4_status_73 : decode cX4_status 73 = .ok (.getfield 10, 3) := by decide +kernel
theorem dX4_status_76 : decode cX4_status 76 = .ok (.getfield 133, 3) := by decide +kernel
theorem dX4_status_79 : decode cX4_status 79 = .ok (.ireturn, 1) := by decide +kernel
theorem dX4_status_80 : decode cX4_status 80 = .ok (.aload_n 0, 1) := by decide +kernel
theorem dX4_status_81 : decode cX4_status 81 = .ok (.getfield 10, 3) := by decide +kernel
theorem dX4_status_84 : decode cX4_status 84 = .ok (.getfield 140, 3) := by decide +kernel
theorem dX4_status_87 : decode cX4_status 87 = .ok (.ireturn, 1) := by decide +kernel
theorem dX4_status_88 : decode cX4_status 88 = .ok (.aload_n 0, 1) := by decide +kernel
theorem dX4_status_89 : decode cX4_status 89 = .ok (.getfield 10, 3) := by decide +kernel
theorem dX4_status_92 : decode cX4_status 92 = .ok (.getfield 146, 3) := by decide +kernel
theorem dX4_status_95 : decode cX4_status 95 = .ok (.ireturn, 1) := by decide +kernel
theorem dX4_status_96 : decode cX4_status 96 = .ok (.aload_n 0, 1) := by decide +kernel
theorem dX4_status_97 : decode cX4_status 97 = .ok (.getfield 10, 3) := by decide +kernel
theorem dX4_status_100 : decode cX4_status 100 = .ok (.getfield 198, 3) := by decide +kernel
theorem dX4_status_103 : decode cX4_status 103 = .ok (.invokestatic 178, 3) := by decide +kernel
theorem dX4_status_106 : decode cX4_status 106 = .ok (.ireturn, 1) := by decide +kernel
theorem dX4_status_107 : decode cX4_status 107 = .ok (.aload_n 0, 1) := by decide +kernel
theorem dX4_status_108 : decode cX4_status 108 = .ok (.getfield 10, 3) := by decide +kernel
theorem dX4_status_111 : decode cX4_status 111 = .ok (.getfield 149, 3) := by decide +kernel
theorem dX4_status_114 : decode cX4_status 114 = .ok (.ireturn, 1) := by decide +kernel
theorem dX4_status_115 : decode cX4_status 115 = .ok (.aload_n 0, 1) := by decide +kernel
theorem dX4_status_116 : decode cX4_status 116 = .ok (.getfield 10, 3) := by decide +kernel
theorem dX4_status_119 : decode cX4_status 119 = .ok (.getfield 152, 3) := by decide +kernel
theorem dX4_status_122 : decode cX4_status 122 = .ok (.ireturn, 1) := by decide +kernel
theorem dX4_status_123 : decode cX4_status 123 = .ok (.aload_n 0, 1) := by decide +kernel
theorem dX4_status_124 : decode cX4_status 124 = .ok (.getfield 10, 3) := by decide +kernel
theorem dX4_status_127 : decode cX4_status 127 = .ok (.getfield 288, 3) := by decide +kernel
theorem dX4_status_130 : decode cX4_status 130 = .ok (.ireturn, 1) := by decide +kernel
theorem dX4_status_131 : decode cX4_status 131 = .ok (.aload_n 0, 1) := by decide +kernel
theorem dX4_status_132 : decode cX4_status 132 = .ok (.getfield 10, 3) := by decide +kernel
theorem dX4_status_135 : decode cX4_status 135 = .ok (.getfield 297, 3) := by decide +kernel
theorem dX4_status_138 : decode cX4_status 138 = .ok (.ireturn, 1) := by decide +kernel
theorem dX4_status_139 : decode cX4_status 139 = .ok (.aload_n 0, 1) := by decide +kernel
theorem dX4_status_140 : decode cX4_status 140 = .ok (.getfield 38, 3) := by decide +kernel
theorem dX4_status_143 : decode cX4_status 143 = .ok (.getfield 310, 3) := by decide +kernel
theorem dX4_status_146 : decode cX4_status 146 = .ok (.ireturn, 1) := by decide +kernel
theorem dX4_status_147 : decode cX4_status 147 = .ok (.iconst (-1), 1) := by decide +kernel
theorem dX4_status_148 : decode cX4_status 148 = .ok (.ireturn, 1) := by decide +kernel
theorem dX5_init_0 : decode cX5_init 0 = .ok (.aload_n 0, 1) := by decide +kernel
theorem dX5_init_1 : decode cX5_init 1 = .ok (.invokespecial 1, 3) := by decide +kernel
theorem dX5_init_4 : decode cX5_init 4 = .ok (.aload_n 0, 1) := by decide +kernel
theorem dX5_init_5 : decode cX5_init 5 = .ok (.iconst 4, 1) := by decide +kernel
theorem dX5_init_6 : decode cX5_init 6 = .ok (.putfield 7, 3) := by decide +kernel
theorem dX5_init_9 : decode cX5_init 9 = .ok (.aload_n 0, 1) := by decide +kernel
theorem dX5_init_10 : decode cX5_init 10 = .ok (.iconst 2, 1) := by decide +kernel
theorem dX5_init_11 : decode cX5_init 11 = .ok (.putfield 13, 3) := by decide +kernel
theorem dX5_init_14 : decode cX5_init 14 = .ok (.aload_n 0, 1) := by decide +kernel
theorem dX5_init_15 : decode cX5_init 15 = .ok (.iconst 1, 1) := by decide +kernel
theorem dX5_init_16 : decode cX5_init 16 = .ok (.putfield 16, 3) := by decide +kernel
theorem dX5_init_19 : decode cX5_init 19 = .ok (.aload_n 0, 1) := by decide +kernel
theorem dX5_init_20 : decode cX5_init 20 = .ok (.iconst (-1), 1) := by decide +kernel
theorem dX5_init_21 : decode cX5_init 21 = .ok (.putfield 19, 3) := by decide +kernel
theorem dX5_init_24 : decode cX5_init 24 = .ok (.aload_n 0, 1) := by decide +kernel
theorem dX5_init_25 : decode cX5_init 25 = .ok (.iconst (-1), 1) := by decide +kernel
theorem dX5_init_26 : decode cX5_init 26 = .ok (.putfield 22, 3) := by decide +kernel
theorem dX5_init_29 : decode cX5_init 29 = .ok (.aload_n 0, 1) := by decide +kernel
theorem dX5_init_30 : decode cX5_init 30 = .ok (.lconst 1, 1) := by decide +kernel
theorem dX5_init_31 : decode cX5_init 31 = .ok (.putfield 25, 3) := by decide +kernel
theorem dX5_init_34 : decode cX5_init 34 = .ok (.aload_n 0, 1) := by decide +kernel
theorem dX5_init_35 : decode cX5_init 35 = .ok (.bipush 8, 2) := by decide +kernel
theorem dX5_init_37 : decode cX5_init 37 = .ok (.newarray .int, 2) := by decide +kernel
theorem dX5_init_39 : decode cX5_init 39 = .ok (.putfield 29, 3) := by decide +kernel
theorem dX5_init_42 : decode cX5_init 42 = .ok (.aload_n 0, 1) := by decide +kernel
theorem dX5_init_43 : decode cX5_init 43 = .ok (.bipush 6, 2) := by decide +kernel
theorem dX5_init_45 : decode cX5_init 45 = .ok (.newarray .int, 2) := by decide +kernel
theorem dX5_init_47 : decode cX5_init 47 = .ok (.putfield 33, 3) := by decide +kernel
theorem dX5_init_50 : decode cX5_init 50 = .ok (.aload_n 0, 1) := by decide +kernel
theorem dX5_init_51 : decode cX5_init 51 = .ok (.bipush 6, 2) := by decide +kernel
theorem dX5_init_53 : decode cX5_init 53 = .ok (.newarray .int, 2) := by decide +kernel
theorem dX5_init_55 : decode cX5_init 55 = .ok (.putfield 36, 3) := by decide +kernel
theorem dX5_init_58 : decode cX5_init 58 = .ok (.aload_n 0, 1) := by decide +kernel
theorem dX5_init_59 : decode cX5_init 59 = .ok (.bipush 6, 2) := by decide +kernel
theorem dX5_init_61 : decode cX5_init 61 = .ok (.newarray .int, 2) := by decide +kernel
theorem dX5_init_63 : decode cX5_init 63 = .ok (.putfield 39, 3) := by decide +kernel
theorem dX5_init_66 : decode cX5_init 66 = .ok (.aload_n 0, 1) := by decide +kernel
theorem dX5_init_67 : decode cX5_init 67 = .ok (.bipush 52, 2) := by decide +kernel
theorem dX5_init_69 : decode cX5_init 69 = .ok (.newarray .int, 2) := by decide +kernel
theorem dX5_init_71 : decode cX5_init 71 = .ok (.putfield 42, 3) := by decide +kernel
theorem dX5_init_74 : decode cX5_init 74 = .ok (.aload_n 0, 1) := by decide +kernel
theorem dX5_init_75 : decode cX5_init 75 = .ok (.bipush 52, 2) := by decide +kernel
theorem dX5_init_77 : decode cX5_init 77 = .ok (.newarray .int, 2) := by decide +kernel
theorem dX5_init_79 : decode cX5_init 79 = .ok (.putfield 45, 3) := by decide +kernel
theorem dX5_init_82 : decode cX5_init 82 = .ok (.aload_n 0, 1) := by decide +kernel
theorem dX5_init_83 : decode cX5_init 83 = .ok (.bipush 52, 2) := by decide +kernel
theorem dX5_init_85 : decode cX5_init 85 = .ok (.newarray .int, 2) := by decide +kernel
theorem dX5_init_87 : decode cX5_init 87 = .ok (.putfield 48, 3) := by decide +kernel
theorem dX5_init_90 : decode cX5_init 90 = .ok (.aload_n 0, 1) := by decide +kernel
theorem dX5_init_91 : decode cX5_init 91 = .ok (.bipush 8, 2) := by decide +kernel
theorem dX5_init_93 : decode cX5_init 93 = .ok (.newarray .int, 2) := by decide +kernel
theorem dX5_init_95 : decode cX5_init 95 = .ok (.putfield 51, 3) := by decide +kernel
theorem dX5_init_98 : decode cX5_init 98 = .ok (.aload_n 0, 1) := by decide +kernel
theorem dX5_init_99 : decode cX5_init 99 = .ok (.bipush 8, 2) := by decide +kernel
theorem dX5_init_101 : decode cX5_init 101 = .ok (.newarray .int, 2) := by decide +kernel
theorem dX5_init_103 : decode cX5_init 103 = .ok (.putfield 54, 3) := by decide +kernel
theorem dX5_init_106 : decode cX5_init 106 = .ok (.aload_n 0, 1) := by decide +kernel
theorem dX5_init_107 : decode cX5_init 107 = .ok (.bipush 8, 2) := by decide +kernel
theorem dX5_init_109 : decode cX5_init 109 = .ok (.newarray .int, 2) := by decide +kernel
theorem dX5_init_111 : decode cX5_init 111 = .ok (.putfield 57, 3) := by decide +kernel
theorem dX5_init_114 : decode cX5_init 114 = .ok (.aload_n 0, 1) := by decide +kernel
theorem dX5_init_115 : decode cX5_init 115 = .ok (.bipush 8, 2) := by decide +kernel
theorem dX5_init_117 : decode cX5_init 117 = .ok (.newarray .int, 2) := by decide +kernel
theorem dX5_init_119 : decode cX5_init 119 = .ok (.putfield 60, 3) := by decide +kernel
theorem dX5_init_122 : decode cX5_init 122 = .ok (.aload_n 0, 1) := by decide +kernel
theorem dX5_init_123 : decode cX5_init 123 = .ok (.sipush 1280, 3) := by decide +kernel
theorem dX5_init_126 : decode cX5_init 126 = .ok (.newarray .long, 2) := by decide +kernel
theorem dX5_init_128 : decode cX5_init 128 = .ok (.putfield 63, 3) := by decide +kernel
theorem dX5_init_131 : decode cX5_init 131 = .ok (.aload_n 0, 1) := by decide +kernel
theorem dX5_init_132 : decode cX5_init 132 = .ok (.sipush 160, 3) := by decide +kernel
theorem dX5_init_135 : decode cX5_init 135 = .ok (.newarray .long, 2) := by decide +kernel
theorem dX5_init_137 : decode cX5_init 137 = .ok (.putfield 67, 3) := by decide +kernel
theorem dX5_init_140 : decode cX5_init 140 = .ok (.aload_n 0, 1) := by decide +kernel
theorem dX5_init_141 : decode cX5_init 141 = .ok (.bipush 29, 2) := by decide +kernel
theorem dX5_init_143 : decode cX5_init 143 = .ok (.newarray .int, 2) := by decide +kernel
theorem dX5_init_145 : decode cX5_init 145 = .ok (.dup, 1) := by decide +kernel
theorem dX5_init_146 : decode cX5_init 146 = .ok (.iconst 0, 1) := by decide +kernel
theorem dX5_init_147 : decode cX5_init 147 = .ok (.bipush 102, 2) := by decide +kernel
theorem dX5_init_149 : decode cX5_init 149 = .ok (.iastore, 1) := by decide +kernel
theorem dX5_init_150 : decode cX5_init 150 = .ok (.dup, 1) := by decide +kernel
theorem dX5_init_151 : decode cX5_init 151 = .ok (.iconst 1, 1) := by decide +kernel
theorem dX5_init_152 : decode cX5_init 152 = .ok (.bipush 97, 2) := by decide +kernel
theorem dX5_init_154 : decode cX5_init 154 = .ok (.iastore, 1) := by decide +kernel
theorem dX5_init_155 : decode cX5_init 155 = .ok (.dup, 1) := by decide +kernel
theorem dX5_init_156 : decode cX5_init 156 = .ok (.iconst 2, 1) := by decide +kernel
theorem dX5_init_157 : decode cX5_init 157 = .ok (.bipush 99, 2) := by decide +kernel
theorem dX5_init_159 : decode cX5_init 159 = .ok (.iastore, 1) := by decide +kernel
theorem dX5_init_160 : decode cX5_init 160 = .ok (.dup, 1) := by decide +kernel
theorem dX5_init_161 : decode cX5_init 161 = .ok (.iconst 3, 1) := by decide +kernel
theorem dX5_init_162 : decode cX5_init 162 = .ok (.bipush 116, 2) := by decide +kernel
theorem dX5_init_164 : decode cX5_init 164 = .ok (.iastore, 1) := by decide +kernel
theorem dX5_init_165 : decode cX5_init 165 = .ok (.dup, 1) := by decide +kernel
theorem dX5_init_166 : decode cX5_init 166 = .ok (.iconst 4, 1) := by decide +kernel
theorem dX5_init_167 : decode cX5_init 167 = .ok (.bipush 32, 2) := by decide +kernel
theorem dX5_init_169 : decode cX5_init 169 = .ok (.iastore, 1) := by decide +kernel
theorem dX5_init_170 : decode cX5_init 170 = .ok (.dup, 1) := by decide +kernel
theorem dX5_init_171 : decode cX5_init 171 = .ok (.iconst 5, 1) := by decide +kernel
theorem dX5_init_172 : decode cX5_init 172 = .ok (.iconst 0, 1) := by decide +kernel
theorem dX5_init_173 : decode cX5_init 173 = .ok (.iastore, 1) := by decide +kernel
theorem dX5_init_174 : decode cX5_init 174 = .ok (.dup, 1) := by decide +kernel
theorem dX5_init_175 : decode cX5_init 175 = .ok (.bipush 6, 2) := by decide +kernel
theorem dX5_init_177 : decode cX5_init 177 = .ok (.bipush 109, 2) := by decide +kernel
theorem dX5_init_179 : decode cX5_init 179 = .ok (.iastore, 1) := by decide +kernel
theorem dX5_init_180 : decode cX5_init 180 = .ok (.dup, 1) := by decide +kernel
theorem dX5_init_181 : decode cX5_init 181 = .ok (.bipush 7, 2) := by decide +kernel
theorem dX5_init_183 : decode cX5_init 183 = .ok (.bipush 97, 2) := by decide +kernel
theorem dX5_init_185 : decode cX5_init 185 = .ok (.iastore, 1) := by decide +kernel
theorem dX5_init_186 : decode cX5_init 186 = .ok (.dup, 1) := by decide +kernel
theorem dX5_init_187 : decode cX5_init 187 = .ok (.bipush 8, 2) := by decide +kernel
theorem dX5_init_189 : decode cX5_init 189 = .ok (.bipush 110, 2) := by decide +kernel
theorem dX5_init_191 : decode cX5_init 191 = .ok (.iastore, 1) := by decide +kernel
theorem dX5_init_192 : decode cX5_init 192 = .ok (.dup, 1) := by decide +kernel
theorem dX5_init_193 : decode cX5_init 193 = .ok (.bipush 9, 2) := by decide +kernel
theorem dX5_init_195 : decode cX5_init 195 = .ok (.bipush 32, 2) := by decide +kernel
theorem dX5_init_197 : decode cX5_init 197 = .ok (.iastore, 1) := by decide +kernel
theorem dX5_init_198 : decode cX5_init 198 = .ok (.dup, 1) := by decide +kernel
theorem dX5_init_199 : decode cX5_init 199 = .ok (.bipush 10, 2) := by decide +kernel
theorem dX5_init_201 : decode cX5_init 201 = .ok (.iconst 0, 1) := by decide +kernel
theorem dX5_init_202 : decode cX5_init 202 = .ok (.iastore, 1) := by decide +kernel
theorem dX5_init_203 : decode cX5_init 203 = .ok (.dup, 1) := by decide +kernel
theorem dX5_init_204 : decode cX5_init 204 = .ok (.bipush 11, 2) := by decide +kernel
theorem dX5_init_206 : decode cX5_init 206 = .ok (.bipush 108, 2) := by decide +kernel
theorem dX5_init_208 : decode cX5_init 208 = .ok (.iastore, 1) := by decide +kernel
theorem dX5_init_209 : decode cX5_init 209 = .ok (.dup, 1) := by decide +kernel
theorem dX5_init_210 : decode cX5_init 210 = .ok (.bipush 12, 2) := by decide +kernel
theorem dX5_init_212 : decode cX5_init 212 = .ok (.bipush 97, 2) := by decide +kernel
theorem dX5_init_214 : decode cX5_init 214 = .ok (.iastore, 1) := by decide +kernel
theorem dX5_init_215 : decode cX5_init 215 = .ok (.dup, 1) := by decide +kernel
theorem dX5_init_216 : decode cX5_init 216 = .ok (.bipush 13, 2) := by decide +kernel
theorem dX5_init_218 : decode cX5_init 218 = .ok (.bipush 119, 2) := by decide +kernel
theorem dX5_init_220 : decode cX5_init 220 = .ok (.iastore, 1) := by decide +kernel
theorem dX5_init_221 : decode cX5_init 221 = .ok (.dup, 1) := by decide +kernel
theorem dX5_init_222 : decode cX5_init 222 = .ok (.bipush 14, 2) := by decide +kernel
theorem dX5_init_224 : decode cX5_init 224 = .ok (.bipush 32, 2) := by decide +kernel
theorem dX5_init_226 : decode cX5_init 226 = .ok (.iastore, 1) := by decide +kernel
theorem dX5_init_227 : decode cX5_init 227 = .ok (.dup, 1) := by decide +kernel
theorem dX5_init_228 : decode cX5_init 228 = .ok (.bipush 15, 2) := by decide +kernel
theorem dX5_init_230 : decode cX5_init 230 = .ok (.iconst 0, 1) := by decide +kernel
theorem dX5_init_231 : decode cX5_init 231 = .ok (.iastore, 1) := by decide +kernel
theorem dX5_init_232 : decode cX5_init 232 = .ok (.dup, 1) := by decide +kernel
theorem dX5_init_233 : decode cX5_init 233 = .ok (.bipush 16, 2) := by decide +kernel
theorem dX5_init_235 : decode cX5_init 235 = .ok (.bipush 115, 2) := by decide +kernel
theorem dX5_init_237 : decode cX5_init 237 = .ok (.iastore, 1) := by decide +kernel
theorem dX5_init_238 : decode cX5_init 238 = .ok (.dup, 1) := by decide +kernel
theorem dX5_init_239 : decode cX5_init 239 = .ok (.bipush 17, 2) := by decide +kernel
theorem dX5_init_241 : decode cX5_init 241 = .ok (.bipush 97, 2) := by decide +kernel
theorem dX5_init_243 : decode cX5_init 243 = .ok (.iastore, 1) := by decide +kernel
theorem dX5_init_244 : decode cX5_init 244 = .ok (.dup, 1) := by decide +kernel
theorem dX5_init_245 : decode cX5_init 245 = .ok (.bipush 18, 2) := by decide +kernel
theorem dX5_init_247 : decode cX5_init 247 = .ok (.bipush 121, 2) := by decide +kernel
theorem dX5_init_249 : decode cX5_init 249 = .ok (.iastore, 1) := by decide +kernel
theorem dX5_init_250 : decode cX5_init 250 = .ok (.dup, 1) := by decide +kernel
theorem dX5_init_251 : decode cX5_init 251 = .ok (.bipush 19, 2) := by decide +kernel
theorem dX5_init_253 : decode cX5_init 253 = .ok (.bipush 115, 2) := by decide +kernel
theorem dX5_init_255 : decode cX5_init 255 = .ok (.iastore, 1) := by decide +kernel
theorem dX5_init_256 : decode cX5_init 256 = .ok (.dup, 1) := by decide +kernel
theorem dX5_init_257 : decode cX5_init 257 = .ok (.bipush 20, 2) := by decide +kernel
theorem dX5_init_259 : decode cX5_init 259 = .ok (.bipush 32, 2) := by decide +kernel
theorem dX5_init_261 : decode cX5_init 261 = .ok (.iastore, 1) := by decide +kernel
theorem dX5_init_262 : decode cX5_init 262 = .ok (.dup, 1) := by decide +kernel
theorem dX5_init_263 : decode cX5_init 263 = .ok (.bipush 21, 2) := by decide +kernel
theorem dX5_init_265 : decode cX5_init 265 = .ok (.iconst 0, 1) := by decide +kernel
theorem dX5_init_266 : decode cX5_init 266 = .ok (.iastore, 1) := by decide +kernel
theorem dX5_init_267 : decode cX5_init 267 = .ok (.dup, 1) := by decide +kernel
theorem dX5_init_268 : decode cX5_init 268 = .ok (.bipush 22, 2) := by decide +kernel
theorem dX5_init_270 : decode cX5_init 270 = .ok (.bipush 107, 2) := by decide +kernel
theorem dX5_init_272 : decode cX5_init 272 = .ok (.iastore, 1) := by decide +kernel
theorem dX5_init_273 : decode cX5_init 273 = .ok (.dup, 1) := by decide +kernel
theorem dX5_init_274 : decode cX5_init 274 = .ok (.bipush 23, 2) := by decide +kernel
theorem dX5_init_276 : decode cX5_init 276 = .ok (.bipush 110, 2) := by decide +kernel
theorem dX5_init_278 : decode cX5_init 278 = .ok (.iastore, 1) := by decide +kernel
theorem dX5_init_279 : decode cX5_init 279 = .ok (.dup, 1) := by decide +kernel
theorem dX5_init_280 : decode cX5_init 280 = .ok (.bipush 24, 2) := by decide +kernel
theorem dX5_init_282 : decode cX5_init 282 = .ok (.bipush 111, 2) := by decide +kernel
theorem dX5_init_284 : decode cX5_init 284 = .ok (.iastore, 1) := by decide +kernel
theorem dX5_init_285 : decode cX5_init 285 = .ok (.dup, 1) := by decide +kernel
theorem dX5_init_286 : decode cX5_init 286 = .ok (.bipush 25, 2) := by decide +kernel
theorem dX5_init_288 : decode cX5_init 288 = .ok (.bipush 119, 2) := by decide +kernel
theorem dX5_init_290 : decode cX5_init 290 = .ok (.iastore, 1) := by decide +kernel
theorem dX5_init_291 : decode cX5_init 291 = .ok (.dup, 1) := by decide +kernel
theorem dX5_init_292 : decode cX5_init 292 = .ok (.bipush 26, 2) := by decide +kernel
theorem dX5_init_294 : decode cX5_init 294 = .ok (.bipush 110, 2) := by decide +kernel
theorem dX5_init_296 : decode cX5_init 296 = .ok (.iastore, 1) := by decide +kernel
theorem dX5_init_297 : decode cX5_init 297 = .ok (.dup, 1) := by decide +kernel
theorem dX5_init_298 : decode cX5_init 298 = .ok (.bipush 27, 2) := by decide +kernel
theorem dX5_init_300 : decode cX5_init 300 = .ok (.bipush 32, 2) := by decide +kernel
theorem dX5_init_302 : decode cX5_init 302 = .ok (.iastore, 1) := by decide +kernel
theorem dX5_init_303 : decode cX5_init 303 = .ok (.dup, 1) := by decide +kernel
theorem dX5_init_304 : decode cX5_init 304 = .ok (.bipush 28, 2) := by decide +kernel
theorem dX5_init_306 : decode cX5_init 306 = .ok (.iconst 0, 1) := by decide +kernel
theorem dX5_init_307 : decode cX5_init 307 = .ok (.iastore, 1) := by decide +kernel
theorem dX5_init_308 : decode cX5_init 308 = .ok (.putfield 70, 3) := by decide +kernel
theorem dX5_init_311 : decode cX5_init 311 = .ok (.aload_n 0, 1) := by decide +kernel
theorem dX5_init_312 : decode cX5_init 312 = .ok (.iconst 3, 1) := by decide +kernel
theorem dX5_init_313 : decode cX5_init 313 = .ok (.newarray .int, 2) := by decide +kernel
theorem dX5_init_315 : decode cX5_init 315 = .ok (.putfield 73, 3) := by decide +kernel
theorem dX5_init_318 : decode cX5_init 318 = .ok (.aload_n 0, 1) := by decide +kernel
theorem dX5_init_319 : decode cX5_init 319 = .ok (.bipush 120, 2) := by decide +kernel
theorem dX5_init_321 : decode cX5_init 321 = .ok (.newarray .int, 2) := by decide +kernel
theorem dX5_init_323 : decode cX5_init 323 = .ok (.putfield 76, 3) := by decide +kernel
theorem dX5_init_326 : decode cX5_init 326 = .ok (.aload_n 0, 1) := by decide +kernel
theorem dX5_init_327 : decode cX5_init 327 = .ok (.bipush 120, 2) := by decide +kernel
theorem dX5_init_329 : decode cX5_init 329 = .ok (.newarray .int, 2) := by decide +kernel
theorem dX5_init_331 : decode cX5_init 331 = .ok (.putfield 79, 3) := by decide +kernel
theorem dX5_init_334 : decode cX5_init 334 = .ok (.aload_n 0, 1) := by decide +kernel
theorem dX5_init_335 : decode cX5_init 335 = .ok (.iconst 2, 1) := by decide +kernel
theorem dX5_init_336 : decode cX5_init 336 = .ok (.newarray .long, 2) := by decide +kernel
theorem dX5_init_338 : decode cX5_init 338 = .ok (.putfield 82, 3) := by decide +kernel
theorem dX5_init_341 : decode cX5_init 341 = .ok (.aload_n 0, 1) := by decide +kernel
theorem dX5_init_342 : decode cX5_init 342 = .ok (.bipush 20, 2) := by decide +kernel
theorem dX5_init_344 : decode cX5_init 344 = .ok (.newarray .int, 2) := by decide +kernel
theorem dX5_init_346 : decode cX5_init 346 = .ok (.putfield 85, 3) := by decide +kernel
theorem dX5_init_349 : decode cX5_init 349 = .ok (.return_, 1) := by decide +kernel
theorem dX5_no_0 : decode cX5_no 0 = .ok (.aload_n 0, 1) := by decide +kernel
theorem dX5_no_1 : decode cX5_no 1 = .ok (.getfield 29, 3) := by decide +kernel
theorem dX5_no_4 : decode cX5_no 4 = .ok (.iload_n 1, 1) := by decide +kernel
theorem dX5_no_5 : decode cX5_no 5 = .ok (.ineg, 1) := by decide +kernel
theorem dX5_no_6 : decode cX5_no 6 = .ok (.dup2, 1) := by decide +kernel
theorem dX5_no_7 : decode cX5_no 7 = .ok (.iaload, 1) := by decide +kernel
theorem dX5_no_8 : decode cX5_no 8 = .ok (.iconst 1, 1) := by decide +kernel
theorem dX5_no_9 : decode cX5_no 9 = .ok (.iadd, 1) := by decide +kernel
theorem dX5_no_10 : decode cX5_no 10 = .ok (.iastore, 1) := by decide +kernel
theorem dX5_no_11 : decode cX5_no 11 = .ok (.iload_n 1, 1) := by decide +kernel
theorem dX5_no_12 : decode cX5_no 12 = .ok (.ireturn, 1) := by decide +kernel
theorem dX5_noTen_0 : decode cX5_noTen 0 = .ok (.aload_n 0, 1) := by decide +kernel
theorem dX5_noTen_1 : decode cX5_noTen 1 = .ok (.getfield 29, 3) := by decide +kernel
theorem dX5_noTen_4 : decode cX5_noTen 4 = .ok (.iload_n 1, 1) := by decide +kernel
theorem dX5_noTen_5 : decode cX5_noTen 5 = .ok (.ineg, 1) := by decide +kernel
theorem dX5_noTen_6 : decode cX5_noTen 6 = .ok (.dup2, 1) := by decide +kernel
theorem dX5_noTen_7 : decode cX5_noTen 7 = .ok (.iaload, 1) := by decide +kernel
theorem dX5_noTen_8 : decode cX5_noTen 8 = .ok (.iconst 1, 1) := by decide +kernel
theorem dX5_noTen_9 : decode cX5_noTen 9 = .ok (.iadd, 1) := by decide +kernel
theorem dX5_noTen_10 : decode cX5_noTen 10 = .ok (.iastore, 1) := by decide +kernel
theorem dX5_noTen_11 : decode cX5_noTen 11 = .ok (.iload_n 1, 1) := by decide +kernel
theorem dX5_noTen_12 : decode cX5_noTen 12 = .ok (.bipush 10, 2) := by decide +kernel
theorem dX5_noTen_14 : decode cX5_noTen 14 = .ok (.isub, 1) := by decide +kernel
theorem dX5_noTen_15 : decode cX5_noTen 15 = .ok (.ireturn, 1) := by decide +kernel
theorem dX5_noLow_0 : decode cX5_noLow 0 = .ok (.aload_n 0, 1) := by decide +kernel
theorem dX5_noLow_1 : decode cX5_noLow 1 = .ok (.getfield 29, 3) := by decide +kernel
theorem dX5_noLow_4 : decode cX5_noLow 4 = .ok (.iload_n 1, 1) := by decide +kernel
theorem dX5_noLow_5 : decode cX5_noLow 5 = .ok (.ineg, 1) := by decide +kernel
theorem dX5_noLow_6 : decode cX5_noLow 6 = .ok (.dup2, 1) := by decide +kernel
theorem dX5_noLow_7 : decode cX5_noLow 7 = .ok (.iaload, 1) := by decide +kernel
theorem dX5_noLow_8 : decode cX5_noLow 8 = .ok (.iconst 1, 1) := by decide +kernel
theorem dX5_noLow_9 : decode cX5_noLow 9 = .ok (.iadd, 1) := by decide +kernel
theorem dX5_noLow_10 : decode cX5_noLow 10 = .ok (.iastore, 1) := by decide +kernel
theorem dX5_noLow_11 : decode cX5_noLow 11 = .ok (.iload_n 1, 1) := by decide +kernel
theorem dX5_noLow_12 : decode cX5_noLow 12 = .ok (.ldc 88, 2) := by decide +kernel
theorem dX5_noLow_14 : decode cX5_noLow 14 = .ok (.isub, 1) := by decide +kernel
theorem dX5_noLow_15 : decode cX5_noLow 15 = .ok (.ireturn, 1) := by decide +kernel
theorem dX5_isShelf_0 : decode cX5_isShelf 0 = .ok (.iload_n 1, 1) := by decide +kernel
theorem dX5_isShelf_1 : decode cX5_isShelf 1 = .ok (.ifCond .lt 13, 3) := by decide +kernel
theorem dX5_isShelf_4 : decode cX5_isShelf 4 = .ok (.iload_n 1, 1) := by decide +kernel
theorem dX5_isShelf_5 : decode cX5_isShelf 5 = .ok (.bipush 8, 2) := by decide +kernel
theorem dX5_isShelf_7 : decode cX5_isShelf 7 = .ok (.if_icmp .ge 7, 3) := by decide +kernel
theorem dX5_isShelf_10 : decode cX5_isShelf 10 = .ok (.iconst 1, 1) := by decide +kernel
theorem dX5_isShelf_11 : decode cX5_isShelf 11 = .ok (.goto 4, 3) := by decide +kernel
theorem dX5_isShelf_14 : decode cX5_isShelf 14 = .ok (.iconst 0, 1) := by decide +kernel
theorem dX5_isShelf_15 : decode cX5_isShelf 15 = .ok (.ireturn, 1) := by decide +kernel
theorem dX5_isFact_0 : decode cX5_isFact 0 = .ok (.iload_n 1, 1) := by decide +kernel
theorem dX5_isFact_1 : decode cX5_isFact 1 = .ok (.ifCond .lt 15, 3) := by decide +kernel
theorem dX5_isFact_4 : decode cX5_isFact 4 = .ok (.iload_n 1, 1) := by decide +kernel
theorem dX5_isFact_5 : decode cX5_isFact 5 = .ok (.aload_n 0, 1) := by decide +kernel
theorem dX5_isFact_6 : decode cX5_isFact 6 = .ok (.getfield 89, 3) := by decide +kernel
theorem dX5_isFact_9 : decode cX5_isFact 9 = .ok (.if_icmp .ge 7, 3) := by decide +kernel
theorem dX5_isFact_12 : decode cX5_isFact 12 = .ok (.iconst 1, 1) := by decide +kernel
theorem dX5_isFact_13 : decode cX5_isFact 13 = .ok (.goto 4, 3) := by decide +kernel
theorem dX5_isFact_16 : decode cX5_isFact 16 = .ok (.iconst 0, 1) := by decide +kernel
theorem dX5_isFact_17 : decode cX5_isFact 17 = .ok (.ireturn, 1) := by decide +kernel
theorem dX5_isSpeaker_0 : decode cX5_isSpeaker 0 = .ok (.iload_n 1, 1) := by decide +kernel
theorem dX5_isSpeaker_1 : decode cX5_isSpeaker 1 = .ok (.ifCond .lt 15, 3) := by decide +kernel
theorem dX5_isSpeaker_4 : decode cX5_isSpeaker 4 = .ok (.iload_n 1, 1) := by decide +kernel
theorem dX5_isSpeaker_5 : decode cX5_isSpeaker 5 = .ok (.aload_n 0, 1) := by decide +kernel
theorem dX5_isSpeaker_6 : decode cX5_isSpeaker 6 = .ok (.getfield 92, 3) := by decide +kernel
theorem dX5_isSpeaker_9 : decode cX5_isSpeaker 9 = .ok (.if_icmp .ge 7, 3) := by decide +kernel
theorem dX5_isSpeaker_12 : decode cX5_isSpeaker 12 = .ok (.iconst 1, 1) := by decide +kernel
theorem dX5_isSpeaker_13 : decode cX5_isSpeaker 13 = .ok (.goto 4, 3) := by decide +kernel
theorem dX5_isSpeaker_16 : decode cX5_isSpeaker 16 = .ok (.iconst 0, 1) := by decide +kernel
theorem dX5_isSpeaker_17 : decode cX5_isSpeaker 17 = .ok (.ireturn, 1) := by decide +kernel
theorem dX5_row_0 : decode cX5_row 0 = .ok (.aload_n 0, 1) := by decide +kernel
theorem dX5_row_1 : decode cX5_row 1 = .ok (.iload_n 1, 1) := by decide +kernel
theorem dX5_row_2 : decode cX5_row 2 = .ok (.invokevirtual 95, 3) := by decide +kernel
theorem dX5_row_5 : decode cX5_row 5 = .ok (.ifCond .ne 9, 3) := by decide +kernel
theorem dX5_row_8 : decode cX5_row 8 = .ok (.aload_n 0, 1) := by decide +kernel
theorem dX5_row_9 : decode cX5_row 9 = .ok (.iconst (-1), 1) := by decide +kernel
theorem dX5_row_10 : decode cX5_row 10 = .ok (.invokevirtual 99, 3) := by decide +kernel
theorem dX5_row_13 : decode cX5_row 13 = .ok (.ireturn, 1) := by decide +kernel
theorem dX5_row_14 : decode cX5_row 14 = .ok (.iload_n 3, 1) := by decide +kernel
theorem dX5_row_15 : decode cX5_row 15 = .ok (.ifCond .ge 10, 3) := by decide +kernel
theorem dX5_row_18 : decode cX5_row 18 = .ok (.aload_n 0, 1) := by decide +kernel
theorem dX5_row_19 : decode cX5_row 19 = .ok (.bipush (-4), 2) := by decide +kernel
theorem dX5_row_21 : decode cX5_row 21 = .ok (.invokevirtual 99, 3) := by decide +kernel
theorem dX5_row_24 : decode cX5_row 24 = .ok (.ireturn, 1) := by decide +kernel
theorem dX5_row_25 : decode cX5_row 25 = .ok (.iload_n 2, 1) := by decide +kernel
theorem dX5_row_26 : decode cX5_row 26 = .ok (.ifCond .lt 8, 3) := by decide +kernel
theorem dX5_row_29 : decode cX5_row 29 = .ok (.iload_n 2, 1) := by decide +kernel
theorem dX5_row_30 : decode cX5_row 30 = .ok (.iconst 3, 1) := by decide +kernel
theorem dX5_row_31 : decode cX5_row 31 = .ok (.if_icmp .le 10, 3) := by decide +kernel
theorem dX5_row_34 : decode cX5_row 34 = .ok (.aload_n 0, 1) := by decide +kernel
theorem dX5_row_35 : decode cX5_row 35 = .ok (.bipush (-6), 2) := by decide +kernel
theorem dX5_row_37 : decode cX5_row 37 = .ok (.invokevirtual 99, 3) := by decide +kernel
theorem dX5_row_40 : decode cX5_row 40 = .ok (.ireturn, 1) := by decide +kernel
theorem dX5_row_41 : decode cX5_row 41 = .ok (.iload_n 3, 1) := by decide +kernel
theorem dX5_row_42 : decode cX5_row 42 = .ok (.sipush 160, 3) := by decide +kernel
theorem dX5_row_45 : decode cX5_row 45 = .ok (.if_icmp .le 10, 3) := by decide +kernel
theorem dX5_row_48 : decode cX5_row 48 = .ok (.aload_n 0, 1) := by decide +kernel
theorem dX5_row_49 : decode cX5_row 49 = .ok (.bipush (-7), 2) := by decide +kernel
theorem dX5_row_51 : decode cX5_row 51 = .ok (.invokevirtual 99, 3) := by decide +kernel
theorem dX5_row_54 : decode cX5_row 54 = .ok (.ireturn, 1) := by decide +kernel
theorem dX5_row_55 : decode cX5_row 55 = .ok (.aload_n 0, 1) := by decide +kernel
theorem dX5_row_56 : decode cX5_row 56 = .ok (.getfield 51, 3) := by decide +kernel
theorem dX5_row_59 : decode cX5_row 59 = .ok (.iload_n 1, 1) := by decide +kernel
theorem dX5_row_60 : decode cX5_row 60 = .ok (.iconst 1, 1) := by decide +kernel
theorem dX5_row_61 : decode cX5_row 61 = .ok (.iastore, 1) := by decide +kernel
theorem dX5_row_62 : decode cX5_row 62 = .ok (.aload_n 0, 1) := by decide +kernel
theorem dX5_row_63 : decode cX5_row 63 = .ok (.getfield 54, 3) := by decide +kernel
theorem dX5_row_66 : decode cX5_row 66 = .ok (.iload_n 1, 1) := by decide +kernel
theorem dX5_row_67 : decode cX5_row 67 = .ok (.iload_n 2, 1) := by decide +kernel
theorem dX5_row_68 : decode cX5_row 68 = .ok (.iastore, 1) := by decide +kernel
theorem dX5_row_69 : decode cX5_row 69 = .ok (.aload_n 0, 1) := by decide +kernel
theorem dX5_row_70 : decode cX5_row 70 = .ok (.getfield 57, 3) := by decide +kernel
theorem dX5_row_73 : decode cX5_row 73 = .ok (.iload_n 1, 1) := by decide +kernel
theorem dX5_row_74 : decode cX5_row 74 = .ok (.iload_n 3, 1) := by decide +kernel
theorem dX5_row_75 : decode cX5_row 75 = .ok (.iastore, 1) := by decide +kernel
theorem dX5_row_76 : decode cX5_row 76 = .ok (.iconst 0, 1) := by decide +kernel
theorem dX5_row_77 : decode cX5_row 77 = .ok (.istore 4, 2) := by decide +kernel
theorem dX5_row_79 : decode cX5_row 79 = .ok (.iload 4, 2) := by decide +kernel
theorem dX5_row_81 : decode cX5_row 81 = .ok (.sipush 160, 3) := by decide +kernel
theorem dX5_row_84 : decode cX5_row 84 = .ok (.if_icmp .ge 23, 3) := by decide +kernel
theorem dX5_row_87 : decode cX5_row 87 = .ok (.aload_n 0, 1) := by decide +kernel
theorem dX5_row_88 : decode cX5_row 88 = .ok (.getfield 63, 3) := by decide +kernel
theorem dX5_row_91 : decode cX5_row 91 = .ok (.sipush 160, 3) := by decide +kernel
theorem dX5_row_94 : decode cX5_row 94 = .ok (.iload_n 1, 1) := by decide +kernel
theorem dX5_row_95 : decode cX5_row 95 = .ok (.imul, 1) := by decide +kernel
theorem dX5_row_96 : decode cX5_row 96 = .ok (.iload 4, 2) := by decide +kernel
theorem dX5_row_98 : decode cX5_row 98 = .ok (.iadd, 1) := by decide +kernel
theorem dX5_row_99 : decode cX5_row 99 = .ok (.lconst 0, 1) := by decide +kernel
theorem dX5_row_100 : decode cX5_row 100 = .ok (.lastore, 1) := by decide +kernel
theorem dX5_row_101 : decode cX5_row 101 = .ok (.iinc 4 1, 3) := by decide +kernel
theorem dX5_row_104 : decode cX5_row 104 = .ok (.goto (-25), 3) := by decide +kernel
theorem dX5_row_107 : decode cX5_row 107 = .ok (.iconst 1, 1) := by decide +kernel
theorem dX5_row_108 : decode cX5_row 108 = .ok (.ireturn, 1) := by decide +kernel
theorem dX5_set_0 : decode cX5_set 0 = .ok (.aload_n 0, 1) := by decide +kernel
theorem dX5_set_1 : decode cX5_set 1 = .ok (.iload_n 1, 1) := by decide +kernel
theorem dX5_set_2 : decode cX5_set 2 = .ok (.invokevirtual 95, 3) := by decide +kernel
theorem dX5_set_5 : decode cX5_set 5 = .ok (.ifCond .ne 9, 3) := by decide +kernel
theorem dX5_set_8 : decode cX5_set 8 = .ok (.aload_n 0, 1) := by decide +kernel
theorem dX5_set_9 : decode cX5_set 9 = .ok (.iconst (-1), 1) := by decide +kernel
theorem dX5_set_10 : decode cX5_set 10 = .ok (.invokevirtual 99, 3) := by decide +kernel
theorem dX5_set_13 : decode cX5_set 13 = .ok (.ireturn, 1) := by decide +kernel
theorem dX5_set_14 : decode cX5_set 14 = .ok (.aload_n 0, 1) := by decide +kernel
theorem dX5_set_15 : decode cX5_set 15 = .ok (.getfield 51, 3) := by decide +kernel
theorem dX5_set_18 : decode cX5_set 18 = .ok (.iload_n 1, 1) := by decide +kernel
theorem dX5_set_19 : decode cX5_set 19 = .ok (.iaload, 1) := by decide +kernel
theorem dX5_set_20 : decode cX5_set 20 = .ok (.iconst 2, 1) := by decide +kernel
theorem dX5_set_21 : decode cX5_set 21 = .ok (.if_icmp .ne 10, 3) := by decide +kernel
theorem dX5_set_24 : decode cX5_set 24 = .ok (.aload_n 0, 1) := by decide +kernel
theorem dX5_set_25 : decode cX5_set 25 = .ok (.bipush (-2), 2) := by decide +kernel
theorem dX5_set_27 : decode cX5_set 27 = .ok (.invokevirtual 99, 3) := by decide +kernel
theorem dX5_set_30 : decode cX5_set 30 = .ok (.ireturn, 1) := by decide +kernel
theorem dX5_set_31 : decode cX5_set 31 = .ok (.aload_n 0, 1) := by decide +kernel
theorem dX5_set_32 : decode cX5_set 32 = .ok (.getfield 51, 3) := by decide +kernel
theorem dX5_set_35 : decode cX5_set 35 = .ok (.iload_n 1, 1) := by decide +kernel
theorem dX5_set_36 : decode cX5_set 36 = .ok (.iaload, 1) := by decide +kernel
theorem dX5_set_37 : decode cX5_set 37 = .ok (.ifCond .ne 10, 3) := by decide +kernel
theorem dX5_set_40 : decode cX5_set 40 = .ok (.aload_n 0, 1) := by decide +kernel
theorem dX5_set_41 : decode cX5_set 41 = .ok (.bipush (-3), 2) := by decide +kernel
theorem dX5_set_43 : decode cX5_set 43 = .ok (.invokevirtual 99, 3) := by decide +kernel
theorem dX5_set_46 : decode cX5_set 46 = .ok (.ireturn, 1) := by decide +kernel
theorem dX5_set_47 : decode cX5_set 47 = .ok (.iload_n 2, 1) := by decide +kernel
theorem dX5_set_48 : decode cX5_set 48 = .ok (.ifCond .lt 13, 3) := by decide +kernel
theorem dX5_set_51 : decode cX5_set 51 = .ok (.iload_n 2, 1) := by decide +kernel
theorem dX5_set_52 : decode cX5_set 52 = .ok (.aload_n 0, 1) := by decide +kernel
theorem dX5_set_53 : decode cX5_set 53 = .ok (.getfield 57, 3) := by decide +kernel
theorem dX5_set_56 : decode cX5_set 56 = .ok (.iload_n 1, 1) := by decide +kernel
theorem dX5_set_57 : decode cX5_set 57 = .ok (.iaload, 1) := by decide +kernel
theorem dX5_set_58 : decode cX5_set 58 = .ok (.if_icmp .lt 10, 3) := by decide +kernel
theorem dX5_set_61 : decode cX5_set 61 = .ok (.aload_n 0, 1) := by decide +kernel
theorem dX5_set_62 : decode cX5_set 62 = .ok (.bipush (-5), 2) := by decide +kernel
theorem dX5_set_64 : decode cX5_set 64 = .ok (.invokevirtual 99, 3) := by decide +kernel
theorem dX5_set_67 : decode cX5_set 67 = .ok (.ireturn, 1) := by decide +kernel
theorem dX5_set_68 : decode cX5_set 68 = .ok (.aload_n 0, 1) := by decide +kernel
theorem dX5_set_69 : decode cX5_set 69 = .ok (.getfield 63, 3) := by decide +kernel
theorem dX5_set_72 : decode cX5_set 72 = .ok (.sipush 160, 3) := by decide +kernel
theorem dX5_set_75 : decode cX5_set 75 = .ok (.iload_n 1, 1) := by decide +kernel
theorem dX5_set_76 : decode cX5_set 76 = .ok (.imul, 1) := by decide +kernel
theorem dX5_set_77 : decode cX5_set 77 = .ok (.iload_n 2, 1) := by decide +kernel
theorem dX5_set_78 : decode cX5_set 78 = .ok (.iadd, 1) := by decide +kernel
theorem dX5_set_79 : decode cX5_set 79 = .ok (.aload_n 0, 1) := by decide +kernel
theorem dX5_set_80 : decode cX5_set 80 = .ok (.getfield 54, 3) := by decide +kernel
theorem dX5_set_83 : decode cX5_set 83 = .ok (.iload_n 1, 1) := by decide +kernel
theorem dX5_set_84 : decode cX5_set 84 = .ok (.iaload, 1) := by decide +kernel
theorem dX5_set_85 : decode cX5_set 85 = .ok (.ifCond .ne 10, 3) := by decide +kernel
theorem dX5_set_88 : decode cX5_set 88 = .ok (.lload_n 3, 1) := by decide +kernel
theorem dX5_set_89 : decode cX5_set 89 = .ok (.l2i, 1) := by decide +kernel
theorem dX5_set_90 : decode cX5_set 90 = .ok (.i2b, 1) := by decide +kernel
theorem dX5_set_91 : decode cX5_set 91 = .ok (.i2l, 1) := by decide +kernel
theorem dX5_set_92 : decode cX5_set 92 = .ok (.goto 37, 3) := by decide +kernel
theorem dX5_set_95 : decode cX5_set 95 = .ok (.aload_n 0, 1) := by decide +kernel
theorem dX5_set_96 : decode cX5_set 96 = .ok (.getfield 54, 3) := by decide +kernel
theorem dX5_set_99 : decode cX5_set 99 = .ok (.iload_n 1, 1) := by decide +kernel
theorem dX5_set_100 : decode cX5_set 100 = .ok (.iaload, 1) := by decide +kernel
theorem dX5_set_101 : decode cX5_set 101 = .ok (.iconst 1, 1) := by decide +kernel
theorem dX5_set_102 : decode cX5_set 102 = .ok (.if_icmp .ne 10, 3) := by decide +kernel
theorem dX5_set_105 : decode cX5_set 105 = .ok (.lload_n 3, 1) := by decide +kernel
theorem dX5_set_106 : decode cX5_set 106 = .ok (.l2i, 1) := by decide +kernel
theorem dX5_set_107 : decode cX5_set 107 = .ok (.i2s, 1) := by decide +kernel
theorem dX5_set_108 : decode cX5_set 108 = .ok (.i2l, 1) := by decide +kernel
theorem dX5_set_109 : decode cX5_set 109 = .ok (.goto 20, 3) := by decide +kernel
theorem dX5_set_112 : decode cX5_set 112 = .ok (.aload_n 0, 1) := by decide +kernel
theorem dX5_set_113 : decode cX5_set 113 = .ok (.getfield 54, 3) := by decide +kernel
theorem dX5_set_116 : decode cX5_set 116 = .ok (.iload_n 1, 1) := by decide +kernel
theorem dX5_set_117 : decode cX5_set 117 = .ok (.iaload, 1) := by decide +kernel
theorem dX5_set_118 : decode cX5_set 118 = .ok (.iconst 2, 1) := by decide +kernel
theorem dX5_set_119 : decode cX5_set 119 = .ok (.if_icmp .ne 9, 3) := by decide +kernel
theorem dX5_set_122 : decode cX5_set 122 = .ok (.lload_n 3, 1) := by decide +kernel
theorem dX5_set_123 : decode cX5_set 123 = .ok (.l2i, 1) := by decide +kernel
theorem dX5_set_124 : decode cX5_set 124 = .ok (.i2l, 1) := by decide +kernel
theorem dX5_set_125 : decode cX5_set 125 = .ok (.goto 4, 3) := by decide +kernel
theorem dX5_set_128 : decode cX5_set 128 = .ok (.lload_n 3, 1) := by decide +kernel
theorem dX5_set_129 : decode cX5_set 129 = .ok (.lastore, 1) := by decide +kernel
theorem dX5_set_130 : decode cX5_set 130 = .ok (.iconst 1, 1) := by decide +kernel
theorem dX5_set_131 : decode cX5_set 131 = .ok (.ireturn, 1) := by decide +kernel
theorem dX5_copy_0 : decode cX5_copy 0 = .ok (.aload_n 0, 1) := by decide +kernel
theorem dX5_copy_1 : decode cX5_copy 1 = .ok (.iload_n 1, 1) := by decide +kernel
theorem dX5_copy_2 : decode cX5_copy 2 = .ok (.invokevirtual 95, 3) := by decide +kernel
theorem dX5_copy_5 : decode cX5_copy 5 = .ok (.ifCond .eq 11, 3) := by decide +kernel
theorem dX5_copy_8 : decode cX5_copy 8 = .ok (.aload_n 0, 1) := by decide +kernel
theorem dX5_copy_9 : decode cX5_copy 9 = .ok (.iload_n 2, 1) := by decide +kernel
theorem dX5_copy_10 : decode cX5_copy 10 = .ok (.invokevirtual 95, 3) := by decide +kernel
theorem dX5_copy_13 : decode cX5_copy 13 = .ok (.ifCond .ne 9, 3) := by decide +kernel
theorem dX5_copy_16 : decode cX5_copy 16 = .ok (.aload_n 0, 1) := by decide +kernel
theorem dX5_copy_17 : decode cX5_copy 17 = .ok (.iconst (-1), 1) := by decide +kernel
theorem dX5_copy_18 : decode cX5_copy 18 = .ok (.invokevirtual 99, 3) := by decide +kernel
theorem dX5_copy_21 : decode cX5_copy 21 = .ok (.ireturn, 1) := by decide +kernel
theorem dX5_copy_22 : decode cX5_copy 22 = .ok (.aload_n 0, 1) := by decide +kernel
theorem dX5_copy_23 : decode cX5_copy 23 = .ok (.getfield 51, 3) := by decide +kernel
theorem dX5_copy_26 : decode cX5_copy 26 = .ok (.iload_n 1, 1) := by decide +kernel
theorem dX5_copy_27 : decode cX5_copy 27 = .ok (.iaload, 1) := by decide +kernel
theorem dX5_copy_28 : decode cX5_copy 28 = .ok (.iconst 2, 1) := by decide +kernel
theorem dX5_copy_29 : decode cX5_copy 29 = .ok (.if_icmp .eq 48, 3) := by decide +kernel
theorem dX5_copy_32 : decode cX5_copy 32 = .ok (.aload_n 0, 1) := by decide +kernel
theorem dX5_copy_33 : decode cX5_copy 33 = .ok (.getfield 51, 3) := by decide +kernel
theorem dX5_copy_36 : decode cX5_copy 36 = .ok (.iload_n 2, 1) := by decide +kernel
theorem dX5_copy_37 : decode cX5_copy 37 = .ok (.iaload, 1) := by decide +kernel
theorem dX5_copy_38 : decode cX5_copy 38 = .ok (.iconst 2, 1) := by decide +kernel
theorem dX5_copy_39 : decode cX5_copy 39 = .ok (.if_icmp .eq 38, 3) := by decide +kernel
theorem dX5_copy_42 : decode cX5_copy 42 = .ok (.aload_n 0, 1) := by decide +kernel
theorem dX5_copy_43 : decode cX5_copy 43 = .ok (.getfield 51, 3) := by decide +kernel
theorem dX5_copy_46 : decode cX5_copy 46 = .ok (.iload_n 1, 1) := by decide +kernel
theorem dX5_copy_47 : decode cX5_copy 47 = .ok (.iaload, 1) := by decide +kernel
theorem dX5_copy_48 : decode cX5_copy 48 = .ok (.iconst 1, 1) := by decide +kernel
theorem dX5_copy_49 : decode cX5_copy 49 = .ok (.if_icmp .ne 35, 3) := by decide +kernel
theorem dX5_copy_52 : decode cX5_copy 52 = .ok (.aload_n 0, 1) := by decide +kernel
theorem dX5_copy_53 : decode cX5_copy 53 = .ok (.getfield 51, 3) := by decide +kernel
theorem dX5_copy_56 : decode cX5_copy 56 = .ok (.iload_n 2, 1) := by decide +kernel
theorem dX5_copy_57 : decode cX5_copy 57 = .ok (.iaload, 1) := by decide +kernel
theorem dX5_copy_58 : decode cX5_copy 58 = .ok (.iconst 1, 1) := by decide +kernel
theorem dX5_copy_59 : decode cX5_copy 59 = .ok (.if_icmp .ne 25, 3) := by decide +kernel
theorem dX5_copy_62 : decode cX5_copy 62 = .ok (.aload_n 0, 1) := by decide +kernel
theorem dX5_copy_63 : decode cX5_copy 63 = .ok (.getfield 54, 3) := by decide +kernel
theorem dX5_copy_66 : decode cX5_copy 66 = .ok (.iload_n 1, 1) := by decide +kernel
theorem dX5_copy_67 : decode cX5_copy 67 = .ok (.iaload, 1) := by decide +kernel
theorem dX5_copy_68 : decode cX5_copy 68 = .ok (.aload_n 0, 1) := by decide +kernel
theorem dX5_copy_69 : decode cX5_copy 69 = .ok (.getfield 54, 3) := by decide +kernel
theorem dX5_copy_72 : decode cX5_copy 72 = .ok (.iload_n 2, 1) := by decide +kernel
theorem dX5_copy_73 : decode cX5_copy 73 = .ok (.iaload, 1) := by decide +kernel
theorem dX5_copy_74 : decode cX5_copy 74 = .ok (.if_icmp .eq 10, 3) := by decide +kernel
theorem dX5_copy_77 : decode cX5_copy 77 = .ok (.aload_n 0, 1) := by decide +kernel
theorem dX5_copy_78 : decode cX5_copy 78 = .ok (.bipush (-2), 2) := by decide +kernel
theorem dX5_copy_80 : decode cX5_copy 80 = .ok (.invokevirtual 99, 3) := by decide +kernel
theorem dX5_copy_83 : decode cX5_copy 83 = .ok (.ireturn, 1) := by decide +kernel
theorem dX5_copy_84 : decode cX5_copy 84 = .ok (.aload_n 0, 1) := by decide +kernel
theorem dX5_copy_85 : decode cX5_copy 85 = .ok (.getfield 51, 3) := by decide +kernel
theorem dX5_copy_88 : decode cX5_copy 88 = .ok (.iload_n 1, 1) := by decide +kernel
theorem dX5_copy_89 : decode cX5_copy 89 = .ok (.iaload, 1) := by decide +kernel
theorem dX5_copy_90 : decode cX5_copy 90 = .ok (.ifCond .eq 12, 3) := by decide +kernel
theorem dX5_copy_93 : decode cX5_copy 93 = .ok (.aload_n 0, 1) := by decide +kernel
theorem dX5_copy_94 : decode cX5_copy 94 = .ok (.getfield 51, 3) := by decide +kernel
theorem dX5_copy_97 : decode cX5_copy 97 = .ok (.iload_n 2, 1) := by decide +kernel
theorem dX5_copy_98 : decode cX5_copy 98 = .ok (.iaload, 1) := by decide +kernel
theorem dX5_copy_99 : decode cX5_copy 99 = .ok (.ifCond .ne 10, 3) := by decide +kernel
theorem dX5_copy_102 : decode cX5_copy 102 = .ok (.aload_n 0, 1) := by decide +kernel
theorem dX5_copy_103 : decode cX5_copy 103 = .ok (.bipush (-3), 2) := by decide +kernel
theorem dX5_copy_105 : decode cX5_copy 105 = .ok (.invokevirtual 99, 3) := by decide +kernel
theorem dX5_copy_108 : decode cX5_copy 108 = .ok (.ireturn, 1) := by decide +kernel
theorem dX5_copy_109 : decode cX5_copy 109 = .ok (.iload 5, 2) := by decide +kernel
theorem dX5_copy_111 : decode cX5_copy 111 = .ok (.ifCond .ge 10, 3) := by decide +kernel
theorem dX5_copy_114 : decode cX5_copy 114 = .ok (.aload_n 0, 1) := by decide +kernel
theorem dX5_copy_115 : decode cX5_copy 115 = .ok (.bipush (-4), 2) := by decide +kernel
theorem dX5_copy_117 : decode cX5_copy 117 = .ok (.invokevirtual 99, 3) := by decide +kernel
theorem dX5_copy_120 : decode cX5_copy 120 = .ok (.ireturn, 1) := by decide +kernel
theorem dX5_copy_121 : decode cX5_copy 121 = .ok (.iload_n 3, 1) := by decide +kernel
theorem dX5_copy_122 : decode cX5_copy 122 = .ok (.ifCond .lt 35, 3) := by decide +kernel
theorem dX5_copy_125 : decode cX5_copy 125 = .ok (.iload 4, 2) := by decide +kernel
theorem dX5_copy_127 : decode cX5_copy 127 = .ok (.ifCond .lt 30, 3) := by decide +kernel
theorem dX5_copy_130 : decode cX5_copy 130 = .ok (.iload_n 3, 1) := by decide +kernel
theorem dX5_copy_131 : decode cX5_copy 131 = .ok (.aload_n 0, 1) := by decide +kernel
theorem dX5_copy_132 : decode cX5_copy 132 = .ok (.getfield 57, 3) := by decide +kernel
theorem dX5_copy_135 : decode cX5_copy 135 = .ok (.iload_n 1, 1) := by decide +kernel
theorem dX5_copy_136 : decode cX5_copy 136 = .ok (.iaload, 1) := by decide +kernel
theorem dX5_copy_137 : decode cX5_copy 137 = .ok (.iload 5, 2) := by decide +kernel
theorem dX5_copy_139 : decode cX5_copy 139 = .ok (.isub, 1) := by decide +kernel
theorem dX5_copy_140 : decode cX5_copy 140 = .ok (.if_icmp .gt 17, 3) := by decide +kernel
theorem dX5_copy_143 : decode cX5_copy 143 = .ok (.iload 4, 2) := by decide +kernel
theorem dX5_copy_145 : decode cX5_copy 145 = .ok (.aload_n 0, 1) := by decide +kernel
theorem dX5_copy_146 : decode cX5_copy 146 = .ok (.getfield 57, 3) := by decide +kernel
theorem dX5_copy_149 : decode cX5_copy 149 = .ok (.iload_n 2, 1) := by decide +kernel
theorem dX5_copy_150 : decode cX5_copy 150 = .ok (.iaload, 1) := by decide +kernel
theorem dX5_copy_151 : decode cX5_copy 151 = .ok (.iload 5, 2) := by decide +kernel
theorem dX5_copy_153 : decode cX5_copy 153 = .ok (.isub, 1) := by decide +kernel
theorem dX5_copy_154 : decode cX5_copy 154 = .ok (.if_icmp .le 10, 3) := by decide +kernel
theorem dX5_copy_157 : decode cX5_copy 157 = .ok (.aload_n 0, 1) := by decide +kernel
theorem dX5_copy_158 : decode cX5_copy 158 = .ok (.bipush (-5), 2) := by decide +kernel
theorem dX5_copy_160 : decode cX5_copy 160 = .ok (.invokevirtual 99, 3) := by decide +kernel
theorem dX5_copy_163 : decode cX5_copy 163 = .ok (.ireturn, 1) := by decide +kernel
theorem dX5_copy_164 : decode cX5_copy 164 = .ok (.iconst 0, 1) := by decide +kernel
theorem dX5_copy_165 : decode cX5_copy 165 = .ok (.istore 6, 2) := by decide +kernel
theorem dX5_copy_167 : decode cX5_copy 167 = .ok (.iload 6, 2) := by decide +kernel
theorem dX5_copy_169 : decode cX5_copy 169 = .ok (.iload 5, 2) := by decide +kernel
theorem dX5_copy_171 : decode cX5_copy 171 = .ok (.if_icmp .ge 31, 3) := by decide +kernel
theorem dX5_copy_174 : decode cX5_copy 174 = .ok (.aload_n 0, 1) := by decide +kernel
theorem dX5_copy_175 : decode cX5_copy 175 = .ok (.getfield 67, 3) := by decide +kernel
theorem dX5_copy_178 : decode cX5_copy 178 = .ok (.iload 6, 2) := by decide +kernel
theorem dX5_copy_180 : decode cX5_copy 180 = .ok (.aload_n 0, 1) := by decide +kernel
theorem dX5_copy_181 : decode cX5_copy 181 = .ok (.getfield 63, 3) := by decide +kernel
theorem dX5_copy_184 : decode cX5_copy 184 = .ok (.sipush 160, 3) := by decide +kernel
theorem dX5_copy_187 : decode cX5_copy 187 = .ok (.iload_n 1, 1) := by decide +kernel
theorem dX5_copy_188 : decode cX5_copy 188 = .ok (.imul, 1) := by decide +kernel
theorem dX5_copy_189 : decode cX5_copy 189 = .ok (.iload_n 3, 1) := by decide +kernel
theorem dX5_copy_190 : decode cX5_copy 190 = .ok (.iadd, 1) := by decide +kernel
theorem dX5_copy_191 : decode cX5_copy 191 = .ok (.iload 6, 2) := by decide +kernel
theorem dX5_copy_193 : decode cX5_copy 193 = .ok (.iadd, 1) := by decide +kernel
theorem dX5_copy_194 : decode cX5_copy 194 = .ok (.laload, 1) := by decide +kernel
theorem dX5_copy_195 : decode cX5_copy 195 = .ok (.lastore, 1) := by decide +kernel
theorem dX5_copy_196 : decode cX5_copy 196 = .ok (.iinc 6 1, 3) := by decide +kernel
theorem dX5_copy_199 : decode cX5_copy 199 = .ok (.goto (-32), 3) := by decide +kernel
theorem dX5_copy_202 : decode cX5_copy 202 = .ok (.iconst 0, 1) := by decide +kernel
theorem dX5_copy_203 : decode cX5_copy 203 = .ok (.istore 6, 2) := by decide +kernel
theorem dX5_copy_205 : decode cX5_copy 205 = .ok (.iload 6, 2) := by decide +kernel
theorem dX5_copy_207 : decode cX5_copy 207 = .ok (.iload 5, 2) := by decide +kernel
theorem dX5_copy_209 : decode cX5_copy 209 = .ok (.if_icmp .ge 32, 3) := by decide +kernel
theorem dX5_copy_212 : decode cX5_copy 212 = .ok (.aload_n 0, 1) := by decide +kernel
theorem dX5_copy_213 : decode cX5_copy 213 = .ok (.getfield 63, 3) := by decide +kernel
theorem dX5_copy_216 : decode cX5_copy 216 = .ok (.sipush 160, 3) := by decide +kernel
theorem dX5_copy_219 : decode cX5_copy 219 = .ok (.iload_n 2, 1) := by decide +kernel
theorem dX5_copy_220 : decode cX5_copy 220 = .ok (.imul, 1) := by decide +kernel
theorem dX5_copy_221 : decode cX5_copy 221 = .ok (.iload 4, 2) := by decide +kernel
theorem dX5_copy_223 : decode cX5_copy 223 = .ok (.iadd, 1) := by decide +kernel
theorem dX5_copy_224 : decode cX5_copy 224 = .ok (.iload 6, 2) := by decide +kernel
theorem dX5_copy_226 : decode cX5_copy 226 = .ok (.iadd, 1) := by decide +kernel
theorem dX5_copy_227 : decode cX5_copy 227 = .ok (.aload_n 0, 1) := by decide +kernel
theorem dX5_copy_228 : decode cX5_copy 228 = .ok (.getfield 67, 3) := by decide +kernel
theorem dX5_copy_231 : decode cX5_copy 231 = .ok (.iload 6, 2) := by decide +kernel
theorem dX5_copy_233 : decode cX5_copy 233 = .ok (.laload, 1) := by decide +kernel
theorem dX5_copy_234 : decode cX5_copy 234 = .ok (.lastore, 1) := by decide +kernel
theorem dX5_copy_235 : decode cX5_copy 235 = .ok (.iinc 6 1, 3) := by decide +kernel
theorem dX5_copy_238 : decode cX5_copy 238 = .ok (.goto (-33), 3) := by decide +kernel
theorem dX5_copy_241 : decode cX5_copy 241 = .ok (.iconst 1, 1) := by decide +kernel
theorem dX5_copy_242 : decode cX5_copy 242 = .ok (.ireturn, 1) := by decide +kernel
theorem dX5_element_0 : decode cX5_element 0 = .ok (.aload_n 0, 1) := by decide +kernel
theorem dX5_element_1 : decode cX5_element 1 = .ok (.iload_n 1, 1) := by decide +kernel
theorem dX5_element_2 : decode cX5_element 2 = .ok (.invokevirtual 95, 3) := by decide +kernel
theorem dX5_element_5 : decode cX5_element 5 = .ok (.ifCond .eq 42, 3) := by decide +kernel
theorem dX5_element_8 : decode cX5_element 8 = .ok (.aload_n 0, 1) := by decide +kernel
theorem dX5_element_9 : decode cX5_element 9 = .ok (.getfield 51, 3) := by decide +kernel
theorem dX5_element_12 : decode cX5_element 12 = .ok (.iload_n 1, 1) := by decide +kernel
theorem dX5_element_13 : decode cX5_element 13 = .ok (.iaload, 1) := by decide +kernel
theorem dX5_element_14 : decode cX5_element 14 = .ok (.iconst 1, 1) := by decide +kernel
theorem dX5_element_15 : decode cX5_element 15 = .ok (.if_icmp .ne 32, 3) := by decide +kernel
theorem dX5_element_18 : decode cX5_element 18 = .ok (.iload_n 2, 1) := by decide +kernel
theorem dX5_element_19 : decode cX5_element 19 = .ok (.ifCond .lt 28, 3) := by decide +kernel
theorem dX5_element_22 : decode cX5_element 22 = .ok (.iload_n 2, 1) := by decide +kernel
theorem dX5_element_23 : decode cX5_element 23 = .ok (.aload_n 0, 1) := by decide +kernel
theorem dX5_element_24 : decode cX5_element 24 = .ok (.getfield 57, 3) := by decide +kernel
theorem dX5_element_27 : decode cX5_element 27 = .ok (.iload_n 1, 1) := by decide +kernel
theorem dX5_element_28 : decode cX5_element 28 = .ok (.iaload, 1) := by decide +kernel
theorem dX5_element_29 : decode cX5_element 29 = .ok (.if_icmp .ge 18, 3) := by decide +kernel
theorem dX5_element_32 : decode cX5_element 32 = .ok (.aload_n 0, 1) := by decide +kernel
theorem dX5_element_33 : decode cX5_element 33 = .ok (.getfield 63, 3) := by decide +kernel
theorem dX5_element_36 : decode cX5_element 36 = .ok (.sipush 160, 3) := by decide +kernel
theorem dX5_element_39 : decode cX5_element 39 = .ok (.iload_n 1, 1) := by decide +kernel
theorem dX5_element_40 : decode cX5_element 40 = .ok (.imul, 1) := by decide +kernel
theorem dX5_element_41 : decode cX5_element 41 = .ok (.iload_n 2, 1) := by decide +kernel
theorem dX5_element_42 : decode cX5_element 42 = .ok (.iadd, 1) := by decide +kernel
theorem dX5_element_43 : decode cX5_element 43 = .ok (.laload, 1) := by decide +kernel
theorem dX5_element_44 : decode cX5_element 44 = .ok (.goto 4, 3) := by decide +kernel
theorem dX5_element_47 : decode cX5_element 47 = .ok (.lconst 0, 1) := by decide +kernel
theorem dX5_element_48 : decode cX5_element 48 = .ok (.lreturn, 1) := by decide +kernel
theorem dX5_show_0 : decode cX5_show 0 = .ok (.aload_n 0, 1) := by decide +kernel
theorem dX5_show_1 : decode cX5_show 1 = .ok (.iload_n 1, 1) := by decide +kernel
theorem dX5_show_2 : decode cX5_show 2 = .ok (.invokevirtual 95, 3) := by decide +kernel
theorem dX5_show_5 : decode cX5_show 5 = .ok (.ifCond .eq 16, 3) := by decide +kernel
theorem dX5_show_8 : decode cX5_show 8 = .ok (.iload_n 2, 1) := by decide +kernel
theorem dX5_show_9 : decode cX5_show 9 = .ok (.iconst (-1), 1) := by decide +kernel
theorem dX5_show_10 : decode cX5_show 10 = .ok (.if_icmp .eq 17, 3) := by decide +kernel
theorem dX5_show_13 : decode cX5_show 13 = .ok (.aload_n 0, 1) := by decide +kernel
theorem dX5_show_14 : decode cX5_show 14 = .ok (.iload_n 2, 1) := by decide +kernel
theorem dX5_show_15 : decode cX5_show 15 = .ok (.invokevirtual 103, 3) := by decide +kernel
theorem dX5_show_18 : decode cX5_show 18 = .ok (.ifCond .ne 9, 3) := by decide +kernel
theorem dX5_show_21 : decode cX5_show 21 = .ok (.aload_n 0, 1) := by decide +kernel
theorem dX5_show_22 : decode cX5_show 22 = .ok (.iconst (-1), 1) := by decide +kernel
theorem dX5_show_23 : decode cX5_show 23 = .ok (.invokevirtual 99, 3) := by decide +kernel
theorem dX5_show_26 : decode cX5_show 26 = .ok (.ireturn, 1) := by decide +kernel
theorem dX5_show_27 : decode cX5_show 27 = .ok (.aload_n 0, 1) := by decide +kernel
theorem dX5_show_28 : decode cX5_show 28 = .ok (.getfield 51, 3) := by decide +kernel
theorem dX5_show_31 : decode cX5_show 31 = .ok (.iload_n 1, 1) := by decide +kernel
theorem dX5_show_32 : decode cX5_show 32 = .ok (.iload_n 2, 1) := by decide +kernel
theorem dX5_show_33 : decode cX5_show 33 = .ok (.iconst (-1), 1) := by decide +kernel
theorem dX5_show_34 : decode cX5_show 34 = .ok (.if_icmp .ne 7, 3) := by decide +kernel
theorem dX5_show_37 : decode cX5_show 37 = .ok (.iconst 0, 1) := by decide +kernel
theorem dX5_show_38 : decode cX5_show 38 = .ok (.goto 4, 3) := by decide +kernel
theorem dX5_show_41 : decode cX5_show 41 = .ok (.iconst 2, 1) := by decide +kernel
theorem dX5_show_42 : decode cX5_show 42 = .ok (.iastore, 1) := by decide +kernel
theorem dX5_show_43 : decode cX5_show 43 = .ok (.aload_n 0, 1) := by decide +kernel
theorem dX5_show_44 : decode cX5_show 44 = .ok (.getfield 60, 3) := by decide +kernel
theorem dX5_show_47 : decode cX5_show 47 = .ok (.iload_n 1, 1) := by decide +kernel
theorem dX5_show_48 : decode cX5_show 48 = .ok (.iload_n 2, 1) := by decide +kernel
theorem dX5_show_49 : decode cX5_show 49 = .ok (.iastore, 1) := by decide +kernel
theorem dX5_show_50 : decode cX5_show 50 = .ok (.iload_n 2, 1) := by decide +kernel
theorem dX5_show_51 : decode cX5_show 51 = .ok (.iconst (-1), 1) := by decide +kernel
theorem dX5_show_52 : decode cX5_show 52 = .ok (.if_icmp .ne 7, 3) := by decide +kernel
theorem dX5_show_55 : decode cX5_show 55 = .ok (.iconst 0, 1) := by decide +kernel
theorem dX5_show_56 : decode cX5_show 56 = .ok (.goto 4, 3) := by decide +kernel
theorem dX5_show_59 : decode cX5_show 59 = .ok (.iconst 1, 1) := by decide +kernel
theorem dX5_show_60 : decode cX5_show 60 = .ok (.ireturn, 1) := by decide +kernel
theorem dX5_holds_0 : decode cX5_holds 0 = .ok (.aload_n 0, 1) := by decide +kernel
theorem dX5_holds_1 : decode cX5_holds 1 = .ok (.iload_n 1, 1) := by decide +kernel
theorem dX5_holds_2 : decode cX5_holds 2 = .ok (.invokevirtual 95, 3) := by decide +kernel
theorem dX5_holds_5 : decode cX5_holds 5 = .ok (.ifCond .eq 12, 3) := by decide +kernel
theorem dX5_holds_8 : decode cX5_holds 8 = .ok (.aload_n 0, 1) := by decide +kernel
theorem dX5_holds_9 : decode cX5_holds 9 = .ok (.getfield 51, 3) := by decide +kernel
theorem dX5_holds_12 : decode cX5_holds 12 = .ok (.iload_n 1, 1) := by decide +kernel
theorem dX5_holds_13 : decode cX5_holds 13 = .ok (.iaload, 1) := by decide +kernel
theorem dX5_holds_14 : decode cX5_holds 14 = .ok (.ifCond .ne 5, 3) := by decide +kernel
theorem dX5_holds_17 : decode cX5_holds 17 = .ok (.iconst (-1), 1) := by decide +kernel
theorem dX5_holds_18 : decode cX5_holds 18 = .ok (.ireturn, 1) := by decide +kernel
theorem dX5_holds_19 : decode cX5_holds 19 = .ok (.aload_n 0, 1) := by decide +kernel
theorem dX5_holds_20 : decode cX5_holds 20 = .ok (.getfield 51, 3) := by decide +kernel
theorem dX5_holds_23 : decode cX5_holds 23 = .ok (.iload_n 1, 1) := by decide +kernel
theorem dX5_holds_24 : decode cX5_holds 24 = .ok (.iaload, 1) := by decide +kernel
theorem dX5_holds_25 : decode cX5_holds 25 = .ok (.iconst 1, 1) := by decide +kernel
theorem dX5_holds_26 : decode cX5_holds 26 = .ok (.if_icmp .ne 15, 3) := by decide +kernel
theorem dX5_holds_29 : decode cX5_holds 29 = .ok (.bipush 100, 2) := by decide +kernel
theorem dX5_holds_31 : decode cX5_holds 31 = .ok (.aload_n 0, 1) := by decide +kernel
theorem dX5_holds_32 : decode cX5_holds 32 = .ok (.getfield 54, 3) := by decide +kernel
theorem dX5_holds_35 : decode cX5_holds 35 = .ok (.iload_n 1, 1) := by decide +kernel
theorem dX5_holds_36 : decode cX5_holds 36 = .ok (.iaload, 1) := by decide +kernel
theorem dX5_holds_37 : decode cX5_holds 37 = .ok (.iadd, 1) := by decide +kernel
theorem dX5_holds_38 : decode cX5_holds 38 = .ok (.goto 9, 3) := by decide +kernel
theorem dX5_holds_41 : decode cX5_holds 41 = .ok (.aload_n 0, 1) := by decide +kernel
theorem dX5_holds_42 : decode cX5_holds 42 = .ok (.getfield 60, 3) := by decide +kernel
theorem dX5_holds_45 : decode cX5_holds 45 = .ok (.iload_n 1, 1) := by decide +kernel
theorem dX5_holds_46 : decode cX5_holds 46 = .ok (.iaload, 1) := by decide +kernel
theorem dX5_holds_47 : decode cX5_holds 47 = .ok (.ireturn, 1) := by decide +kernel
theorem dX5_says_0 : decode cX5_says 0 = .ok (.aload_n 0, 1) := by decide +kernel
theorem dX5_says_1 : decode cX5_says 1 = .ok (.iload_n 1, 1) := by decide +kernel
theorem dX5_says_2 : decode cX5_says 2 = .ok (.invokevirtual 95, 3) := by decide +kernel
theorem dX5_says_5 : decode cX5_says 5 = .ok (.ifCond .eq 13, 3) := by decide +kernel
theorem dX5_says_8 : decode cX5_says 8 = .ok (.iload_n 2, 1) := by decide +kernel
theorem dX5_says_9 : decode cX5_says 9 = .ok (.ifCond .lt 9, 3) := by decide +kernel
theorem dX5_says_12 : decode cX5_says 12 = .ok (.iload_n 2, 1) := by decide +kernel
theorem dX5_says_13 : decode cX5_says 13 = .ok (.bipush 6, 2) := by decide +kernel
theorem dX5_says_15 : decode cX5_says 15 = .ok (.if_icmp .le 9, 3) := by decide +kernel
theorem dX5_says_18 : decode cX5_says 18 = .ok (.aload_n 0, 1) := by decide +kernel
theorem dX5_says_19 : decode cX5_says 19 = .ok (.iconst (-1), 1) := by decide +kernel
theorem dX5_says_20 : decode cX5_says 20 = .ok (.invokevirtual 99, 3) := by decide +kernel
theorem dX5_says_23 : decode cX5_says 23 = .ok (.ireturn, 1) := by decide +kernel
theorem dX5_says_24 : decode cX5_says 24 = .ok (.aload_n 0, 1) := by decide +kernel
theorem dX5_says_25 : decode cX5_says 25 = .ok (.getfield 51, 3) := by decide +kernel
theorem dX5_says_28 : decode cX5_says 28 = .ok (.iload_n 1, 1) := by decide +kernel
theorem dX5_says_29 : decode cX5_says 29 = .ok (.iaload, 1) := by decide +kernel
theorem dX5_says_30 : decode cX5_says 30 = .ok (.iconst 1, 1) := by decide +kernel
theorem dX5_says_31 : decode cX5_says 31 = .ok (.if_icmp .ne 10, 3) := by decide +kernel
theorem dX5_says_34 : decode cX5_says 34 = .ok (.aload_n 0, 1) := by decide +kernel
theorem dX5_says_35 : decode cX5_says 35 = .ok (.bipush (-2), 2) := by decide +kernel
theorem dX5_says_37 : decode cX5_says 37 = .ok (.invokevirtual 99, 3) := by decide +kernel
theorem dX5_says_40 : decode cX5_says 40 = .ok (.ireturn, 1) := by decide +kernel
theorem dX5_says_41 : decode cX5_says 41 = .ok (.aload_n 0, 1) := by decide +kernel
theorem dX5_says_42 : decode cX5_says 42 = .ok (.getfield 51, 3) := by decide +kernel
theorem dX5_says_45 : decode cX5_says 45 = .ok (.iload_n 1, 1) := by decide +kernel
theorem dX5_says_46 : decode cX5_says 46 = .ok (.iaload, 1) := by decide +kernel
theorem dX5_says_47 : decode cX5_says 47 = .ok (.ifCond .ne 10, 3) := by decide +kernel
theorem dX5_says_50 : decode cX5_says 50 = .ok (.aload_n 0, 1) := by decide +kernel
theorem dX5_says_51 : decode cX5_says 51 = .ok (.bipush (-3), 2) := by decide +kernel
theorem dX5_says_53 : decode cX5_says 53 = .ok (.invokevirtual 99, 3) := by decide +kernel
theorem dX5_says_56 : decode cX5_says 56 = .ok (.ireturn, 1) := by decide +kernel
theorem dX5_says_57 : decode cX5_says 57 = .ok (.aload_n 0, 1) := by decide +kernel
theorem dX5_says_58 : decode cX5_says 58 = .ok (.getfield 60, 3) := by decide +kernel
theorem dX5_says_61 : decode cX5_says 61 = .ok (.iload_n 1, 1) := by decide +kernel
theorem dX5_says_62 : decode cX5_says 62 = .ok (.iaload, 1) := by decide +kernel
theorem dX5_says_63 : decode cX5_says 63 = .ok (.istore_n 3, 1) := by decide +kernel
theorem dX5_says_64 : decode cX5_says 64 = .ok (.aload_n 0, 1) := by decide +kernel
theorem dX5_says_65 : decode cX5_says 65 = .ok (.getfield 36, 3) := by decide +kernel
theorem dX5_says_68 : decode cX5_says 68 = .ok (.iload_n 3, 1) := by decide +kernel
theorem dX5_says_69 : decode cX5_says 69 = .ok (.iaload, 1) := by decide +kernel
theorem dX5_says_70 : decode cX5_says 70 = .ok (.istore 4, 2) := by decide +kernel
theorem dX5_says_72 : decode cX5_says 72 = .ok (.iload_n 2, 1) := by decide +kernel
theorem dX5_says_73 : decode cX5_says 73 = .ok (.ifCond .eq 38, 3) := by decide +kernel
theorem dX5_says_76 : decode cX5_says 76 = .ok (.iload_n 2, 1) := by decide +kernel
theorem dX5_says_77 : decode cX5_says 77 = .ok (.iload 4, 2) := by decide +kernel
theorem dX5_says_79 : decode cX5_says 79 = .ok (.if_icmp .eq 32, 3) := by decide +kernel
theorem dX5_says_82 : decode cX5_says 82 = .ok (.iload_n 2, 1) := by decide +kernel
theorem dX5_says_83 : decode cX5_says 83 = .ok (.iconst 1, 1) := by decide +kernel
theorem dX5_says_84 : decode cX5_says 84 = .ok (.if_icmp .ne 9, 3) := by decide +kernel
theorem dX5_says_87 : decode cX5_says 87 = .ok (.iload 4, 2) := by decide +kernel
theorem dX5_says_89 : decode cX5_says 89 = .ok (.iconst 3, 1) := by decide +kernel
theorem dX5_says_90 : decode cX5_says 90 = .ok (.if_icmp .eq 21, 3) := by decide +kernel
theorem dX5_says_93 : decode cX5_says 93 = .ok (.iload_n 2, 1) := by decide +kernel
theorem dX5_says_94 : decode cX5_says 94 = .ok (.iconst 4, 1) := by decide +kernel
theorem dX5_says_95 : decode cX5_says 95 = .ok (.if_icmp .ne 9, 3) := by decide +kernel
theorem dX5_says_98 : decode cX5_says 98 = .ok (.iload 4, 2) := by decide +kernel
theorem dX5_says_100 : decode cX5_says 100 = .ok (.iconst 5, 1) := by decide +kernel
theorem dX5_says_101 : decode cX5_says 101 = .ok (.if_icmp .eq 10, 3) := by decide +kernel
theorem dX5_says_104 : decode cX5_says 104 = .ok (.aload_n 0, 1) := by decide +kernel
theorem dX5_says_105 : decode cX5_says 105 = .ok (.bipush (-2), 2) := by decide +kernel
theorem dX5_says_107 : decode cX5_says 107 = .ok (.invokevirtual 99, 3) := by decide +kernel
theorem dX5_says_110 : decode cX5_says 110 = .ok (.ireturn, 1) := by decide +kernel
theorem dX5_says_111 : decode cX5_says 111 = .ok (.aload_n 0, 1) := by decide +kernel
theorem dX5_says_112 : decode cX5_says 112 = .ok (.iload_n 3, 1) := by decide +kernel
theorem dX5_says_113 : decode cX5_says 113 = .ok (.invokevirtual 106, 3) := by decide +kernel
theorem dX5_says_116 : decode cX5_says 116 = .ok (.istore 5, 2) := by decide +kernel
theorem dX5_says_118 : decode cX5_says 118 = .ok (.iload_n 2, 1) := by decide +kernel
theorem dX5_says_119 : decode cX5_says 119 = .ok (.ifCond .ne 8, 3) := by decide +kernel
theorem dX5_says_122 : decode cX5_says 122 = .ok (.iload 5, 2) := by decide +kernel
theorem dX5_says_124 : decode cX5_says 124 = .ok (.goto 31, 3) := by decide +kernel
theorem dX5_says_127 : decode cX5_says 127 = .ok (.iload_n 2, 1) := by decide +kernel
theorem dX5_says_128 : decode cX5_says 128 = .ok (.bipush 6, 2) := by decide +kernel
theorem dX5_says_130 : decode cX5_says 130 = .ok (.if_icmp .ne 10, 3) := by decide +kernel
theorem dX5_says_133 : decode cX5_says 133 = .ok (.iload 5, 2) := by decide +kernel
theorem dX5_says_135 : decode cX5_says 135 = .ok (.iconst 2, 1) := by decide +kernel
theorem dX5_says_136 : decode cX5_says 136 = .ok (.idiv, 1) := by decide +kernel
theorem dX5_says_137 : decode cX5_says 137 = .ok (.goto 18, 3) := by decide +kernel
theorem dX5_says_140 : decode cX5_says 140 = .ok (.aload_n 0, 1) := by decide +kernel
theorem dX5_says_141 : decode cX5_says 141 = .ok (.iload_n 3, 1) := by decide +kernel
theorem dX5_says_142 : decode cX5_says 142 = .ok (.iload 5, 2) := by decide +kernel
theorem dX5_says_144 : decode cX5_says 144 = .ok (.invokevirtual 109, 3) := by decide +kernel
theorem dX5_says_147 : decode cX5_says 147 = .ok (.ifCond .eq 7, 3) := by decide +kernel
theorem dX5_says_150 : decode cX5_says 150 = .ok (.iconst 1, 1) := by decide +kernel
theorem dX5_says_151 : decode cX5_says 151 = .ok (.goto 4, 3) := by decide +kernel
theorem dX5_says_154 : decode cX5_says 154 = .ok (.iconst 0, 1) := by decide +kernel
theorem dX5_says_155 : decode cX5_says 155 = .ok (.ireturn, 1) := by decide +kernel
theorem dX5_wants_0 : decode cX5_wants 0 = .ok (.aload_n 0, 1) := by decide +kernel
theorem dX5_wants_1 : decode cX5_wants 1 = .ok (.iload_n 1, 1) := by decide +kernel
theorem dX5_wants_2 : decode cX5_wants 2 = .ok (.invokevirtual 95, 3) := by decide +kernel
theorem dX5_wants_5 : decode cX5_wants 5 = .ok (.ifCond .ne 7, 3) := by decide +kernel
theorem dX5_wants_8 : decode cX5_wants 8 = .ok (.iconst (-1), 1) := by decide +kernel
theorem dX5_wants_9 : decode cX5_wants 9 = .ok (.goto 33, 3) := by decide +kernel
theorem dX5_wants_12 : decode cX5_wants 12 = .ok (.aload_n 0, 1) := by decide +kernel
theorem dX5_wants_13 : decode cX5_wants 13 = .ok (.getfield 51, 3) := by decide +kernel
theorem dX5_wants_16 : decode cX5_wants 16 = .ok (.iload_n 1, 1) := by decide +kernel
theorem dX5_wants_17 : decode cX5_wants 17 = .ok (.iaload, 1) := by decide +kernel
theorem dX5_wants_18 : decode cX5_wants 18 = .ok (.iconst 2, 1) := by decide +kernel
theorem dX5_wants_19 : decode cX5_wants 19 = .ok (.if_icmp .ne 8, 3) := by decide +kernel
theorem dX5_wants_22 : decode cX5_wants 22 = .ok (.bipush (-2), 2) := by decide +kernel
end
section
theorem dX5_wants_24 : decode cX5_wants 24 = .ok (.goto 18, 3) := by decide +kernel
theorem dX5_wants_27 : decode cX5_wants 27 = .ok (.aload_n 0, 1) := by decide +kernel
theorem dX5_wants_28 : decode cX5_wants 28 = .ok (.getfield 51, 3) := by decide +kernel
theorem dX5_wants_31 : decode cX5_wants 31 = .ok (.iload_n 1, 1) := by decide +kernel
theorem dX5_wants_32 : decode cX5_wants 32 = .ok (.iaload, 1) := by decide +kernel
theorem dX5_wants_33 : decode cX5_wants 33 = .ok (.ifCond .ne 8, 3) := by decide +kernel
theorem dX5_wants_36 : decode cX5_wants 36 = .ok (.bipush (-3), 2) := by decide +kernel
theorem dX5_wants_38 : decode cX5_wants 38 = .ok (.goto 4, 3) := by decide +kernel
theorem dX5_wants_41 : decode cX5_wants 41 = .ok (.iconst 0, 1) := by decide +kernel
theorem dX5_wants_42 : decode cX5_wants 42 = .ok (.ireturn, 1) := by decide +kernel
theorem dX5_intAt_0 : decode cX5_intAt 0 = .ok (.aload_n 0, 1) := by decide +kernel
theorem dX5_intAt_1 : decode cX5_intAt 1 = .ok (.getfield 63, 3) := by decide +kernel
theorem dX5_intAt_4 : decode cX5_intAt 4 = .ok (.sipush 160, 3) := by decide +kernel
theorem dX5_intAt_7 : decode cX5_intAt 7 = .ok (.iload_n 1, 1) := by decide +kernel
theorem dX5_intAt_8 : decode cX5_intAt 8 = .ok (.imul, 1) := by decide +kernel
theorem dX5_intAt_9 : decode cX5_intAt 9 = .ok (.iload_n 2, 1) := by decide +kernel
theorem dX5_intAt_10 : decode cX5_intAt 10 = .ok (.iadd, 1) := by decide +kernel
theorem dX5_intAt_11 : decode cX5_intAt 11 = .ok (.laload, 1) := by decide +kernel
theorem dX5_intAt_12 : decode cX5_intAt 12 = .ok (.l2i, 1) := by decide +kernel
theorem dX5_intAt_13 : decode cX5_intAt 13 = .ok (.ireturn, 1) := by decide +kernel
theorem dX5_facts_0 : decode cX5_facts 0 = .ok (.aload_n 0, 1) := by decide +kernel
theorem dX5_facts_1 : decode cX5_facts 1 = .ok (.getfield 33, 3) := by decide +kernel
theorem dX5_facts_4 : decode cX5_facts 4 = .ok (.aload_n 0, 1) := by decide +kernel
theorem dX5_facts_5 : decode cX5_facts 5 = .ok (.getfield 89, 3) := by decide +kernel
theorem dX5_facts_8 : decode cX5_facts 8 = .ok (.iload_n 1, 1) := by decide +kernel
theorem dX5_facts_9 : decode cX5_facts 9 = .ok (.iastore, 1) := by decide +kernel
theorem dX5_facts_10 : decode cX5_facts 10 = .ok (.aload_n 0, 1) := by decide +kernel
theorem dX5_facts_11 : decode cX5_facts 11 = .ok (.dup, 1) := by decide +kernel
theorem dX5_facts_12 : decode cX5_facts 12 = .ok (.getfield 25, 3) := by decide +kernel
theorem dX5_facts_15 : decode cX5_facts 15 = .ok (.aload_n 0, 1) := by decide +kernel
theorem dX5_facts_16 : decode cX5_facts 16 = .ok (.getfield 25, 3) := by decide +kernel
theorem dX5_facts_19 : decode cX5_facts 19 = .ok (.iconst 1, 1) := by decide +kernel
theorem dX5_facts_20 : decode cX5_facts 20 = .ok (.aload_n 0, 1) := by decide +kernel
theorem dX5_facts_21 : decode cX5_facts 21 = .ok (.getfield 89, 3) := by decide +kernel
theorem dX5_facts_24 : decode cX5_facts 24 = .ok (.ishl, 1) := by decide +kernel
theorem dX5_facts_25 : decode cX5_facts 25 = .ok (.lshl, 1) := by decide +kernel
theorem dX5_facts_26 : decode cX5_facts 26 = .ok (.lor, 1) := by decide +kernel
theorem dX5_facts_27 : decode cX5_facts 27 = .ok (.putfield 25, 3) := by decide +kernel
theorem dX5_facts_30 : decode cX5_facts 30 = .ok (.aload_n 0, 1) := by decide +kernel
theorem dX5_facts_31 : decode cX5_facts 31 = .ok (.dup, 1) := by decide +kernel
theorem dX5_facts_32 : decode cX5_facts 32 = .ok (.getfield 89, 3) := by decide +kernel
theorem dX5_facts_35 : decode cX5_facts 35 = .ok (.dup_x1, 1) := by decide +kernel
theorem dX5_facts_36 : decode cX5_facts 36 = .ok (.iconst 1, 1) := by decide +kernel
theorem dX5_facts_37 : decode cX5_facts 37 = .ok (.iadd, 1) := by decide +kernel
theorem dX5_facts_38 : decode cX5_facts 38 = .ok (.putfield 89, 3) := by decide +kernel
theorem dX5_facts_41 : decode cX5_facts 41 = .ok (.ireturn, 1) := by decide +kernel
theorem dX5_fact_0 : decode cX5_fact 0 = .ok (.iload_n 1, 1) := by decide +kernel
theorem dX5_fact_1 : decode cX5_fact 1 = .ok (.ifCond .lt 9, 3) := by decide +kernel
theorem dX5_fact_4 : decode cX5_fact 4 = .ok (.iload_n 1, 1) := by decide +kernel
theorem dX5_fact_5 : decode cX5_fact 5 = .ok (.bipush 99, 2) := by decide +kernel
theorem dX5_fact_7 : decode cX5_fact 7 = .ok (.if_icmp .le 10, 3) := by decide +kernel
theorem dX5_fact_10 : decode cX5_fact 10 = .ok (.aload_n 0, 1) := by decide +kernel
theorem dX5_fact_11 : decode cX5_fact 11 = .ok (.bipush (-6), 2) := by decide +kernel
theorem dX5_fact_13 : decode cX5_fact 13 = .ok (.invokevirtual 99, 3) := by decide +kernel
theorem dX5_fact_16 : decode cX5_fact 16 = .ok (.ireturn, 1) := by decide +kernel
theorem dX5_fact_17 : decode cX5_fact 17 = .ok (.aload_n 0, 1) := by decide +kernel
theorem dX5_fact_18 : decode cX5_fact 18 = .ok (.getfield 89, 3) := by decide +kernel
theorem dX5_fact_21 : decode cX5_fact 21 = .ok (.bipush 6, 2) := by decide +kernel
theorem dX5_fact_23 : decode cX5_fact 23 = .ok (.if_icmp .ne 12, 3) := by decide +kernel
theorem dX5_fact_26 : decode cX5_fact 26 = .ok (.aload_n 0, 1) := by decide +kernel
theorem dX5_fact_27 : decode cX5_fact 27 = .ok (.bipush (-7), 2) := by decide +kernel
theorem dX5_fact_29 : decode cX5_fact 29 = .ok (.invokevirtual 99, 3) := by decide +kernel
theorem dX5_fact_32 : decode cX5_fact 32 = .ok (.goto 8, 3) := by decide +kernel
theorem dX5_fact_35 : decode cX5_fact 35 = .ok (.aload_n 0, 1) := by decide +kernel
theorem dX5_fact_36 : decode cX5_fact 36 = .ok (.iload_n 1, 1) := by decide +kernel
theorem dX5_fact_37 : decode cX5_fact 37 = .ok (.invokevirtual 113, 3) := by decide +kernel
theorem dX5_fact_40 : decode cX5_fact 40 = .ok (.ireturn, 1) := by decide +kernel
theorem dX5_speakers_0 : decode cX5_speakers 0 = .ok (.aload_n 0, 1) := by decide +kernel
theorem dX5_speakers_1 : decode cX5_speakers 1 = .ok (.getfield 36, 3) := by decide +kernel
theorem dX5_speakers_4 : decode cX5_speakers 4 = .ok (.aload_n 0, 1) := by decide +kernel
theorem dX5_speakers_5 : decode cX5_speakers 5 = .ok (.getfield 92, 3) := by decide +kernel
theorem dX5_speakers_8 : decode cX5_speakers 8 = .ok (.iload_n 1, 1) := by decide +kernel
theorem dX5_speakers_9 : decode cX5_speakers 9 = .ok (.iastore, 1) := by decide +kernel
theorem dX5_speakers_10 : decode cX5_speakers 10 = .ok (.aload_n 0, 1) := by decide +kernel
theorem dX5_speakers_11 : decode cX5_speakers 11 = .ok (.getfield 39, 3) := by decide +kernel
theorem dX5_speakers_14 : decode cX5_speakers 14 = .ok (.aload_n 0, 1) := by decide +kernel
theorem dX5_speakers_15 : decode cX5_speakers 15 = .ok (.getfield 92, 3) := by decide +kernel
theorem dX5_speakers_18 : decode cX5_speakers 18 = .ok (.iload_n 2, 1) := by decide +kernel
theorem dX5_speakers_19 : decode cX5_speakers 19 = .ok (.iastore, 1) := by decide +kernel
theorem dX5_speakers_20 : decode cX5_speakers 20 = .ok (.aload_n 0, 1) := by decide +kernel
theorem dX5_speakers_21 : decode cX5_speakers 21 = .ok (.dup, 1) := by decide +kernel
theorem dX5_speakers_22 : decode cX5_speakers 22 = .ok (.getfield 92, 3) := by decide +kernel
theorem dX5_speakers_25 : decode cX5_speakers 25 = .ok (.dup_x1, 1) := by decide +kernel
theorem dX5_speakers_26 : decode cX5_speakers 26 = .ok (.iconst 1, 1) := by decide +kernel
theorem dX5_speakers_27 : decode cX5_speakers 27 = .ok (.iadd, 1) := by decide +kernel
theorem dX5_speakers_28 : decode cX5_speakers 28 = .ok (.putfield 92, 3) := by decide +kernel
theorem dX5_speakers_31 : decode cX5_speakers 31 = .ok (.ireturn, 1) := by decide +kernel
theorem dX5_speaker_0 : decode cX5_speaker 0 = .ok (.iload_n 1, 1) := by decide +kernel
theorem dX5_speaker_1 : decode cX5_speaker 1 = .ok (.ifCond .lt 9, 3) := by decide +kernel
theorem dX5_speaker_4 : decode cX5_speaker 4 = .ok (.iload_n 1, 1) := by decide +kernel
theorem dX5_speaker_5 : decode cX5_speaker 5 = .ok (.bipush 6, 2) := by decide +kernel
theorem dX5_speaker_7 : decode cX5_speaker 7 = .ok (.if_icmp .le 9, 3) := by decide +kernel
theorem dX5_speaker_10 : decode cX5_speaker 10 = .ok (.aload_n 0, 1) := by decide +kernel
theorem dX5_speaker_11 : decode cX5_speaker 11 = .ok (.iconst (-1), 1) := by decide +kernel
theorem dX5_speaker_12 : decode cX5_speaker 12 = .ok (.invokevirtual 99, 3) := by decide +kernel
theorem dX5_speaker_15 : decode cX5_speaker 15 = .ok (.ireturn, 1) := by decide +kernel
theorem dX5_speaker_16 : decode cX5_speaker 16 = .ok (.iload_n 2, 1) := by decide +kernel
theorem dX5_speaker_17 : decode cX5_speaker 17 = .ok (.ifCond .lt 10, 3) := by decide +kernel
theorem dX5_speaker_20 : decode cX5_speaker 20 = .ok (.iload_n 2, 1) := by decide +kernel
theorem dX5_speaker_21 : decode cX5_speaker 21 = .ok (.sipush 1023, 3) := by decide +kernel
theorem dX5_speaker_24 : decode cX5_speaker 24 = .ok (.if_icmp .le 10, 3) := by decide +kernel
theorem dX5_speaker_27 : decode cX5_speaker 27 = .ok (.aload_n 0, 1) := by decide +kernel
theorem dX5_speaker_28 : decode cX5_speaker 28 = .ok (.bipush (-6), 2) := by decide +kernel
theorem dX5_speaker_30 : decode cX5_speaker 30 = .ok (.invokevirtual 99, 3) := by decide +kernel
theorem dX5_speaker_33 : decode cX5_speaker 33 = .ok (.ireturn, 1) := by decide +kernel
theorem dX5_speaker_34 : decode cX5_speaker 34 = .ok (.aload_n 0, 1) := by decide +kernel
theorem dX5_speaker_35 : decode cX5_speaker 35 = .ok (.getfield 92, 3) := by decide +kernel
theorem dX5_speaker_38 : decode cX5_speaker 38 = .ok (.bipush 6, 2) := by decide +kernel
theorem dX5_speaker_40 : decode cX5_speaker 40 = .ok (.if_icmp .ne 12, 3) := by decide +kernel
theorem dX5_speaker_43 : decode cX5_speaker 43 = .ok (.aload_n 0, 1) := by decide +kernel
theorem dX5_speaker_44 : decode cX5_speaker 44 = .ok (.bipush (-7), 2) := by decide +kernel
theorem dX5_speaker_46 : decode cX5_speaker 46 = .ok (.invokevirtual 99, 3) := by decide +kernel
theorem dX5_speaker_49 : decode cX5_speaker 49 = .ok (.goto 9, 3) := by decide +kernel
theorem dX5_speaker_52 : decode cX5_speaker 52 = .ok (.aload_n 0, 1) := by decide +kernel
theorem dX5_speaker_53 : decode cX5_speaker 53 = .ok (.iload_n 1, 1) := by decide +kernel
theorem dX5_speaker_54 : decode cX5_speaker 54 = .ok (.iload_n 2, 1) := by decide +kernel
theorem dX5_speaker_55 : decode cX5_speaker 55 = .ok (.invokevirtual 115, 3) := by decide +kernel
theorem dX5_speaker_58 : decode cX5_speaker 58 = .ok (.ireturn, 1) := by decide +kernel
theorem dX5_law_0 : decode cX5_law 0 = .ok (.iload_n 1, 1) := by decide +kernel
theorem dX5_law_1 : decode cX5_law 1 = .ok (.iconst 2, 1) := by decide +kernel
theorem dX5_law_2 : decode cX5_law 2 = .ok (.if_icmp .lt 25, 3) := by decide +kernel
theorem dX5_law_5 : decode cX5_law 5 = .ok (.iload_n 1, 1) := by decide +kernel
theorem dX5_law_6 : decode cX5_law 6 = .ok (.bipush 10, 2) := by decide +kernel
theorem dX5_law_8 : decode cX5_law 8 = .ok (.if_icmp .gt 19, 3) := by decide +kernel
theorem dX5_law_11 : decode cX5_law 11 = .ok (.iload_n 2, 1) := by decide +kernel
theorem dX5_law_12 : decode cX5_law 12 = .ok (.ifCond .lt 15, 3) := by decide +kernel
theorem dX5_law_15 : decode cX5_law 15 = .ok (.iload_n 2, 1) := by decide +kernel
theorem dX5_law_16 : decode cX5_law 16 = .ok (.iload_n 1, 1) := by decide +kernel
theorem dX5_law_17 : decode cX5_law 17 = .ok (.if_icmp .gt 10, 3) := by decide +kernel
theorem dX5_law_20 : decode cX5_law 20 = .ok (.aload_n 0, 1) := by decide +kernel
theorem dX5_law_21 : decode cX5_law 21 = .ok (.getfield 118, 3) := by decide +kernel
theorem dX5_law_24 : decode cX5_law 24 = .ok (.ifCond .le 10, 3) := by decide +kernel
theorem dX5_law_27 : decode cX5_law 27 = .ok (.aload_n 0, 1) := by decide +kernel
theorem dX5_law_28 : decode cX5_law 28 = .ok (.bipush (-6), 2) := by decide +kernel
theorem dX5_law_30 : decode cX5_law 30 = .ok (.invokevirtual 99, 3) := by decide +kernel
theorem dX5_law_33 : decode cX5_law 33 = .ok (.ireturn, 1) := by decide +kernel
theorem dX5_law_34 : decode cX5_law 34 = .ok (.bipush 100, 2) := by decide +kernel
theorem dX5_law_36 : decode cX5_law 36 = .ok (.aload_n 0, 1) := by decide +kernel
theorem dX5_law_37 : decode cX5_law 37 = .ok (.getfield 7, 3) := by decide +kernel
theorem dX5_law_40 : decode cX5_law 40 = .ok (.imul, 1) := by decide +kernel
theorem dX5_law_41 : decode cX5_law 41 = .ok (.aload_n 0, 1) := by decide +kernel
theorem dX5_law_42 : decode cX5_law 42 = .ok (.getfield 13, 3) := by decide +kernel
theorem dX5_law_45 : decode cX5_law 45 = .ok (.iadd, 1) := by decide +kernel
theorem dX5_law_46 : decode cX5_law 46 = .ok (.istore_n 3, 1) := by decide +kernel
theorem dX5_law_47 : decode cX5_law 47 = .ok (.aload_n 0, 1) := by decide +kernel
theorem dX5_law_48 : decode cX5_law 48 = .ok (.iload_n 1, 1) := by decide +kernel
theorem dX5_law_49 : decode cX5_law 49 = .ok (.putfield 7, 3) := by decide +kernel
theorem dX5_law_52 : decode cX5_law 52 = .ok (.aload_n 0, 1) := by decide +kernel
theorem dX5_law_53 : decode cX5_law 53 = .ok (.iload_n 2, 1) := by decide +kernel
theorem dX5_law_54 : decode cX5_law 54 = .ok (.putfield 13, 3) := by decide +kernel
theorem dX5_law_57 : decode cX5_law 57 = .ok (.iload_n 3, 1) := by decide +kernel
theorem dX5_law_58 : decode cX5_law 58 = .ok (.ireturn, 1) := by decide +kernel
theorem dX5_saidBy_0 : decode cX5_saidBy 0 = .ok (.iconst 0, 1) := by decide +kernel
theorem dX5_saidBy_1 : decode cX5_saidBy 1 = .ok (.istore_n 2, 1) := by decide +kernel
theorem dX5_saidBy_2 : decode cX5_saidBy 2 = .ok (.iconst 0, 1) := by decide +kernel
theorem dX5_saidBy_3 : decode cX5_saidBy 3 = .ok (.istore_n 3, 1) := by decide +kernel
theorem dX5_saidBy_4 : decode cX5_saidBy 4 = .ok (.iload_n 3, 1) := by decide +kernel
theorem dX5_saidBy_5 : decode cX5_saidBy 5 = .ok (.aload_n 0, 1) := by decide +kernel
theorem dX5_saidBy_6 : decode cX5_saidBy 6 = .ok (.getfield 118, 3) := by decide +kernel
theorem dX5_saidBy_9 : decode cX5_saidBy 9 = .ok (.if_icmp .ge 27, 3) := by decide +kernel
theorem dX5_saidBy_12 : decode cX5_saidBy 12 = .ok (.iload_n 2, 1) := by decide +kernel
theorem dX5_saidBy_13 : decode cX5_saidBy 13 = .ok (.aload_n 0, 1) := by decide +kernel
theorem dX5_saidBy_14 : decode cX5_saidBy 14 = .ok (.getfield 42, 3) := by decide +kernel
theorem dX5_saidBy_17 : decode cX5_saidBy 17 = .ok (.iload_n 3, 1) := by decide +kernel
theorem dX5_saidBy_18 : decode cX5_saidBy 18 = .ok (.iaload, 1) := by decide +kernel
theorem dX5_saidBy_19 : decode cX5_saidBy 19 = .ok (.iload_n 1, 1) := by decide +kernel
theorem dX5_saidBy_20 : decode cX5_saidBy 20 = .ok (.if_icmp .ne 7, 3) := by decide +kernel
theorem dX5_saidBy_23 : decode cX5_saidBy 23 = .ok (.iconst 1, 1) := by decide +kernel
theorem dX5_saidBy_24 : decode cX5_saidBy 24 = .ok (.goto 4, 3) := by decide +kernel
theorem dX5_saidBy_27 : decode cX5_saidBy 27 = .ok (.iconst 0, 1) := by decide +kernel
theorem dX5_saidBy_28 : decode cX5_saidBy 28 = .ok (.iadd, 1) := by decide +kernel
theorem dX5_saidBy_29 : decode cX5_saidBy 29 = .ok (.istore_n 2, 1) := by decide +kernel
theorem dX5_saidBy_30 : decode cX5_saidBy 30 = .ok (.iinc 3 1, 3) := by decide +kernel
theorem dX5_saidBy_33 : decode cX5_saidBy 33 = .ok (.goto (-29), 3) := by decide +kernel
theorem dX5_saidBy_36 : decode cX5_saidBy 36 = .ok (.iload_n 2, 1) := by decide +kernel
theorem dX5_saidBy_37 : decode cX5_saidBy 37 = .ok (.ireturn, 1) := by decide +kernel
theorem dX5_speakerOf_0 : decode cX5_speakerOf 0 = .ok (.aload_n 0, 1) := by decide +kernel
theorem dX5_speakerOf_1 : decode cX5_speakerOf 1 = .ok (.iload_n 1, 1) := by decide +kernel
theorem dX5_speakerOf_2 : decode cX5_speakerOf 2 = .ok (.invokevirtual 103, 3) := by decide +kernel
theorem dX5_speakerOf_5 : decode cX5_speakerOf 5 = .ok (.ifCond .eq 12, 3) := by decide +kernel
theorem dX5_speakerOf_8 : decode cX5_speakerOf 8 = .ok (.iload_n 2, 1) := by decide +kernel
theorem dX5_speakerOf_9 : decode cX5_speakerOf 9 = .ok (.ifCond .lt 8, 3) := by decide +kernel
theorem dX5_speakerOf_12 : decode cX5_speakerOf 12 = .ok (.iload_n 2, 1) := by decide +kernel
theorem dX5_speakerOf_13 : decode cX5_speakerOf 13 = .ok (.iconst 2, 1) := by decide +kernel
theorem dX5_speakerOf_14 : decode cX5_speakerOf 14 = .ok (.if_icmp .le 10, 3) := by decide +kernel
theorem dX5_speakerOf_17 : decode cX5_speakerOf 17 = .ok (.aload_n 0, 1) := by decide +kernel
theorem dX5_speakerOf_18 : decode cX5_speakerOf 18 = .ok (.bipush (-5), 2) := by decide +kernel
theorem dX5_speakerOf_20 : decode cX5_speakerOf 20 = .ok (.invokevirtual 99, 3) := by decide +kernel
theorem dX5_speakerOf_23 : decode cX5_speakerOf 23 = .ok (.ireturn, 1) := by decide +kernel
theorem dX5_speakerOf_24 : decode cX5_speakerOf 24 = .ok (.iload_n 2, 1) := by decide +kernel
theorem dX5_speakerOf_25 : decode cX5_speakerOf 25 = .ok (.ifCond .ne 12, 3) := by decide +kernel
theorem dX5_speakerOf_28 : decode cX5_speakerOf 28 = .ok (.aload_n 0, 1) := by decide +kernel
theorem dX5_speakerOf_29 : decode cX5_speakerOf 29 = .ok (.getfield 36, 3) := by decide +kernel
theorem dX5_speakerOf_32 : decode cX5_speakerOf 32 = .ok (.iload_n 1, 1) := by decide +kernel
theorem dX5_speakerOf_33 : decode cX5_speakerOf 33 = .ok (.iaload, 1) := by decide +kernel
theorem dX5_speakerOf_34 : decode cX5_speakerOf 34 = .ok (.goto 22, 3) := by decide +kernel
theorem dX5_speakerOf_37 : decode cX5_speakerOf 37 = .ok (.iload_n 2, 1) := by decide +kernel
theorem dX5_speakerOf_38 : decode cX5_speakerOf 38 = .ok (.iconst 1, 1) := by decide +kernel
theorem dX5_speakerOf_39 : decode cX5_speakerOf 39 = .ok (.if_icmp .ne 12, 3) := by decide +kernel
theorem dX5_speakerOf_42 : decode cX5_speakerOf 42 = .ok (.aload_n 0, 1) := by decide +kernel
theorem dX5_speakerOf_43 : decode cX5_speakerOf 43 = .ok (.getfield 39, 3) := by decide +kernel
theorem dX5_speakerOf_46 : decode cX5_speakerOf 46 = .ok (.iload_n 1, 1) := by decide +kernel
theorem dX5_speakerOf_47 : decode cX5_speakerOf 47 = .ok (.iaload, 1) := by decide +kernel
theorem dX5_speakerOf_48 : decode cX5_speakerOf 48 = .ok (.goto 8, 3) := by decide +kernel
theorem dX5_speakerOf_51 : decode cX5_speakerOf 51 = .ok (.aload_n 0, 1) := by decide +kernel
theorem dX5_speakerOf_52 : decode cX5_speakerOf 52 = .ok (.iload_n 1, 1) := by decide +kernel
theorem dX5_speakerOf_53 : decode cX5_speakerOf 53 = .ok (.invokevirtual 106, 3) := by decide +kernel
theorem dX5_speakerOf_56 : decode cX5_speakerOf 56 = .ok (.ireturn, 1) := by decide +kernel
theorem dX5_harm_0 : decode cX5_harm 0 = .ok (.aload_n 0, 1) := by decide +kernel
theorem dX5_harm_1 : decode cX5_harm 1 = .ok (.iload_n 1, 1) := by decide +kernel
theorem dX5_harm_2 : decode cX5_harm 2 = .ok (.invokevirtual 121, 3) := by decide +kernel
theorem dX5_harm_5 : decode cX5_harm 5 = .ok (.ifCond .ne 9, 3) := by decide +kernel
theorem dX5_harm_8 : decode cX5_harm 8 = .ok (.aload_n 0, 1) := by decide +kernel
theorem dX5_harm_9 : decode cX5_harm 9 = .ok (.iconst (-1), 1) := by decide +kernel
theorem dX5_harm_10 : decode cX5_harm 10 = .ok (.invokevirtual 99, 3) := by decide +kernel
theorem dX5_harm_13 : decode cX5_harm 13 = .ok (.ireturn, 1) := by decide +kernel
theorem dX5_harm_14 : decode cX5_harm 14 = .ok (.iload_n 2, 1) := by decide +kernel
theorem dX5_harm_15 : decode cX5_harm 15 = .ok (.ifCond .lt 9, 3) := by decide +kernel
theorem dX5_harm_18 : decode cX5_harm 18 = .ok (.iload_n 2, 1) := by decide +kernel
theorem dX5_harm_19 : decode cX5_harm 19 = .ok (.bipush 99, 2) := by decide +kernel
theorem dX5_harm_21 : decode cX5_harm 21 = .ok (.if_icmp .le 10, 3) := by decide +kernel
theorem dX5_harm_24 : decode cX5_harm 24 = .ok (.aload_n 0, 1) := by decide +kernel
theorem dX5_harm_25 : decode cX5_harm 25 = .ok (.bipush (-6), 2) := by decide +kernel
theorem dX5_harm_27 : decode cX5_harm 27 = .ok (.invokevirtual 99, 3) := by decide +kernel
theorem dX5_harm_30 : decode cX5_harm 30 = .ok (.ireturn, 1) := by decide +kernel
theorem dX5_harm_31 : decode cX5_harm 31 = .ok (.aload_n 0, 1) := by decide +kernel
theorem dX5_harm_32 : decode cX5_harm 32 = .ok (.getfield 33, 3) := by decide +kernel
theorem dX5_harm_35 : decode cX5_harm 35 = .ok (.iload_n 1, 1) := by decide +kernel
theorem dX5_harm_36 : decode cX5_harm 36 = .ok (.iaload, 1) := by decide +kernel
theorem dX5_harm_37 : decode cX5_harm 37 = .ok (.istore_n 3, 1) := by decide +kernel
theorem dX5_harm_38 : decode cX5_harm 38 = .ok (.aload_n 0, 1) := by decide +kernel
theorem dX5_harm_39 : decode cX5_harm 39 = .ok (.getfield 33, 3) := by decide +kernel
theorem dX5_harm_42 : decode cX5_harm 42 = .ok (.iload_n 1, 1) := by decide +kernel
theorem dX5_harm_43 : decode cX5_harm 43 = .ok (.iload_n 2, 1) := by decide +kernel
theorem dX5_harm_44 : decode cX5_harm 44 = .ok (.iastore, 1) := by decide +kernel
theorem dX5_harm_45 : decode cX5_harm 45 = .ok (.iload_n 3, 1) := by decide +kernel
theorem dX5_harm_46 : decode cX5_harm 46 = .ok (.ireturn, 1) := by decide +kernel
theorem dX5_isTrue_0 : decode cX5_isTrue 0 = .ok (.aload_n 0, 1) := by decide +kernel
theorem dX5_isTrue_1 : decode cX5_isTrue 1 = .ok (.getfield 36, 3) := by decide +kernel
theorem dX5_isTrue_4 : decode cX5_isTrue 4 = .ok (.iload_n 1, 1) := by decide +kernel
theorem dX5_isTrue_5 : decode cX5_isTrue 5 = .ok (.iaload, 1) := by decide +kernel
theorem dX5_isTrue_6 : decode cX5_isTrue 6 = .ok (.tableswitch 141 1 4 #[30, 44, 63, 121], 30) := by decide +kernel
theorem dX5_isTrue_36 : decode cX5_isTrue 36 = .ok (.iload_n 2, 1) := by decide +kernel
theorem dX5_isTrue_37 : decode cX5_isTrue 37 = .ok (.aload_n 0, 1) := by decide +kernel
theorem dX5_isTrue_38 : decode cX5_isTrue 38 = .ok (.getfield 13, 3) := by decide +kernel
theorem dX5_isTrue_41 : decode cX5_isTrue 41 = .ok (.if_icmp .ge 7, 3) := by decide +kernel
theorem dX5_isTrue_44 : decode cX5_isTrue 44 = .ok (.iconst 1, 1) := by decide +kernel
theorem dX5_isTrue_45 : decode cX5_isTrue 45 = .ok (.goto 4, 3) := by decide +kernel
theorem dX5_isTrue_48 : decode cX5_isTrue 48 = .ok (.iconst 0, 1) := by decide +kernel
theorem dX5_isTrue_49 : decode cX5_isTrue 49 = .ok (.ireturn, 1) := by decide +kernel
theorem dX5_isTrue_50 : decode cX5_isTrue 50 = .ok (.iload_n 2, 1) := by decide +kernel
theorem dX5_isTrue_51 : decode cX5_isTrue 51 = .ok (.aload_n 0, 1) := by decide +kernel
theorem dX5_isTrue_52 : decode cX5_isTrue 52 = .ok (.getfield 7, 3) := by decide +kernel
theorem dX5_isTrue_55 : decode cX5_isTrue 55 = .ok (.aload_n 0, 1) := by decide +kernel
theorem dX5_isTrue_56 : decode cX5_isTrue 56 = .ok (.getfield 13, 3) := by decide +kernel
theorem dX5_isTrue_59 : decode cX5_isTrue 59 = .ok (.isub, 1) := by decide +kernel
theorem dX5_isTrue_60 : decode cX5_isTrue 60 = .ok (.if_icmp .lt 7, 3) := by decide +kernel
theorem dX5_isTrue_63 : decode cX5_isTrue 63 = .ok (.iconst 1, 1) := by decide +kernel
theorem dX5_isTrue_64 : decode cX5_isTrue 64 = .ok (.goto 4, 3) := by decide +kernel
theorem dX5_isTrue_67 : decode cX5_isTrue 67 = .ok (.iconst 0, 1) := by decide +kernel
theorem dX5_isTrue_68 : decode cX5_isTrue 68 = .ok (.ireturn, 1) := by decide +kernel
theorem dX5_isTrue_69 : decode cX5_isTrue 69 = .ok (.aload_n 0, 1) := by decide +kernel
theorem dX5_isTrue_70 : decode cX5_isTrue 70 = .ok (.getfield 13, 3) := by decide +kernel
theorem dX5_isTrue_73 : decode cX5_isTrue 73 = .ok (.ifCond .eq 14, 3) := by decide +kernel
theorem dX5_isTrue_76 : decode cX5_isTrue 76 = .ok (.aload_n 0, 1) := by decide +kernel
theorem dX5_isTrue_77 : decode cX5_isTrue 77 = .ok (.getfield 13, 3) := by decide +kernel
theorem dX5_isTrue_80 : decode cX5_isTrue 80 = .ok (.aload_n 0, 1) := by decide +kernel
theorem dX5_isTrue_81 : decode cX5_isTrue 81 = .ok (.getfield 7, 3) := by decide +kernel
theorem dX5_isTrue_84 : decode cX5_isTrue 84 = .ok (.if_icmp .ne 17, 3) := by decide +kernel
theorem dX5_isTrue_87 : decode cX5_isTrue 87 = .ok (.iload_n 2, 1) := by decide +kernel
theorem dX5_isTrue_88 : decode cX5_isTrue 88 = .ok (.aload_n 0, 1) := by decide +kernel
theorem dX5_isTrue_89 : decode cX5_isTrue 89 = .ok (.getfield 13, 3) := by decide +kernel
theorem dX5_isTrue_92 : decode cX5_isTrue 92 = .ok (.if_icmp .ge 7, 3) := by decide +kernel
theorem dX5_isTrue_95 : decode cX5_isTrue 95 = .ok (.iconst 1, 1) := by decide +kernel
theorem dX5_isTrue_96 : decode cX5_isTrue 96 = .ok (.goto 4, 3) := by decide +kernel
theorem dX5_isTrue_99 : decode cX5_isTrue 99 = .ok (.iconst 0, 1) := by decide +kernel
theorem dX5_isTrue_100 : decode cX5_isTrue 100 = .ok (.ireturn, 1) := by decide +kernel
theorem dX5_isTrue_101 : decode cX5_isTrue 101 = .ok (.iload_n 2, 1) := by decide +kernel
theorem dX5_isTrue_102 : decode cX5_isTrue 102 = .ok (.aload_n 0, 1) := by decide +kernel
theorem dX5_isTrue_103 : decode cX5_isTrue 103 = .ok (.getfield 13, 3) := by decide +kernel
theorem dX5_isTrue_106 : decode cX5_isTrue 106 = .ok (.iconst 1, 1) := by decide +kernel
theorem dX5_isTrue_107 : decode cX5_isTrue 107 = .ok (.isub, 1) := by decide +kernel
theorem dX5_isTrue_108 : decode cX5_isTrue 108 = .ok (.if_icmp .lt 13, 3) := by decide +kernel
theorem dX5_isTrue_111 : decode cX5_isTrue 111 = .ok (.iload_n 2, 1) := by decide +kernel
theorem dX5_isTrue_112 : decode cX5_isTrue 112 = .ok (.aload_n 0, 1) := by decide +kernel
theorem dX5_isTrue_113 : decode cX5_isTrue 113 = .ok (.getfield 7, 3) := by decide +kernel
theorem dX5_isTrue_116 : decode cX5_isTrue 116 = .ok (.iconst 1, 1) := by decide +kernel
theorem dX5_isTrue_117 : decode cX5_isTrue 117 = .ok (.isub, 1) := by decide +kernel
theorem dX5_isTrue_118 : decode cX5_isTrue 118 = .ok (.if_icmp .ne 7, 3) := by decide +kernel
theorem dX5_isTrue_121 : decode cX5_isTrue 121 = .ok (.iconst 1, 1) := by decide +kernel
theorem dX5_isTrue_122 : decode cX5_isTrue 122 = .ok (.goto 4, 3) := by decide +kernel
theorem dX5_isTrue_125 : decode cX5_isTrue 125 = .ok (.iconst 0, 1) := by decide +kernel
theorem dX5_isTrue_126 : decode cX5_isTrue 126 = .ok (.ireturn, 1) := by decide +kernel
theorem dX5_isTrue_127 : decode cX5_isTrue 127 = .ok (.aload_n 0, 1) := by decide +kernel
theorem dX5_isTrue_128 : decode cX5_isTrue 128 = .ok (.getfield 39, 3) := by decide +kernel
theorem dX5_isTrue_131 : decode cX5_isTrue 131 = .ok (.iload_n 1, 1) := by decide +kernel
theorem dX5_isTrue_132 : decode cX5_isTrue 132 = .ok (.iaload, 1) := by decide +kernel
theorem dX5_isTrue_133 : decode cX5_isTrue 133 = .ok (.iload_n 2, 1) := by decide +kernel
theorem dX5_isTrue_134 : decode cX5_isTrue 134 = .ok (.ishr, 1) := by decide +kernel
theorem dX5_isTrue_135 : decode cX5_isTrue 135 = .ok (.iconst 1, 1) := by decide +kernel
theorem dX5_isTrue_136 : decode cX5_isTrue 136 = .ok (.iand, 1) := by decide +kernel
theorem dX5_isTrue_137 : decode cX5_isTrue 137 = .ok (.iconst 1, 1) := by decide +kernel
theorem dX5_isTrue_138 : decode cX5_isTrue 138 = .ok (.if_icmp .ne 7, 3) := by decide +kernel
theorem dX5_isTrue_141 : decode cX5_isTrue 141 = .ok (.iconst 1, 1) := by decide +kernel
theorem dX5_isTrue_142 : decode cX5_isTrue 142 = .ok (.goto 4, 3) := by decide +kernel
theorem dX5_isTrue_145 : decode cX5_isTrue 145 = .ok (.iconst 0, 1) := by decide +kernel
theorem dX5_isTrue_146 : decode cX5_isTrue 146 = .ok (.ireturn, 1) := by decide +kernel
theorem dX5_isTrue_147 : decode cX5_isTrue 147 = .ok (.aload_n 0, 1) := by decide +kernel
theorem dX5_isTrue_148 : decode cX5_isTrue 148 = .ok (.getfield 39, 3) := by decide +kernel
theorem dX5_isTrue_151 : decode cX5_isTrue 151 = .ok (.iload_n 1, 1) := by decide +kernel
theorem dX5_isTrue_152 : decode cX5_isTrue 152 = .ok (.iaload, 1) := by decide +kernel
theorem dX5_isTrue_153 : decode cX5_isTrue 153 = .ok (.iload_n 2, 1) := by decide +kernel
theorem dX5_isTrue_154 : decode cX5_isTrue 154 = .ok (.ishr, 1) := by decide +kernel
theorem dX5_isTrue_155 : decode cX5_isTrue 155 = .ok (.iconst 1, 1) := by decide +kernel
theorem dX5_isTrue_156 : decode cX5_isTrue 156 = .ok (.iand, 1) := by decide +kernel
theorem dX5_isTrue_157 : decode cX5_isTrue 157 = .ok (.ifCond .ne 7, 3) := by decide +kernel
theorem dX5_isTrue_160 : decode cX5_isTrue 160 = .ok (.iconst 1, 1) := by decide +kernel
theorem dX5_isTrue_161 : decode cX5_isTrue 161 = .ok (.goto 4, 3) := by decide +kernel
theorem dX5_isTrue_164 : decode cX5_isTrue 164 = .ok (.iconst 0, 1) := by decide +kernel
theorem dX5_isTrue_165 : decode cX5_isTrue 165 = .ok (.ireturn, 1) := by decide +kernel
theorem dX5_isFree_0 : decode cX5_isFree 0 = .ok (.aload_n 0, 1) := by decide +kernel
theorem dX5_isFree_1 : decode cX5_isFree 1 = .ok (.getfield 36, 3) := by decide +kernel
theorem dX5_isFree_4 : decode cX5_isFree 4 = .ok (.iload_n 1, 1) := by decide +kernel
theorem dX5_isFree_5 : decode cX5_isFree 5 = .ok (.iaload, 1) := by decide +kernel
theorem dX5_isFree_6 : decode cX5_isFree 6 = .ok (.ifCond .eq 14, 3) := by decide +kernel
theorem dX5_isFree_9 : decode cX5_isFree 9 = .ok (.aload_n 0, 1) := by decide +kernel
theorem dX5_isFree_10 : decode cX5_isFree 10 = .ok (.getfield 36, 3) := by decide +kernel
theorem dX5_isFree_13 : decode cX5_isFree 13 = .ok (.iload_n 1, 1) := by decide +kernel
theorem dX5_isFree_14 : decode cX5_isFree 14 = .ok (.iaload, 1) := by decide +kernel
theorem dX5_isFree_15 : decode cX5_isFree 15 = .ok (.bipush 6, 2) := by decide +kernel
theorem dX5_isFree_17 : decode cX5_isFree 17 = .ok (.if_icmp .ne 7, 3) := by decide +kernel
theorem dX5_isFree_20 : decode cX5_isFree 20 = .ok (.iconst 1, 1) := by decide +kernel
theorem dX5_isFree_21 : decode cX5_isFree 21 = .ok (.goto 4, 3) := by decide +kernel
theorem dX5_isFree_24 : decode cX5_isFree 24 = .ok (.iconst 0, 1) := by decide +kernel
theorem dX5_isFree_25 : decode cX5_isFree 25 = .ok (.ireturn, 1) := by decide +kernel
theorem dX5_isSo_0 : decode cX5_isSo 0 = .ok (.iload_n 2, 1) := by decide +kernel
theorem dX5_isSo_1 : decode cX5_isSo 1 = .ok (.aload_n 0, 1) := by decide +kernel
theorem dX5_isSo_2 : decode cX5_isSo 2 = .ok (.getfield 45, 3) := by decide +kernel
theorem dX5_isSo_5 : decode cX5_isSo 5 = .ok (.iload_n 1, 1) := by decide +kernel
theorem dX5_isSo_6 : decode cX5_isSo 6 = .ok (.iaload, 1) := by decide +kernel
theorem dX5_isSo_7 : decode cX5_isSo 7 = .ok (.ishr, 1) := by decide +kernel
theorem dX5_isSo_8 : decode cX5_isSo 8 = .ok (.iconst 1, 1) := by decide +kernel
theorem dX5_isSo_9 : decode cX5_isSo 9 = .ok (.iand, 1) := by decide +kernel
theorem dX5_isSo_10 : decode cX5_isSo 10 = .ok (.aload_n 0, 1) := by decide +kernel
theorem dX5_isSo_11 : decode cX5_isSo 11 = .ok (.getfield 48, 3) := by decide +kernel
theorem dX5_isSo_14 : decode cX5_isSo 14 = .ok (.iload_n 1, 1) := by decide +kernel
theorem dX5_isSo_15 : decode cX5_isSo 15 = .ok (.iaload, 1) := by decide +kernel
theorem dX5_isSo_16 : decode cX5_isSo 16 = .ok (.if_icmp .ne 7, 3) := by decide +kernel
theorem dX5_isSo_19 : decode cX5_isSo 19 = .ok (.iconst 1, 1) := by decide +kernel
theorem dX5_isSo_20 : decode cX5_isSo 20 = .ok (.goto 4, 3) := by decide +kernel
theorem dX5_isSo_23 : decode cX5_isSo 23 = .ok (.iconst 0, 1) := by decide +kernel
theorem dX5_isSo_24 : decode cX5_isSo 24 = .ok (.ireturn, 1) := by decide +kernel
theorem dX5_canBeOf_0 : decode cX5_canBeOf 0 = .ok (.iconst 0, 1) := by decide +kernel
theorem dX5_canBeOf_1 : decode cX5_canBeOf 1 = .ok (.istore 4, 2) := by decide +kernel
theorem dX5_canBeOf_3 : decode cX5_canBeOf 3 = .ok (.iconst 0, 1) := by decide +kernel
theorem dX5_canBeOf_4 : decode cX5_canBeOf 4 = .ok (.istore 5, 2) := by decide +kernel
theorem dX5_canBeOf_6 : decode cX5_canBeOf 6 = .ok (.iconst 0, 1) := by decide +kernel
theorem dX5_canBeOf_7 : decode cX5_canBeOf 7 = .ok (.istore 6, 2) := by decide +kernel
theorem dX5_canBeOf_9 : decode cX5_canBeOf 9 = .ok (.aload_n 0, 1) := by decide +kernel
theorem dX5_canBeOf_10 : decode cX5_canBeOf 10 = .ok (.getfield 36, 3) := by decide +kernel
theorem dX5_canBeOf_13 : decode cX5_canBeOf 13 = .ok (.iload_n 1, 1) := by decide +kernel
theorem dX5_canBeOf_14 : decode cX5_canBeOf 14 = .ok (.iaload, 1) := by decide +kernel
theorem dX5_canBeOf_15 : decode cX5_canBeOf 15 = .ok (.istore 7, 2) := by decide +kernel
theorem dX5_canBeOf_17 : decode cX5_canBeOf 17 = .ok (.iconst (-1), 1) := by decide +kernel
theorem dX5_canBeOf_18 : decode cX5_canBeOf 18 = .ok (.istore 8, 2) := by decide +kernel
theorem dX5_canBeOf_20 : decode cX5_canBeOf 20 = .ok (.iconst 0, 1) := by decide +kernel
theorem dX5_canBeOf_21 : decode cX5_canBeOf 21 = .ok (.istore 9, 2) := by decide +kernel
theorem dX5_canBeOf_23 : decode cX5_canBeOf 23 = .ok (.iload 9, 2) := by decide +kernel
theorem dX5_canBeOf_25 : decode cX5_canBeOf 25 = .ok (.aload_n 0, 1) := by decide +kernel
theorem dX5_canBeOf_26 : decode cX5_canBeOf 26 = .ok (.getfield 118, 3) := by decide +kernel
theorem dX5_canBeOf_29 : decode cX5_canBeOf 29 = .ok (.if_icmp .ge 153, 3) := by decide +kernel
theorem dX5_canBeOf_32 : decode cX5_canBeOf 32 = .ok (.aload_n 0, 1) := by decide +kernel
theorem dX5_canBeOf_33 : decode cX5_canBeOf 33 = .ok (.getfield 42, 3) := by decide +kernel
theorem dX5_canBeOf_36 : decode cX5_canBeOf 36 = .ok (.iload 9, 2) := by decide +kernel
theorem dX5_canBeOf_38 : decode cX5_canBeOf 38 = .ok (.iaload, 1) := by decide +kernel
theorem dX5_canBeOf_39 : decode cX5_canBeOf 39 = .ok (.iload_n 1, 1) := by decide +kernel
theorem dX5_canBeOf_40 : decode cX5_canBeOf 40 = .ok (.if_icmp .eq 6, 3) := by decide +kernel
theorem dX5_canBeOf_43 : decode cX5_canBeOf 43 = .ok (.goto 133, 3) := by decide +kernel
theorem dX5_canBeOf_46 : decode cX5_canBeOf 46 = .ok (.iload_n 3, 1) := by decide +kernel
theorem dX5_canBeOf_47 : decode cX5_canBeOf 47 = .ok (.iload 9, 2) := by decide +kernel
theorem dX5_canBeOf_49 : decode cX5_canBeOf 49 = .ok (.ishr, 1) := by decide +kernel
theorem dX5_canBeOf_50 : decode cX5_canBeOf 50 = .ok (.iconst 1, 1) := by decide +kernel
theorem dX5_canBeOf_51 : decode cX5_canBeOf 51 = .ok (.iand, 1) := by decide +kernel
theorem dX5_canBeOf_52 : decode cX5_canBeOf 52 = .ok (.iconst 1, 1) := by decide +kernel
theorem dX5_canBeOf_53 : decode cX5_canBeOf 53 = .ok (.if_icmp .ne 7, 3) := by decide +kernel
theorem dX5_canBeOf_56 : decode cX5_canBeOf 56 = .ok (.iconst 1, 1) := by decide +kernel
theorem dX5_canBeOf_57 : decode cX5_canBeOf 57 = .ok (.goto 4, 3) := by decide +kernel
theorem dX5_canBeOf_60 : decode cX5_canBeOf 60 = .ok (.iconst 0, 1) := by decide +kernel
theorem dX5_canBeOf_61 : decode cX5_canBeOf 61 = .ok (.istore 10, 2) := by decide +kernel
theorem dX5_canBeOf_63 : decode cX5_canBeOf 63 = .ok (.aload_n 0, 1) := by decide +kernel
theorem dX5_canBeOf_64 : decode cX5_canBeOf 64 = .ok (.iload 9, 2) := by decide +kernel
theorem dX5_canBeOf_66 : decode cX5_canBeOf 66 = .ok (.iload_n 2, 1) := by decide +kernel
theorem dX5_canBeOf_67 : decode cX5_canBeOf 67 = .ok (.invokevirtual 124, 3) := by decide +kernel
theorem dX5_canBeOf_70 : decode cX5_canBeOf 70 = .ok (.istore 11, 2) := by decide +kernel
theorem dX5_canBeOf_72 : decode cX5_canBeOf 72 = .ok (.iload 10, 2) := by decide +kernel
theorem dX5_canBeOf_74 : decode cX5_canBeOf 74 = .ok (.ifCond .eq 71, 3) := by decide +kernel
theorem dX5_canBeOf_77 : decode cX5_canBeOf 77 = .ok (.iload 11, 2) := by decide +kernel
theorem dX5_canBeOf_79 : decode cX5_canBeOf 79 = .ok (.ifCond .eq 9, 3) := by decide +kernel
theorem dX5_canBeOf_82 : decode cX5_canBeOf 82 = .ok (.iinc 5 1, 3) := by decide +kernel
theorem dX5_canBeOf_85 : decode cX5_canBeOf 85 = .ok (.goto 6, 3) := by decide +kernel
theorem dX5_canBeOf_88 : decode cX5_canBeOf 88 = .ok (.iinc 6 1, 3) := by decide +kernel
theorem dX5_canBeOf_91 : decode cX5_canBeOf 91 = .ok (.aload_n 0, 1) := by decide +kernel
theorem dX5_canBeOf_92 : decode cX5_canBeOf 92 = .ok (.iload_n 1, 1) := by decide +kernel
theorem dX5_canBeOf_93 : decode cX5_canBeOf 93 = .ok (.invokevirtual 127, 3) := by decide +kernel
theorem dX5_canBeOf_96 : decode cX5_canBeOf 96 = .ok (.ifCond .ne 17, 3) := by decide +kernel
theorem dX5_canBeOf_99 : decode cX5_canBeOf 99 = .ok (.iload 11, 2) := by decide +kernel
theorem dX5_canBeOf_101 : decode cX5_canBeOf 101 = .ok (.aload_n 0, 1) := by decide +kernel
theorem dX5_canBeOf_102 : decode cX5_canBeOf 102 = .ok (.iload_n 1, 1) := by decide +kernel
theorem dX5_canBeOf_103 : decode cX5_canBeOf 103 = .ok (.iload 4, 2) := by decide +kernel
theorem dX5_canBeOf_105 : decode cX5_canBeOf 105 = .ok (.invokevirtual 109, 3) := by decide +kernel
theorem dX5_canBeOf_108 : decode cX5_canBeOf 108 = .ok (.if_icmp .eq 5, 3) := by decide +kernel
theorem dX5_canBeOf_111 : decode cX5_canBeOf 111 = .ok (.iconst 0, 1) := by decide +kernel
theorem dX5_canBeOf_112 : decode cX5_canBeOf 112 = .ok (.ireturn, 1) := by decide +kernel
theorem dX5_canBeOf_113 : decode cX5_canBeOf 113 = .ok (.iload 7, 2) := by decide +kernel
theorem dX5_canBeOf_115 : decode cX5_canBeOf 115 = .ok (.bipush 6, 2) := by decide +kernel
theorem dX5_canBeOf_117 : decode cX5_canBeOf 117 = .ok (.if_icmp .ne 28, 3) := by decide +kernel
theorem dX5_canBeOf_120 : decode cX5_canBeOf 120 = .ok (.iload 4, 2) := by decide +kernel
theorem dX5_canBeOf_122 : decode cX5_canBeOf 122 = .ok (.iconst 2, 1) := by decide +kernel
theorem dX5_canBeOf_123 : decode cX5_canBeOf 123 = .ok (.irem, 1) := by decide +kernel
theorem dX5_canBeOf_124 : decode cX5_canBeOf 124 = .ok (.iconst 1, 1) := by decide +kernel
theorem dX5_canBeOf_125 : decode cX5_canBeOf 125 = .ok (.if_icmp .ne 20, 3) := by decide +kernel
theorem dX5_canBeOf_128 : decode cX5_canBeOf 128 = .ok (.iload 8, 2) := by decide +kernel
theorem dX5_canBeOf_130 : decode cX5_canBeOf 130 = .ok (.iload 11, 2) := by decide +kernel
theorem dX5_canBeOf_132 : decode cX5_canBeOf 132 = .ok (.ifCond .eq 7, 3) := by decide +kernel
theorem dX5_canBeOf_135 : decode cX5_canBeOf 135 = .ok (.iconst 1, 1) := by decide +kernel
theorem dX5_canBeOf_136 : decode cX5_canBeOf 136 = .ok (.goto 4, 3) := by decide +kernel
theorem dX5_canBeOf_139 : decode cX5_canBeOf 139 = .ok (.iconst 0, 1) := by decide +kernel
theorem dX5_canBeOf_140 : decode cX5_canBeOf 140 = .ok (.if_icmp .ne 5, 3) := by decide +kernel
theorem dX5_canBeOf_143 : decode cX5_canBeOf 143 = .ok (.iconst 0, 1) := by decide +kernel
theorem dX5_canBeOf_144 : decode cX5_canBeOf 144 = .ok (.ireturn, 1) := by decide +kernel
theorem dX5_canBeOf_145 : decode cX5_canBeOf 145 = .ok (.iload 4, 2) := by decide +kernel
theorem dX5_canBeOf_147 : decode cX5_canBeOf 147 = .ok (.iconst 2, 1) := by decide +kernel
theorem dX5_canBeOf_148 : decode cX5_canBeOf 148 = .ok (.irem, 1) := by decide +kernel
theorem dX5_canBeOf_149 : decode cX5_canBeOf 149 = .ok (.ifCond .ne 21, 3) := by decide +kernel
theorem dX5_canBeOf_152 : decode cX5_canBeOf 152 = .ok (.iload 10, 2) := by decide +kernel
theorem dX5_canBeOf_154 : decode cX5_canBeOf 154 = .ok (.ifCond .eq 16, 3) := by decide +kernel
theorem dX5_canBeOf_157 : decode cX5_canBeOf 157 = .ok (.iload 11, 2) := by decide +kernel
theorem dX5_canBeOf_159 : decode cX5_canBeOf 159 = .ok (.ifCond .eq 7, 3) := by decide +kernel
theorem dX5_canBeOf_162 : decode cX5_canBeOf 162 = .ok (.iconst 1, 1) := by decide +kernel
theorem dX5_canBeOf_163 : decode cX5_canBeOf 163 = .ok (.goto 8, 3) := by decide +kernel
theorem dX5_canBeOf_166 : decode cX5_canBeOf 166 = .ok (.iconst 0, 1) := by decide +kernel
theorem dX5_canBeOf_167 : decode cX5_canBeOf 167 = .ok (.goto 4, 3) := by decide +kernel
theorem dX5_canBeOf_170 : decode cX5_canBeOf 170 = .ok (.iconst (-1), 1) := by decide +kernel
theorem dX5_canBeOf_171 : decode cX5_canBeOf 171 = .ok (.istore 8, 2) := by decide +kernel
theorem dX5_canBeOf_173 : decode cX5_canBeOf 173 = .ok (.iinc 4 1, 3) := by decide +kernel
theorem dX5_canBeOf_176 : decode cX5_canBeOf 176 = .ok (.iinc 9 1, 3) := by decide +kernel
theorem dX5_canBeOf_179 : decode cX5_canBeOf 179 = .ok (.goto (-156), 3) := by decide +kernel
theorem dX5_canBeOf_182 : decode cX5_canBeOf 182 = .ok (.iload 7, 2) := by decide +kernel
theorem dX5_canBeOf_184 : decode cX5_canBeOf 184 = .ok (.ifCond .ne 26, 3) := by decide +kernel
theorem dX5_canBeOf_187 : decode cX5_canBeOf 187 = .ok (.iload 5, 2) := by decide +kernel
theorem dX5_canBeOf_189 : decode cX5_canBeOf 189 = .ok (.aload_n 0, 1) := by decide +kernel
theorem dX5_canBeOf_190 : decode cX5_canBeOf 190 = .ok (.getfield 13, 3) := by decide +kernel
theorem dX5_canBeOf_193 : decode cX5_canBeOf 193 = .ok (.if_icmp .gt 21, 3) := by decide +kernel
theorem dX5_canBeOf_196 : decode cX5_canBeOf 196 = .ok (.iload 6, 2) := by decide +kernel
theorem dX5_canBeOf_198 : decode cX5_canBeOf 198 = .ok (.aload_n 0, 1) := by decide +kernel
theorem dX5_canBeOf_199 : decode cX5_canBeOf 199 = .ok (.getfield 7, 3) := by decide +kernel
theorem dX5_canBeOf_202 : decode cX5_canBeOf 202 = .ok (.aload_n 0, 1) := by decide +kernel
theorem dX5_canBeOf_203 : decode cX5_canBeOf 203 = .ok (.getfield 13, 3) := by decide +kernel
theorem dX5_canBeOf_206 : decode cX5_canBeOf 206 = .ok (.isub, 1) := by decide +kernel
theorem dX5_canBeOf_207 : decode cX5_canBeOf 207 = .ok (.if_icmp .gt 7, 3) := by decide +kernel
theorem dX5_canBeOf_210 : decode cX5_canBeOf 210 = .ok (.iconst 1, 1) := by decide +kernel
theorem dX5_canBeOf_211 : decode cX5_canBeOf 211 = .ok (.goto 4, 3) := by decide +kernel
theorem dX5_canBeOf_214 : decode cX5_canBeOf 214 = .ok (.iconst 0, 1) := by decide +kernel
theorem dX5_canBeOf_215 : decode cX5_canBeOf 215 = .ok (.ireturn, 1) := by decide +kernel
theorem dX5_worldsOf_0 : decode cX5_worldsOf 0 = .ok (.lconst 0, 1) := by decide +kernel
theorem dX5_worldsOf_1 : decode cX5_worldsOf 1 = .ok (.lstore_n 3, 1) := by decide +kernel
theorem dX5_worldsOf_2 : decode cX5_worldsOf 2 = .ok (.iconst 0, 1) := by decide +kernel
theorem dX5_worldsOf_3 : decode cX5_worldsOf 3 = .ok (.istore 5, 2) := by decide +kernel
theorem dX5_worldsOf_5 : decode cX5_worldsOf 5 = .ok (.iload 5, 2) := by decide +kernel
theorem dX5_worldsOf_7 : decode cX5_worldsOf 7 = .ok (.iconst 1, 1) := by decide +kernel
theorem dX5_worldsOf_8 : decode cX5_worldsOf 8 = .ok (.aload_n 0, 1) := by decide +kernel
theorem dX5_worldsOf_9 : decode cX5_worldsOf 9 = .ok (.getfield 89, 3) := by decide +kernel
theorem dX5_worldsOf_12 : decode cX5_worldsOf 12 = .ok (.ishl, 1) := by decide +kernel
theorem dX5_worldsOf_13 : decode cX5_worldsOf 13 = .ok (.if_icmp .ge 89, 3) := by decide +kernel
theorem dX5_worldsOf_16 : decode cX5_worldsOf 16 = .ok (.aload_n 0, 1) := by decide +kernel
theorem dX5_worldsOf_17 : decode cX5_worldsOf 17 = .ok (.getfield 25, 3) := by decide +kernel
theorem dX5_worldsOf_20 : decode cX5_worldsOf 20 = .ok (.iload 5, 2) := by decide +kernel
theorem dX5_worldsOf_22 : decode cX5_worldsOf 22 = .ok (.lshr, 1) := by decide +kernel
theorem dX5_worldsOf_23 : decode cX5_worldsOf 23 = .ok (.lconst 1, 1) := by decide +kernel
theorem dX5_worldsOf_24 : decode cX5_worldsOf 24 = .ok (.land, 1) := by decide +kernel
theorem dX5_worldsOf_25 : decode cX5_worldsOf 25 = .ok (.lconst 0, 1) := by decide +kernel
theorem dX5_worldsOf_26 : decode cX5_worldsOf 26 = .ok (.lcmp, 1) := by decide +kernel
theorem dX5_worldsOf_27 : decode cX5_worldsOf 27 = .ok (.ifCond .ne 6, 3) := by decide +kernel
theorem dX5_worldsOf_30 : decode cX5_worldsOf 30 = .ok (.goto 66, 3) := by decide +kernel
theorem dX5_worldsOf_33 : decode cX5_worldsOf 33 = .ok (.iconst 1, 1) := by decide +kernel
theorem dX5_worldsOf_34 : decode cX5_worldsOf 34 = .ok (.istore 6, 2) := by decide +kernel
theorem dX5_worldsOf_36 : decode cX5_worldsOf 36 = .ok (.iconst 0, 1) := by decide +kernel
theorem dX5_worldsOf_37 : decode cX5_worldsOf 37 = .ok (.istore 7, 2) := by decide +kernel
theorem dX5_worldsOf_39 : decode cX5_worldsOf 39 = .ok (.iload 7, 2) := by decide +kernel
theorem dX5_worldsOf_41 : decode cX5_worldsOf 41 = .ok (.aload_n 0, 1) := by decide +kernel
theorem dX5_worldsOf_42 : decode cX5_worldsOf 42 = .ok (.getfield 92, 3) := by decide +kernel
theorem dX5_worldsOf_45 : decode cX5_worldsOf 45 = .ok (.if_icmp .ge 39, 3) := by decide +kernel
theorem dX5_worldsOf_48 : decode cX5_worldsOf 48 = .ok (.iload 6, 2) := by decide +kernel
theorem dX5_worldsOf_50 : decode cX5_worldsOf 50 = .ok (.ifCond .eq 34, 3) := by decide +kernel
theorem dX5_worldsOf_53 : decode cX5_worldsOf 53 = .ok (.iload 7, 2) := by decide +kernel
theorem dX5_worldsOf_55 : decode cX5_worldsOf 55 = .ok (.iload_n 2, 1) := by decide +kernel
theorem dX5_worldsOf_56 : decode cX5_worldsOf 56 = .ok (.if_icmp .eq 15, 3) := by decide +kernel
theorem dX5_worldsOf_59 : decode cX5_worldsOf 59 = .ok (.aload_n 0, 1) := by decide +kernel
theorem dX5_worldsOf_60 : decode cX5_worldsOf 60 = .ok (.iload 7, 2) := by decide +kernel
theorem dX5_worldsOf_62 : decode cX5_worldsOf 62 = .ok (.iload 5, 2) := by decide +kernel
theorem dX5_worldsOf_64 : decode cX5_worldsOf 64 = .ok (.iload_n 1, 1) := by decide +kernel
theorem dX5_worldsOf_65 : decode cX5_worldsOf 65 = .ok (.invokevirtual 130, 3) := by decide +kernel
theorem dX5_worldsOf_68 : decode cX5_worldsOf 68 = .ok (.ifCond .eq 7, 3) := by decide +kernel
theorem dX5_worldsOf_71 : decode cX5_worldsOf 71 = .ok (.iconst 1, 1) := by decide +kernel
theorem dX5_worldsOf_72 : decode cX5_worldsOf 72 = .ok (.goto 4, 3) := by decide +kernel
theorem dX5_worldsOf_75 : decode cX5_worldsOf 75 = .ok (.iconst 0, 1) := by decide +kernel
theorem dX5_worldsOf_76 : decode cX5_worldsOf 76 = .ok (.istore 6, 2) := by decide +kernel
theorem dX5_worldsOf_78 : decode cX5_worldsOf 78 = .ok (.iinc 7 1, 3) := by decide +kernel
theorem dX5_worldsOf_81 : decode cX5_worldsOf 81 = .ok (.goto (-42), 3) := by decide +kernel
theorem dX5_worldsOf_84 : decode cX5_worldsOf 84 = .ok (.iload 6, 2) := by decide +kernel
theorem dX5_worldsOf_86 : decode cX5_worldsOf 86 = .ok (.ifCond .eq 10, 3) := by decide +kernel
theorem dX5_worldsOf_89 : decode cX5_worldsOf 89 = .ok (.lload_n 3, 1) := by decide +kernel
theorem dX5_worldsOf_90 : decode cX5_worldsOf 90 = .ok (.lconst 1, 1) := by decide +kernel
theorem dX5_worldsOf_91 : decode cX5_worldsOf 91 = .ok (.iload 5, 2) := by decide +kernel
theorem dX5_worldsOf_93 : decode cX5_worldsOf 93 = .ok (.lshl, 1) := by decide +kernel
theorem dX5_worldsOf_94 : decode cX5_worldsOf 94 = .ok (.lor, 1) := by decide +kernel
theorem dX5_worldsOf_95 : decode cX5_worldsOf 95 = .ok (.lstore_n 3, 1) := by decide +kernel
theorem dX5_worldsOf_96 : decode cX5_worldsOf 96 = .ok (.iinc 5 1, 3) := by decide +kernel
theorem dX5_worldsOf_99 : decode cX5_worldsOf 99 = .ok (.goto (-94), 3) := by decide +kernel
theorem dX5_worldsOf_102 : decode cX5_worldsOf 102 = .ok (.lload_n 3, 1) := by decide +kernel
theorem dX5_worldsOf_103 : decode cX5_worldsOf 103 = .ok (.lreturn, 1) := by decide +kernel
theorem dX5_worldsNow_0 : decode cX5_worldsNow 0 = .ok (.aload_n 0, 1) := by decide +kernel
theorem dX5_worldsNow_1 : decode cX5_worldsNow 1 = .ok (.iconst (-1), 1) := by decide +kernel
theorem dX5_worldsNow_2 : decode cX5_worldsNow 2 = .ok (.iconst (-1), 1) := by decide +kernel
theorem dX5_worldsNow_3 : decode cX5_worldsNow 3 = .ok (.invokevirtual 134, 3) := by decide +kernel
theorem dX5_worldsNow_6 : decode cX5_worldsNow 6 = .ok (.lreturn, 1) := by decide +kernel
theorem dX5_count_0 : decode cX5_count 0 = .ok (.iconst 0, 1) := by decide +kernel
theorem dX5_count_1 : decode cX5_count 1 = .ok (.istore_n 3, 1) := by decide +kernel
theorem dX5_count_2 : decode cX5_count 2 = .ok (.lload_n 1, 1) := by decide +kernel
theorem dX5_count_3 : decode cX5_count 3 = .ok (.lstore 4, 2) := by decide +kernel
theorem dX5_count_5 : decode cX5_count 5 = .ok (.lload 4, 2) := by decide +kernel
theorem dX5_count_7 : decode cX5_count 7 = .ok (.lconst 0, 1) := by decide +kernel
theorem dX5_count_8 : decode cX5_count 8 = .ok (.lcmp, 1) := by decide +kernel
theorem dX5_count_9 : decode cX5_count 9 = .ok (.ifCond .eq 18, 3) := by decide +kernel
theorem dX5_count_12 : decode cX5_count 12 = .ok (.iinc 3 1, 3) := by decide +kernel
theorem dX5_count_15 : decode cX5_count 15 = .ok (.lload 4, 2) := by decide +kernel
theorem dX5_count_17 : decode cX5_count 17 = .ok (.lload 4, 2) := by decide +kernel
theorem dX5_count_19 : decode cX5_count 19 = .ok (.lconst 1, 1) := by decide +kernel
theorem dX5_count_20 : decode cX5_count 20 = .ok (.lsub, 1) := by decide +kernel
theorem dX5_count_21 : decode cX5_count 21 = .ok (.land, 1) := by decide +kernel
theorem dX5_count_22 : decode cX5_count 22 = .ok (.lstore 4, 2) := by decide +kernel
theorem dX5_count_24 : decode cX5_count 24 = .ok (.goto (-19), 3) := by decide +kernel
theorem dX5_count_27 : decode cX5_count 27 = .ok (.iload_n 3, 1) := by decide +kernel
theorem dX5_count_28 : decode cX5_count 28 = .ok (.ireturn, 1) := by decide +kernel
theorem dX5_adds_0 : decode cX5_adds 0 = .ok (.aload_n 0, 1) := by decide +kernel
theorem dX5_adds_1 : decode cX5_adds 1 = .ok (.getfield 42, 3) := by decide +kernel
theorem dX5_adds_4 : decode cX5_adds 4 = .ok (.aload_n 0, 1) := by decide +kernel
theorem dX5_adds_5 : decode cX5_adds 5 = .ok (.getfield 118, 3) := by decide +kernel
theorem dX5_adds_8 : decode cX5_adds 8 = .ok (.iload_n 1, 1) := by decide +kernel
theorem dX5_adds_9 : decode cX5_adds 9 = .ok (.iastore, 1) := by decide +kernel
theorem dX5_adds_10 : decode cX5_adds 10 = .ok (.aload_n 0, 1) := by decide +kernel
theorem dX5_adds_11 : decode cX5_adds 11 = .ok (.getfield 45, 3) := by decide +kernel
theorem dX5_adds_14 : decode cX5_adds 14 = .ok (.aload_n 0, 1) := by decide +kernel
theorem dX5_adds_15 : decode cX5_adds 15 = .ok (.getfield 118, 3) := by decide +kernel
theorem dX5_adds_18 : decode cX5_adds 18 = .ok (.iload_n 2, 1) := by decide +kernel
theorem dX5_adds_19 : decode cX5_adds 19 = .ok (.iastore, 1) := by decide +kernel
theorem dX5_adds_20 : decode cX5_adds 20 = .ok (.aload_n 0, 1) := by decide +kernel
theorem dX5_adds_21 : decode cX5_adds 21 = .ok (.getfield 48, 3) := by decide +kernel
theorem dX5_adds_24 : decode cX5_adds 24 = .ok (.aload_n 0, 1) := by decide +kernel
theorem dX5_adds_25 : decode cX5_adds 25 = .ok (.getfield 118, 3) := by decide +kernel
theorem dX5_adds_28 : decode cX5_adds 28 = .ok (.iload_n 3, 1) := by decide +kernel
theorem dX5_adds_29 : decode cX5_adds 29 = .ok (.iastore, 1) := by decide +kernel
theorem dX5_adds_30 : decode cX5_adds 30 = .ok (.aload_n 0, 1) := by decide +kernel
theorem dX5_adds_31 : decode cX5_adds 31 = .ok (.dup, 1) := by decide +kernel
theorem dX5_adds_32 : decode cX5_adds 32 = .ok (.getfield 118, 3) := by decide +kernel
theorem dX5_adds_35 : decode cX5_adds 35 = .ok (.iconst 1, 1) := by decide +kernel
theorem dX5_adds_36 : decode cX5_adds 36 = .ok (.iadd, 1) := by decide +kernel
theorem dX5_adds_37 : decode cX5_adds 37 = .ok (.putfield 118, 3) := by decide +kernel
theorem dX5_adds_40 : decode cX5_adds 40 = .ok (.return_, 1) := by decide +kernel
theorem dX5_isFull_0 : decode cX5_isFull 0 = .ok (.aload_n 0, 1) := by decide +kernel
theorem dX5_isFull_1 : decode cX5_isFull 1 = .ok (.iload_n 1, 1) := by decide +kernel
theorem dX5_isFull_2 : decode cX5_isFull 2 = .ok (.invokevirtual 106, 3) := by decide +kernel
theorem dX5_isFull_5 : decode cX5_isFull 5 = .ok (.aload_n 0, 1) := by decide +kernel
theorem dX5_isFull_6 : decode cX5_isFull 6 = .ok (.getfield 7, 3) := by decide +kernel
theorem dX5_isFull_9 : decode cX5_isFull 9 = .ok (.if_icmp .lt 7, 3) := by decide +kernel
theorem dX5_isFull_12 : decode cX5_isFull 12 = .ok (.iconst 1, 1) := by decide +kernel
theorem dX5_isFull_13 : decode cX5_isFull 13 = .ok (.goto 4, 3) := by decide +kernel
theorem dX5_isFull_16 : decode cX5_isFull 16 = .ok (.iconst 0, 1) := by decide +kernel
theorem dX5_isFull_17 : decode cX5_isFull 17 = .ok (.ireturn, 1) := by decide +kernel
theorem dX5_leaves_0 : decode cX5_leaves 0 = .ok (.aload_n 0, 1) := by decide +kernel
theorem dX5_leaves_1 : decode cX5_leaves 1 = .ok (.iload_n 1, 1) := by decide +kernel
theorem dX5_leaves_2 : decode cX5_leaves 2 = .ok (.iload_n 2, 1) := by decide +kernel
theorem dX5_leaves_3 : decode cX5_leaves 3 = .ok (.iload_n 3, 1) := by decide +kernel
theorem dX5_leaves_4 : decode cX5_leaves 4 = .ok (.invokevirtual 138, 3) := by decide +kernel
theorem dX5_leaves_7 : decode cX5_leaves 7 = .ok (.aload_n 0, 1) := by decide +kernel
theorem dX5_leaves_8 : decode cX5_leaves 8 = .ok (.aload_n 0, 1) := by decide +kernel
theorem dX5_leaves_9 : decode cX5_leaves 9 = .ok (.invokevirtual 142, 3) := by decide +kernel
theorem dX5_leaves_12 : decode cX5_leaves 12 = .ok (.invokevirtual 146, 3) := by decide +kernel
theorem dX5_leaves_15 : decode cX5_leaves 15 = .ok (.istore 4, 2) := by decide +kernel
theorem dX5_leaves_17 : decode cX5_leaves 17 = .ok (.aload_n 0, 1) := by decide +kernel
theorem dX5_leaves_18 : decode cX5_leaves 18 = .ok (.dup, 1) := by decide +kernel
theorem dX5_leaves_19 : decode cX5_leaves 19 = .ok (.getfield 118, 3) := by decide +kernel
theorem dX5_leaves_22 : decode cX5_leaves 22 = .ok (.iconst 1, 1) := by decide +kernel
theorem dX5_leaves_23 : decode cX5_leaves 23 = .ok (.isub, 1) := by decide +kernel
theorem dX5_leaves_24 : decode cX5_leaves 24 = .ok (.putfield 118, 3) := by decide +kernel
theorem dX5_leaves_27 : decode cX5_leaves 27 = .ok (.iload 4, 2) := by decide +kernel
theorem dX5_leaves_29 : decode cX5_leaves 29 = .ok (.ireturn, 1) := by decide +kernel
theorem dX5_say_0 : decode cX5_say 0 = .ok (.aload_n 0, 1) := by decide +kernel
theorem dX5_say_1 : decode cX5_say 1 = .ok (.iload_n 1, 1) := by decide +kernel
theorem dX5_say_2 : decode cX5_say 2 = .ok (.invokevirtual 103, 3) := by decide +kernel
theorem dX5_say_5 : decode cX5_say 5 = .ok (.ifCond .eq 11, 3) := by decide +kernel
theorem dX5_say_8 : decode cX5_say 8 = .ok (.aload_n 0, 1) := by decide +kernel
theorem dX5_say_9 : decode cX5_say 9 = .ok (.iload_n 2, 1) := by decide +kernel
theorem dX5_say_10 : decode cX5_say 10 = .ok (.invokevirtual 121, 3) := by decide +kernel
theorem dX5_say_13 : decode cX5_say 13 = .ok (.ifCond .ne 9, 3) := by decide +kernel
theorem dX5_say_16 : decode cX5_say 16 = .ok (.aload_n 0, 1) := by decide +kernel
theorem dX5_say_17 : decode cX5_say 17 = .ok (.iconst (-1), 1) := by decide +kernel
theorem dX5_say_18 : decode cX5_say 18 = .ok (.invokevirtual 99, 3) := by decide +kernel
theorem dX5_say_21 : decode cX5_say 21 = .ok (.ireturn, 1) := by decide +kernel
theorem dX5_say_22 : decode cX5_say 22 = .ok (.aload_n 0, 1) := by decide +kernel
theorem dX5_say_23 : decode cX5_say 23 = .ok (.iload_n 1, 1) := by decide +kernel
theorem dX5_say_24 : decode cX5_say 24 = .ok (.invokevirtual 150, 3) := by decide +kernel
theorem dX5_say_27 : decode cX5_say 27 = .ok (.ifCond .ne 21, 3) := by decide +kernel
theorem dX5_say_30 : decode cX5_say 30 = .ok (.aload_n 0, 1) := by decide +kernel
theorem dX5_say_31 : decode cX5_say 31 = .ok (.iload_n 1, 1) := by decide +kernel
theorem dX5_say_32 : decode cX5_say 32 = .ok (.iload_n 2, 1) := by decide +kernel
theorem dX5_say_33 : decode cX5_say 33 = .ok (.iload_n 3, 1) := by decide +kernel
theorem dX5_say_34 : decode cX5_say 34 = .ok (.ifCond .eq 7, 3) := by decide +kernel
theorem dX5_say_37 : decode cX5_say 37 = .ok (.iconst 1, 1) := by decide +kernel
theorem dX5_say_38 : decode cX5_say 38 = .ok (.goto 4, 3) := by decide +kernel
theorem dX5_say_41 : decode cX5_say 41 = .ok (.iconst 0, 1) := by decide +kernel
theorem dX5_say_42 : decode cX5_say 42 = .ok (.invokevirtual 153, 3) := by decide +kernel
theorem dX5_say_45 : decode cX5_say 45 = .ok (.ifCond .ne 10, 3) := by decide +kernel
theorem dX5_say_48 : decode cX5_say 48 = .ok (.aload_n 0, 1) := by decide +kernel
theorem dX5_say_49 : decode cX5_say 49 = .ok (.bipush (-6), 2) := by decide +kernel
theorem dX5_say_51 : decode cX5_say 51 = .ok (.invokevirtual 99, 3) := by decide +kernel
theorem dX5_say_54 : decode cX5_say 54 = .ok (.ireturn, 1) := by decide +kernel
theorem dX5_say_55 : decode cX5_say 55 = .ok (.aload_n 0, 1) := by decide +kernel
theorem dX5_say_56 : decode cX5_say 56 = .ok (.getfield 118, 3) := by decide +kernel
theorem dX5_say_59 : decode cX5_say 59 = .ok (.bipush 24, 2) := by decide +kernel
theorem dX5_say_61 : decode cX5_say 61 = .ok (.if_icmp .ne 10, 3) := by decide +kernel
theorem dX5_say_64 : decode cX5_say 64 = .ok (.aload_n 0, 1) := by decide +kernel
theorem dX5_say_65 : decode cX5_say 65 = .ok (.bipush (-7), 2) := by decide +kernel
theorem dX5_say_67 : decode cX5_say 67 = .ok (.invokevirtual 99, 3) := by decide +kernel
theorem dX5_say_70 : decode cX5_say 70 = .ok (.ireturn, 1) := by decide +kernel
theorem dX5_say_71 : decode cX5_say 71 = .ok (.aload_n 0, 1) := by decide +kernel
theorem dX5_say_72 : decode cX5_say 72 = .ok (.iload_n 1, 1) := by decide +kernel
theorem dX5_say_73 : decode cX5_say 73 = .ok (.iload_n 2, 1) := by decide +kernel
theorem dX5_say_74 : decode cX5_say 74 = .ok (.iload_n 3, 1) := by decide +kernel
theorem dX5_say_75 : decode cX5_say 75 = .ok (.ifCond .eq 7, 3) := by decide +kernel
theorem dX5_say_78 : decode cX5_say 78 = .ok (.iconst 1, 1) := by decide +kernel
theorem dX5_say_79 : decode cX5_say 79 = .ok (.goto 4, 3) := by decide +kernel
theorem dX5_say_82 : decode cX5_say 82 = .ok (.iconst 0, 1) := by decide +kernel
theorem dX5_say_83 : decode cX5_say 83 = .ok (.invokevirtual 138, 3) := by decide +kernel
theorem dX5_say_86 : decode cX5_say 86 = .ok (.aload_n 0, 1) := by decide +kernel
theorem dX5_say_87 : decode cX5_say 87 = .ok (.aload_n 0, 1) := by decide +kernel
theorem dX5_say_88 : decode cX5_say 88 = .ok (.invokevirtual 142, 3) := by decide +kernel
theorem dX5_say_91 : decode cX5_say 91 = .ok (.invokevirtual 146, 3) := by decide +kernel
theorem dX5_say_94 : decode cX5_say 94 = .ok (.ireturn, 1) := by decide +kernel
theorem dX5_unsay_0 : decode cX5_unsay 0 = .ok (.aload_n 0, 1) := by decide +kernel
theorem dX5_unsay_1 : decode cX5_unsay 1 = .ok (.getfield 118, 3) := by decide +kernel
theorem dX5_unsay_4 : decode cX5_unsay 4 = .ok (.ifCond .ne 10, 3) := by decide +kernel
theorem dX5_unsay_7 : decode cX5_unsay 7 = .ok (.aload_n 0, 1) := by decide +kernel
theorem dX5_unsay_8 : decode cX5_unsay 8 = .ok (.bipush (-6), 2) := by decide +kernel
theorem dX5_unsay_10 : decode cX5_unsay 10 = .ok (.invokevirtual 99, 3) := by decide +kernel
theorem dX5_unsay_13 : decode cX5_unsay 13 = .ok (.ireturn, 1) := by decide +kernel
theorem dX5_unsay_14 : decode cX5_unsay 14 = .ok (.aload_n 0, 1) := by decide +kernel
theorem dX5_unsay_15 : decode cX5_unsay 15 = .ok (.dup, 1) := by decide +kernel
theorem dX5_unsay_16 : decode cX5_unsay 16 = .ok (.getfield 118, 3) := by decide +kernel
theorem dX5_unsay_19 : decode cX5_unsay 19 = .ok (.iconst 1, 1) := by decide +kernel
theorem dX5_unsay_20 : decode cX5_unsay 20 = .ok (.isub, 1) := by decide +kernel
theorem dX5_unsay_21 : decode cX5_unsay 21 = .ok (.putfield 118, 3) := by decide +kernel
theorem dX5_unsay_24 : decode cX5_unsay 24 = .ok (.aload_n 0, 1) := by decide +kernel
theorem dX5_unsay_25 : decode cX5_unsay 25 = .ok (.getfield 118, 3) := by decide +kernel
theorem dX5_unsay_28 : decode cX5_unsay 28 = .ok (.ireturn, 1) := by decide +kernel
theorem dX5_sayingOf_0 : decode cX5_sayingOf 0 = .ok (.iload_n 1, 1) := by decide +kernel
theorem dX5_sayingOf_1 : decode cX5_sayingOf 1 = .ok (.ifCond .lt 40, 3) := by decide +kernel
theorem dX5_sayingOf_4 : decode cX5_sayingOf 4 = .ok (.iload_n 1, 1) := by decide +kernel
theorem dX5_sayingOf_5 : decode cX5_sayingOf 5 = .ok (.aload_n 0, 1) := by decide +kernel
theorem dX5_sayingOf_6 : decode cX5_sayingOf 6 = .ok (.getfield 118, 3) := by decide +kernel
theorem dX5_sayingOf_9 : decode cX5_sayingOf 9 = .ok (.if_icmp .ge 32, 3) := by decide +kernel
theorem dX5_sayingOf_12 : decode cX5_sayingOf 12 = .ok (.bipush 100, 2) := by decide +kernel
theorem dX5_sayingOf_14 : decode cX5_sayingOf 14 = .ok (.aload_n 0, 1) := by decide +kernel
theorem dX5_sayingOf_15 : decode cX5_sayingOf 15 = .ok (.getfield 42, 3) := by decide +kernel
theorem dX5_sayingOf_18 : decode cX5_sayingOf 18 = .ok (.iload_n 1, 1) := by decide +kernel
theorem dX5_sayingOf_19 : decode cX5_sayingOf 19 = .ok (.iaload, 1) := by decide +kernel
theorem dX5_sayingOf_20 : decode cX5_sayingOf 20 = .ok (.imul, 1) := by decide +kernel
theorem dX5_sayingOf_21 : decode cX5_sayingOf 21 = .ok (.bipush 10, 2) := by decide +kernel
theorem dX5_sayingOf_23 : decode cX5_sayingOf 23 = .ok (.aload_n 0, 1) := by decide +kernel
theorem dX5_sayingOf_24 : decode cX5_sayingOf 24 = .ok (.getfield 45, 3) := by decide +kernel
theorem dX5_sayingOf_27 : decode cX5_sayingOf 27 = .ok (.iload_n 1, 1) := by decide +kernel
theorem dX5_sayingOf_28 : decode cX5_sayingOf 28 = .ok (.iaload, 1) := by decide +kernel
theorem dX5_sayingOf_29 : decode cX5_sayingOf 29 = .ok (.imul, 1) := by decide +kernel
theorem dX5_sayingOf_30 : decode cX5_sayingOf 30 = .ok (.iadd, 1) := by decide +kernel
theorem dX5_sayingOf_31 : decode cX5_sayingOf 31 = .ok (.aload_n 0, 1) := by decide +kernel
theorem dX5_sayingOf_32 : decode cX5_sayingOf 32 = .ok (.getfield 48, 3) := by decide +kernel
theorem dX5_sayingOf_35 : decode cX5_sayingOf 35 = .ok (.iload_n 1, 1) := by decide +kernel
theorem dX5_sayingOf_36 : decode cX5_sayingOf 36 = .ok (.iaload, 1) := by decide +kernel
theorem dX5_sayingOf_37 : decode cX5_sayingOf 37 = .ok (.iadd, 1) := by decide +kernel
theorem dX5_sayingOf_38 : decode cX5_sayingOf 38 = .ok (.goto 4, 3) := by decide +kernel
theorem dX5_sayingOf_41 : decode cX5_sayingOf 41 = .ok (.iconst (-1), 1) := by decide +kernel
theorem dX5_sayingOf_42 : decode cX5_sayingOf 42 = .ok (.ireturn, 1) := by decide +kernel
theorem dX5_those_0 : decode cX5_those 0 = .ok (.lconst 0, 1) := by decide +kernel
theorem dX5_those_1 : decode cX5_those 1 = .ok (.lstore_n 3, 1) := by decide +kernel
theorem dX5_those_2 : decode cX5_those 2 = .ok (.iconst 0, 1) := by decide +kernel
theorem dX5_those_3 : decode cX5_those 3 = .ok (.istore 5, 2) := by decide +kernel
theorem dX5_those_5 : decode cX5_those 5 = .ok (.iload 5, 2) := by decide +kernel
theorem dX5_those_7 : decode cX5_those 7 = .ok (.iconst 1, 1) := by decide +kernel
theorem dX5_those_8 : decode cX5_those 8 = .ok (.aload_n 0, 1) := by decide +kernel
theorem dX5_those_9 : decode cX5_those 9 = .ok (.getfield 89, 3) := by decide +kernel
theorem dX5_those_12 : decode cX5_those 12 = .ok (.ishl, 1) := by decide +kernel
theorem dX5_those_13 : decode cX5_those 13 = .ok (.if_icmp .ge 26, 3) := by decide +kernel
theorem dX5_those_16 : decode cX5_those 16 = .ok (.iload 5, 2) := by decide +kernel
theorem dX5_those_18 : decode cX5_those 18 = .ok (.iload_n 1, 1) := by decide +kernel
theorem dX5_those_19 : decode cX5_those 19 = .ok (.ishr, 1) := by decide +kernel
theorem dX5_those_20 : decode cX5_those 20 = .ok (.iconst 1, 1) := by decide +kernel
theorem dX5_those_21 : decode cX5_those 21 = .ok (.iand, 1) := by decide +kernel
theorem dX5_those_22 : decode cX5_those 22 = .ok (.iload_n 2, 1) := by decide +kernel
theorem dX5_those_23 : decode cX5_those 23 = .ok (.if_icmp .ne 10, 3) := by decide +kernel
theorem dX5_those_26 : decode cX5_those 26 = .ok (.lload_n 3, 1) := by decide +kernel
theorem dX5_those_27 : decode cX5_those 27 = .ok (.lconst 1, 1) := by decide +kernel
theorem dX5_those_28 : decode cX5_those 28 = .ok (.iload 5, 2) := by decide +kernel
theorem dX5_those_30 : decode cX5_those 30 = .ok (.lshl, 1) := by decide +kernel
theorem dX5_those_31 : decode cX5_those 31 = .ok (.lor, 1) := by decide +kernel
theorem dX5_those_32 : decode cX5_those 32 = .ok (.lstore_n 3, 1) := by decide +kernel
theorem dX5_those_33 : decode cX5_those 33 = .ok (.iinc 5 1, 3) := by decide +kernel
theorem dX5_those_36 : decode cX5_those 36 = .ok (.goto (-31), 3) := by decide +kernel
theorem dX5_those_39 : decode cX5_those 39 = .ok (.lload_n 3, 1) := by decide +kernel
theorem dX5_those_40 : decode cX5_those 40 = .ok (.lreturn, 1) := by decide +kernel
theorem dX5_isLeft_0 : decode cX5_isLeft 0 = .ok (.aload_n 0, 1) := by decide +kernel
theorem dX5_isLeft_1 : decode cX5_isLeft 1 = .ok (.getfield 25, 3) := by decide +kernel
theorem dX5_isLeft_4 : decode cX5_isLeft 4 = .ok (.lstore_n 3, 1) := by decide +kernel
theorem dX5_isLeft_5 : decode cX5_isLeft 5 = .ok (.aload_n 0, 1) := by decide +kernel
theorem dX5_isLeft_6 : decode cX5_isLeft 6 = .ok (.dup, 1) := by decide +kernel
theorem dX5_isLeft_7 : decode cX5_isLeft 7 = .ok (.getfield 25, 3) := by decide +kernel
theorem dX5_isLeft_10 : decode cX5_isLeft 10 = .ok (.aload_n 0, 1) := by decide +kernel
theorem dX5_isLeft_11 : decode cX5_isLeft 11 = .ok (.iload_n 1, 1) := by decide +kernel
theorem dX5_isLeft_12 : decode cX5_isLeft 12 = .ok (.iload_n 2, 1) := by decide +kernel
theorem dX5_isLeft_13 : decode cX5_isLeft 13 = .ok (.invokevirtual 157, 3) := by decide +kernel
theorem dX5_isLeft_16 : decode cX5_isLeft 16 = .ok (.land, 1) := by decide +kernel
theorem dX5_isLeft_17 : decode cX5_isLeft 17 = .ok (.putfield 25, 3) := by decide +kernel
theorem dX5_isLeft_20 : decode cX5_isLeft 20 = .ok (.aload_n 0, 1) := by decide +kernel
theorem dX5_isLeft_21 : decode cX5_isLeft 21 = .ok (.invokevirtual 142, 3) := by decide +kernel
theorem dX5_isLeft_24 : decode cX5_isLeft 24 = .ok (.lconst 0, 1) := by decide +kernel
theorem dX5_isLeft_25 : decode cX5_isLeft 25 = .ok (.lcmp, 1) := by decide +kernel
theorem dX5_isLeft_26 : decode cX5_isLeft 26 = .ok (.ifCond .eq 5, 3) := by decide +kernel
theorem dX5_isLeft_29 : decode cX5_isLeft 29 = .ok (.iconst 1, 1) := by decide +kernel
theorem dX5_isLeft_30 : decode cX5_isLeft 30 = .ok (.ireturn, 1) := by decide +kernel
theorem dX5_isLeft_31 : decode cX5_isLeft 31 = .ok (.aload_n 0, 1) := by decide +kernel
theorem dX5_isLeft_32 : decode cX5_isLeft 32 = .ok (.lload_n 3, 1) := by decide +kernel
theorem dX5_isLeft_33 : decode cX5_isLeft 33 = .ok (.putfield 25, 3) := by decide +kernel
theorem dX5_isLeft_36 : decode cX5_isLeft 36 = .ok (.iconst 0, 1) := by decide +kernel
theorem dX5_isLeft_37 : decode cX5_isLeft 37 = .ok (.ireturn, 1) := by decide +kernel
theorem dX5_known_0 : decode cX5_known 0 = .ok (.aload_n 0, 1) := by decide +kernel
theorem dX5_known_1 : decode cX5_known 1 = .ok (.iload_n 1, 1) := by decide +kernel
theorem dX5_known_2 : decode cX5_known 2 = .ok (.invokevirtual 121, 3) := by decide +kernel
theorem dX5_known_5 : decode cX5_known 5 = .ok (.ifCond .ne 9, 3) := by decide +kernel
theorem dX5_known_8 : decode cX5_known 8 = .ok (.aload_n 0, 1) := by decide +kernel
theorem dX5_known_9 : decode cX5_known 9 = .ok (.iconst (-1), 1) := by decide +kernel
theorem dX5_known_10 : decode cX5_known 10 = .ok (.invokevirtual 99, 3) := by decide +kernel
theorem dX5_known_13 : decode cX5_known 13 = .ok (.ireturn, 1) := by decide +kernel
theorem dX5_known_14 : decode cX5_known 14 = .ok (.aload_n 0, 1) := by decide +kernel
theorem dX5_known_15 : decode cX5_known 15 = .ok (.iload_n 1, 1) := by decide +kernel
theorem dX5_known_16 : decode cX5_known 16 = .ok (.iload_n 2, 1) := by decide +kernel
theorem dX5_known_17 : decode cX5_known 17 = .ok (.ifCond .eq 7, 3) := by decide +kernel
theorem dX5_known_20 : decode cX5_known 20 = .ok (.iconst 1, 1) := by decide +kernel
theorem dX5_known_21 : decode cX5_known 21 = .ok (.goto 4, 3) := by decide +kernel
theorem dX5_known_24 : decode cX5_known 24 = .ok (.iconst 0, 1) := by decide +kernel
theorem dX5_known_25 : decode cX5_known 25 = .ok (.invokevirtual 160, 3) := by decide +kernel
theorem dX5_known_28 : decode cX5_known 28 = .ok (.ifCond .eq 14, 3) := by decide +kernel
theorem dX5_known_31 : decode cX5_known 31 = .ok (.aload_n 0, 1) := by decide +kernel
theorem dX5_known_32 : decode cX5_known 32 = .ok (.aload_n 0, 1) := by decide +kernel
theorem dX5_known_33 : decode cX5_known 33 = .ok (.getfield 25, 3) := by decide +kernel
theorem dX5_known_36 : decode cX5_known 36 = .ok (.invokevirtual 146, 3) := by decide +kernel
theorem dX5_known_39 : decode cX5_known 39 = .ok (.goto 9, 3) := by decide +kernel
theorem dX5_known_42 : decode cX5_known 42 = .ok (.aload_n 0, 1) := by decide +kernel
theorem dX5_known_43 : decode cX5_known 43 = .ok (.bipush (-6), 2) := by decide +kernel
theorem dX5_known_45 : decode cX5_known 45 = .ok (.invokevirtual 99, 3) := by decide +kernel
theorem dX5_known_48 : decode cX5_known 48 = .ok (.ireturn, 1) := by decide +kernel
theorem dX5_wrong_0 : decode cX5_wrong 0 = .ok (.aload_n 0, 1) := by decide +kernel
theorem dX5_wrong_1 : decode cX5_wrong 1 = .ok (.iload_n 1, 1) := by decide +kernel
theorem dX5_wrong_2 : decode cX5_wrong 2 = .ok (.putfield 163, 3) := by decide +kernel
theorem dX5_wrong_5 : decode cX5_wrong 5 = .ok (.iconst 0, 1) := by decide +kernel
theorem dX5_wrong_6 : decode cX5_wrong 6 = .ok (.ireturn, 1) := by decide +kernel
theorem dX5_word_0 : decode cX5_word 0 = .ok (.iconst 0, 1) := by decide +kernel
theorem dX5_word_1 : decode cX5_word 1 = .ok (.istore_n 1, 1) := by decide +kernel
theorem dX5_word_2 : decode cX5_word 2 = .ok (.aload_n 0, 1) := by decide +kernel
theorem dX5_word_3 : decode cX5_word 3 = .ok (.getfield 166, 3) := by decide +kernel
theorem dX5_word_6 : decode cX5_word 6 = .ok (.istore_n 2, 1) := by decide +kernel
theorem dX5_word_7 : decode cX5_word 7 = .ok (.iconst 0, 1) := by decide +kernel
theorem dX5_word_8 : decode cX5_word 8 = .ok (.istore_n 3, 1) := by decide +kernel
theorem dX5_word_9 : decode cX5_word 9 = .ok (.iload_n 3, 1) := by decide +kernel
theorem dX5_word_10 : decode cX5_word 10 = .ok (.iconst 5, 1) := by decide +kernel
theorem dX5_word_11 : decode cX5_word 11 = .ok (.if_icmp .ge 118, 3) := by decide +kernel
theorem dX5_word_14 : decode cX5_word 14 = .ok (.aload_n 0, 1) := by decide +kernel
theorem dX5_word_15 : decode cX5_word 15 = .ok (.getfield 166, 3) := by decide +kernel
theorem dX5_word_18 : decode cX5_word 18 = .ok (.istore 4, 2) := by decide +kernel
theorem dX5_word_20 : decode cX5_word 20 = .ok (.iload_n 1, 1) := by decide +kernel
theorem dX5_word_21 : decode cX5_word 21 = .ok (.istore 5, 2) := by decide +kernel
theorem dX5_word_23 : decode cX5_word 23 = .ok (.aload_n 0, 1) := by decide +kernel
theorem dX5_word_24 : decode cX5_word 24 = .ok (.getfield 70, 3) := by decide +kernel
theorem dX5_word_27 : decode cX5_word 27 = .ok (.iload 5, 2) := by decide +kernel
theorem dX5_word_29 : decode cX5_word 29 = .ok (.iaload, 1) := by decide +kernel
theorem dX5_word_30 : decode cX5_word 30 = .ok (.ifCond .eq 44, 3) := by decide +kernel
theorem dX5_word_33 : decode cX5_word 33 = .ok (.iload 4, 2) := by decide +kernel
theorem dX5_word_35 : decode cX5_word 35 = .ok (.aload_n 0, 1) := by decide +kernel
theorem dX5_word_36 : decode cX5_word 36 = .ok (.getfield 169, 3) := by decide +kernel
theorem dX5_word_39 : decode cX5_word 39 = .ok (.if_icmp .ge 35, 3) := by decide +kernel
theorem dX5_word_42 : decode cX5_word 42 = .ok (.aload_n 0, 1) := by decide +kernel
theorem dX5_word_43 : decode cX5_word 43 = .ok (.getfield 63, 3) := by decide +kernel
theorem dX5_word_46 : decode cX5_word 46 = .ok (.aload_n 0, 1) := by decide +kernel
theorem dX5_word_47 : decode cX5_word 47 = .ok (.getfield 172, 3) := by decide +kernel
theorem dX5_word_50 : decode cX5_word 50 = .ok (.iload 4, 2) := by decide +kernel
theorem dX5_word_52 : decode cX5_word 52 = .ok (.iadd, 1) := by decide +kernel
theorem dX5_word_53 : decode cX5_word 53 = .ok (.laload, 1) := by decide +kernel
theorem dX5_word_54 : decode cX5_word 54 = .ok (.l2i, 1) := by decide +kernel
theorem dX5_word_55 : decode cX5_word 55 = .ok (.aload_n 0, 1) := by decide +kernel
theorem dX5_word_56 : decode cX5_word 56 = .ok (.getfield 70, 3) := by decide +kernel
theorem dX5_word_59 : decode cX5_word 59 = .ok (.iload 5, 2) := by decide +kernel
theorem dX5_word_61 : decode cX5_word 61 = .ok (.iaload, 1) := by decide +kernel
theorem dX5_word_62 : decode cX5_word 62 = .ok (.if_icmp .ne 12, 3) := by decide +kernel
theorem dX5_word_65 : decode cX5_word 65 = .ok (.iinc 4 1, 3) := by decide +kernel
theorem dX5_word_68 : decode cX5_word 68 = .ok (.iinc 5 1, 3) := by decide +kernel
theorem dX5_word_71 : decode cX5_word 71 = .ok (.goto (-48), 3) := by decide +kernel
theorem dX5_word_74 : decode cX5_word 74 = .ok (.aload_n 0, 1) := by decide +kernel
theorem dX5_word_75 : decode cX5_word 75 = .ok (.getfield 70, 3) := by decide +kernel
theorem dX5_word_78 : decode cX5_word 78 = .ok (.iload 5, 2) := by decide +kernel
theorem dX5_word_80 : decode cX5_word 80 = .ok (.iaload, 1) := by decide +kernel
theorem dX5_word_81 : decode cX5_word 81 = .ok (.ifCond .ne 11, 3) := by decide +kernel
theorem dX5_word_84 : decode cX5_word 84 = .ok (.aload_n 0, 1) := by decide +kernel
theorem dX5_word_85 : decode cX5_word 85 = .ok (.iload 4, 2) := by decide +kernel
theorem dX5_word_87 : decode cX5_word 87 = .ok (.putfield 166, 3) := by decide +kernel
theorem dX5_word_90 : decode cX5_word 90 = .ok (.iload_n 3, 1) := by decide +kernel
theorem dX5_word_91 : decode cX5_word 91 = .ok (.ireturn, 1) := by decide +kernel
theorem dX5_word_92 : decode cX5_word 92 = .ok (.iload 4, 2) := by decide +kernel
theorem dX5_word_94 : decode cX5_word 94 = .ok (.iload_n 2, 1) := by decide +kernel
theorem dX5_word_95 : decode cX5_word 95 = .ok (.if_icmp .le 8, 3) := by decide +kernel
theorem dX5_word_98 : decode cX5_word 98 = .ok (.iload 4, 2) := by decide +kernel
theorem dX5_word_100 : decode cX5_word 100 = .ok (.goto 4, 3) := by decide +kernel
theorem dX5_word_103 : decode cX5_word 103 = .ok (.iload_n 2, 1) := by decide +kernel
theorem dX5_word_104 : decode cX5_word 104 = .ok (.istore_n 2, 1) := by decide +kernel
theorem dX5_word_105 : decode cX5_word 105 = .ok (.aload_n 0, 1) := by decide +kernel
theorem dX5_word_106 : decode cX5_word 106 = .ok (.getfield 70, 3) := by decide +kernel
theorem dX5_word_109 : decode cX5_word 109 = .ok (.iload_n 1, 1) := by decide +kernel
theorem dX5_word_110 : decode cX5_word 110 = .ok (.iaload, 1) := by decide +kernel
theorem dX5_word_111 : decode cX5_word 111 = .ok (.ifCond .eq 9, 3) := by decide +kernel
theorem dX5_word_114 : decode cX5_word 114 = .ok (.iinc 1 1, 3) := by decide +kernel
theorem dX5_word_117 : decode cX5_word 117 = .ok (.goto (-12), 3) := by decide +kernel
theorem dX5_word_120 : decode cX5_word 120 = .ok (.iinc 1 1, 3) := by decide +kernel
theorem dX5_word_123 : decode cX5_word 123 = .ok (.iinc 3 1, 3) := by decide +kernel
theorem dX5_word_126 : decode cX5_word 126 = .ok (.goto (-117), 3) := by decide +kernel
theorem dX5_word_129 : decode cX5_word 129 = .ok (.aload_n 0, 1) := by decide +kernel
theorem dX5_word_130 : decode cX5_word 130 = .ok (.iload_n 2, 1) := by decide +kernel
theorem dX5_word_131 : decode cX5_word 131 = .ok (.putfield 163, 3) := by decide +kernel
theorem dX5_word_134 : decode cX5_word 134 = .ok (.iconst (-1), 1) := by decide +kernel
theorem dX5_word_135 : decode cX5_word 135 = .ok (.ireturn, 1) := by decide +kernel
theorem dX5_isDigit_0 : decode cX5_isDigit 0 = .ok (.aload_n 0, 1) := by decide +kernel
theorem dX5_isDigit_1 : decode cX5_isDigit 1 = .ok (.getfield 166, 3) := by decide +kernel
theorem dX5_isDigit_4 : decode cX5_isDigit 4 = .ok (.aload_n 0, 1) := by decide +kernel
theorem dX5_isDigit_5 : decode cX5_isDigit 5 = .ok (.getfield 169, 3) := by decide +kernel
theorem dX5_isDigit_8 : decode cX5_isDigit 8 = .ok (.if_icmp .ge 47, 3) := by decide +kernel
theorem dX5_isDigit_11 : decode cX5_isDigit 11 = .ok (.aload_n 0, 1) := by decide +kernel
theorem dX5_isDigit_12 : decode cX5_isDigit 12 = .ok (.getfield 63, 3) := by decide +kernel
theorem dX5_isDigit_15 : decode cX5_isDigit 15 = .ok (.aload_n 0, 1) := by decide +kernel
theorem dX5_isDigit_16 : decode cX5_isDigit 16 = .ok (.getfield 172, 3) := by decide +kernel
theorem dX5_isDigit_19 : decode cX5_isDigit 19 = .ok (.aload_n 0, 1) := by decide +kernel
theorem dX5_isDigit_20 : decode cX5_isDigit 20 = .ok (.getfield 166, 3) := by decide +kernel
theorem dX5_isDigit_23 : decode cX5_isDigit 23 = .ok (.iadd, 1) := by decide +kernel
theorem dX5_isDigit_24 : decode cX5_isDigit 24 = .ok (.laload, 1) := by decide +kernel
theorem dX5_isDigit_25 : decode cX5_isDigit 25 = .ok (.l2i, 1) := by decide +kernel
theorem dX5_isDigit_26 : decode cX5_isDigit 26 = .ok (.bipush 48, 2) := by decide +kernel
theorem dX5_isDigit_28 : decode cX5_isDigit 28 = .ok (.if_icmp .lt 27, 3) := by decide +kernel
theorem dX5_isDigit_31 : decode cX5_isDigit 31 = .ok (.aload_n 0, 1) := by decide +kernel
theorem dX5_isDigit_32 : decode cX5_isDigit 32 = .ok (.getfield 63, 3) := by decide +kernel
theorem dX5_isDigit_35 : decode cX5_isDigit 35 = .ok (.aload_n 0, 1) := by decide +kernel
theorem dX5_isDigit_36 : decode cX5_isDigit 36 = .ok (.getfield 172, 3) := by decide +kernel
theorem dX5_isDigit_39 : decode cX5_isDigit 39 = .ok (.aload_n 0, 1) := by decide +kernel
theorem dX5_isDigit_40 : decode cX5_isDigit 40 = .ok (.getfield 166, 3) := by decide +kernel
theorem dX5_isDigit_43 : decode cX5_isDigit 43 = .ok (.iadd, 1) := by decide +kernel
theorem dX5_isDigit_44 : decode cX5_isDigit 44 = .ok (.laload, 1) := by decide +kernel
theorem dX5_isDigit_45 : decode cX5_isDigit 45 = .ok (.l2i, 1) := by decide +kernel
theorem dX5_isDigit_46 : decode cX5_isDigit 46 = .ok (.bipush 57, 2) := by decide +kernel
theorem dX5_isDigit_48 : decode cX5_isDigit 48 = .ok (.if_icmp .gt 7, 3) := by decide +kernel
theorem dX5_isDigit_51 : decode cX5_isDigit 51 = .ok (.iconst 1, 1) := by decide +kernel
theorem dX5_isDigit_52 : decode cX5_isDigit 52 = .ok (.goto 4, 3) := by decide +kernel
theorem dX5_isDigit_55 : decode cX5_isDigit 55 = .ok (.iconst 0, 1) := by decide +kernel
theorem dX5_isDigit_56 : decode cX5_isDigit 56 = .ok (.ireturn, 1) := by decide +kernel
theorem dX5_number_0 : decode cX5_number 0 = .ok (.aload_n 0, 1) := by decide +kernel
theorem dX5_number_1 : decode cX5_number 1 = .ok (.getfield 166, 3) := by decide +kernel
theorem dX5_number_4 : decode cX5_number 4 = .ok (.istore_n 3, 1) := by decide +kernel
theorem dX5_number_5 : decode cX5_number 5 = .ok (.aload_n 0, 1) := by decide +kernel
theorem dX5_number_6 : decode cX5_number 6 = .ok (.iconst 0, 1) := by decide +kernel
theorem dX5_number_7 : decode cX5_number 7 = .ok (.putfield 175, 3) := by decide +kernel
theorem dX5_number_10 : decode cX5_number 10 = .ok (.aload_n 0, 1) := by decide +kernel
theorem dX5_number_11 : decode cX5_number 11 = .ok (.invokevirtual 178, 3) := by decide +kernel
theorem dX5_number_14 : decode cX5_number 14 = .ok (.ifCond .ne 12, 3) := by decide +kernel
theorem dX5_number_17 : decode cX5_number 17 = .ok (.aload_n 0, 1) := by decide +kernel
theorem dX5_number_18 : decode cX5_number 18 = .ok (.aload_n 0, 1) := by decide +kernel
theorem dX5_number_19 : decode cX5_number 19 = .ok (.getfield 166, 3) := by decide +kernel
theorem dX5_number_22 : decode cX5_number 22 = .ok (.invokevirtual 182, 3) := by decide +kernel
theorem dX5_number_25 : decode cX5_number 25 = .ok (.ireturn, 1) := by decide +kernel
theorem dX5_number_26 : decode cX5_number 26 = .ok (.iconst 0, 1) := by decide +kernel
theorem dX5_number_27 : decode cX5_number 27 = .ok (.istore 4, 2) := by decide +kernel
theorem dX5_number_29 : decode cX5_number 29 = .ok (.iload 4, 2) := by decide +kernel
theorem dX5_number_31 : decode cX5_number 31 = .ok (.iconst 4, 1) := by decide +kernel
theorem dX5_number_32 : decode cX5_number 32 = .ok (.if_icmp .ge 56, 3) := by decide +kernel
theorem dX5_number_35 : decode cX5_number 35 = .ok (.aload_n 0, 1) := by decide +kernel
theorem dX5_number_36 : decode cX5_number 36 = .ok (.invokevirtual 178, 3) := by decide +kernel
theorem dX5_number_39 : decode cX5_number 39 = .ok (.ifCond .eq 49, 3) := by decide +kernel
theorem dX5_number_42 : decode cX5_number 42 = .ok (.aload_n 0, 1) := by decide +kernel
theorem dX5_number_43 : decode cX5_number 43 = .ok (.bipush 10, 2) := by decide +kernel
theorem dX5_number_45 : decode cX5_number 45 = .ok (.aload_n 0, 1) := by decide +kernel
theorem dX5_number_46 : decode cX5_number 46 = .ok (.getfield 175, 3) := by decide +kernel
theorem dX5_number_49 : decode cX5_number 49 = .ok (.imul, 1) := by decide +kernel
theorem dX5_number_50 : decode cX5_number 50 = .ok (.aload_n 0, 1) := by decide +kernel
theorem dX5_number_51 : decode cX5_number 51 = .ok (.getfield 63, 3) := by decide +kernel
theorem dX5_number_54 : decode cX5_number 54 = .ok (.aload_n 0, 1) := by decide +kernel
theorem dX5_number_55 : decode cX5_number 55 = .ok (.getfield 172, 3) := by decide +kernel
theorem dX5_number_58 : decode cX5_number 58 = .ok (.aload_n 0, 1) := by decide +kernel
theorem dX5_number_59 : decode cX5_number 59 = .ok (.getfield 166, 3) := by decide +kernel
theorem dX5_number_62 : decode cX5_number 62 = .ok (.iadd, 1) := by decide +kernel
theorem dX5_number_63 : decode cX5_number 63 = .ok (.laload, 1) := by decide +kernel
theorem dX5_number_64 : decode cX5_number 64 = .ok (.l2i, 1) := by decide +kernel
theorem dX5_number_65 : decode cX5_number 65 = .ok (.iadd, 1) := by decide +kernel
theorem dX5_number_66 : decode cX5_number 66 = .ok (.bipush 48, 2) := by decide +kernel
theorem dX5_number_68 : decode cX5_number 68 = .ok (.isub, 1) := by decide +kernel
theorem dX5_number_69 : decode cX5_number 69 = .ok (.putfield 175, 3) := by decide +kernel
theorem dX5_number_72 : decode cX5_number 72 = .ok (.aload_n 0, 1) := by decide +kernel
theorem dX5_number_73 : decode cX5_number 73 = .ok (.dup, 1) := by decide +kernel
theorem dX5_number_74 : decode cX5_number 74 = .ok (.getfield 166, 3) := by decide +kernel
theorem dX5_number_77 : decode cX5_number 77 = .ok (.iconst 1, 1) := by decide +kernel
theorem dX5_number_78 : decode cX5_number 78 = .ok (.iadd, 1) := by decide +kernel
theorem dX5_number_79 : decode cX5_number 79 = .ok (.putfield 166, 3) := by decide +kernel
theorem dX5_number_82 : decode cX5_number 82 = .ok (.iinc 4 1, 3) := by decide +kernel
theorem dX5_number_85 : decode cX5_number 85 = .ok (.goto (-56), 3) := by decide +kernel
theorem dX5_number_88 : decode cX5_number 88 = .ok (.aload_n 0, 1) := by decide +kernel
theorem dX5_number_89 : decode cX5_number 89 = .ok (.getfield 175, 3) := by decide +kernel
theorem dX5_number_92 : decode cX5_number 92 = .ok (.iload_n 1, 1) := by decide +kernel
theorem dX5_number_93 : decode cX5_number 93 = .ok (.if_icmp .lt 11, 3) := by decide +kernel
theorem dX5_number_96 : decode cX5_number 96 = .ok (.aload_n 0, 1) := by decide +kernel
theorem dX5_number_97 : decode cX5_number 97 = .ok (.getfield 175, 3) := by decide +kernel
theorem dX5_number_100 : decode cX5_number 100 = .ok (.iload_n 2, 1) := by decide +kernel
theorem dX5_number_101 : decode cX5_number 101 = .ok (.if_icmp .le 11, 3) := by decide +kernel
theorem dX5_number_104 : decode cX5_number 104 = .ok (.aload_n 0, 1) := by decide +kernel
theorem dX5_number_105 : decode cX5_number 105 = .ok (.iload_n 3, 1) := by decide +kernel
theorem dX5_number_106 : decode cX5_number 106 = .ok (.invokevirtual 182, 3) := by decide +kernel
theorem dX5_number_109 : decode cX5_number 109 = .ok (.ifCond .eq 7, 3) := by decide +kernel
theorem dX5_number_112 : decode cX5_number 112 = .ok (.iconst 1, 1) := by decide +kernel
theorem dX5_number_113 : decode cX5_number 113 = .ok (.goto 4, 3) := by decide +kernel
theorem dX5_number_116 : decode cX5_number 116 = .ok (.iconst 0, 1) := by decide +kernel
theorem dX5_number_117 : decode cX5_number 117 = .ok (.ireturn, 1) := by decide +kernel
theorem dX5_high_0 : decode cX5_high 0 = .ok (.iload_n 1, 1) := by decide +kernel
theorem dX5_high_1 : decode cX5_high 1 = .ok (.tableswitch 92 0 3 #[31, 34, 47, 63], 31) := by decide +kernel
theorem dX5_high_32 : decode cX5_high 32 = .ok (.bipush 99, 2) := by decide +kernel
theorem dX5_high_34 : decode cX5_high 34 = .ok (.ireturn, 1) := by decide +kernel
theorem dX5_high_35 : decode cX5_high 35 = .ok (.iload_n 2, 1) := by decide +kernel
theorem dX5_high_36 : decode cX5_high 36 = .ok (.ifCond .ne 8, 3) := by decide +kernel
theorem dX5_high_39 : decode cX5_high 39 = .ok (.bipush 6, 2) := by decide +kernel
theorem dX5_high_41 : decode cX5_high 41 = .ok (.goto 6, 3) := by decide +kernel
theorem dX5_high_44 : decode cX5_high 44 = .ok (.sipush 1023, 3) := by decide +kernel
theorem dX5_high_47 : decode cX5_high 47 = .ok (.ireturn, 1) := by decide +kernel
theorem dX5_high_48 : decode cX5_high 48 = .ok (.iload_n 2, 1) := by decide +kernel
theorem dX5_high_49 : decode cX5_high 49 = .ok (.ifCond .ne 8, 3) := by decide +kernel
theorem dX5_high_52 : decode cX5_high 52 = .ok (.bipush 10, 2) := by decide +kernel
theorem dX5_high_54 : decode cX5_high 54 = .ok (.goto 9, 3) := by decide +kernel
theorem dX5_high_57 : decode cX5_high 57 = .ok (.aload_n 0, 1) := by decide +kernel
theorem dX5_high_58 : decode cX5_high 58 = .ok (.getfield 73, 3) := by decide +kernel
theorem dX5_high_61 : decode cX5_high 61 = .ok (.iconst 0, 1) := by decide +kernel
theorem dX5_high_62 : decode cX5_high 62 = .ok (.iaload, 1) := by decide +kernel
theorem dX5_high_63 : decode cX5_high 63 = .ok (.ireturn, 1) := by decide +kernel
theorem dX5_high_64 : decode cX5_high 64 = .ok (.iload_n 2, 1) := by decide +kernel
theorem dX5_high_65 : decode cX5_high 65 = .ok (.ifCond .ne 12, 3) := by decide +kernel
theorem dX5_high_68 : decode cX5_high 68 = .ok (.aload_n 0, 1) := by decide +kernel
theorem dX5_high_69 : decode cX5_high 69 = .ok (.getfield 92, 3) := by decide +kernel
theorem dX5_high_72 : decode cX5_high 72 = .ok (.iconst 1, 1) := by decide +kernel
theorem dX5_high_73 : decode cX5_high 73 = .ok (.isub, 1) := by decide +kernel
theorem dX5_high_74 : decode cX5_high 74 = .ok (.goto 18, 3) := by decide +kernel
theorem dX5_high_77 : decode cX5_high 77 = .ok (.iload_n 2, 1) := by decide +kernel
theorem dX5_high_78 : decode cX5_high 78 = .ok (.iconst 1, 1) := by decide +kernel
theorem dX5_high_79 : decode cX5_high 79 = .ok (.if_icmp .ne 12, 3) := by decide +kernel
theorem dX5_high_82 : decode cX5_high 82 = .ok (.aload_n 0, 1) := by decide +kernel
theorem dX5_high_83 : decode cX5_high 83 = .ok (.getfield 89, 3) := by decide +kernel
theorem dX5_high_86 : decode cX5_high 86 = .ok (.iconst 1, 1) := by decide +kernel
theorem dX5_high_87 : decode cX5_high 87 = .ok (.isub, 1) := by decide +kernel
theorem dX5_high_88 : decode cX5_high 88 = .ok (.goto 4, 3) := by decide +kernel
theorem dX5_high_91 : decode cX5_high 91 = .ok (.iconst 1, 1) := by decide +kernel
theorem dX5_high_92 : decode cX5_high 92 = .ok (.ireturn, 1) := by decide +kernel
theorem dX5_high_93 : decode cX5_high 93 = .ok (.iload_n 2, 1) := by decide +kernel
theorem dX5_high_94 : decode cX5_high 94 = .ok (.ifCond .ne 12, 3) := by decide +kernel
theorem dX5_high_97 : decode cX5_high 97 = .ok (.aload_n 0, 1) := by decide +kernel
theorem dX5_high_98 : decode cX5_high 98 = .ok (.getfield 89, 3) := by decide +kernel
theorem dX5_high_101 : decode cX5_high 101 = .ok (.iconst 1, 1) := by decide +kernel
theorem dX5_high_102 : decode cX5_high 102 = .ok (.isub, 1) := by decide +kernel
theorem dX5_high_103 : decode cX5_high 103 = .ok (.goto 4, 3) := by decide +kernel
theorem dX5_high_106 : decode cX5_high 106 = .ok (.iconst 1, 1) := by decide +kernel
theorem dX5_high_107 : decode cX5_high 107 = .ok (.ireturn, 1) := by decide +kernel
theorem dX5_isWordFull_0 : decode cX5_isWordFull 0 = .ok (.iload_n 1, 1) := by decide +kernel
theorem dX5_isWordFull_1 : decode cX5_isWordFull 1 = .ok (.ifCond .ne 12, 3) := by decide +kernel
theorem dX5_isWordFull_4 : decode cX5_isWordFull 4 = .ok (.aload_n 0, 1) := by decide +kernel
theorem dX5_isWordFull_5 : decode cX5_isWordFull 5 = .ok (.getfield 89, 3) := by decide +kernel
theorem dX5_isWordFull_8 : decode cX5_isWordFull 8 = .ok (.bipush 6, 2) := by decide +kernel
theorem dX5_isWordFull_10 : decode cX5_isWordFull 10 = .ok (.if_icmp .eq 43, 3) := by decide +kernel
theorem dX5_isWordFull_13 : decode cX5_isWordFull 13 = .ok (.iload_n 1, 1) := by decide +kernel
theorem dX5_isWordFull_14 : decode cX5_isWordFull 14 = .ok (.iconst 1, 1) := by decide +kernel
theorem dX5_isWordFull_15 : decode cX5_isWordFull 15 = .ok (.if_icmp .ne 12, 3) := by decide +kernel
theorem dX5_isWordFull_18 : decode cX5_isWordFull 18 = .ok (.aload_n 0, 1) := by decide +kernel
theorem dX5_isWordFull_19 : decode cX5_isWordFull 19 = .ok (.getfield 92, 3) := by decide +kernel
theorem dX5_isWordFull_22 : decode cX5_isWordFull 22 = .ok (.bipush 6, 2) := by decide +kernel
theorem dX5_isWordFull_24 : decode cX5_isWordFull 24 = .ok (.if_icmp .eq 29, 3) := by decide +kernel
theorem dX5_isWordFull_27 : decode cX5_isWordFull 27 = .ok (.iload_n 1, 1) := by decide +kernel
theorem dX5_isWordFull_28 : decode cX5_isWordFull 28 = .ok (.iconst 2, 1) := by decide +kernel
theorem dX5_isWordFull_29 : decode cX5_isWordFull 29 = .ok (.if_icmp .ne 10, 3) := by decide +kernel
theorem dX5_isWordFull_32 : decode cX5_isWordFull 32 = .ok (.aload_n 0, 1) := by decide +kernel
theorem dX5_isWordFull_33 : decode cX5_isWordFull 33 = .ok (.getfield 118, 3) := by decide +kernel
theorem dX5_isWordFull_36 : decode cX5_isWordFull 36 = .ok (.ifCond .gt 17, 3) := by decide +kernel
theorem dX5_isWordFull_39 : decode cX5_isWordFull 39 = .ok (.iload_n 1, 1) := by decide +kernel
theorem dX5_isWordFull_40 : decode cX5_isWordFull 40 = .ok (.iconst 3, 1) := by decide +kernel
theorem dX5_isWordFull_41 : decode cX5_isWordFull 41 = .ok (.if_icmp .ne 16, 3) := by decide +kernel
theorem dX5_isWordFull_44 : decode cX5_isWordFull 44 = .ok (.aload_n 0, 1) := by decide +kernel
theorem dX5_isWordFull_45 : decode cX5_isWordFull 45 = .ok (.getfield 118, 3) := by decide +kernel
theorem dX5_isWordFull_48 : decode cX5_isWordFull 48 = .ok (.bipush 24, 2) := by decide +kernel
theorem dX5_isWordFull_50 : decode cX5_isWordFull 50 = .ok (.if_icmp .ne 7, 3) := by decide +kernel
theorem dX5_isWordFull_53 : decode cX5_isWordFull 53 = .ok (.iconst 1, 1) := by decide +kernel
theorem dX5_isWordFull_54 : decode cX5_isWordFull 54 = .ok (.goto 4, 3) := by decide +kernel
theorem dX5_isWordFull_57 : decode cX5_isWordFull 57 = .ok (.iconst 0, 1) := by decide +kernel
theorem dX5_isWordFull_58 : decode cX5_isWordFull 58 = .ok (.ireturn, 1) := by decide +kernel
theorem dX5_isWordAt_0 : decode cX5_isWordAt 0 = .ok (.iconst 0, 1) := by decide +kernel
theorem dX5_isWordAt_1 : decode cX5_isWordAt 1 = .ok (.istore_n 2, 1) := by decide +kernel
theorem dX5_isWordAt_2 : decode cX5_isWordAt 2 = .ok (.iconst 0, 1) := by decide +kernel
theorem dX5_isWordAt_3 : decode cX5_isWordAt 3 = .ok (.istore_n 3, 1) := by decide +kernel
theorem dX5_isWordAt_4 : decode cX5_isWordAt 4 = .ok (.iload_n 3, 1) := by decide +kernel
theorem dX5_isWordAt_5 : decode cX5_isWordAt 5 = .ok (.iload_n 1, 1) := by decide +kernel
theorem dX5_isWordAt_6 : decode cX5_isWordAt 6 = .ok (.if_icmp .ge 26, 3) := by decide +kernel
theorem dX5_isWordAt_9 : decode cX5_isWordAt 9 = .ok (.iload_n 3, 1) := by decide +kernel
theorem dX5_isWordAt_10 : decode cX5_isWordAt 10 = .ok (.aload_n 0, 1) := by decide +kernel
theorem dX5_isWordAt_11 : decode cX5_isWordAt 11 = .ok (.getfield 70, 3) := by decide +kernel
theorem dX5_isWordAt_14 : decode cX5_isWordAt 14 = .ok (.iload_n 2, 1) := by decide +kernel
theorem dX5_isWordAt_15 : decode cX5_isWordAt 15 = .ok (.iaload, 1) := by decide +kernel
theorem dX5_isWordAt_16 : decode cX5_isWordAt 16 = .ok (.ifCond .ne 7, 3) := by decide +kernel
theorem dX5_isWordAt_19 : decode cX5_isWordAt 19 = .ok (.iconst 1, 1) := by decide +kernel
theorem dX5_isWordAt_20 : decode cX5_isWordAt 20 = .ok (.goto 4, 3) := by decide +kernel
theorem dX5_isWordAt_23 : decode cX5_isWordAt 23 = .ok (.iconst 0, 1) := by decide +kernel
theorem dX5_isWordAt_24 : decode cX5_isWordAt 24 = .ok (.iadd, 1) := by decide +kernel
theorem dX5_isWordAt_25 : decode cX5_isWordAt 25 = .ok (.istore_n 3, 1) := by decide +kernel
theorem dX5_isWordAt_26 : decode cX5_isWordAt 26 = .ok (.iinc 2 1, 3) := by decide +kernel
theorem dX5_isWordAt_29 : decode cX5_isWordAt 29 = .ok (.goto (-25), 3) := by decide +kernel
theorem dX5_isWordAt_32 : decode cX5_isWordAt 32 = .ok (.aload_n 0, 1) := by decide +kernel
theorem dX5_isWordAt_33 : decode cX5_isWordAt 33 = .ok (.getfield 166, 3) := by decide +kernel
theorem dX5_isWordAt_36 : decode cX5_isWordAt 36 = .ok (.istore_n 3, 1) := by decide +kernel
theorem dX5_isWordAt_37 : decode cX5_isWordAt 37 = .ok (.aload_n 0, 1) := by decide +kernel
theorem dX5_isWordAt_38 : decode cX5_isWordAt 38 = .ok (.getfield 70, 3) := by decide +kernel
theorem dX5_isWordAt_41 : decode cX5_isWordAt 41 = .ok (.iload_n 2, 1) := by decide +kernel
theorem dX5_isWordAt_42 : decode cX5_isWordAt 42 = .ok (.iaload, 1) := by decide +kernel
theorem dX5_isWordAt_43 : decode cX5_isWordAt 43 = .ok (.bipush 32, 2) := by decide +kernel
theorem dX5_isWordAt_45 : decode cX5_isWordAt 45 = .ok (.if_icmp .le 41, 3) := by decide +kernel
theorem dX5_isWordAt_48 : decode cX5_isWordAt 48 = .ok (.iload_n 3, 1) := by decide +kernel
theorem dX5_isWordAt_49 : decode cX5_isWordAt 49 = .ok (.aload_n 0, 1) := by decide +kernel
theorem dX5_isWordAt_50 : decode cX5_isWordAt 50 = .ok (.getfield 169, 3) := by decide +kernel
theorem dX5_isWordAt_53 : decode cX5_isWordAt 53 = .ok (.if_icmp .ge 33, 3) := by decide +kernel
theorem dX5_isWordAt_56 : decode cX5_isWordAt 56 = .ok (.aload_n 0, 1) := by decide +kernel
theorem dX5_isWordAt_57 : decode cX5_isWordAt 57 = .ok (.getfield 63, 3) := by decide +kernel
theorem dX5_isWordAt_60 : decode cX5_isWordAt 60 = .ok (.aload_n 0, 1) := by decide +kernel
theorem dX5_isWordAt_61 : decode cX5_isWordAt 61 = .ok (.getfield 172, 3) := by decide +kernel
theorem dX5_isWordAt_64 : decode cX5_isWordAt 64 = .ok (.iload_n 3, 1) := by decide +kernel
theorem dX5_isWordAt_65 : decode cX5_isWordAt 65 = .ok (.iadd, 1) := by decide +kernel
theorem dX5_isWordAt_66 : decode cX5_isWordAt 66 = .ok (.laload, 1) := by decide +kernel
theorem dX5_isWordAt_67 : decode cX5_isWordAt 67 = .ok (.l2i, 1) := by decide +kernel
theorem dX5_isWordAt_68 : decode cX5_isWordAt 68 = .ok (.aload_n 0, 1) := by decide +kernel
theorem dX5_isWordAt_69 : decode cX5_isWordAt 69 = .ok (.getfield 70, 3) := by decide +kernel
theorem dX5_isWordAt_72 : decode cX5_isWordAt 72 = .ok (.iload_n 2, 1) := by decide +kernel
theorem dX5_isWordAt_73 : decode cX5_isWordAt 73 = .ok (.iaload, 1) := by decide +kernel
theorem dX5_isWordAt_74 : decode cX5_isWordAt 74 = .ok (.if_icmp .ne 12, 3) := by decide +kernel
theorem dX5_isWordAt_77 : decode cX5_isWordAt 77 = .ok (.iinc 3 1, 3) := by decide +kernel
theorem dX5_isWordAt_80 : decode cX5_isWordAt 80 = .ok (.iinc 2 1, 3) := by decide +kernel
theorem dX5_isWordAt_83 : decode cX5_isWordAt 83 = .ok (.goto (-46), 3) := by decide +kernel
theorem dX5_isWordAt_86 : decode cX5_isWordAt 86 = .ok (.aload_n 0, 1) := by decide +kernel
theorem dX5_isWordAt_87 : decode cX5_isWordAt 87 = .ok (.getfield 70, 3) := by decide +kernel
theorem dX5_isWordAt_90 : decode cX5_isWordAt 90 = .ok (.iload_n 2, 1) := by decide +kernel
theorem dX5_isWordAt_91 : decode cX5_isWordAt 91 = .ok (.iaload, 1) := by decide +kernel
theorem dX5_isWordAt_92 : decode cX5_isWordAt 92 = .ok (.bipush 32, 2) := by decide +kernel
theorem dX5_isWordAt_94 : decode cX5_isWordAt 94 = .ok (.if_icmp .gt 7, 3) := by decide +kernel
theorem dX5_isWordAt_97 : decode cX5_isWordAt 97 = .ok (.iconst 1, 1) := by decide +kernel
theorem dX5_isWordAt_98 : decode cX5_isWordAt 98 = .ok (.goto 4, 3) := by decide +kernel
theorem dX5_isWordAt_101 : decode cX5_isWordAt 101 = .ok (.iconst 0, 1) := by decide +kernel
theorem dX5_isWordAt_102 : decode cX5_isWordAt 102 = .ok (.ireturn, 1) := by decide +kernel
theorem dX5_item_0 : decode cX5_item 0 = .ok (.iconst 0, 1) := by decide +kernel
theorem dX5_item_1 : decode cX5_item 1 = .ok (.istore_n 1, 1) := by decide +kernel
theorem dX5_item_2 : decode cX5_item 2 = .ok (.iload_n 1, 1) := by decide +kernel
theorem dX5_item_3 : decode cX5_item 3 = .ok (.iconst 5, 1) := by decide +kernel
theorem dX5_item_4 : decode cX5_item 4 = .ok (.if_icmp .ge 34, 3) := by decide +kernel
theorem dX5_item_7 : decode cX5_item 7 = .ok (.aload_n 0, 1) := by decide +kernel
theorem dX5_item_8 : decode cX5_item 8 = .ok (.iload_n 1, 1) := by decide +kernel
theorem dX5_item_9 : decode cX5_item 9 = .ok (.invokevirtual 185, 3) := by decide +kernel
theorem dX5_item_12 : decode cX5_item 12 = .ok (.ifCond .eq 20, 3) := by decide +kernel
theorem dX5_item_15 : decode cX5_item 15 = .ok (.aload_n 0, 1) := by decide +kernel
theorem dX5_item_16 : decode cX5_item 16 = .ok (.iload_n 1, 1) := by decide +kernel
theorem dX5_item_17 : decode cX5_item 17 = .ok (.invokevirtual 188, 3) := by decide +kernel
theorem dX5_item_20 : decode cX5_item 20 = .ok (.ifCond .eq 12, 3) := by decide +kernel
theorem dX5_item_23 : decode cX5_item 23 = .ok (.aload_n 0, 1) := by decide +kernel
theorem dX5_item_24 : decode cX5_item 24 = .ok (.aload_n 0, 1) := by decide +kernel
theorem dX5_item_25 : decode cX5_item 25 = .ok (.getfield 166, 3) := by decide +kernel
theorem dX5_item_28 : decode cX5_item 28 = .ok (.invokevirtual 182, 3) := by decide +kernel
theorem dX5_item_31 : decode cX5_item 31 = .ok (.ireturn, 1) := by decide +kernel
theorem dX5_item_32 : decode cX5_item 32 = .ok (.iinc 1 1, 3) := by decide +kernel
theorem dX5_item_35 : decode cX5_item 35 = .ok (.goto (-33), 3) := by decide +kernel
theorem dX5_item_38 : decode cX5_item 38 = .ok (.aload_n 0, 1) := by decide +kernel
theorem dX5_item_39 : decode cX5_item 39 = .ok (.getfield 166, 3) := by decide +kernel
theorem dX5_item_42 : decode cX5_item 42 = .ok (.istore_n 1, 1) := by decide +kernel
theorem dX5_item_43 : decode cX5_item 43 = .ok (.aload_n 0, 1) := by decide +kernel
theorem dX5_item_44 : decode cX5_item 44 = .ok (.invokevirtual 191, 3) := by decide +kernel
theorem dX5_item_47 : decode cX5_item 47 = .ok (.istore_n 2, 1) := by decide +kernel
theorem dX5_item_48 : decode cX5_item 48 = .ok (.aload_n 0, 1) := by decide +kernel
theorem dX5_item_49 : decode cX5_item 49 = .ok (.getfield 166, 3) := by decide +kernel
theorem dX5_item_52 : decode cX5_item 52 = .ok (.istore_n 3, 1) := by decide +kernel
theorem dX5_item_53 : decode cX5_item 53 = .ok (.iload_n 2, 1) := by decide +kernel
theorem dX5_item_54 : decode cX5_item 54 = .ok (.iconst (-1), 1) := by decide +kernel
theorem dX5_item_55 : decode cX5_item 55 = .ok (.if_icmp .ne 5, 3) := by decide +kernel
theorem dX5_item_58 : decode cX5_item 58 = .ok (.iconst 0, 1) := by decide +kernel
theorem dX5_item_59 : decode cX5_item 59 = .ok (.ireturn, 1) := by decide +kernel
theorem dX5_item_60 : decode cX5_item 60 = .ok (.iload_n 2, 1) := by decide +kernel
theorem dX5_item_61 : decode cX5_item 61 = .ok (.ifCond .ne 12, 3) := by decide +kernel
theorem dX5_item_64 : decode cX5_item 64 = .ok (.aload_n 0, 1) := by decide +kernel
theorem dX5_item_65 : decode cX5_item 65 = .ok (.getfield 89, 3) := by decide +kernel
theorem dX5_item_68 : decode cX5_item 68 = .ok (.bipush 6, 2) := by decide +kernel
theorem dX5_item_70 : decode cX5_item 70 = .ok (.if_icmp .eq 43, 3) := by decide +kernel
theorem dX5_item_73 : decode cX5_item 73 = .ok (.iload_n 2, 1) := by decide +kernel
theorem dX5_item_74 : decode cX5_item 74 = .ok (.iconst 1, 1) := by decide +kernel
theorem dX5_item_75 : decode cX5_item 75 = .ok (.if_icmp .ne 12, 3) := by decide +kernel
theorem dX5_item_78 : decode cX5_item 78 = .ok (.aload_n 0, 1) := by decide +kernel
theorem dX5_item_79 : decode cX5_item 79 = .ok (.getfield 92, 3) := by decide +kernel
theorem dX5_item_82 : decode cX5_item 82 = .ok (.bipush 6, 2) := by decide +kernel
theorem dX5_item_84 : decode cX5_item 84 = .ok (.if_icmp .eq 29, 3) := by decide +kernel
theorem dX5_item_87 : decode cX5_item 87 = .ok (.iload_n 2, 1) := by decide +kernel
theorem dX5_item_88 : decode cX5_item 88 = .ok (.iconst 2, 1) := by decide +kernel
theorem dX5_item_89 : decode cX5_item 89 = .ok (.if_icmp .ne 10, 3) := by decide +kernel
theorem dX5_item_92 : decode cX5_item 92 = .ok (.aload_n 0, 1) := by decide +kernel
theorem dX5_item_93 : decode cX5_item 93 = .ok (.getfield 118, 3) := by decide +kernel
theorem dX5_item_96 : decode cX5_item 96 = .ok (.ifCond .gt 17, 3) := by decide +kernel
theorem dX5_item_99 : decode cX5_item 99 = .ok (.iload_n 2, 1) := by decide +kernel
theorem dX5_item_100 : decode cX5_item 100 = .ok (.iconst 3, 1) := by decide +kernel
theorem dX5_item_101 : decode cX5_item 101 = .ok (.if_icmp .ne 18, 3) := by decide +kernel
theorem dX5_item_104 : decode cX5_item 104 = .ok (.aload_n 0, 1) := by decide +kernel
theorem dX5_item_105 : decode cX5_item 105 = .ok (.getfield 118, 3) := by decide +kernel
theorem dX5_item_108 : decode cX5_item 108 = .ok (.bipush 24, 2) := by decide +kernel
theorem dX5_item_110 : decode cX5_item 110 = .ok (.if_icmp .ne 9, 3) := by decide +kernel
theorem dX5_item_113 : decode cX5_item 113 = .ok (.aload_n 0, 1) := by decide +kernel
theorem dX5_item_114 : decode cX5_item 114 = .ok (.iload_n 1, 1) := by decide +kernel
theorem dX5_item_115 : decode cX5_item 115 = .ok (.invokevirtual 182, 3) := by decide +kernel
theorem dX5_item_118 : decode cX5_item 118 = .ok (.ireturn, 1) := by decide +kernel
theorem dX5_item_119 : decode cX5_item 119 = .ok (.iload_n 2, 1) := by decide +kernel
theorem dX5_item_120 : decode cX5_item 120 = .ok (.ifCond .ne 7, 3) := by decide +kernel
theorem dX5_item_123 : decode cX5_item 123 = .ok (.iconst 1, 1) := by decide +kernel
theorem dX5_item_124 : decode cX5_item 124 = .ok (.goto 13, 3) := by decide +kernel
theorem dX5_item_127 : decode cX5_item 127 = .ok (.iload_n 2, 1) := by decide +kernel
theorem dX5_item_128 : decode cX5_item 128 = .ok (.iconst 3, 1) := by decide +kernel
theorem dX5_item_129 : decode cX5_item 129 = .ok (.if_icmp .ne 7, 3) := by decide +kernel
theorem dX5_item_132 : decode cX5_item 132 = .ok (.iconst 3, 1) := by decide +kernel
theorem dX5_item_133 : decode cX5_item 133 = .ok (.goto 4, 3) := by decide +kernel
theorem dX5_item_136 : decode cX5_item 136 = .ok (.iconst 2, 1) := by decide +kernel
theorem dX5_item_137 : decode cX5_item 137 = .ok (.istore 4, 2) := by decide +kernel
theorem dX5_item_139 : decode cX5_item 139 = .ok (.iconst 0, 1) := by decide +kernel
theorem dX5_item_140 : decode cX5_item 140 = .ok (.istore 5, 2) := by decide +kernel
theorem dX5_item_142 : decode cX5_item 142 = .ok (.iload 5, 2) := by decide +kernel
theorem dX5_item_144 : decode cX5_item 144 = .ok (.iload 4, 2) := by decide +kernel
theorem dX5_item_146 : decode cX5_item 146 = .ok (.if_icmp .ge 138, 3) := by decide +kernel
theorem dX5_item_149 : decode cX5_item 149 = .ok (.iload 5, 2) := by decide +kernel
theorem dX5_item_151 : decode cX5_item 151 = .ok (.ifCond .le 53, 3) := by decide +kernel
theorem dX5_item_154 : decode cX5_item 154 = .ok (.aload_n 0, 1) := by decide +kernel
theorem dX5_item_155 : decode cX5_item 155 = .ok (.getfield 166, 3) := by decide +kernel
theorem dX5_item_158 : decode cX5_item 158 = .ok (.aload_n 0, 1) := by decide +kernel
theorem dX5_item_159 : decode cX5_item 159 = .ok (.getfield 169, 3) := by decide +kernel
theorem dX5_item_162 : decode cX5_item 162 = .ok (.if_icmp .ge 23, 3) := by decide +kernel
theorem dX5_item_165 : decode cX5_item 165 = .ok (.aload_n 0, 1) := by decide +kernel
theorem dX5_item_166 : decode cX5_item 166 = .ok (.getfield 63, 3) := by decide +kernel
theorem dX5_item_169 : decode cX5_item 169 = .ok (.aload_n 0, 1) := by decide +kernel
theorem dX5_item_170 : decode cX5_item 170 = .ok (.getfield 172, 3) := by decide +kernel
theorem dX5_item_173 : decode cX5_item 173 = .ok (.aload_n 0, 1) := by decide +kernel
theorem dX5_item_174 : decode cX5_item 174 = .ok (.getfield 166, 3) := by decide +kernel
theorem dX5_item_177 : decode cX5_item 177 = .ok (.iadd, 1) := by decide +kernel
theorem dX5_item_178 : decode cX5_item 178 = .ok (.laload, 1) := by decide +kernel
theorem dX5_item_179 : decode cX5_item 179 = .ok (.l2i, 1) := by decide +kernel
theorem dX5_item_180 : decode cX5_item 180 = .ok (.bipush 32, 2) := by decide +kernel
theorem dX5_item_182 : decode cX5_item 182 = .ok (.if_icmp .eq 12, 3) := by decide +kernel
theorem dX5_item_185 : decode cX5_item 185 = .ok (.aload_n 0, 1) := by decide +kernel
theorem dX5_item_186 : decode cX5_item 186 = .ok (.aload_n 0, 1) := by decide +kernel
theorem dX5_item_187 : decode cX5_item 187 = .ok (.getfield 166, 3) := by decide +kernel
theorem dX5_item_190 : decode cX5_item 190 = .ok (.invokevirtual 182, 3) := by decide +kernel
theorem dX5_item_193 : decode cX5_item 193 = .ok (.ireturn, 1) := by decide +kernel
theorem dX5_item_194 : decode cX5_item 194 = .ok (.aload_n 0, 1) := by decide +kernel
theorem dX5_item_195 : decode cX5_item 195 = .ok (.dup, 1) := by decide +kernel
theorem dX5_item_196 : decode cX5_item 196 = .ok (.getfield 166, 3) := by decide +kernel
theorem dX5_item_199 : decode cX5_item 199 = .ok (.iconst 1, 1) := by decide +kernel
theorem dX5_item_200 : decode cX5_item 200 = .ok (.iadd, 1) := by decide +kernel
theorem dX5_item_201 : decode cX5_item 201 = .ok (.putfield 166, 3) := by decide +kernel
theorem dX5_item_204 : decode cX5_item 204 = .ok (.aload_n 0, 1) := by decide +kernel
theorem dX5_item_205 : decode cX5_item 205 = .ok (.getfield 166, 3) := by decide +kernel
theorem dX5_item_208 : decode cX5_item 208 = .ok (.istore_n 3, 1) := by decide +kernel
theorem dX5_item_209 : decode cX5_item 209 = .ok (.aload_n 0, 1) := by decide +kernel
theorem dX5_item_210 : decode cX5_item 210 = .ok (.iload_n 2, 1) := by decide +kernel
theorem dX5_item_211 : decode cX5_item 211 = .ok (.iconst 2, 1) := by decide +kernel
theorem dX5_item_212 : decode cX5_item 212 = .ok (.if_icmp .ne 12, 3) := by decide +kernel
theorem dX5_item_215 : decode cX5_item 215 = .ok (.iload 5, 2) := by decide +kernel
theorem dX5_item_217 : decode cX5_item 217 = .ok (.ifCond .ne 7, 3) := by decide +kernel
theorem dX5_item_220 : decode cX5_item 220 = .ok (.iconst 2, 1) := by decide +kernel
theorem dX5_item_221 : decode cX5_item 221 = .ok (.goto 4, 3) := by decide +kernel
theorem dX5_item_224 : decode cX5_item 224 = .ok (.iconst 0, 1) := by decide +kernel
theorem dX5_item_225 : decode cX5_item 225 = .ok (.aload_n 0, 1) := by decide +kernel
theorem dX5_item_226 : decode cX5_item 226 = .ok (.iload_n 2, 1) := by decide +kernel
theorem dX5_item_227 : decode cX5_item 227 = .ok (.iload 5, 2) := by decide +kernel
theorem dX5_item_229 : decode cX5_item 229 = .ok (.invokevirtual 195, 3) := by decide +kernel
theorem dX5_item_232 : decode cX5_item 232 = .ok (.invokevirtual 198, 3) := by decide +kernel
theorem dX5_item_235 : decode cX5_item 235 = .ok (.ifCond .ne 5, 3) := by decide +kernel
theorem dX5_item_238 : decode cX5_item 238 = .ok (.iconst 0, 1) := by decide +kernel
theorem dX5_item_239 : decode cX5_item 239 = .ok (.ireturn, 1) := by decide +kernel
theorem dX5_item_240 : decode cX5_item 240 = .ok (.iload_n 2, 1) := by decide +kernel
theorem dX5_item_241 : decode cX5_item 241 = .ok (.iconst 3, 1) := by decide +kernel
theorem dX5_item_242 : decode cX5_item 242 = .ok (.if_icmp .ne 25, 3) := by decide +kernel
theorem dX5_item_245 : decode cX5_item 245 = .ok (.iload 5, 2) := by decide +kernel
theorem dX5_item_247 : decode cX5_item 247 = .ok (.ifCond .ne 20, 3) := by decide +kernel
theorem dX5_item_250 : decode cX5_item 250 = .ok (.aload_n 0, 1) := by decide +kernel
theorem dX5_item_251 : decode cX5_item 251 = .ok (.aload_n 0, 1) := by decide +kernel
theorem dX5_item_252 : decode cX5_item 252 = .ok (.getfield 175, 3) := by decide +kernel
theorem dX5_item_255 : decode cX5_item 255 = .ok (.invokevirtual 150, 3) := by decide +kernel
theorem dX5_item_258 : decode cX5_item 258 = .ok (.ifCond .eq 9, 3) := by decide +kernel
theorem dX5_item_261 : decode cX5_item 261 = .ok (.aload_n 0, 1) := by decide +kernel
theorem dX5_item_262 : decode cX5_item 262 = .ok (.iload_n 3, 1) := by decide +kernel
theorem dX5_item_263 : decode cX5_item 263 = .ok (.invokevirtual 182, 3) := by decide +kernel
theorem dX5_item_266 : decode cX5_item 266 = .ok (.ireturn, 1) := by decide +kernel
theorem dX5_item_267 : decode cX5_item 267 = .ok (.aload_n 0, 1) := by decide +kernel
theorem dX5_item_268 : decode cX5_item 268 = .ok (.getfield 73, 3) := by decide +kernel
theorem dX5_item_271 : decode cX5_item 271 = .ok (.iload 5, 2) := by decide +kernel
theorem dX5_item_273 : decode cX5_item 273 = .ok (.aload_n 0, 1) := by decide +kernel
theorem dX5_item_274 : decode cX5_item 274 = .ok (.getfield 175, 3) := by decide +kernel
theorem dX5_item_277 : decode cX5_item 277 = .ok (.iastore, 1) := by decide +kernel
theorem dX5_item_278 : decode cX5_item 278 = .ok (.iinc 5 1, 3) := by decide +kernel
theorem dX5_item_281 : decode cX5_item 281 = .ok (.goto (-139), 3) := by decide +kernel
theorem dX5_item_284 : decode cX5_item 284 = .ok (.iload_n 2, 1) := by decide +kernel
theorem dX5_item_285 : decode cX5_item 285 = .ok (.tableswitch 140 0 3 #[31, 44, 63, 85], 31) := by decide +kernel
theorem dX5_item_316 : decode cX5_item 316 = .ok (.aload_n 0, 1) := by decide +kernel
theorem dX5_item_317 : decode cX5_item 317 = .ok (.aload_n 0, 1) := by decide +kernel
theorem dX5_item_318 : decode cX5_item 318 = .ok (.getfield 73, 3) := by decide +kernel
theorem dX5_item_321 : decode cX5_item 321 = .ok (.iconst 0, 1) := by decide +kernel
theorem dX5_item_322 : decode cX5_item 322 = .ok (.iaload, 1) := by decide +kernel
theorem dX5_item_323 : decode cX5_item 323 = .ok (.invokevirtual 113, 3) := by decide +kernel
theorem dX5_item_326 : decode cX5_item 326 = .ok (.pop, 1) := by decide +kernel
theorem dX5_item_327 : decode cX5_item 327 = .ok (.iconst 1, 1) := by decide +kernel
theorem dX5_item_328 : decode cX5_item 328 = .ok (.ireturn, 1) := by decide +kernel
theorem dX5_item_329 : decode cX5_item 329 = .ok (.aload_n 0, 1) := by decide +kernel
theorem dX5_item_330 : decode cX5_item 330 = .ok (.aload_n 0, 1) := by decide +kernel
theorem dX5_item_331 : decode cX5_item 331 = .ok (.getfield 73, 3) := by decide +kernel
theorem dX5_item_334 : decode cX5_item 334 = .ok (.iconst 0, 1) := by decide +kernel
theorem dX5_item_335 : decode cX5_item 335 = .ok (.iaload, 1) := by decide +kernel
theorem dX5_item_336 : decode cX5_item 336 = .ok (.aload_n 0, 1) := by decide +kernel
theorem dX5_item_337 : decode cX5_item 337 = .ok (.getfield 73, 3) := by decide +kernel
theorem dX5_item_340 : decode cX5_item 340 = .ok (.iconst 1, 1) := by decide +kernel
theorem dX5_item_341 : decode cX5_item 341 = .ok (.iaload, 1) := by decide +kernel
theorem dX5_item_342 : decode cX5_item 342 = .ok (.invokevirtual 115, 3) := by decide +kernel
theorem dX5_item_345 : decode cX5_item 345 = .ok (.pop, 1) := by decide +kernel
theorem dX5_item_346 : decode cX5_item 346 = .ok (.iconst 1, 1) := by decide +kernel
theorem dX5_item_347 : decode cX5_item 347 = .ok (.ireturn, 1) := by decide +kernel
theorem dX5_item_348 : decode cX5_item 348 = .ok (.aload_n 0, 1) := by decide +kernel
theorem dX5_item_349 : decode cX5_item 349 = .ok (.aload_n 0, 1) := by decide +kernel
theorem dX5_item_350 : decode cX5_item 350 = .ok (.getfield 73, 3) := by decide +kernel
theorem dX5_item_353 : decode cX5_item 353 = .ok (.iconst 0, 1) := by decide +kernel
theorem dX5_item_354 : decode cX5_item 354 = .ok (.iaload, 1) := by decide +kernel
theorem dX5_item_355 : decode cX5_item 355 = .ok (.putfield 7, 3) := by decide +kernel
theorem dX5_item_358 : decode cX5_item 358 = .ok (.aload_n 0, 1) := by decide +kernel
theorem dX5_item_359 : decode cX5_item 359 = .ok (.aload_n 0, 1) := by decide +kernel
theorem dX5_item_360 : decode cX5_item 360 = .ok (.getfield 73, 3) := by decide +kernel
theorem dX5_item_363 : decode cX5_item 363 = .ok (.iconst 1, 1) := by decide +kernel
theorem dX5_item_364 : decode cX5_item 364 = .ok (.iaload, 1) := by decide +kernel
theorem dX5_item_365 : decode cX5_item 365 = .ok (.putfield 13, 3) := by decide +kernel
theorem dX5_item_368 : decode cX5_item 368 = .ok (.iconst 1, 1) := by decide +kernel
theorem dX5_item_369 : decode cX5_item 369 = .ok (.ireturn, 1) := by decide +kernel
theorem dX5_item_370 : decode cX5_item 370 = .ok (.aload_n 0, 1) := by decide +kernel
theorem dX5_item_371 : decode cX5_item 371 = .ok (.aload_n 0, 1) := by decide +kernel
theorem dX5_item_372 : decode cX5_item 372 = .ok (.getfield 73, 3) := by decide +kernel
theorem dX5_item_375 : decode cX5_item 375 = .ok (.iconst 0, 1) := by decide +kernel
theorem dX5_item_376 : decode cX5_item 376 = .ok (.iaload, 1) := by decide +kernel
theorem dX5_item_377 : decode cX5_item 377 = .ok (.aload_n 0, 1) := by decide +kernel
theorem dX5_item_378 : decode cX5_item 378 = .ok (.getfield 73, 3) := by decide +kernel
theorem dX5_item_381 : decode cX5_item 381 = .ok (.iconst 1, 1) := by decide +kernel
theorem dX5_item_382 : decode cX5_item 382 = .ok (.iaload, 1) := by decide +kernel
theorem dX5_item_383 : decode cX5_item 383 = .ok (.aload_n 0, 1) := by decide +kernel
theorem dX5_item_384 : decode cX5_item 384 = .ok (.getfield 73, 3) := by decide +kernel
theorem dX5_item_387 : decode cX5_item 387 = .ok (.iconst 2, 1) := by decide +kernel
theorem dX5_item_388 : decode cX5_item 388 = .ok (.iaload, 1) := by decide +kernel
theorem dX5_item_389 : decode cX5_item 389 = .ok (.invokevirtual 153, 3) := by decide +kernel
theorem dX5_item_392 : decode cX5_item 392 = .ok (.ifCond .ne 9, 3) := by decide +kernel
theorem dX5_item_395 : decode cX5_item 395 = .ok (.aload_n 0, 1) := by decide +kernel
theorem dX5_item_396 : decode cX5_item 396 = .ok (.iload_n 3, 1) := by decide +kernel
theorem dX5_item_397 : decode cX5_item 397 = .ok (.invokevirtual 182, 3) := by decide +kernel
theorem dX5_item_400 : decode cX5_item 400 = .ok (.ireturn, 1) := by decide +kernel
theorem dX5_item_401 : decode cX5_item 401 = .ok (.aload_n 0, 1) := by decide +kernel
theorem dX5_item_402 : decode cX5_item 402 = .ok (.aload_n 0, 1) := by decide +kernel
theorem dX5_item_403 : decode cX5_item 403 = .ok (.getfield 73, 3) := by decide +kernel
theorem dX5_item_406 : decode cX5_item 406 = .ok (.iconst 0, 1) := by decide +kernel
theorem dX5_item_407 : decode cX5_item 407 = .ok (.iaload, 1) := by decide +kernel
theorem dX5_item_408 : decode cX5_item 408 = .ok (.aload_n 0, 1) := by decide +kernel
theorem dX5_item_409 : decode cX5_item 409 = .ok (.getfield 73, 3) := by decide +kernel
theorem dX5_item_412 : decode cX5_item 412 = .ok (.iconst 1, 1) := by decide +kernel
theorem dX5_item_413 : decode cX5_item 413 = .ok (.iaload, 1) := by decide +kernel
theorem dX5_item_414 : decode cX5_item 414 = .ok (.aload_n 0, 1) := by decide +kernel
theorem dX5_item_415 : decode cX5_item 415 = .ok (.getfield 73, 3) := by decide +kernel
theorem dX5_item_418 : decode cX5_item 418 = .ok (.iconst 2, 1) := by decide +kernel
theorem dX5_item_419 : decode cX5_item 419 = .ok (.iaload, 1) := by decide +kernel
theorem dX5_item_420 : decode cX5_item 420 = .ok (.invokevirtual 138, 3) := by decide +kernel
theorem dX5_item_423 : decode cX5_item 423 = .ok (.iconst 1, 1) := by decide +kernel
theorem dX5_item_424 : decode cX5_item 424 = .ok (.ireturn, 1) := by decide +kernel
theorem dX5_item_425 : decode cX5_item 425 = .ok (.aload_n 0, 1) := by decide +kernel
theorem dX5_item_426 : decode cX5_item 426 = .ok (.aload_n 0, 1) := by decide +kernel
theorem dX5_item_427 : decode cX5_item 427 = .ok (.getfield 73, 3) := by decide +kernel
theorem dX5_item_430 : decode cX5_item 430 = .ok (.iconst 0, 1) := by decide +kernel
theorem dX5_item_431 : decode cX5_item 431 = .ok (.iaload, 1) := by decide +kernel
theorem dX5_item_432 : decode cX5_item 432 = .ok (.aload_n 0, 1) := by decide +kernel
theorem dX5_item_433 : decode cX5_item 433 = .ok (.getfield 73, 3) := by decide +kernel
theorem dX5_item_436 : decode cX5_item 436 = .ok (.iconst 1, 1) := by decide +kernel
theorem dX5_item_437 : decode cX5_item 437 = .ok (.iaload, 1) := by decide +kernel
theorem dX5_item_438 : decode cX5_item 438 = .ok (.invokevirtual 160, 3) := by decide +kernel
theorem dX5_item_441 : decode cX5_item 441 = .ok (.ifCond .ne 11, 3) := by decide +kernel
theorem dX5_item_444 : decode cX5_item 444 = .ok (.aload_n 0, 1) := by decide +kernel
theorem dX5_item_445 : decode cX5_item 445 = .ok (.iload_n 3, 1) := by decide +kernel
theorem dX5_item_446 : decode cX5_item 446 = .ok (.invokevirtual 182, 3) := by decide +kernel
theorem dX5_item_449 : decode cX5_item 449 = .ok (.ifCond .eq 7, 3) := by decide +kernel
theorem dX5_item_452 : decode cX5_item 452 = .ok (.iconst 1, 1) := by decide +kernel
theorem dX5_item_453 : decode cX5_item 453 = .ok (.goto 4, 3) := by decide +kernel
theorem dX5_item_456 : decode cX5_item 456 = .ok (.iconst 0, 1) := by decide +kernel
theorem dX5_item_457 : decode cX5_item 457 = .ok (.ireturn, 1) := by decide +kernel
theorem dX5_keeps_0 : decode cX5_keeps 0 = .ok (.iconst 0, 1) := by decide +kernel
theorem dX5_keeps_1 : decode cX5_keeps 1 = .ok (.istore 6, 2) := by decide +kernel
theorem dX5_keeps_3 : decode cX5_keeps 3 = .ok (.iload 6, 2) := by decide +kernel
theorem dX5_keeps_5 : decode cX5_keeps 5 = .ok (.iload_n 2, 1) := by decide +kernel
theorem dX5_keeps_6 : decode cX5_keeps 6 = .ok (.if_icmp .ge 39, 3) := by decide +kernel
theorem dX5_keeps_9 : decode cX5_keeps 9 = .ok (.iload 5, 2) := by decide +kernel
theorem dX5_keeps_11 : decode cX5_keeps 11 = .ok (.ifCond .eq 17, 3) := by decide +kernel
theorem dX5_keeps_14 : decode cX5_keeps 14 = .ok (.aload_n 1, 1) := by decide +kernel
theorem dX5_keeps_15 : decode cX5_keeps 15 = .ok (.iload 6, 2) := by decide +kernel
theorem dX5_keeps_17 : decode cX5_keeps 17 = .ok (.aload_n 3, 1) := by decide +kernel
theorem dX5_keeps_18 : decode cX5_keeps 18 = .ok (.iload 4, 2) := by decide +kernel
theorem dX5_keeps_20 : decode cX5_keeps 20 = .ok (.iload 6, 2) := by decide +kernel
theorem dX5_keeps_22 : decode cX5_keeps 22 = .ok (.iadd, 1) := by decide +kernel
theorem dX5_keeps_23 : decode cX5_keeps 23 = .ok (.iaload, 1) := by decide +kernel
theorem dX5_keeps_24 : decode cX5_keeps 24 = .ok (.iastore, 1) := by decide +kernel
theorem dX5_keeps_25 : decode cX5_keeps 25 = .ok (.goto 14, 3) := by decide +kernel
theorem dX5_keeps_28 : decode cX5_keeps 28 = .ok (.aload_n 3, 1) := by decide +kernel
theorem dX5_keeps_29 : decode cX5_keeps 29 = .ok (.iload 4, 2) := by decide +kernel
theorem dX5_keeps_31 : decode cX5_keeps 31 = .ok (.iload 6, 2) := by decide +kernel
theorem dX5_keeps_33 : decode cX5_keeps 33 = .ok (.iadd, 1) := by decide +kernel
theorem dX5_keeps_34 : decode cX5_keeps 34 = .ok (.aload_n 1, 1) := by decide +kernel
theorem dX5_keeps_35 : decode cX5_keeps 35 = .ok (.iload 6, 2) := by decide +kernel
theorem dX5_keeps_37 : decode cX5_keeps 37 = .ok (.iaload, 1) := by decide +kernel
theorem dX5_keeps_38 : decode cX5_keeps 38 = .ok (.iastore, 1) := by decide +kernel
theorem dX5_keeps_39 : decode cX5_keeps 39 = .ok (.iinc 6 1, 3) := by decide +kernel
theorem dX5_keeps_42 : decode cX5_keeps 42 = .ok (.goto (-39), 3) := by decide +kernel
theorem dX5_keeps_45 : decode cX5_keeps 45 = .ok (.iload 4, 2) := by decide +kernel
theorem dX5_keeps_47 : decode cX5_keeps 47 = .ok (.iload_n 2, 1) := by decide +kernel
theorem dX5_keeps_48 : decode cX5_keeps 48 = .ok (.iadd, 1) := by decide +kernel
theorem dX5_keeps_49 : decode cX5_keeps 49 = .ok (.ireturn, 1) := by decide +kernel
theorem dX5_all_0 : decode cX5_all 0 = .ok (.aload_n 0, 1) := by decide +kernel
theorem dX5_all_1 : decode cX5_all 1 = .ok (.aload_n 0, 1) := by decide +kernel
theorem dX5_all_2 : decode cX5_all 2 = .ok (.getfield 33, 3) := by decide +kernel
theorem dX5_all_5 : decode cX5_all 5 = .ok (.bipush 6, 2) := by decide +kernel
theorem dX5_all_7 : decode cX5_all 7 = .ok (.aload_n 1, 1) := by decide +kernel
theorem dX5_all_8 : decode cX5_all 8 = .ok (.iconst 0, 1) := by decide +kernel
theorem dX5_all_9 : decode cX5_all 9 = .ok (.iload_n 3, 1) := by decide +kernel
theorem dX5_all_10 : decode cX5_all 10 = .ok (.invokevirtual 201, 3) := by decide +kernel
theorem dX5_all_13 : decode cX5_all 13 = .ok (.istore 4, 2) := by decide +kernel
theorem dX5_all_15 : decode cX5_all 15 = .ok (.aload_n 0, 1) := by decide +kernel
theorem dX5_all_16 : decode cX5_all 16 = .ok (.aload_n 0, 1) := by decide +kernel
theorem dX5_all_17 : decode cX5_all 17 = .ok (.getfield 36, 3) := by decide +kernel
theorem dX5_all_20 : decode cX5_all 20 = .ok (.bipush 6, 2) := by decide +kernel
theorem dX5_all_22 : decode cX5_all 22 = .ok (.aload_n 1, 1) := by decide +kernel
theorem dX5_all_23 : decode cX5_all 23 = .ok (.iload 4, 2) := by decide +kernel
theorem dX5_all_25 : decode cX5_all 25 = .ok (.iload_n 3, 1) := by decide +kernel
theorem dX5_all_26 : decode cX5_all 26 = .ok (.invokevirtual 201, 3) := by decide +kernel
theorem dX5_all_29 : decode cX5_all 29 = .ok (.istore 4, 2) := by decide +kernel
theorem dX5_all_31 : decode cX5_all 31 = .ok (.aload_n 0, 1) := by decide +kernel
theorem dX5_all_32 : decode cX5_all 32 = .ok (.aload_n 0, 1) := by decide +kernel
theorem dX5_all_33 : decode cX5_all 33 = .ok (.getfield 39, 3) := by decide +kernel
theorem dX5_all_36 : decode cX5_all 36 = .ok (.bipush 6, 2) := by decide +kernel
theorem dX5_all_38 : decode cX5_all 38 = .ok (.aload_n 1, 1) := by decide +kernel
theorem dX5_all_39 : decode cX5_all 39 = .ok (.iload 4, 2) := by decide +kernel
theorem dX5_all_41 : decode cX5_all 41 = .ok (.iload_n 3, 1) := by decide +kernel
theorem dX5_all_42 : decode cX5_all 42 = .ok (.invokevirtual 201, 3) := by decide +kernel
theorem dX5_all_45 : decode cX5_all 45 = .ok (.istore 4, 2) := by decide +kernel
theorem dX5_all_47 : decode cX5_all 47 = .ok (.aload_n 0, 1) := by decide +kernel
theorem dX5_all_48 : decode cX5_all 48 = .ok (.aload_n 0, 1) := by decide +kernel
theorem dX5_all_49 : decode cX5_all 49 = .ok (.getfield 42, 3) := by decide +kernel
theorem dX5_all_52 : decode cX5_all 52 = .ok (.bipush 28, 2) := by decide +kernel
theorem dX5_all_54 : decode cX5_all 54 = .ok (.aload_n 1, 1) := by decide +kernel
theorem dX5_all_55 : decode cX5_all 55 = .ok (.iload 4, 2) := by decide +kernel
theorem dX5_all_57 : decode cX5_all 57 = .ok (.iload_n 3, 1) := by decide +kernel
theorem dX5_all_58 : decode cX5_all 58 = .ok (.invokevirtual 201, 3) := by decide +kernel
theorem dX5_all_61 : decode cX5_all 61 = .ok (.istore 4, 2) := by decide +kernel
theorem dX5_all_63 : decode cX5_all 63 = .ok (.aload_n 0, 1) := by decide +kernel
theorem dX5_all_64 : decode cX5_all 64 = .ok (.aload_n 0, 1) := by decide +kernel
theorem dX5_all_65 : decode cX5_all 65 = .ok (.getfield 45, 3) := by decide +kernel
theorem dX5_all_68 : decode cX5_all 68 = .ok (.bipush 28, 2) := by decide +kernel
theorem dX5_all_70 : decode cX5_all 70 = .ok (.aload_n 1, 1) := by decide +kernel
theorem dX5_all_71 : decode cX5_all 71 = .ok (.iload 4, 2) := by decide +kernel
theorem dX5_all_73 : decode cX5_all 73 = .ok (.iload_n 3, 1) := by decide +kernel
theorem dX5_all_74 : decode cX5_all 74 = .ok (.invokevirtual 201, 3) := by decide +kernel
theorem dX5_all_77 : decode cX5_all 77 = .ok (.istore 4, 2) := by decide +kernel
theorem dX5_all_79 : decode cX5_all 79 = .ok (.aload_n 0, 1) := by decide +kernel
theorem dX5_all_80 : decode cX5_all 80 = .ok (.aload_n 0, 1) := by decide +kernel
theorem dX5_all_81 : decode cX5_all 81 = .ok (.getfield 48, 3) := by decide +kernel
theorem dX5_all_84 : decode cX5_all 84 = .ok (.bipush 28, 2) := by decide +kernel
theorem dX5_all_86 : decode cX5_all 86 = .ok (.aload_n 1, 1) := by decide +kernel
theorem dX5_all_87 : decode cX5_all 87 = .ok (.iload 4, 2) := by decide +kernel
theorem dX5_all_89 : decode cX5_all 89 = .ok (.iload_n 3, 1) := by decide +kernel
theorem dX5_all_90 : decode cX5_all 90 = .ok (.invokevirtual 201, 3) := by decide +kernel
theorem dX5_all_93 : decode cX5_all 93 = .ok (.istore 4, 2) := by decide +kernel
theorem dX5_all_95 : decode cX5_all 95 = .ok (.iload_n 3, 1) := by decide +kernel
theorem dX5_all_96 : decode cX5_all 96 = .ok (.ifCond .eq 96, 3) := by decide +kernel
theorem dX5_all_99 : decode cX5_all 99 = .ok (.aload_n 0, 1) := by decide +kernel
theorem dX5_all_100 : decode cX5_all 100 = .ok (.aload_n 1, 1) := by decide +kernel
theorem dX5_all_101 : decode cX5_all 101 = .ok (.iload 4, 2) := by decide +kernel
theorem dX5_all_103 : decode cX5_all 103 = .ok (.iaload, 1) := by decide +kernel
theorem dX5_all_104 : decode cX5_all 104 = .ok (.putfield 89, 3) := by decide +kernel
theorem dX5_all_107 : decode cX5_all 107 = .ok (.aload_n 0, 1) := by decide +kernel
theorem dX5_all_108 : decode cX5_all 108 = .ok (.aload_n 1, 1) := by decide +kernel
theorem dX5_all_109 : decode cX5_all 109 = .ok (.iload 4, 2) := by decide +kernel
theorem dX5_all_111 : decode cX5_all 111 = .ok (.iconst 1, 1) := by decide +kernel
theorem dX5_all_112 : decode cX5_all 112 = .ok (.iadd, 1) := by decide +kernel
theorem dX5_all_113 : decode cX5_all 113 = .ok (.iaload, 1) := by decide +kernel
theorem dX5_all_114 : decode cX5_all 114 = .ok (.putfield 92, 3) := by decide +kernel
theorem dX5_all_117 : decode cX5_all 117 = .ok (.aload_n 0, 1) := by decide +kernel
theorem dX5_all_118 : decode cX5_all 118 = .ok (.aload_n 1, 1) := by decide +kernel
theorem dX5_all_119 : decode cX5_all 119 = .ok (.iload 4, 2) := by decide +kernel
theorem dX5_all_121 : decode cX5_all 121 = .ok (.iconst 2, 1) := by decide +kernel
theorem dX5_all_122 : decode cX5_all 122 = .ok (.iadd, 1) := by decide +kernel
theorem dX5_all_123 : decode cX5_all 123 = .ok (.iaload, 1) := by decide +kernel
theorem dX5_all_124 : decode cX5_all 124 = .ok (.putfield 118, 3) := by decide +kernel
theorem dX5_all_127 : decode cX5_all 127 = .ok (.aload_n 0, 1) := by decide +kernel
theorem dX5_all_128 : decode cX5_all 128 = .ok (.aload_n 1, 1) := by decide +kernel
theorem dX5_all_129 : decode cX5_all 129 = .ok (.iload 4, 2) := by decide +kernel
theorem dX5_all_131 : decode cX5_all 131 = .ok (.iconst 3, 1) := by decide +kernel
theorem dX5_all_132 : decode cX5_all 132 = .ok (.iadd, 1) := by decide +kernel
theorem dX5_all_133 : decode cX5_all 133 = .ok (.iaload, 1) := by decide +kernel
theorem dX5_all_134 : decode cX5_all 134 = .ok (.putfield 7, 3) := by decide +kernel
theorem dX5_all_137 : decode cX5_all 137 = .ok (.aload_n 0, 1) := by decide +kernel
theorem dX5_all_138 : decode cX5_all 138 = .ok (.aload_n 1, 1) := by decide +kernel
theorem dX5_all_139 : decode cX5_all 139 = .ok (.iload 4, 2) := by decide +kernel
theorem dX5_all_141 : decode cX5_all 141 = .ok (.iconst 4, 1) := by decide +kernel
theorem dX5_all_142 : decode cX5_all 142 = .ok (.iadd, 1) := by decide +kernel
theorem dX5_all_143 : decode cX5_all 143 = .ok (.iaload, 1) := by decide +kernel
theorem dX5_all_144 : decode cX5_all 144 = .ok (.putfield 13, 3) := by decide +kernel
theorem dX5_all_147 : decode cX5_all 147 = .ok (.aload_n 0, 1) := by decide +kernel
theorem dX5_all_148 : decode cX5_all 148 = .ok (.aload_n 1, 1) := by decide +kernel
theorem dX5_all_149 : decode cX5_all 149 = .ok (.iload 4, 2) := by decide +kernel
theorem dX5_all_151 : decode cX5_all 151 = .ok (.iconst 5, 1) := by decide +kernel
theorem dX5_all_152 : decode cX5_all 152 = .ok (.iadd, 1) := by decide +kernel
theorem dX5_all_153 : decode cX5_all 153 = .ok (.iaload, 1) := by decide +kernel
theorem dX5_all_154 : decode cX5_all 154 = .ok (.putfield 205, 3) := by decide +kernel
theorem dX5_all_157 : decode cX5_all 157 = .ok (.aload_n 0, 1) := by decide +kernel
theorem dX5_all_158 : decode cX5_all 158 = .ok (.aload_n 1, 1) := by decide +kernel
theorem dX5_all_159 : decode cX5_all 159 = .ok (.iload 4, 2) := by decide +kernel
theorem dX5_all_161 : decode cX5_all 161 = .ok (.bipush 6, 2) := by decide +kernel
theorem dX5_all_163 : decode cX5_all 163 = .ok (.iadd, 1) := by decide +kernel
theorem dX5_all_164 : decode cX5_all 164 = .ok (.iaload, 1) := by decide +kernel
theorem dX5_all_165 : decode cX5_all 165 = .ok (.putfield 16, 3) := by decide +kernel
theorem dX5_all_168 : decode cX5_all 168 = .ok (.aload_n 0, 1) := by decide +kernel
theorem dX5_all_169 : decode cX5_all 169 = .ok (.aload_n 1, 1) := by decide +kernel
theorem dX5_all_170 : decode cX5_all 170 = .ok (.iload 4, 2) := by decide +kernel
theorem dX5_all_172 : decode cX5_all 172 = .ok (.bipush 7, 2) := by decide +kernel
theorem dX5_all_174 : decode cX5_all 174 = .ok (.iadd, 1) := by decide +kernel
theorem dX5_all_175 : decode cX5_all 175 = .ok (.iaload, 1) := by decide +kernel
theorem dX5_all_176 : decode cX5_all 176 = .ok (.putfield 19, 3) := by decide +kernel
theorem dX5_all_179 : decode cX5_all 179 = .ok (.aload_n 0, 1) := by decide +kernel
theorem dX5_all_180 : decode cX5_all 180 = .ok (.aload_n 0, 1) := by decide +kernel
theorem dX5_all_181 : decode cX5_all 181 = .ok (.getfield 82, 3) := by decide +kernel
theorem dX5_all_184 : decode cX5_all 184 = .ok (.iload_n 2, 1) := by decide +kernel
theorem dX5_all_185 : decode cX5_all 185 = .ok (.laload, 1) := by decide +kernel
theorem dX5_all_186 : decode cX5_all 186 = .ok (.putfield 25, 3) := by decide +kernel
theorem dX5_all_189 : decode cX5_all 189 = .ok (.goto 93, 3) := by decide +kernel
theorem dX5_all_192 : decode cX5_all 192 = .ok (.aload_n 1, 1) := by decide +kernel
theorem dX5_all_193 : decode cX5_all 193 = .ok (.iload 4, 2) := by decide +kernel
theorem dX5_all_195 : decode cX5_all 195 = .ok (.aload_n 0, 1) := by decide +kernel
theorem dX5_all_196 : decode cX5_all 196 = .ok (.getfield 89, 3) := by decide +kernel
theorem dX5_all_199 : decode cX5_all 199 = .ok (.iastore, 1) := by decide +kernel
theorem dX5_all_200 : decode cX5_all 200 = .ok (.aload_n 1, 1) := by decide +kernel
theorem dX5_all_201 : decode cX5_all 201 = .ok (.iload 4, 2) := by decide +kernel
theorem dX5_all_203 : decode cX5_all 203 = .ok (.iconst 1, 1) := by decide +kernel
theorem dX5_all_204 : decode cX5_all 204 = .ok (.iadd, 1) := by decide +kernel
theorem dX5_all_205 : decode cX5_all 205 = .ok (.aload_n 0, 1) := by decide +kernel
theorem dX5_all_206 : decode cX5_all 206 = .ok (.getfield 92, 3) := by decide +kernel
theorem dX5_all_209 : decode cX5_all 209 = .ok (.iastore, 1) := by decide +kernel
theorem dX5_all_210 : decode cX5_all 210 = .ok (.aload_n 1, 1) := by decide +kernel
theorem dX5_all_211 : decode cX5_all 211 = .ok (.iload 4, 2) := by decide +kernel
theorem dX5_all_213 : decode cX5_all 213 = .ok (.iconst 2, 1) := by decide +kernel
theorem dX5_all_214 : decode cX5_all 214 = .ok (.iadd, 1) := by decide +kernel
theorem dX5_all_215 : decode cX5_all 215 = .ok (.aload_n 0, 1) := by decide +kernel
theorem dX5_all_216 : decode cX5_all 216 = .ok (.getfield 118, 3) := by decide +kernel
theorem dX5_all_219 : decode cX5_all 219 = .ok (.iastore, 1) := by decide +kernel
theorem dX5_all_220 : decode cX5_all 220 = .ok (.aload_n 1, 1) := by decide +kernel
theorem dX5_all_221 : decode cX5_all 221 = .ok (.iload 4, 2) := by decide +kernel
theorem dX5_all_223 : decode cX5_all 223 = .ok (.iconst 3, 1) := by decide +kernel
theorem dX5_all_224 : decode cX5_all 224 = .ok (.iadd, 1) := by decide +kernel
theorem dX5_all_225 : decode cX5_all 225 = .ok (.aload_n 0, 1) := by decide +kernel
theorem dX5_all_226 : decode cX5_all 226 = .ok (.getfield 7, 3) := by decide +kernel
theorem dX5_all_229 : decode cX5_all 229 = .ok (.iastore, 1) := by decide +kernel
theorem dX5_all_230 : decode cX5_all 230 = .ok (.aload_n 1, 1) := by decide +kernel
theorem dX5_all_231 : decode cX5_all 231 = .ok (.iload 4, 2) := by decide +kernel
theorem dX5_all_233 : decode cX5_all 233 = .ok (.iconst 4, 1) := by decide +kernel
theorem dX5_all_234 : decode cX5_all 234 = .ok (.iadd, 1) := by decide +kernel
theorem dX5_all_235 : decode cX5_all 235 = .ok (.aload_n 0, 1) := by decide +kernel
theorem dX5_all_236 : decode cX5_all 236 = .ok (.getfield 13, 3) := by decide +kernel
theorem dX5_all_239 : decode cX5_all 239 = .ok (.iastore, 1) := by decide +kernel
theorem dX5_all_240 : decode cX5_all 240 = .ok (.aload_n 1, 1) := by decide +kernel
theorem dX5_all_241 : decode cX5_all 241 = .ok (.iload 4, 2) := by decide +kernel
theorem dX5_all_243 : decode cX5_all 243 = .ok (.iconst 5, 1) := by decide +kernel
theorem dX5_all_244 : decode cX5_all 244 = .ok (.iadd, 1) := by decide +kernel
theorem dX5_all_245 : decode cX5_all 245 = .ok (.aload_n 0, 1) := by decide +kernel
theorem dX5_all_246 : decode cX5_all 246 = .ok (.getfield 205, 3) := by decide +kernel
theorem dX5_all_249 : decode cX5_all 249 = .ok (.iastore, 1) := by decide +kernel
theorem dX5_all_250 : decode cX5_all 250 = .ok (.aload_n 1, 1) := by decide +kernel
theorem dX5_all_251 : decode cX5_all 251 = .ok (.iload 4, 2) := by decide +kernel
theorem dX5_all_253 : decode cX5_all 253 = .ok (.bipush 6, 2) := by decide +kernel
theorem dX5_all_255 : decode cX5_all 255 = .ok (.iadd, 1) := by decide +kernel
theorem dX5_all_256 : decode cX5_all 256 = .ok (.aload_n 0, 1) := by decide +kernel
theorem dX5_all_257 : decode cX5_all 257 = .ok (.getfield 16, 3) := by decide +kernel
theorem dX5_all_260 : decode cX5_all 260 = .ok (.iastore, 1) := by decide +kernel
theorem dX5_all_261 : decode cX5_all 261 = .ok (.aload_n 1, 1) := by decide +kernel
theorem dX5_all_262 : decode cX5_all 262 = .ok (.iload 4, 2) := by decide +kernel
theorem dX5_all_264 : decode cX5_all 264 = .ok (.bipush 7, 2) := by decide +kernel
theorem dX5_all_266 : decode cX5_all 266 = .ok (.iadd, 1) := by decide +kernel
theorem dX5_all_267 : decode cX5_all 267 = .ok (.aload_n 0, 1) := by decide +kernel
theorem dX5_all_268 : decode cX5_all 268 = .ok (.getfield 19, 3) := by decide +kernel
theorem dX5_all_271 : decode cX5_all 271 = .ok (.iastore, 1) := by decide +kernel
theorem dX5_all_272 : decode cX5_all 272 = .ok (.aload_n 0, 1) := by decide +kernel
theorem dX5_all_273 : decode cX5_all 273 = .ok (.getfield 82, 3) := by decide +kernel
theorem dX5_all_276 : decode cX5_all 276 = .ok (.iload_n 2, 1) := by decide +kernel
theorem dX5_all_277 : decode cX5_all 277 = .ok (.aload_n 0, 1) := by decide +kernel
theorem dX5_all_278 : decode cX5_all 278 = .ok (.getfield 25, 3) := by decide +kernel
theorem dX5_all_281 : decode cX5_all 281 = .ok (.lastore, 1) := by decide +kernel
theorem dX5_all_282 : decode cX5_all 282 = .ok (.return_, 1) := by decide +kernel
theorem dX5_town_0 : decode cX5_town 0 = .ok (.aload_n 0, 1) := by decide +kernel
theorem dX5_town_1 : decode cX5_town 1 = .ok (.iload_n 1, 1) := by decide +kernel
theorem dX5_town_2 : decode cX5_town 2 = .ok (.invokevirtual 208, 3) := by decide +kernel
theorem dX5_town_5 : decode cX5_town 5 = .ok (.istore_n 2, 1) := by decide +kernel
theorem dX5_town_6 : decode cX5_town 6 = .ok (.iload_n 2, 1) := by decide +kernel
theorem dX5_town_7 : decode cX5_town 7 = .ok (.ifCond .eq 9, 3) := by decide +kernel
theorem dX5_town_10 : decode cX5_town 10 = .ok (.aload_n 0, 1) := by decide +kernel
theorem dX5_town_11 : decode cX5_town 11 = .ok (.iload_n 2, 1) := by decide +kernel
theorem dX5_town_12 : decode cX5_town 12 = .ok (.invokevirtual 99, 3) := by decide +kernel
theorem dX5_town_15 : decode cX5_town 15 = .ok (.ireturn, 1) := by decide +kernel
theorem dX5_town_16 : decode cX5_town 16 = .ok (.aload_n 0, 1) := by decide +kernel
theorem dX5_town_17 : decode cX5_town 17 = .ok (.aload_n 0, 1) := by decide +kernel
theorem dX5_town_18 : decode cX5_town 18 = .ok (.getfield 76, 3) := by decide +kernel
theorem dX5_town_21 : decode cX5_town 21 = .ok (.iconst 0, 1) := by decide +kernel
theorem dX5_town_22 : decode cX5_town 22 = .ok (.iconst 0, 1) := by decide +kernel
theorem dX5_town_23 : decode cX5_town 23 = .ok (.invokevirtual 211, 3) := by decide +kernel
theorem dX5_town_26 : decode cX5_town 26 = .ok (.aload_n 0, 1) := by decide +kernel
theorem dX5_town_27 : decode cX5_town 27 = .ok (.sipush 160, 3) := by decide +kernel
theorem dX5_town_30 : decode cX5_town 30 = .ok (.iload_n 1, 1) := by decide +kernel
theorem dX5_town_31 : decode cX5_town 31 = .ok (.imul, 1) := by decide +kernel
theorem dX5_town_32 : decode cX5_town 32 = .ok (.putfield 172, 3) := by decide +kernel
theorem dX5_town_35 : decode cX5_town 35 = .ok (.aload_n 0, 1) := by decide +kernel
theorem dX5_town_36 : decode cX5_town 36 = .ok (.iconst 0, 1) := by decide +kernel
theorem dX5_town_37 : decode cX5_town 37 = .ok (.putfield 166, 3) := by decide +kernel
theorem dX5_town_40 : decode cX5_town 40 = .ok (.aload_n 0, 1) := by decide +kernel
theorem dX5_town_41 : decode cX5_town 41 = .ok (.aload_n 0, 1) := by decide +kernel
theorem dX5_town_42 : decode cX5_town 42 = .ok (.getfield 57, 3) := by decide +kernel
theorem dX5_town_45 : decode cX5_town 45 = .ok (.iload_n 1, 1) := by decide +kernel
theorem dX5_town_46 : decode cX5_town 46 = .ok (.iaload, 1) := by decide +kernel
theorem dX5_town_47 : decode cX5_town 47 = .ok (.putfield 169, 3) := by decide +kernel
theorem dX5_town_50 : decode cX5_town 50 = .ok (.aload_n 0, 1) := by decide +kernel
theorem dX5_town_51 : decode cX5_town 51 = .ok (.iconst (-1), 1) := by decide +kernel
theorem dX5_town_52 : decode cX5_town 52 = .ok (.putfield 22, 3) := by decide +kernel
theorem dX5_town_55 : decode cX5_town 55 = .ok (.iconst 1, 1) := by decide +kernel
theorem dX5_town_56 : decode cX5_town 56 = .ok (.istore_n 3, 1) := by decide +kernel
theorem dX5_town_57 : decode cX5_town 57 = .ok (.aload_n 0, 1) := by decide +kernel
theorem dX5_town_58 : decode cX5_town 58 = .ok (.invokevirtual 215, 3) := by decide +kernel
theorem dX5_town_61 : decode cX5_town 61 = .ok (.istore 4, 2) := by decide +kernel
theorem dX5_town_63 : decode cX5_town 63 = .ok (.iload 4, 2) := by decide +kernel
theorem dX5_town_65 : decode cX5_town 65 = .ok (.ifCond .eq 69, 3) := by decide +kernel
theorem dX5_town_68 : decode cX5_town 68 = .ok (.aload_n 0, 1) := by decide +kernel
theorem dX5_town_69 : decode cX5_town 69 = .ok (.getfield 166, 3) := by decide +kernel
theorem dX5_town_72 : decode cX5_town 72 = .ok (.aload_n 0, 1) := by decide +kernel
theorem dX5_town_73 : decode cX5_town 73 = .ok (.getfield 169, 3) := by decide +kernel
theorem dX5_town_76 : decode cX5_town 76 = .ok (.if_icmp .ge 58, 3) := by decide +kernel
theorem dX5_town_79 : decode cX5_town 79 = .ok (.aload_n 0, 1) := by decide +kernel
theorem dX5_town_80 : decode cX5_town 80 = .ok (.getfield 63, 3) := by decide +kernel
theorem dX5_town_83 : decode cX5_town 83 = .ok (.aload_n 0, 1) := by decide +kernel
theorem dX5_town_84 : decode cX5_town 84 = .ok (.getfield 172, 3) := by decide +kernel
theorem dX5_town_87 : decode cX5_town 87 = .ok (.aload_n 0, 1) := by decide +kernel
theorem dX5_town_88 : decode cX5_town 88 = .ok (.getfield 166, 3) := by decide +kernel
theorem dX5_town_91 : decode cX5_town 91 = .ok (.iadd, 1) := by decide +kernel
theorem dX5_town_92 : decode cX5_town 92 = .ok (.laload, 1) := by decide +kernel
theorem dX5_town_93 : decode cX5_town 93 = .ok (.l2i, 1) := by decide +kernel
theorem dX5_town_94 : decode cX5_town 94 = .ok (.bipush 59, 2) := by decide +kernel
theorem dX5_town_96 : decode cX5_town 96 = .ok (.if_icmp .eq 16, 3) := by decide +kernel
theorem dX5_town_99 : decode cX5_town 99 = .ok (.aload_n 0, 1) := by decide +kernel
theorem dX5_town_100 : decode cX5_town 100 = .ok (.aload_n 0, 1) := by decide +kernel
theorem dX5_town_101 : decode cX5_town 101 = .ok (.getfield 166, 3) := by decide +kernel
theorem dX5_town_104 : decode cX5_town 104 = .ok (.invokevirtual 182, 3) := by decide +kernel
theorem dX5_town_107 : decode cX5_town 107 = .ok (.istore 4, 2) := by decide +kernel
theorem dX5_town_109 : decode cX5_town 109 = .ok (.goto (-46), 3) := by decide +kernel
theorem dX5_town_112 : decode cX5_town 112 = .ok (.aload_n 0, 1) := by decide +kernel
theorem dX5_town_113 : decode cX5_town 113 = .ok (.dup, 1) := by decide +kernel
theorem dX5_town_114 : decode cX5_town 114 = .ok (.getfield 166, 3) := by decide +kernel
theorem dX5_town_117 : decode cX5_town 117 = .ok (.iconst 1, 1) := by decide +kernel
theorem dX5_town_118 : decode cX5_town 118 = .ok (.iadd, 1) := by decide +kernel
theorem dX5_town_119 : decode cX5_town 119 = .ok (.putfield 166, 3) := by decide +kernel
theorem dX5_town_122 : decode cX5_town 122 = .ok (.iinc 3 1, 3) := by decide +kernel
theorem dX5_town_125 : decode cX5_town 125 = .ok (.aload_n 0, 1) := by decide +kernel
theorem dX5_town_126 : decode cX5_town 126 = .ok (.invokevirtual 215, 3) := by decide +kernel
theorem dX5_town_129 : decode cX5_town 129 = .ok (.istore 4, 2) := by decide +kernel
theorem dX5_town_131 : decode cX5_town 131 = .ok (.goto (-68), 3) := by decide +kernel
theorem dX5_town_134 : decode cX5_town 134 = .ok (.iload 4, 2) := by decide +kernel
end
section
theorem dX5_town_136 : decode cX5_town 136 = .ok (.ifCond .eq 5, 3) := by decide +kernel
theorem dX5_town_139 : decode cX5_town 139 = .ok (.iload_n 3, 1) := by decide +kernel
theorem dX5_town_140 : decode cX5_town 140 = .ok (.ireturn, 1) := by decide +kernel
theorem dX5_town_141 : decode cX5_town 141 = .ok (.aload_n 0, 1) := by decide +kernel
theorem dX5_town_142 : decode cX5_town 142 = .ok (.aload_n 0, 1) := by decide +kernel
theorem dX5_town_143 : decode cX5_town 143 = .ok (.getfield 76, 3) := by decide +kernel
theorem dX5_town_146 : decode cX5_town 146 = .ok (.iconst 0, 1) := by decide +kernel
theorem dX5_town_147 : decode cX5_town 147 = .ok (.iconst 1, 1) := by decide +kernel
theorem dX5_town_148 : decode cX5_town 148 = .ok (.invokevirtual 211, 3) := by decide +kernel
theorem dX5_town_151 : decode cX5_town 151 = .ok (.aload_n 0, 1) := by decide +kernel
theorem dX5_town_152 : decode cX5_town 152 = .ok (.aload_n 0, 1) := by decide +kernel
theorem dX5_town_153 : decode cX5_town 153 = .ok (.getfield 163, 3) := by decide +kernel
theorem dX5_town_156 : decode cX5_town 156 = .ok (.putfield 22, 3) := by decide +kernel
theorem dX5_town_159 : decode cX5_town 159 = .ok (.aload_n 0, 1) := by decide +kernel
theorem dX5_town_160 : decode cX5_town 160 = .ok (.bipush (-6), 2) := by decide +kernel
theorem dX5_town_162 : decode cX5_town 162 = .ok (.invokevirtual 99, 3) := by decide +kernel
theorem dX5_town_165 : decode cX5_town 165 = .ok (.ireturn, 1) := by decide +kernel
theorem dX5_fault_0 : decode cX5_fault 0 = .ok (.aload_n 0, 1) := by decide +kernel
theorem dX5_fault_1 : decode cX5_fault 1 = .ok (.getfield 22, 3) := by decide +kernel
theorem dX5_fault_4 : decode cX5_fault 4 = .ok (.ireturn, 1) := by decide +kernel
theorem dX5_canBe_0 : decode cX5_canBe 0 = .ok (.aload_n 0, 1) := by decide +kernel
theorem dX5_canBe_1 : decode cX5_canBe 1 = .ok (.iload_n 1, 1) := by decide +kernel
theorem dX5_canBe_2 : decode cX5_canBe 2 = .ok (.invokevirtual 103, 3) := by decide +kernel
theorem dX5_canBe_5 : decode cX5_canBe 5 = .ok (.ifCond .eq 17, 3) := by decide +kernel
theorem dX5_canBe_8 : decode cX5_canBe 8 = .ok (.iload_n 2, 1) := by decide +kernel
theorem dX5_canBe_9 : decode cX5_canBe 9 = .ok (.ifCond .lt 13, 3) := by decide +kernel
theorem dX5_canBe_12 : decode cX5_canBe 12 = .ok (.iload_n 2, 1) := by decide +kernel
theorem dX5_canBe_13 : decode cX5_canBe 13 = .ok (.iconst 1, 1) := by decide +kernel
theorem dX5_canBe_14 : decode cX5_canBe 14 = .ok (.aload_n 0, 1) := by decide +kernel
theorem dX5_canBe_15 : decode cX5_canBe 15 = .ok (.getfield 89, 3) := by decide +kernel
theorem dX5_canBe_18 : decode cX5_canBe 18 = .ok (.ishl, 1) := by decide +kernel
theorem dX5_canBe_19 : decode cX5_canBe 19 = .ok (.if_icmp .lt 9, 3) := by decide +kernel
theorem dX5_canBe_22 : decode cX5_canBe 22 = .ok (.aload_n 0, 1) := by decide +kernel
theorem dX5_canBe_23 : decode cX5_canBe 23 = .ok (.iconst (-1), 1) := by decide +kernel
theorem dX5_canBe_24 : decode cX5_canBe 24 = .ok (.invokevirtual 99, 3) := by decide +kernel
theorem dX5_canBe_27 : decode cX5_canBe 27 = .ok (.ireturn, 1) := by decide +kernel
theorem dX5_canBe_28 : decode cX5_canBe 28 = .ok (.aload_n 0, 1) := by decide +kernel
theorem dX5_canBe_29 : decode cX5_canBe 29 = .ok (.iload_n 1, 1) := by decide +kernel
theorem dX5_canBe_30 : decode cX5_canBe 30 = .ok (.iload_n 2, 1) := by decide +kernel
theorem dX5_canBe_31 : decode cX5_canBe 31 = .ok (.iconst (-1), 1) := by decide +kernel
theorem dX5_canBe_32 : decode cX5_canBe 32 = .ok (.invokevirtual 130, 3) := by decide +kernel
theorem dX5_canBe_35 : decode cX5_canBe 35 = .ok (.ifCond .eq 7, 3) := by decide +kernel
theorem dX5_canBe_38 : decode cX5_canBe 38 = .ok (.iconst 1, 1) := by decide +kernel
theorem dX5_canBe_39 : decode cX5_canBe 39 = .ok (.goto 4, 3) := by decide +kernel
theorem dX5_canBe_42 : decode cX5_canBe 42 = .ok (.iconst 0, 1) := by decide +kernel
theorem dX5_canBe_43 : decode cX5_canBe 43 = .ok (.ireturn, 1) := by decide +kernel
theorem dX5_lets_0 : decode cX5_lets 0 = .ok (.aload_n 0, 1) := by decide +kernel
theorem dX5_lets_1 : decode cX5_lets 1 = .ok (.iload_n 1, 1) := by decide +kernel
theorem dX5_lets_2 : decode cX5_lets 2 = .ok (.iconst 0, 1) := by decide +kernel
theorem dX5_lets_3 : decode cX5_lets 3 = .ok (.iload_n 2, 1) := by decide +kernel
theorem dX5_lets_4 : decode cX5_lets 4 = .ok (.iconst 1, 1) := by decide +kernel
theorem dX5_lets_5 : decode cX5_lets 5 = .ok (.iand, 1) := by decide +kernel
theorem dX5_lets_6 : decode cX5_lets 6 = .ok (.iconst 1, 1) := by decide +kernel
theorem dX5_lets_7 : decode cX5_lets 7 = .ok (.if_icmp .ne 7, 3) := by decide +kernel
theorem dX5_lets_10 : decode cX5_lets 10 = .ok (.iconst 1, 1) := by decide +kernel
theorem dX5_lets_11 : decode cX5_lets 11 = .ok (.goto 4, 3) := by decide +kernel
theorem dX5_lets_14 : decode cX5_lets 14 = .ok (.iconst 0, 1) := by decide +kernel
theorem dX5_lets_15 : decode cX5_lets 15 = .ok (.iload_n 3, 1) := by decide +kernel
theorem dX5_lets_16 : decode cX5_lets 16 = .ok (.if_icmp .ne 7, 3) := by decide +kernel
theorem dX5_lets_19 : decode cX5_lets 19 = .ok (.iconst 1, 1) := by decide +kernel
theorem dX5_lets_20 : decode cX5_lets 20 = .ok (.goto 4, 3) := by decide +kernel
theorem dX5_lets_23 : decode cX5_lets 23 = .ok (.iconst 0, 1) := by decide +kernel
theorem dX5_lets_24 : decode cX5_lets 24 = .ok (.invokevirtual 138, 3) := by decide +kernel
theorem dX5_lets_27 : decode cX5_lets 27 = .ok (.aload_n 0, 1) := by decide +kernel
theorem dX5_lets_28 : decode cX5_lets 28 = .ok (.iload_n 1, 1) := by decide +kernel
theorem dX5_lets_29 : decode cX5_lets 29 = .ok (.iload_n 2, 1) := by decide +kernel
theorem dX5_lets_30 : decode cX5_lets 30 = .ok (.iconst (-1), 1) := by decide +kernel
theorem dX5_lets_31 : decode cX5_lets 31 = .ok (.invokevirtual 130, 3) := by decide +kernel
theorem dX5_lets_34 : decode cX5_lets 34 = .ok (.istore 4, 2) := by decide +kernel
theorem dX5_lets_36 : decode cX5_lets 36 = .ok (.aload_n 0, 1) := by decide +kernel
theorem dX5_lets_37 : decode cX5_lets 37 = .ok (.dup, 1) := by decide +kernel
theorem dX5_lets_38 : decode cX5_lets 38 = .ok (.getfield 118, 3) := by decide +kernel
theorem dX5_lets_41 : decode cX5_lets 41 = .ok (.iconst 1, 1) := by decide +kernel
theorem dX5_lets_42 : decode cX5_lets 42 = .ok (.isub, 1) := by decide +kernel
theorem dX5_lets_43 : decode cX5_lets 43 = .ok (.putfield 118, 3) := by decide +kernel
theorem dX5_lets_46 : decode cX5_lets 46 = .ok (.iload 4, 2) := by decide +kernel
theorem dX5_lets_48 : decode cX5_lets 48 = .ok (.ireturn, 1) := by decide +kernel
theorem dX5_can_0 : decode cX5_can 0 = .ok (.aload_n 0, 1) := by decide +kernel
theorem dX5_can_1 : decode cX5_can 1 = .ok (.iload_n 1, 1) := by decide +kernel
theorem dX5_can_2 : decode cX5_can 2 = .ok (.invokevirtual 103, 3) := by decide +kernel
theorem dX5_can_5 : decode cX5_can 5 = .ok (.ifCond .eq 11, 3) := by decide +kernel
theorem dX5_can_8 : decode cX5_can 8 = .ok (.aload_n 0, 1) := by decide +kernel
theorem dX5_can_9 : decode cX5_can 9 = .ok (.iload_n 2, 1) := by decide +kernel
theorem dX5_can_10 : decode cX5_can 10 = .ok (.invokevirtual 121, 3) := by decide +kernel
theorem dX5_can_13 : decode cX5_can 13 = .ok (.ifCond .ne 9, 3) := by decide +kernel
theorem dX5_can_16 : decode cX5_can 16 = .ok (.aload_n 0, 1) := by decide +kernel
theorem dX5_can_17 : decode cX5_can 17 = .ok (.iconst (-1), 1) := by decide +kernel
theorem dX5_can_18 : decode cX5_can 18 = .ok (.invokevirtual 99, 3) := by decide +kernel
theorem dX5_can_21 : decode cX5_can 21 = .ok (.ireturn, 1) := by decide +kernel
theorem dX5_can_22 : decode cX5_can 22 = .ok (.iload_n 3, 1) := by decide +kernel
theorem dX5_can_23 : decode cX5_can 23 = .ok (.ifCond .lt 8, 3) := by decide +kernel
theorem dX5_can_26 : decode cX5_can 26 = .ok (.iload_n 3, 1) := by decide +kernel
theorem dX5_can_27 : decode cX5_can 27 = .ok (.iconst 3, 1) := by decide +kernel
theorem dX5_can_28 : decode cX5_can 28 = .ok (.if_icmp .le 10, 3) := by decide +kernel
theorem dX5_can_31 : decode cX5_can 31 = .ok (.aload_n 0, 1) := by decide +kernel
theorem dX5_can_32 : decode cX5_can 32 = .ok (.bipush (-5), 2) := by decide +kernel
theorem dX5_can_34 : decode cX5_can 34 = .ok (.invokevirtual 99, 3) := by decide +kernel
theorem dX5_can_37 : decode cX5_can 37 = .ok (.ireturn, 1) := by decide +kernel
theorem dX5_can_38 : decode cX5_can 38 = .ok (.aload_n 0, 1) := by decide +kernel
theorem dX5_can_39 : decode cX5_can 39 = .ok (.iload_n 1, 1) := by decide +kernel
theorem dX5_can_40 : decode cX5_can 40 = .ok (.invokevirtual 150, 3) := by decide +kernel
theorem dX5_can_43 : decode cX5_can 43 = .ok (.ifCond .eq 5, 3) := by decide +kernel
theorem dX5_can_46 : decode cX5_can 46 = .ok (.iconst 0, 1) := by decide +kernel
theorem dX5_can_47 : decode cX5_can 47 = .ok (.ireturn, 1) := by decide +kernel
theorem dX5_can_48 : decode cX5_can 48 = .ok (.iload_n 3, 1) := by decide +kernel
theorem dX5_can_49 : decode cX5_can 49 = .ok (.iconst 1, 1) := by decide +kernel
theorem dX5_can_50 : decode cX5_can 50 = .ok (.if_icmp .le 28, 3) := by decide +kernel
theorem dX5_can_53 : decode cX5_can 53 = .ok (.aload_n 0, 1) := by decide +kernel
theorem dX5_can_54 : decode cX5_can 54 = .ok (.iload_n 1, 1) := by decide +kernel
theorem dX5_can_55 : decode cX5_can 55 = .ok (.iload_n 2, 1) := by decide +kernel
theorem dX5_can_56 : decode cX5_can 56 = .ok (.iload_n 3, 1) := by decide +kernel
theorem dX5_can_57 : decode cX5_can 57 = .ok (.iconst 2, 1) := by decide +kernel
theorem dX5_can_58 : decode cX5_can 58 = .ok (.if_icmp .ne 7, 3) := by decide +kernel
theorem dX5_can_61 : decode cX5_can 61 = .ok (.iconst 1, 1) := by decide +kernel
theorem dX5_can_62 : decode cX5_can 62 = .ok (.goto 4, 3) := by decide +kernel
theorem dX5_can_65 : decode cX5_can 65 = .ok (.iconst 0, 1) := by decide +kernel
theorem dX5_can_66 : decode cX5_can 66 = .ok (.invokevirtual 153, 3) := by decide +kernel
theorem dX5_can_69 : decode cX5_can 69 = .ok (.ifCond .le 7, 3) := by decide +kernel
theorem dX5_can_72 : decode cX5_can 72 = .ok (.iconst 1, 1) := by decide +kernel
theorem dX5_can_73 : decode cX5_can 73 = .ok (.goto 4, 3) := by decide +kernel
theorem dX5_can_76 : decode cX5_can 76 = .ok (.iconst 0, 1) := by decide +kernel
theorem dX5_can_77 : decode cX5_can 77 = .ok (.ireturn, 1) := by decide +kernel
theorem dX5_can_78 : decode cX5_can 78 = .ok (.aload_n 0, 1) := by decide +kernel
theorem dX5_can_79 : decode cX5_can 79 = .ok (.invokevirtual 142, 3) := by decide +kernel
theorem dX5_can_82 : decode cX5_can 82 = .ok (.lstore 4, 2) := by decide +kernel
theorem dX5_can_84 : decode cX5_can 84 = .ok (.iconst 0, 1) := by decide +kernel
theorem dX5_can_85 : decode cX5_can 85 = .ok (.istore 6, 2) := by decide +kernel
theorem dX5_can_87 : decode cX5_can 87 = .ok (.iload 6, 2) := by decide +kernel
theorem dX5_can_89 : decode cX5_can 89 = .ok (.iconst 1, 1) := by decide +kernel
theorem dX5_can_90 : decode cX5_can 90 = .ok (.aload_n 0, 1) := by decide +kernel
theorem dX5_can_91 : decode cX5_can 91 = .ok (.getfield 89, 3) := by decide +kernel
theorem dX5_can_94 : decode cX5_can 94 = .ok (.ishl, 1) := by decide +kernel
theorem dX5_can_95 : decode cX5_can 95 = .ok (.if_icmp .ge 43, 3) := by decide +kernel
theorem dX5_can_98 : decode cX5_can 98 = .ok (.lload 4, 2) := by decide +kernel
theorem dX5_can_100 : decode cX5_can 100 = .ok (.iload 6, 2) := by decide +kernel
theorem dX5_can_102 : decode cX5_can 102 = .ok (.lshr, 1) := by decide +kernel
theorem dX5_can_103 : decode cX5_can 103 = .ok (.lconst 1, 1) := by decide +kernel
theorem dX5_can_104 : decode cX5_can 104 = .ok (.land, 1) := by decide +kernel
theorem dX5_can_105 : decode cX5_can 105 = .ok (.lconst 1, 1) := by decide +kernel
theorem dX5_can_106 : decode cX5_can 106 = .ok (.lcmp, 1) := by decide +kernel
theorem dX5_can_107 : decode cX5_can 107 = .ok (.ifCond .ne 25, 3) := by decide +kernel
theorem dX5_can_110 : decode cX5_can 110 = .ok (.aload_n 0, 1) := by decide +kernel
theorem dX5_can_111 : decode cX5_can 111 = .ok (.iload_n 1, 1) := by decide +kernel
theorem dX5_can_112 : decode cX5_can 112 = .ok (.iload 6, 2) := by decide +kernel
theorem dX5_can_114 : decode cX5_can 114 = .ok (.iload_n 3, 1) := by decide +kernel
theorem dX5_can_115 : decode cX5_can 115 = .ok (.iconst 1, 1) := by decide +kernel
theorem dX5_can_116 : decode cX5_can 116 = .ok (.if_icmp .ne 7, 3) := by decide +kernel
theorem dX5_can_119 : decode cX5_can 119 = .ok (.iconst 1, 1) := by decide +kernel
theorem dX5_can_120 : decode cX5_can 120 = .ok (.goto 4, 3) := by decide +kernel
theorem dX5_can_123 : decode cX5_can 123 = .ok (.iconst 0, 1) := by decide +kernel
theorem dX5_can_124 : decode cX5_can 124 = .ok (.invokevirtual 218, 3) := by decide +kernel
theorem dX5_can_127 : decode cX5_can 127 = .ok (.ifCond .eq 5, 3) := by decide +kernel
theorem dX5_can_130 : decode cX5_can 130 = .ok (.iconst 1, 1) := by decide +kernel
theorem dX5_can_131 : decode cX5_can 131 = .ok (.ireturn, 1) := by decide +kernel
theorem dX5_can_132 : decode cX5_can 132 = .ok (.iinc 6 1, 3) := by decide +kernel
theorem dX5_can_135 : decode cX5_can 135 = .ok (.goto (-48), 3) := by decide +kernel
theorem dX5_can_138 : decode cX5_can 138 = .ok (.iconst 0, 1) := by decide +kernel
theorem dX5_can_139 : decode cX5_can 139 = .ok (.ireturn, 1) := by decide +kernel
theorem dX5_worlds_0 : decode cX5_worlds 0 = .ok (.aload_n 0, 1) := by decide +kernel
theorem dX5_worlds_1 : decode cX5_worlds 1 = .ok (.invokevirtual 142, 3) := by decide +kernel
theorem dX5_worlds_4 : decode cX5_worlds 4 = .ok (.lreturn, 1) := by decide +kernel
theorem dX5_many_0 : decode cX5_many 0 = .ok (.aload_n 0, 1) := by decide +kernel
theorem dX5_many_1 : decode cX5_many 1 = .ok (.aload_n 0, 1) := by decide +kernel
theorem dX5_many_2 : decode cX5_many 2 = .ok (.invokevirtual 142, 3) := by decide +kernel
theorem dX5_many_5 : decode cX5_many 5 = .ok (.invokevirtual 146, 3) := by decide +kernel
theorem dX5_many_8 : decode cX5_many 8 = .ok (.ireturn, 1) := by decide +kernel
theorem dX5_sureBy_0 : decode cX5_sureBy 0 = .ok (.lload_n 2, 1) := by decide +kernel
theorem dX5_sureBy_1 : decode cX5_sureBy 1 = .ok (.aload_n 0, 1) := by decide +kernel
theorem dX5_sureBy_2 : decode cX5_sureBy 2 = .ok (.iload_n 1, 1) := by decide +kernel
theorem dX5_sureBy_3 : decode cX5_sureBy 3 = .ok (.iconst 1, 1) := by decide +kernel
theorem dX5_sureBy_4 : decode cX5_sureBy 4 = .ok (.invokevirtual 157, 3) := by decide +kernel
theorem dX5_sureBy_7 : decode cX5_sureBy 7 = .ok (.land, 1) := by decide +kernel
theorem dX5_sureBy_8 : decode cX5_sureBy 8 = .ok (.lstore 4, 2) := by decide +kernel
theorem dX5_sureBy_10 : decode cX5_sureBy 10 = .ok (.lload_n 2, 1) := by decide +kernel
theorem dX5_sureBy_11 : decode cX5_sureBy 11 = .ok (.lconst 0, 1) := by decide +kernel
theorem dX5_sureBy_12 : decode cX5_sureBy 12 = .ok (.lcmp, 1) := by decide +kernel
theorem dX5_sureBy_13 : decode cX5_sureBy 13 = .ok (.ifCond .ne 7, 3) := by decide +kernel
theorem dX5_sureBy_16 : decode cX5_sureBy 16 = .ok (.iconst (-1), 1) := by decide +kernel
theorem dX5_sureBy_17 : decode cX5_sureBy 17 = .ok (.goto 26, 3) := by decide +kernel
theorem dX5_sureBy_20 : decode cX5_sureBy 20 = .ok (.lload 4, 2) := by decide +kernel
theorem dX5_sureBy_22 : decode cX5_sureBy 22 = .ok (.lload_n 2, 1) := by decide +kernel
theorem dX5_sureBy_23 : decode cX5_sureBy 23 = .ok (.lcmp, 1) := by decide +kernel
theorem dX5_sureBy_24 : decode cX5_sureBy 24 = .ok (.ifCond .ne 7, 3) := by decide +kernel
theorem dX5_sureBy_27 : decode cX5_sureBy 27 = .ok (.iconst 1, 1) := by decide +kernel
theorem dX5_sureBy_28 : decode cX5_sureBy 28 = .ok (.goto 15, 3) := by decide +kernel
theorem dX5_sureBy_31 : decode cX5_sureBy 31 = .ok (.lload 4, 2) := by decide +kernel
theorem dX5_sureBy_33 : decode cX5_sureBy 33 = .ok (.lconst 0, 1) := by decide +kernel
theorem dX5_sureBy_34 : decode cX5_sureBy 34 = .ok (.lcmp, 1) := by decide +kernel
theorem dX5_sureBy_35 : decode cX5_sureBy 35 = .ok (.ifCond .ne 7, 3) := by decide +kernel
theorem dX5_sureBy_38 : decode cX5_sureBy 38 = .ok (.iconst 0, 1) := by decide +kernel
theorem dX5_sureBy_39 : decode cX5_sureBy 39 = .ok (.goto 4, 3) := by decide +kernel
theorem dX5_sureBy_42 : decode cX5_sureBy 42 = .ok (.iconst (-1), 1) := by decide +kernel
theorem dX5_sureBy_43 : decode cX5_sureBy 43 = .ok (.ireturn, 1) := by decide +kernel
theorem dX5_sure_0 : decode cX5_sure 0 = .ok (.aload_n 0, 1) := by decide +kernel
theorem dX5_sure_1 : decode cX5_sure 1 = .ok (.iload_n 1, 1) := by decide +kernel
theorem dX5_sure_2 : decode cX5_sure 2 = .ok (.invokevirtual 121, 3) := by decide +kernel
theorem dX5_sure_5 : decode cX5_sure 5 = .ok (.ifCond .eq 15, 3) := by decide +kernel
theorem dX5_sure_8 : decode cX5_sure 8 = .ok (.aload_n 0, 1) := by decide +kernel
theorem dX5_sure_9 : decode cX5_sure 9 = .ok (.iload_n 1, 1) := by decide +kernel
theorem dX5_sure_10 : decode cX5_sure 10 = .ok (.aload_n 0, 1) := by decide +kernel
theorem dX5_sure_11 : decode cX5_sure 11 = .ok (.invokevirtual 142, 3) := by decide +kernel
theorem dX5_sure_14 : decode cX5_sure 14 = .ok (.invokevirtual 222, 3) := by decide +kernel
theorem dX5_sure_17 : decode cX5_sure 17 = .ok (.goto 8, 3) := by decide +kernel
theorem dX5_sure_20 : decode cX5_sure 20 = .ok (.aload_n 0, 1) := by decide +kernel
theorem dX5_sure_21 : decode cX5_sure 21 = .ok (.iconst (-1), 1) := by decide +kernel
theorem dX5_sure_22 : decode cX5_sure 22 = .ok (.invokevirtual 226, 3) := by decide +kernel
theorem dX5_sure_25 : decode cX5_sure 25 = .ok (.ireturn, 1) := by decide +kernel
theorem dX5_sures_0 : decode cX5_sures 0 = .ok (.aload_n 0, 1) := by decide +kernel
theorem dX5_sures_1 : decode cX5_sures 1 = .ok (.invokevirtual 142, 3) := by decide +kernel
theorem dX5_sures_4 : decode cX5_sures 4 = .ok (.lstore_n 1, 1) := by decide +kernel
theorem dX5_sures_5 : decode cX5_sures 5 = .ok (.iconst 0, 1) := by decide +kernel
theorem dX5_sures_6 : decode cX5_sures 6 = .ok (.istore_n 3, 1) := by decide +kernel
theorem dX5_sures_7 : decode cX5_sures 7 = .ok (.iconst 0, 1) := by decide +kernel
theorem dX5_sures_8 : decode cX5_sures 8 = .ok (.istore 4, 2) := by decide +kernel
theorem dX5_sures_10 : decode cX5_sures 10 = .ok (.iload 4, 2) := by decide +kernel
theorem dX5_sures_12 : decode cX5_sures 12 = .ok (.aload_n 0, 1) := by decide +kernel
theorem dX5_sures_13 : decode cX5_sures 13 = .ok (.getfield 89, 3) := by decide +kernel
theorem dX5_sures_16 : decode cX5_sures 16 = .ok (.if_icmp .ge 27, 3) := by decide +kernel
theorem dX5_sures_19 : decode cX5_sures 19 = .ok (.aload_n 0, 1) := by decide +kernel
theorem dX5_sures_20 : decode cX5_sures 20 = .ok (.iload 4, 2) := by decide +kernel
theorem dX5_sures_22 : decode cX5_sures 22 = .ok (.lload_n 1, 1) := by decide +kernel
theorem dX5_sures_23 : decode cX5_sures 23 = .ok (.invokevirtual 222, 3) := by decide +kernel
theorem dX5_sures_26 : decode cX5_sures 26 = .ok (.iconst (-1), 1) := by decide +kernel
theorem dX5_sures_27 : decode cX5_sures 27 = .ok (.if_icmp .eq 10, 3) := by decide +kernel
theorem dX5_sures_30 : decode cX5_sures 30 = .ok (.iload_n 3, 1) := by decide +kernel
theorem dX5_sures_31 : decode cX5_sures 31 = .ok (.iconst 1, 1) := by decide +kernel
theorem dX5_sures_32 : decode cX5_sures 32 = .ok (.iload 4, 2) := by decide +kernel
theorem dX5_sures_34 : decode cX5_sures 34 = .ok (.ishl, 1) := by decide +kernel
theorem dX5_sures_35 : decode cX5_sures 35 = .ok (.ior, 1) := by decide +kernel
theorem dX5_sures_36 : decode cX5_sures 36 = .ok (.istore_n 3, 1) := by decide +kernel
theorem dX5_sures_37 : decode cX5_sures 37 = .ok (.iinc 4 1, 3) := by decide +kernel
theorem dX5_sures_40 : decode cX5_sures 40 = .ok (.goto (-30), 3) := by decide +kernel
theorem dX5_sures_43 : decode cX5_sures 43 = .ok (.iload_n 3, 1) := by decide +kernel
theorem dX5_sures_44 : decode cX5_sures 44 = .ok (.ireturn, 1) := by decide +kernel
theorem dX5_shown_0 : decode cX5_shown 0 = .ok (.aload_n 0, 1) := by decide +kernel
theorem dX5_shown_1 : decode cX5_shown 1 = .ok (.iload_n 1, 1) := by decide +kernel
theorem dX5_shown_2 : decode cX5_shown 2 = .ok (.invokevirtual 121, 3) := by decide +kernel
theorem dX5_shown_5 : decode cX5_shown 5 = .ok (.ifCond .ne 9, 3) := by decide +kernel
theorem dX5_shown_8 : decode cX5_shown 8 = .ok (.aload_n 0, 1) := by decide +kernel
theorem dX5_shown_9 : decode cX5_shown 9 = .ok (.iconst (-1), 1) := by decide +kernel
theorem dX5_shown_10 : decode cX5_shown 10 = .ok (.invokevirtual 99, 3) := by decide +kernel
theorem dX5_shown_13 : decode cX5_shown 13 = .ok (.ireturn, 1) := by decide +kernel
theorem dX5_shown_14 : decode cX5_shown 14 = .ok (.aload_n 0, 1) := by decide +kernel
theorem dX5_shown_15 : decode cX5_shown 15 = .ok (.iload_n 1, 1) := by decide +kernel
theorem dX5_shown_16 : decode cX5_shown 16 = .ok (.aload_n 0, 1) := by decide +kernel
theorem dX5_shown_17 : decode cX5_shown 17 = .ok (.invokevirtual 142, 3) := by decide +kernel
theorem dX5_shown_20 : decode cX5_shown 20 = .ok (.invokevirtual 222, 3) := by decide +kernel
theorem dX5_shown_23 : decode cX5_shown 23 = .ok (.iconst (-1), 1) := by decide +kernel
theorem dX5_shown_24 : decode cX5_shown 24 = .ok (.if_icmp .ne 10, 3) := by decide +kernel
theorem dX5_shown_27 : decode cX5_shown 27 = .ok (.aload_n 0, 1) := by decide +kernel
theorem dX5_shown_28 : decode cX5_shown 28 = .ok (.bipush (-5), 2) := by decide +kernel
theorem dX5_shown_30 : decode cX5_shown 30 = .ok (.invokevirtual 99, 3) := by decide +kernel
theorem dX5_shown_33 : decode cX5_shown 33 = .ok (.ireturn, 1) := by decide +kernel
theorem dX5_shown_34 : decode cX5_shown 34 = .ok (.iconst 0, 1) := by decide +kernel
theorem dX5_shown_35 : decode cX5_shown 35 = .ok (.istore_n 2, 1) := by decide +kernel
theorem dX5_shown_36 : decode cX5_shown 36 = .ok (.aload_n 0, 1) := by decide +kernel
theorem dX5_shown_37 : decode cX5_shown 37 = .ok (.iload_n 1, 1) := by decide +kernel
theorem dX5_shown_38 : decode cX5_shown 38 = .ok (.aload_n 0, 1) := by decide +kernel
theorem dX5_shown_39 : decode cX5_shown 39 = .ok (.iconst 1, 1) := by decide +kernel
theorem dX5_shown_40 : decode cX5_shown 40 = .ok (.iload_n 2, 1) := by decide +kernel
theorem dX5_shown_41 : decode cX5_shown 41 = .ok (.ishl, 1) := by decide +kernel
theorem dX5_shown_42 : decode cX5_shown 42 = .ok (.iconst 1, 1) := by decide +kernel
theorem dX5_shown_43 : decode cX5_shown 43 = .ok (.isub, 1) := by decide +kernel
theorem dX5_shown_44 : decode cX5_shown 44 = .ok (.iconst (-1), 1) := by decide +kernel
theorem dX5_shown_45 : decode cX5_shown 45 = .ok (.invokevirtual 134, 3) := by decide +kernel
theorem dX5_shown_48 : decode cX5_shown 48 = .ok (.invokevirtual 222, 3) := by decide +kernel
theorem dX5_shown_51 : decode cX5_shown 51 = .ok (.iconst (-1), 1) := by decide +kernel
theorem dX5_shown_52 : decode cX5_shown 52 = .ok (.if_icmp .ne 9, 3) := by decide +kernel
theorem dX5_shown_55 : decode cX5_shown 55 = .ok (.iinc 2 1, 3) := by decide +kernel
theorem dX5_shown_58 : decode cX5_shown 58 = .ok (.goto (-22), 3) := by decide +kernel
theorem dX5_shown_61 : decode cX5_shown 61 = .ok (.iload_n 2, 1) := by decide +kernel
theorem dX5_shown_62 : decode cX5_shown 62 = .ok (.ireturn, 1) := by decide +kernel
theorem dX5_proof_0 : decode cX5_proof 0 = .ok (.aload_n 0, 1) := by decide +kernel
theorem dX5_proof_1 : decode cX5_proof 1 = .ok (.iload_n 1, 1) := by decide +kernel
theorem dX5_proof_2 : decode cX5_proof 2 = .ok (.invokevirtual 121, 3) := by decide +kernel
theorem dX5_proof_5 : decode cX5_proof 5 = .ok (.ifCond .ne 9, 3) := by decide +kernel
theorem dX5_proof_8 : decode cX5_proof 8 = .ok (.aload_n 0, 1) := by decide +kernel
theorem dX5_proof_9 : decode cX5_proof 9 = .ok (.iconst (-1), 1) := by decide +kernel
theorem dX5_proof_10 : decode cX5_proof 10 = .ok (.invokevirtual 99, 3) := by decide +kernel
theorem dX5_proof_13 : decode cX5_proof 13 = .ok (.ireturn, 1) := by decide +kernel
theorem dX5_proof_14 : decode cX5_proof 14 = .ok (.aload_n 0, 1) := by decide +kernel
theorem dX5_proof_15 : decode cX5_proof 15 = .ok (.iload_n 1, 1) := by decide +kernel
theorem dX5_proof_16 : decode cX5_proof 16 = .ok (.aload_n 0, 1) := by decide +kernel
theorem dX5_proof_17 : decode cX5_proof 17 = .ok (.invokevirtual 142, 3) := by decide +kernel
theorem dX5_proof_20 : decode cX5_proof 20 = .ok (.invokevirtual 222, 3) := by decide +kernel
theorem dX5_proof_23 : decode cX5_proof 23 = .ok (.istore_n 2, 1) := by decide +kernel
theorem dX5_proof_24 : decode cX5_proof 24 = .ok (.iload_n 2, 1) := by decide +kernel
theorem dX5_proof_25 : decode cX5_proof 25 = .ok (.iconst (-1), 1) := by decide +kernel
theorem dX5_proof_26 : decode cX5_proof 26 = .ok (.if_icmp .ne 10, 3) := by decide +kernel
theorem dX5_proof_29 : decode cX5_proof 29 = .ok (.aload_n 0, 1) := by decide +kernel
theorem dX5_proof_30 : decode cX5_proof 30 = .ok (.bipush (-5), 2) := by decide +kernel
theorem dX5_proof_32 : decode cX5_proof 32 = .ok (.invokevirtual 99, 3) := by decide +kernel
theorem dX5_proof_35 : decode cX5_proof 35 = .ok (.ireturn, 1) := by decide +kernel
theorem dX5_proof_36 : decode cX5_proof 36 = .ok (.aload_n 0, 1) := by decide +kernel
theorem dX5_proof_37 : decode cX5_proof 37 = .ok (.getfield 118, 3) := by decide +kernel
theorem dX5_proof_40 : decode cX5_proof 40 = .ok (.bipush 10, 2) := by decide +kernel
theorem dX5_proof_42 : decode cX5_proof 42 = .ok (.if_icmp .le 10, 3) := by decide +kernel
theorem dX5_proof_45 : decode cX5_proof 45 = .ok (.aload_n 0, 1) := by decide +kernel
theorem dX5_proof_46 : decode cX5_proof 46 = .ok (.bipush (-7), 2) := by decide +kernel
theorem dX5_proof_48 : decode cX5_proof 48 = .ok (.invokevirtual 99, 3) := by decide +kernel
theorem dX5_proof_51 : decode cX5_proof 51 = .ok (.ireturn, 1) := by decide +kernel
theorem dX5_proof_52 : decode cX5_proof 52 = .ok (.aload_n 0, 1) := by decide +kernel
theorem dX5_proof_53 : decode cX5_proof 53 = .ok (.getfield 118, 3) := by decide +kernel
theorem dX5_proof_56 : decode cX5_proof 56 = .ok (.istore_n 3, 1) := by decide +kernel
theorem dX5_proof_57 : decode cX5_proof 57 = .ok (.iconst 0, 1) := by decide +kernel
theorem dX5_proof_58 : decode cX5_proof 58 = .ok (.istore 4, 2) := by decide +kernel
theorem dX5_proof_60 : decode cX5_proof 60 = .ok (.iload 4, 2) := by decide +kernel
theorem dX5_proof_62 : decode cX5_proof 62 = .ok (.iconst 1, 1) := by decide +kernel
theorem dX5_proof_63 : decode cX5_proof 63 = .ok (.aload_n 0, 1) := by decide +kernel
theorem dX5_proof_64 : decode cX5_proof 64 = .ok (.getfield 118, 3) := by decide +kernel
theorem dX5_proof_67 : decode cX5_proof 67 = .ok (.ishl, 1) := by decide +kernel
theorem dX5_proof_68 : decode cX5_proof 68 = .ok (.if_icmp .ge 43, 3) := by decide +kernel
theorem dX5_proof_71 : decode cX5_proof 71 = .ok (.aload_n 0, 1) := by decide +kernel
theorem dX5_proof_72 : decode cX5_proof 72 = .ok (.iload 4, 2) := by decide +kernel
theorem dX5_proof_74 : decode cX5_proof 74 = .ok (.i2l, 1) := by decide +kernel
theorem dX5_proof_75 : decode cX5_proof 75 = .ok (.invokevirtual 146, 3) := by decide +kernel
theorem dX5_proof_78 : decode cX5_proof 78 = .ok (.istore 5, 2) := by decide +kernel
theorem dX5_proof_80 : decode cX5_proof 80 = .ok (.iload 5, 2) := by decide +kernel
theorem dX5_proof_82 : decode cX5_proof 82 = .ok (.iload_n 3, 1) := by decide +kernel
theorem dX5_proof_83 : decode cX5_proof 83 = .ok (.if_icmp .ge 22, 3) := by decide +kernel
theorem dX5_proof_86 : decode cX5_proof 86 = .ok (.aload_n 0, 1) := by decide +kernel
theorem dX5_proof_87 : decode cX5_proof 87 = .ok (.iload_n 1, 1) := by decide +kernel
theorem dX5_proof_88 : decode cX5_proof 88 = .ok (.aload_n 0, 1) := by decide +kernel
theorem dX5_proof_89 : decode cX5_proof 89 = .ok (.iload 4, 2) := by decide +kernel
theorem dX5_proof_91 : decode cX5_proof 91 = .ok (.iconst (-1), 1) := by decide +kernel
theorem dX5_proof_92 : decode cX5_proof 92 = .ok (.invokevirtual 134, 3) := by decide +kernel
theorem dX5_proof_95 : decode cX5_proof 95 = .ok (.invokevirtual 222, 3) := by decide +kernel
theorem dX5_proof_98 : decode cX5_proof 98 = .ok (.iload_n 2, 1) := by decide +kernel
theorem dX5_proof_99 : decode cX5_proof 99 = .ok (.if_icmp .ne 6, 3) := by decide +kernel
theorem dX5_proof_102 : decode cX5_proof 102 = .ok (.iload 5, 2) := by decide +kernel
theorem dX5_proof_104 : decode cX5_proof 104 = .ok (.istore_n 3, 1) := by decide +kernel
theorem dX5_proof_105 : decode cX5_proof 105 = .ok (.iinc 4 1, 3) := by decide +kernel
theorem dX5_proof_108 : decode cX5_proof 108 = .ok (.goto (-48), 3) := by decide +kernel
theorem dX5_proof_111 : decode cX5_proof 111 = .ok (.iload_n 3, 1) := by decide +kernel
theorem dX5_proof_112 : decode cX5_proof 112 = .ok (.ireturn, 1) := by decide +kernel
theorem dX5_worstOf_0 : decode cX5_worstOf 0 = .ok (.aload_n 0, 1) := by decide +kernel
theorem dX5_worstOf_1 : decode cX5_worstOf 1 = .ok (.iload_n 1, 1) := by decide +kernel
theorem dX5_worstOf_2 : decode cX5_worstOf 2 = .ok (.iload_n 2, 1) := by decide +kernel
theorem dX5_worstOf_3 : decode cX5_worstOf 3 = .ok (.iconst 1, 1) := by decide +kernel
theorem dX5_worstOf_4 : decode cX5_worstOf 4 = .ok (.invokevirtual 153, 3) := by decide +kernel
theorem dX5_worstOf_7 : decode cX5_worstOf 7 = .ok (.istore_n 3, 1) := by decide +kernel
theorem dX5_worstOf_8 : decode cX5_worstOf 8 = .ok (.aload_n 0, 1) := by decide +kernel
theorem dX5_worstOf_9 : decode cX5_worstOf 9 = .ok (.iload_n 1, 1) := by decide +kernel
theorem dX5_worstOf_10 : decode cX5_worstOf 10 = .ok (.iload_n 2, 1) := by decide +kernel
theorem dX5_worstOf_11 : decode cX5_worstOf 11 = .ok (.iconst 0, 1) := by decide +kernel
theorem dX5_worstOf_12 : decode cX5_worstOf 12 = .ok (.invokevirtual 153, 3) := by decide +kernel
theorem dX5_worstOf_15 : decode cX5_worstOf 15 = .ok (.istore 4, 2) := by decide +kernel
theorem dX5_worstOf_17 : decode cX5_worstOf 17 = .ok (.iload_n 3, 1) := by decide +kernel
theorem dX5_worstOf_18 : decode cX5_worstOf 18 = .ok (.iload 4, 2) := by decide +kernel
theorem dX5_worstOf_20 : decode cX5_worstOf 20 = .ok (.if_icmp .le 7, 3) := by decide +kernel
theorem dX5_worstOf_23 : decode cX5_worstOf 23 = .ok (.iload_n 3, 1) := by decide +kernel
theorem dX5_worstOf_24 : decode cX5_worstOf 24 = .ok (.goto 5, 3) := by decide +kernel
theorem dX5_worstOf_27 : decode cX5_worstOf 27 = .ok (.iload 4, 2) := by decide +kernel
theorem dX5_worstOf_29 : decode cX5_worstOf 29 = .ok (.ireturn, 1) := by decide +kernel
theorem dX5_worst_0 : decode cX5_worst 0 = .ok (.aload_n 0, 1) := by decide +kernel
theorem dX5_worst_1 : decode cX5_worst 1 = .ok (.iload_n 1, 1) := by decide +kernel
theorem dX5_worst_2 : decode cX5_worst 2 = .ok (.invokevirtual 103, 3) := by decide +kernel
theorem dX5_worst_5 : decode cX5_worst 5 = .ok (.ifCond .eq 11, 3) := by decide +kernel
theorem dX5_worst_8 : decode cX5_worst 8 = .ok (.aload_n 0, 1) := by decide +kernel
theorem dX5_worst_9 : decode cX5_worst 9 = .ok (.iload_n 2, 1) := by decide +kernel
theorem dX5_worst_10 : decode cX5_worst 10 = .ok (.invokevirtual 121, 3) := by decide +kernel
theorem dX5_worst_13 : decode cX5_worst 13 = .ok (.ifCond .ne 9, 3) := by decide +kernel
theorem dX5_worst_16 : decode cX5_worst 16 = .ok (.aload_n 0, 1) := by decide +kernel
theorem dX5_worst_17 : decode cX5_worst 17 = .ok (.iconst (-1), 1) := by decide +kernel
theorem dX5_worst_18 : decode cX5_worst 18 = .ok (.invokevirtual 99, 3) := by decide +kernel
theorem dX5_worst_21 : decode cX5_worst 21 = .ok (.ireturn, 1) := by decide +kernel
theorem dX5_worst_22 : decode cX5_worst 22 = .ok (.aload_n 0, 1) := by decide +kernel
theorem dX5_worst_23 : decode cX5_worst 23 = .ok (.iload_n 1, 1) := by decide +kernel
theorem dX5_worst_24 : decode cX5_worst 24 = .ok (.invokevirtual 150, 3) := by decide +kernel
theorem dX5_worst_27 : decode cX5_worst 27 = .ok (.ifCond .eq 12, 3) := by decide +kernel
theorem dX5_worst_30 : decode cX5_worst 30 = .ok (.aload_n 0, 1) := by decide +kernel
theorem dX5_worst_31 : decode cX5_worst 31 = .ok (.bipush (-6), 2) := by decide +kernel
theorem dX5_worst_33 : decode cX5_worst 33 = .ok (.invokevirtual 99, 3) := by decide +kernel
theorem dX5_worst_36 : decode cX5_worst 36 = .ok (.goto 9, 3) := by decide +kernel
theorem dX5_worst_39 : decode cX5_worst 39 = .ok (.aload_n 0, 1) := by decide +kernel
theorem dX5_worst_40 : decode cX5_worst 40 = .ok (.iload_n 1, 1) := by decide +kernel
theorem dX5_worst_41 : decode cX5_worst 41 = .ok (.iload_n 2, 1) := by decide +kernel
theorem dX5_worst_42 : decode cX5_worst 42 = .ok (.invokevirtual 229, 3) := by decide +kernel
theorem dX5_worst_45 : decode cX5_worst 45 = .ok (.ireturn, 1) := by decide +kernel
theorem dX5_next_0 : decode cX5_next 0 = .ok (.iconst (-1), 1) := by decide +kernel
theorem dX5_next_1 : decode cX5_next 1 = .ok (.istore_n 1, 1) := by decide +kernel
theorem dX5_next_2 : decode cX5_next 2 = .ok (.iconst 0, 1) := by decide +kernel
theorem dX5_next_3 : decode cX5_next 3 = .ok (.istore_n 2, 1) := by decide +kernel
theorem dX5_next_4 : decode cX5_next 4 = .ok (.iconst 0, 1) := by decide +kernel
theorem dX5_next_5 : decode cX5_next 5 = .ok (.istore_n 3, 1) := by decide +kernel
theorem dX5_next_6 : decode cX5_next 6 = .ok (.iload_n 3, 1) := by decide +kernel
theorem dX5_next_7 : decode cX5_next 7 = .ok (.aload_n 0, 1) := by decide +kernel
theorem dX5_next_8 : decode cX5_next 8 = .ok (.getfield 92, 3) := by decide +kernel
theorem dX5_next_11 : decode cX5_next 11 = .ok (.if_icmp .ge 69, 3) := by decide +kernel
theorem dX5_next_14 : decode cX5_next 14 = .ok (.iconst 0, 1) := by decide +kernel
theorem dX5_next_15 : decode cX5_next 15 = .ok (.istore 4, 2) := by decide +kernel
theorem dX5_next_17 : decode cX5_next 17 = .ok (.iload 4, 2) := by decide +kernel
theorem dX5_next_19 : decode cX5_next 19 = .ok (.aload_n 0, 1) := by decide +kernel
theorem dX5_next_20 : decode cX5_next 20 = .ok (.getfield 89, 3) := by decide +kernel
theorem dX5_next_23 : decode cX5_next 23 = .ok (.if_icmp .ge 51, 3) := by decide +kernel
theorem dX5_next_26 : decode cX5_next 26 = .ok (.aload_n 0, 1) := by decide +kernel
theorem dX5_next_27 : decode cX5_next 27 = .ok (.iload_n 3, 1) := by decide +kernel
theorem dX5_next_28 : decode cX5_next 28 = .ok (.invokevirtual 150, 3) := by decide +kernel
theorem dX5_next_31 : decode cX5_next 31 = .ok (.ifCond .ne 43, 3) := by decide +kernel
theorem dX5_next_34 : decode cX5_next 34 = .ok (.aload_n 0, 1) := by decide +kernel
theorem dX5_next_35 : decode cX5_next 35 = .ok (.iload_n 3, 1) := by decide +kernel
theorem dX5_next_36 : decode cX5_next 36 = .ok (.iload 4, 2) := by decide +kernel
theorem dX5_next_38 : decode cX5_next 38 = .ok (.invokevirtual 229, 3) := by decide +kernel
theorem dX5_next_41 : decode cX5_next 41 = .ok (.istore 5, 2) := by decide +kernel
theorem dX5_next_43 : decode cX5_next 43 = .ok (.iload_n 1, 1) := by decide +kernel
theorem dX5_next_44 : decode cX5_next 44 = .ok (.iconst (-1), 1) := by decide +kernel
theorem dX5_next_45 : decode cX5_next 45 = .ok (.if_icmp .eq 12, 3) := by decide +kernel
theorem dX5_next_48 : decode cX5_next 48 = .ok (.iload 5, 2) := by decide +kernel
theorem dX5_next_50 : decode cX5_next 50 = .ok (.iload_n 2, 1) := by decide +kernel
theorem dX5_next_51 : decode cX5_next 51 = .ok (.if_icmp .lt 6, 3) := by decide +kernel
theorem dX5_next_54 : decode cX5_next 54 = .ok (.goto 14, 3) := by decide +kernel
theorem dX5_next_57 : decode cX5_next 57 = .ok (.bipush 10, 2) := by decide +kernel
theorem dX5_next_59 : decode cX5_next 59 = .ok (.iload_n 3, 1) := by decide +kernel
theorem dX5_next_60 : decode cX5_next 60 = .ok (.imul, 1) := by decide +kernel
theorem dX5_next_61 : decode cX5_next 61 = .ok (.iload 4, 2) := by decide +kernel
theorem dX5_next_63 : decode cX5_next 63 = .ok (.iadd, 1) := by decide +kernel
theorem dX5_next_64 : decode cX5_next 64 = .ok (.istore_n 1, 1) := by decide +kernel
theorem dX5_next_65 : decode cX5_next 65 = .ok (.iload 5, 2) := by decide +kernel
theorem dX5_next_67 : decode cX5_next 67 = .ok (.istore_n 2, 1) := by decide +kernel
theorem dX5_next_68 : decode cX5_next 68 = .ok (.iinc 4 1, 3) := by decide +kernel
theorem dX5_next_71 : decode cX5_next 71 = .ok (.goto (-54), 3) := by decide +kernel
theorem dX5_next_74 : decode cX5_next 74 = .ok (.iinc 3 1, 3) := by decide +kernel
theorem dX5_next_77 : decode cX5_next 77 = .ok (.goto (-71), 3) := by decide +kernel
theorem dX5_next_80 : decode cX5_next 80 = .ok (.iload_n 1, 1) := by decide +kernel
theorem dX5_next_81 : decode cX5_next 81 = .ok (.iconst (-1), 1) := by decide +kernel
theorem dX5_next_82 : decode cX5_next 82 = .ok (.if_icmp .ne 12, 3) := by decide +kernel
theorem dX5_next_85 : decode cX5_next 85 = .ok (.aload_n 0, 1) := by decide +kernel
theorem dX5_next_86 : decode cX5_next 86 = .ok (.bipush (-5), 2) := by decide +kernel
theorem dX5_next_88 : decode cX5_next 88 = .ok (.invokevirtual 99, 3) := by decide +kernel
theorem dX5_next_91 : decode cX5_next 91 = .ok (.goto 4, 3) := by decide +kernel
theorem dX5_next_94 : decode cX5_next 94 = .ok (.iload_n 1, 1) := by decide +kernel
theorem dX5_next_95 : decode cX5_next 95 = .ok (.ireturn, 1) := by decide +kernel
theorem dX5_isKnown_0 : decode cX5_isKnown 0 = .ok (.aload_n 0, 1) := by decide +kernel
theorem dX5_isKnown_1 : decode cX5_isKnown 1 = .ok (.iload_n 1, 1) := by decide +kernel
theorem dX5_isKnown_2 : decode cX5_isKnown 2 = .ok (.aload_n 0, 1) := by decide +kernel
theorem dX5_isKnown_3 : decode cX5_isKnown 3 = .ok (.invokevirtual 142, 3) := by decide +kernel
theorem dX5_isKnown_6 : decode cX5_isKnown 6 = .ok (.invokevirtual 222, 3) := by decide +kernel
theorem dX5_isKnown_9 : decode cX5_isKnown 9 = .ok (.iconst (-1), 1) := by decide +kernel
theorem dX5_isKnown_10 : decode cX5_isKnown 10 = .ok (.if_icmp .eq 5, 3) := by decide +kernel
theorem dX5_isKnown_13 : decode cX5_isKnown 13 = .ok (.iconst 1, 1) := by decide +kernel
theorem dX5_isKnown_14 : decode cX5_isKnown 14 = .ok (.ireturn, 1) := by decide +kernel
theorem dX5_isKnown_15 : decode cX5_isKnown 15 = .ok (.iload_n 2, 1) := by decide +kernel
theorem dX5_isKnown_16 : decode cX5_isKnown 16 = .ok (.ifCond .ne 5, 3) := by decide +kernel
theorem dX5_isKnown_19 : decode cX5_isKnown 19 = .ok (.iconst 0, 1) := by decide +kernel
theorem dX5_isKnown_20 : decode cX5_isKnown 20 = .ok (.ireturn, 1) := by decide +kernel
theorem dX5_isKnown_21 : decode cX5_isKnown 21 = .ok (.iconst 0, 1) := by decide +kernel
theorem dX5_isKnown_22 : decode cX5_isKnown 22 = .ok (.istore_n 3, 1) := by decide +kernel
theorem dX5_isKnown_23 : decode cX5_isKnown 23 = .ok (.iload_n 3, 1) := by decide +kernel
theorem dX5_isKnown_24 : decode cX5_isKnown 24 = .ok (.aload_n 0, 1) := by decide +kernel
theorem dX5_isKnown_25 : decode cX5_isKnown 25 = .ok (.getfield 92, 3) := by decide +kernel
theorem dX5_isKnown_28 : decode cX5_isKnown 28 = .ok (.if_icmp .ge 112, 3) := by decide +kernel
theorem dX5_isKnown_31 : decode cX5_isKnown 31 = .ok (.aload_n 0, 1) := by decide +kernel
theorem dX5_isKnown_32 : decode cX5_isKnown 32 = .ok (.iload_n 3, 1) := by decide +kernel
theorem dX5_isKnown_33 : decode cX5_isKnown 33 = .ok (.invokevirtual 150, 3) := by decide +kernel
theorem dX5_isKnown_36 : decode cX5_isKnown 36 = .ok (.ifCond .eq 6, 3) := by decide +kernel
theorem dX5_isKnown_39 : decode cX5_isKnown 39 = .ok (.goto 95, 3) := by decide +kernel
theorem dX5_isKnown_42 : decode cX5_isKnown 42 = .ok (.iconst 0, 1) := by decide +kernel
theorem dX5_isKnown_43 : decode cX5_isKnown 43 = .ok (.istore 4, 2) := by decide +kernel
theorem dX5_isKnown_45 : decode cX5_isKnown 45 = .ok (.iload 4, 2) := by decide +kernel
theorem dX5_isKnown_47 : decode cX5_isKnown 47 = .ok (.aload_n 0, 1) := by decide +kernel
theorem dX5_isKnown_48 : decode cX5_isKnown 48 = .ok (.getfield 89, 3) := by decide +kernel
theorem dX5_isKnown_51 : decode cX5_isKnown 51 = .ok (.if_icmp .ge 83, 3) := by decide +kernel
theorem dX5_isKnown_54 : decode cX5_isKnown 54 = .ok (.iconst 1, 1) := by decide +kernel
theorem dX5_isKnown_55 : decode cX5_isKnown 55 = .ok (.istore 5, 2) := by decide +kernel
theorem dX5_isKnown_57 : decode cX5_isKnown 57 = .ok (.iconst 0, 1) := by decide +kernel
theorem dX5_isKnown_58 : decode cX5_isKnown 58 = .ok (.istore 6, 2) := by decide +kernel
theorem dX5_isKnown_60 : decode cX5_isKnown 60 = .ok (.iload 6, 2) := by decide +kernel
theorem dX5_isKnown_62 : decode cX5_isKnown 62 = .ok (.iconst 2, 1) := by decide +kernel
theorem dX5_isKnown_63 : decode cX5_isKnown 63 = .ok (.if_icmp .ge 58, 3) := by decide +kernel
theorem dX5_isKnown_66 : decode cX5_isKnown 66 = .ok (.iload 5, 2) := by decide +kernel
theorem dX5_isKnown_68 : decode cX5_isKnown 68 = .ok (.ifCond .eq 53, 3) := by decide +kernel
theorem dX5_isKnown_71 : decode cX5_isKnown 71 = .ok (.aload_n 0, 1) := by decide +kernel
theorem dX5_isKnown_72 : decode cX5_isKnown 72 = .ok (.iload_n 3, 1) := by decide +kernel
theorem dX5_isKnown_73 : decode cX5_isKnown 73 = .ok (.iload 4, 2) := by decide +kernel
theorem dX5_isKnown_75 : decode cX5_isKnown 75 = .ok (.iload 6, 2) := by decide +kernel
theorem dX5_isKnown_77 : decode cX5_isKnown 77 = .ok (.invokevirtual 153, 3) := by decide +kernel
theorem dX5_isKnown_80 : decode cX5_isKnown 80 = .ok (.ifCond .ne 6, 3) := by decide +kernel
theorem dX5_isKnown_83 : decode cX5_isKnown 83 = .ok (.goto 32, 3) := by decide +kernel
theorem dX5_isKnown_86 : decode cX5_isKnown 86 = .ok (.aload_n 0, 1) := by decide +kernel
theorem dX5_isKnown_87 : decode cX5_isKnown 87 = .ok (.iload_n 3, 1) := by decide +kernel
theorem dX5_isKnown_88 : decode cX5_isKnown 88 = .ok (.iload 4, 2) := by decide +kernel
theorem dX5_isKnown_90 : decode cX5_isKnown 90 = .ok (.iload 6, 2) := by decide +kernel
theorem dX5_isKnown_92 : decode cX5_isKnown 92 = .ok (.invokevirtual 138, 3) := by decide +kernel
theorem dX5_isKnown_95 : decode cX5_isKnown 95 = .ok (.aload_n 0, 1) := by decide +kernel
theorem dX5_isKnown_96 : decode cX5_isKnown 96 = .ok (.iload_n 1, 1) := by decide +kernel
theorem dX5_isKnown_97 : decode cX5_isKnown 97 = .ok (.iload_n 2, 1) := by decide +kernel
theorem dX5_isKnown_98 : decode cX5_isKnown 98 = .ok (.iconst 1, 1) := by decide +kernel
theorem dX5_isKnown_99 : decode cX5_isKnown 99 = .ok (.isub, 1) := by decide +kernel
theorem dX5_isKnown_100 : decode cX5_isKnown 100 = .ok (.invokevirtual 232, 3) := by decide +kernel
theorem dX5_isKnown_103 : decode cX5_isKnown 103 = .ok (.istore 5, 2) := by decide +kernel
theorem dX5_isKnown_105 : decode cX5_isKnown 105 = .ok (.aload_n 0, 1) := by decide +kernel
theorem dX5_isKnown_106 : decode cX5_isKnown 106 = .ok (.dup, 1) := by decide +kernel
theorem dX5_isKnown_107 : decode cX5_isKnown 107 = .ok (.getfield 118, 3) := by decide +kernel
theorem dX5_isKnown_110 : decode cX5_isKnown 110 = .ok (.iconst 1, 1) := by decide +kernel
theorem dX5_isKnown_111 : decode cX5_isKnown 111 = .ok (.isub, 1) := by decide +kernel
theorem dX5_isKnown_112 : decode cX5_isKnown 112 = .ok (.putfield 118, 3) := by decide +kernel
theorem dX5_isKnown_115 : decode cX5_isKnown 115 = .ok (.iinc 6 1, 3) := by decide +kernel
theorem dX5_isKnown_118 : decode cX5_isKnown 118 = .ok (.goto (-58), 3) := by decide +kernel
theorem dX5_isKnown_121 : decode cX5_isKnown 121 = .ok (.iload 5, 2) := by decide +kernel
theorem dX5_isKnown_123 : decode cX5_isKnown 123 = .ok (.ifCond .eq 5, 3) := by decide +kernel
theorem dX5_isKnown_126 : decode cX5_isKnown 126 = .ok (.iconst 1, 1) := by decide +kernel
theorem dX5_isKnown_127 : decode cX5_isKnown 127 = .ok (.ireturn, 1) := by decide +kernel
theorem dX5_isKnown_128 : decode cX5_isKnown 128 = .ok (.iinc 4 1, 3) := by decide +kernel
theorem dX5_isKnown_131 : decode cX5_isKnown 131 = .ok (.goto (-86), 3) := by decide +kernel
theorem dX5_isKnown_134 : decode cX5_isKnown 134 = .ok (.iinc 3 1, 3) := by decide +kernel
theorem dX5_isKnown_137 : decode cX5_isKnown 137 = .ok (.goto (-114), 3) := by decide +kernel
theorem dX5_isKnown_140 : decode cX5_isKnown 140 = .ok (.iconst 0, 1) := by decide +kernel
theorem dX5_isKnown_141 : decode cX5_isKnown 141 = .ok (.ireturn, 1) := by decide +kernel
theorem dX5_knows_0 : decode cX5_knows 0 = .ok (.aload_n 0, 1) := by decide +kernel
theorem dX5_knows_1 : decode cX5_knows 1 = .ok (.iload_n 1, 1) := by decide +kernel
theorem dX5_knows_2 : decode cX5_knows 2 = .ok (.invokevirtual 121, 3) := by decide +kernel
theorem dX5_knows_5 : decode cX5_knows 5 = .ok (.ifCond .ne 9, 3) := by decide +kernel
theorem dX5_knows_8 : decode cX5_knows 8 = .ok (.aload_n 0, 1) := by decide +kernel
theorem dX5_knows_9 : decode cX5_knows 9 = .ok (.iconst (-1), 1) := by decide +kernel
theorem dX5_knows_10 : decode cX5_knows 10 = .ok (.invokevirtual 99, 3) := by decide +kernel
theorem dX5_knows_13 : decode cX5_knows 13 = .ok (.ireturn, 1) := by decide +kernel
theorem dX5_knows_14 : decode cX5_knows 14 = .ok (.iload_n 2, 1) := by decide +kernel
theorem dX5_knows_15 : decode cX5_knows 15 = .ok (.ifCond .lt 8, 3) := by decide +kernel
theorem dX5_knows_18 : decode cX5_knows 18 = .ok (.iload_n 2, 1) := by decide +kernel
theorem dX5_knows_19 : decode cX5_knows 19 = .ok (.iconst 2, 1) := by decide +kernel
theorem dX5_knows_20 : decode cX5_knows 20 = .ok (.if_icmp .le 10, 3) := by decide +kernel
theorem dX5_knows_23 : decode cX5_knows 23 = .ok (.aload_n 0, 1) := by decide +kernel
theorem dX5_knows_24 : decode cX5_knows 24 = .ok (.bipush (-6), 2) := by decide +kernel
theorem dX5_knows_26 : decode cX5_knows 26 = .ok (.invokevirtual 99, 3) := by decide +kernel
theorem dX5_knows_29 : decode cX5_knows 29 = .ok (.ireturn, 1) := by decide +kernel
theorem dX5_knows_30 : decode cX5_knows 30 = .ok (.aload_n 0, 1) := by decide +kernel
theorem dX5_knows_31 : decode cX5_knows 31 = .ok (.iload_n 1, 1) := by decide +kernel
theorem dX5_knows_32 : decode cX5_knows 32 = .ok (.iload_n 2, 1) := by decide +kernel
theorem dX5_knows_33 : decode cX5_knows 33 = .ok (.invokevirtual 232, 3) := by decide +kernel
theorem dX5_knows_36 : decode cX5_knows 36 = .ok (.ifCond .eq 7, 3) := by decide +kernel
theorem dX5_knows_39 : decode cX5_knows 39 = .ok (.iconst 1, 1) := by decide +kernel
theorem dX5_knows_40 : decode cX5_knows 40 = .ok (.goto 4, 3) := by decide +kernel
theorem dX5_knows_43 : decode cX5_knows 43 = .ok (.iconst 0, 1) := by decide +kernel
theorem dX5_knows_44 : decode cX5_knows 44 = .ok (.ireturn, 1) := by decide +kernel
theorem dX5_tree_0 : decode cX5_tree 0 = .ok (.aload_n 0, 1) := by decide +kernel
theorem dX5_tree_1 : decode cX5_tree 1 = .ok (.iload_n 1, 1) := by decide +kernel
theorem dX5_tree_2 : decode cX5_tree 2 = .ok (.invokevirtual 121, 3) := by decide +kernel
theorem dX5_tree_5 : decode cX5_tree 5 = .ok (.ifCond .ne 9, 3) := by decide +kernel
theorem dX5_tree_8 : decode cX5_tree 8 = .ok (.aload_n 0, 1) := by decide +kernel
theorem dX5_tree_9 : decode cX5_tree 9 = .ok (.iconst (-1), 1) := by decide +kernel
theorem dX5_tree_10 : decode cX5_tree 10 = .ok (.invokevirtual 226, 3) := by decide +kernel
theorem dX5_tree_13 : decode cX5_tree 13 = .ok (.ireturn, 1) := by decide +kernel
theorem dX5_tree_14 : decode cX5_tree 14 = .ok (.iconst 0, 1) := by decide +kernel
theorem dX5_tree_15 : decode cX5_tree 15 = .ok (.istore_n 2, 1) := by decide +kernel
theorem dX5_tree_16 : decode cX5_tree 16 = .ok (.iload_n 2, 1) := by decide +kernel
theorem dX5_tree_17 : decode cX5_tree 17 = .ok (.iconst 3, 1) := by decide +kernel
theorem dX5_tree_18 : decode cX5_tree 18 = .ok (.if_icmp .ge 20, 3) := by decide +kernel
theorem dX5_tree_21 : decode cX5_tree 21 = .ok (.aload_n 0, 1) := by decide +kernel
theorem dX5_tree_22 : decode cX5_tree 22 = .ok (.iload_n 1, 1) := by decide +kernel
theorem dX5_tree_23 : decode cX5_tree 23 = .ok (.iload_n 2, 1) := by decide +kernel
theorem dX5_tree_24 : decode cX5_tree 24 = .ok (.invokevirtual 232, 3) := by decide +kernel
theorem dX5_tree_27 : decode cX5_tree 27 = .ok (.ifCond .eq 5, 3) := by decide +kernel
theorem dX5_tree_30 : decode cX5_tree 30 = .ok (.iload_n 2, 1) := by decide +kernel
theorem dX5_tree_31 : decode cX5_tree 31 = .ok (.ireturn, 1) := by decide +kernel
theorem dX5_tree_32 : decode cX5_tree 32 = .ok (.iinc 2 1, 3) := by decide +kernel
theorem dX5_tree_35 : decode cX5_tree 35 = .ok (.goto (-19), 3) := by decide +kernel
theorem dX5_tree_38 : decode cX5_tree 38 = .ok (.iconst (-1), 1) := by decide +kernel
theorem dX5_tree_39 : decode cX5_tree 39 = .ok (.ireturn, 1) := by decide +kernel
theorem dX5_isRow_0 : decode cX5_isRow 0 = .ok (.iconst 0, 1) := by decide +kernel
theorem dX5_isRow_1 : decode cX5_isRow 1 = .ok (.istore 4, 2) := by decide +kernel
theorem dX5_isRow_3 : decode cX5_isRow 3 = .ok (.iconst 0, 1) := by decide +kernel
theorem dX5_isRow_4 : decode cX5_isRow 4 = .ok (.istore 5, 2) := by decide +kernel
theorem dX5_isRow_6 : decode cX5_isRow 6 = .ok (.iload 5, 2) := by decide +kernel
theorem dX5_isRow_8 : decode cX5_isRow 8 = .ok (.iload_n 3, 1) := by decide +kernel
theorem dX5_isRow_9 : decode cX5_isRow 9 = .ok (.if_icmp .ge 99, 3) := by decide +kernel
theorem dX5_isRow_12 : decode cX5_isRow 12 = .ok (.iload_n 2, 1) := by decide +kernel
theorem dX5_isRow_13 : decode cX5_isRow 13 = .ok (.iload 5, 2) := by decide +kernel
theorem dX5_isRow_15 : decode cX5_isRow 15 = .ok (.ishr, 1) := by decide +kernel
theorem dX5_isRow_16 : decode cX5_isRow 16 = .ok (.iconst 1, 1) := by decide +kernel
theorem dX5_isRow_17 : decode cX5_isRow 17 = .ok (.iand, 1) := by decide +kernel
theorem dX5_isRow_18 : decode cX5_isRow 18 = .ok (.iconst 1, 1) := by decide +kernel
theorem dX5_isRow_19 : decode cX5_isRow 19 = .ok (.if_icmp .ne 7, 3) := by decide +kernel
theorem dX5_isRow_22 : decode cX5_isRow 22 = .ok (.iconst 1, 1) := by decide +kernel
theorem dX5_isRow_23 : decode cX5_isRow 23 = .ok (.goto 4, 3) := by decide +kernel
theorem dX5_isRow_26 : decode cX5_isRow 26 = .ok (.iconst 0, 1) := by decide +kernel
theorem dX5_isRow_27 : decode cX5_isRow 27 = .ok (.istore 6, 2) := by decide +kernel
theorem dX5_isRow_29 : decode cX5_isRow 29 = .ok (.iload 6, 2) := by decide +kernel
theorem dX5_isRow_31 : decode cX5_isRow 31 = .ok (.ifCond .eq 6, 3) := by decide +kernel
theorem dX5_isRow_34 : decode cX5_isRow 34 = .ok (.iinc 4 1, 3) := by decide +kernel
theorem dX5_isRow_37 : decode cX5_isRow 37 = .ok (.aload_n 0, 1) := by decide +kernel
theorem dX5_isRow_38 : decode cX5_isRow 38 = .ok (.iload_n 1, 1) := by decide +kernel
theorem dX5_isRow_39 : decode cX5_isRow 39 = .ok (.invokevirtual 127, 3) := by decide +kernel
theorem dX5_isRow_42 : decode cX5_isRow 42 = .ok (.ifCond .ne 17, 3) := by decide +kernel
theorem dX5_isRow_45 : decode cX5_isRow 45 = .ok (.iload 6, 2) := by decide +kernel
theorem dX5_isRow_47 : decode cX5_isRow 47 = .ok (.aload_n 0, 1) := by decide +kernel
theorem dX5_isRow_48 : decode cX5_isRow 48 = .ok (.iload_n 1, 1) := by decide +kernel
theorem dX5_isRow_49 : decode cX5_isRow 49 = .ok (.iload 5, 2) := by decide +kernel
theorem dX5_isRow_51 : decode cX5_isRow 51 = .ok (.invokevirtual 109, 3) := by decide +kernel
theorem dX5_isRow_54 : decode cX5_isRow 54 = .ok (.if_icmp .eq 5, 3) := by decide +kernel
theorem dX5_isRow_57 : decode cX5_isRow 57 = .ok (.iconst 0, 1) := by decide +kernel
theorem dX5_isRow_58 : decode cX5_isRow 58 = .ok (.ireturn, 1) := by decide +kernel
theorem dX5_isRow_59 : decode cX5_isRow 59 = .ok (.aload_n 0, 1) := by decide +kernel
theorem dX5_isRow_60 : decode cX5_isRow 60 = .ok (.getfield 36, 3) := by decide +kernel
theorem dX5_isRow_63 : decode cX5_isRow 63 = .ok (.iload_n 1, 1) := by decide +kernel
theorem dX5_isRow_64 : decode cX5_isRow 64 = .ok (.iaload, 1) := by decide +kernel
theorem dX5_isRow_65 : decode cX5_isRow 65 = .ok (.bipush 6, 2) := by decide +kernel
theorem dX5_isRow_67 : decode cX5_isRow 67 = .ok (.if_icmp .ne 35, 3) := by decide +kernel
theorem dX5_isRow_70 : decode cX5_isRow 70 = .ok (.iload 5, 2) := by decide +kernel
theorem dX5_isRow_72 : decode cX5_isRow 72 = .ok (.iconst 2, 1) := by decide +kernel
theorem dX5_isRow_73 : decode cX5_isRow 73 = .ok (.irem, 1) := by decide +kernel
theorem dX5_isRow_74 : decode cX5_isRow 74 = .ok (.iconst 1, 1) := by decide +kernel
theorem dX5_isRow_75 : decode cX5_isRow 75 = .ok (.if_icmp .ne 27, 3) := by decide +kernel
theorem dX5_isRow_78 : decode cX5_isRow 78 = .ok (.iload 6, 2) := by decide +kernel
theorem dX5_isRow_80 : decode cX5_isRow 80 = .ok (.iload_n 2, 1) := by decide +kernel
theorem dX5_isRow_81 : decode cX5_isRow 81 = .ok (.iload 5, 2) := by decide +kernel
theorem dX5_isRow_83 : decode cX5_isRow 83 = .ok (.iconst 1, 1) := by decide +kernel
theorem dX5_isRow_84 : decode cX5_isRow 84 = .ok (.isub, 1) := by decide +kernel
theorem dX5_isRow_85 : decode cX5_isRow 85 = .ok (.ishr, 1) := by decide +kernel
theorem dX5_isRow_86 : decode cX5_isRow 86 = .ok (.iconst 1, 1) := by decide +kernel
theorem dX5_isRow_87 : decode cX5_isRow 87 = .ok (.iand, 1) := by decide +kernel
theorem dX5_isRow_88 : decode cX5_isRow 88 = .ok (.iconst 1, 1) := by decide +kernel
theorem dX5_isRow_89 : decode cX5_isRow 89 = .ok (.if_icmp .ne 7, 3) := by decide +kernel
theorem dX5_isRow_92 : decode cX5_isRow 92 = .ok (.iconst 1, 1) := by decide +kernel
theorem dX5_isRow_93 : decode cX5_isRow 93 = .ok (.goto 4, 3) := by decide +kernel
theorem dX5_isRow_96 : decode cX5_isRow 96 = .ok (.iconst 0, 1) := by decide +kernel
theorem dX5_isRow_97 : decode cX5_isRow 97 = .ok (.if_icmp .ne 5, 3) := by decide +kernel
theorem dX5_isRow_100 : decode cX5_isRow 100 = .ok (.iconst 0, 1) := by decide +kernel
theorem dX5_isRow_101 : decode cX5_isRow 101 = .ok (.ireturn, 1) := by decide +kernel
theorem dX5_isRow_102 : decode cX5_isRow 102 = .ok (.iinc 5 1, 3) := by decide +kernel
theorem dX5_isRow_105 : decode cX5_isRow 105 = .ok (.goto (-99), 3) := by decide +kernel
theorem dX5_isRow_108 : decode cX5_isRow 108 = .ok (.aload_n 0, 1) := by decide +kernel
theorem dX5_isRow_109 : decode cX5_isRow 109 = .ok (.getfield 36, 3) := by decide +kernel
theorem dX5_isRow_112 : decode cX5_isRow 112 = .ok (.iload_n 1, 1) := by decide +kernel
theorem dX5_isRow_113 : decode cX5_isRow 113 = .ok (.iaload, 1) := by decide +kernel
theorem dX5_isRow_114 : decode cX5_isRow 114 = .ok (.ifCond .ne 28, 3) := by decide +kernel
theorem dX5_isRow_117 : decode cX5_isRow 117 = .ok (.iload 4, 2) := by decide +kernel
theorem dX5_isRow_119 : decode cX5_isRow 119 = .ok (.aload_n 0, 1) := by decide +kernel
theorem dX5_isRow_120 : decode cX5_isRow 120 = .ok (.getfield 13, 3) := by decide +kernel
theorem dX5_isRow_123 : decode cX5_isRow 123 = .ok (.if_icmp .gt 23, 3) := by decide +kernel
theorem dX5_isRow_126 : decode cX5_isRow 126 = .ok (.iload_n 3, 1) := by decide +kernel
theorem dX5_isRow_127 : decode cX5_isRow 127 = .ok (.iload 4, 2) := by decide +kernel
theorem dX5_isRow_129 : decode cX5_isRow 129 = .ok (.isub, 1) := by decide +kernel
theorem dX5_isRow_130 : decode cX5_isRow 130 = .ok (.aload_n 0, 1) := by decide +kernel
theorem dX5_isRow_131 : decode cX5_isRow 131 = .ok (.getfield 7, 3) := by decide +kernel
theorem dX5_isRow_134 : decode cX5_isRow 134 = .ok (.aload_n 0, 1) := by decide +kernel
theorem dX5_isRow_135 : decode cX5_isRow 135 = .ok (.getfield 13, 3) := by decide +kernel
theorem dX5_isRow_138 : decode cX5_isRow 138 = .ok (.isub, 1) := by decide +kernel
theorem dX5_isRow_139 : decode cX5_isRow 139 = .ok (.if_icmp .gt 7, 3) := by decide +kernel
theorem dX5_isRow_142 : decode cX5_isRow 142 = .ok (.iconst 1, 1) := by decide +kernel
theorem dX5_isRow_143 : decode cX5_isRow 143 = .ok (.goto 4, 3) := by decide +kernel
theorem dX5_isRow_146 : decode cX5_isRow 146 = .ok (.iconst 0, 1) := by decide +kernel
theorem dX5_isRow_147 : decode cX5_isRow 147 = .ok (.ireturn, 1) := by decide +kernel
theorem dX5_rowsOf_0 : decode cX5_rowsOf 0 = .ok (.iconst 0, 1) := by decide +kernel
theorem dX5_rowsOf_1 : decode cX5_rowsOf 1 = .ok (.istore_n 3, 1) := by decide +kernel
theorem dX5_rowsOf_2 : decode cX5_rowsOf 2 = .ok (.iconst 0, 1) := by decide +kernel
theorem dX5_rowsOf_3 : decode cX5_rowsOf 3 = .ok (.istore 4, 2) := by decide +kernel
theorem dX5_rowsOf_5 : decode cX5_rowsOf 5 = .ok (.iload 4, 2) := by decide +kernel
theorem dX5_rowsOf_7 : decode cX5_rowsOf 7 = .ok (.iconst 1, 1) := by decide +kernel
theorem dX5_rowsOf_8 : decode cX5_rowsOf 8 = .ok (.iload_n 2, 1) := by decide +kernel
theorem dX5_rowsOf_9 : decode cX5_rowsOf 9 = .ok (.ishl, 1) := by decide +kernel
theorem dX5_rowsOf_10 : decode cX5_rowsOf 10 = .ok (.if_icmp .ge 23, 3) := by decide +kernel
theorem dX5_rowsOf_13 : decode cX5_rowsOf 13 = .ok (.aload_n 0, 1) := by decide +kernel
theorem dX5_rowsOf_14 : decode cX5_rowsOf 14 = .ok (.iload_n 1, 1) := by decide +kernel
theorem dX5_rowsOf_15 : decode cX5_rowsOf 15 = .ok (.iload 4, 2) := by decide +kernel
theorem dX5_rowsOf_17 : decode cX5_rowsOf 17 = .ok (.iload_n 2, 1) := by decide +kernel
theorem dX5_rowsOf_18 : decode cX5_rowsOf 18 = .ok (.invokevirtual 235, 3) := by decide +kernel
theorem dX5_rowsOf_21 : decode cX5_rowsOf 21 = .ok (.ifCond .eq 6, 3) := by decide +kernel
theorem dX5_rowsOf_24 : decode cX5_rowsOf 24 = .ok (.iinc 3 1, 3) := by decide +kernel
theorem dX5_rowsOf_27 : decode cX5_rowsOf 27 = .ok (.iinc 4 1, 3) := by decide +kernel
theorem dX5_rowsOf_30 : decode cX5_rowsOf 30 = .ok (.goto (-25), 3) := by decide +kernel
theorem dX5_rowsOf_33 : decode cX5_rowsOf 33 = .ok (.iload_n 3, 1) := by decide +kernel
theorem dX5_rowsOf_34 : decode cX5_rowsOf 34 = .ok (.ireturn, 1) := by decide +kernel
theorem dX5_rows_0 : decode cX5_rows 0 = .ok (.aload_n 0, 1) := by decide +kernel
theorem dX5_rows_1 : decode cX5_rows 1 = .ok (.iload_n 1, 1) := by decide +kernel
theorem dX5_rows_2 : decode cX5_rows 2 = .ok (.invokevirtual 103, 3) := by decide +kernel
theorem dX5_rows_5 : decode cX5_rows 5 = .ok (.ifCond .ne 9, 3) := by decide +kernel
theorem dX5_rows_8 : decode cX5_rows 8 = .ok (.aload_n 0, 1) := by decide +kernel
theorem dX5_rows_9 : decode cX5_rows 9 = .ok (.iconst (-1), 1) := by decide +kernel
theorem dX5_rows_10 : decode cX5_rows 10 = .ok (.invokevirtual 99, 3) := by decide +kernel
theorem dX5_rows_13 : decode cX5_rows 13 = .ok (.ireturn, 1) := by decide +kernel
theorem dX5_rows_14 : decode cX5_rows 14 = .ok (.iload_n 2, 1) := by decide +kernel
theorem dX5_rows_15 : decode cX5_rows 15 = .ok (.ifCond .lt 20, 3) := by decide +kernel
theorem dX5_rows_18 : decode cX5_rows 18 = .ok (.iload_n 2, 1) := by decide +kernel
theorem dX5_rows_19 : decode cX5_rows 19 = .ok (.aload_n 0, 1) := by decide +kernel
theorem dX5_rows_20 : decode cX5_rows 20 = .ok (.getfield 7, 3) := by decide +kernel
theorem dX5_rows_23 : decode cX5_rows 23 = .ok (.if_icmp .gt 12, 3) := by decide +kernel
theorem dX5_rows_26 : decode cX5_rows 26 = .ok (.aload_n 0, 1) := by decide +kernel
theorem dX5_rows_27 : decode cX5_rows 27 = .ok (.iload_n 1, 1) := by decide +kernel
theorem dX5_rows_28 : decode cX5_rows 28 = .ok (.iload_n 2, 1) := by decide +kernel
theorem dX5_rows_29 : decode cX5_rows 29 = .ok (.invokevirtual 238, 3) := by decide +kernel
theorem dX5_rows_32 : decode cX5_rows 32 = .ok (.goto 9, 3) := by decide +kernel
theorem dX5_rows_35 : decode cX5_rows 35 = .ok (.aload_n 0, 1) := by decide +kernel
theorem dX5_rows_36 : decode cX5_rows 36 = .ok (.bipush (-6), 2) := by decide +kernel
theorem dX5_rows_38 : decode cX5_rows 38 = .ok (.invokevirtual 99, 3) := by decide +kernel
theorem dX5_rows_41 : decode cX5_rows 41 = .ok (.ireturn, 1) := by decide +kernel
theorem dX5_tells_0 : decode cX5_tells 0 = .ok (.aload_n 0, 1) := by decide +kernel
theorem dX5_tells_1 : decode cX5_tells 1 = .ok (.iload_n 1, 1) := by decide +kernel
theorem dX5_tells_2 : decode cX5_tells 2 = .ok (.invokevirtual 103, 3) := by decide +kernel
theorem dX5_tells_5 : decode cX5_tells 5 = .ok (.ifCond .ne 9, 3) := by decide +kernel
theorem dX5_tells_8 : decode cX5_tells 8 = .ok (.aload_n 0, 1) := by decide +kernel
theorem dX5_tells_9 : decode cX5_tells 9 = .ok (.iconst (-1), 1) := by decide +kernel
theorem dX5_tells_10 : decode cX5_tells 10 = .ok (.invokevirtual 226, 3) := by decide +kernel
theorem dX5_tells_13 : decode cX5_tells 13 = .ok (.ireturn, 1) := by decide +kernel
theorem dX5_tells_14 : decode cX5_tells 14 = .ok (.iload_n 2, 1) := by decide +kernel
theorem dX5_tells_15 : decode cX5_tells 15 = .ok (.iconst 1, 1) := by decide +kernel
theorem dX5_tells_16 : decode cX5_tells 16 = .ok (.if_icmp .lt 10, 3) := by decide +kernel
theorem dX5_tells_19 : decode cX5_tells 19 = .ok (.iload_n 2, 1) := by decide +kernel
theorem dX5_tells_20 : decode cX5_tells 20 = .ok (.sipush 1024, 3) := by decide +kernel
theorem dX5_tells_23 : decode cX5_tells 23 = .ok (.if_icmp .le 10, 3) := by decide +kernel
theorem dX5_tells_26 : decode cX5_tells 26 = .ok (.aload_n 0, 1) := by decide +kernel
theorem dX5_tells_27 : decode cX5_tells 27 = .ok (.bipush (-6), 2) := by decide +kernel
theorem dX5_tells_29 : decode cX5_tells 29 = .ok (.invokevirtual 226, 3) := by decide +kernel
theorem dX5_tells_32 : decode cX5_tells 32 = .ok (.ireturn, 1) := by decide +kernel
theorem dX5_tells_33 : decode cX5_tells 33 = .ok (.iconst 0, 1) := by decide +kernel
theorem dX5_tells_34 : decode cX5_tells 34 = .ok (.istore_n 3, 1) := by decide +kernel
theorem dX5_tells_35 : decode cX5_tells 35 = .ok (.iload_n 3, 1) := by decide +kernel
theorem dX5_tells_36 : decode cX5_tells 36 = .ok (.aload_n 0, 1) := by decide +kernel
theorem dX5_tells_37 : decode cX5_tells 37 = .ok (.getfield 7, 3) := by decide +kernel
theorem dX5_tells_40 : decode cX5_tells 40 = .ok (.if_icmp .gt 21, 3) := by decide +kernel
theorem dX5_tells_43 : decode cX5_tells 43 = .ok (.aload_n 0, 1) := by decide +kernel
theorem dX5_tells_44 : decode cX5_tells 44 = .ok (.iload_n 1, 1) := by decide +kernel
theorem dX5_tells_45 : decode cX5_tells 45 = .ok (.iload_n 3, 1) := by decide +kernel
theorem dX5_tells_46 : decode cX5_tells 46 = .ok (.invokevirtual 238, 3) := by decide +kernel
theorem dX5_tells_49 : decode cX5_tells 49 = .ok (.iload_n 2, 1) := by decide +kernel
theorem dX5_tells_50 : decode cX5_tells 50 = .ok (.if_icmp .lt 5, 3) := by decide +kernel
theorem dX5_tells_53 : decode cX5_tells 53 = .ok (.iload_n 3, 1) := by decide +kernel
theorem dX5_tells_54 : decode cX5_tells 54 = .ok (.ireturn, 1) := by decide +kernel
theorem dX5_tells_55 : decode cX5_tells 55 = .ok (.iinc 3 1, 3) := by decide +kernel
theorem dX5_tells_58 : decode cX5_tells 58 = .ok (.goto (-23), 3) := by decide +kernel
theorem dX5_tells_61 : decode cX5_tells 61 = .ok (.iconst (-1), 1) := by decide +kernel
theorem dX5_tells_62 : decode cX5_tells 62 = .ok (.ireturn, 1) := by decide +kernel
theorem dX5_errandsOf_0 : decode cX5_errandsOf 0 = .ok (.aload_n 0, 1) := by decide +kernel
theorem dX5_errandsOf_1 : decode cX5_errandsOf 1 = .ok (.iload_n 1, 1) := by decide +kernel
theorem dX5_errandsOf_2 : decode cX5_errandsOf 2 = .ok (.invokevirtual 208, 3) := by decide +kernel
theorem dX5_errandsOf_5 : decode cX5_errandsOf 5 = .ok (.istore_n 3, 1) := by decide +kernel
theorem dX5_errandsOf_6 : decode cX5_errandsOf 6 = .ok (.iload_n 3, 1) := by decide +kernel
theorem dX5_errandsOf_7 : decode cX5_errandsOf 7 = .ok (.ifCond .eq 5, 3) := by decide +kernel
theorem dX5_errandsOf_10 : decode cX5_errandsOf 10 = .ok (.iload_n 3, 1) := by decide +kernel
theorem dX5_errandsOf_11 : decode cX5_errandsOf 11 = .ok (.ireturn, 1) := by decide +kernel
theorem dX5_errandsOf_12 : decode cX5_errandsOf 12 = .ok (.aload_n 0, 1) := by decide +kernel
theorem dX5_errandsOf_13 : decode cX5_errandsOf 13 = .ok (.getfield 57, 3) := by decide +kernel
theorem dX5_errandsOf_16 : decode cX5_errandsOf 16 = .ok (.iload_n 1, 1) := by decide +kernel
theorem dX5_errandsOf_17 : decode cX5_errandsOf 17 = .ok (.iaload, 1) := by decide +kernel
theorem dX5_errandsOf_18 : decode cX5_errandsOf 18 = .ok (.bipush 10, 2) := by decide +kernel
theorem dX5_errandsOf_20 : decode cX5_errandsOf 20 = .ok (.if_icmp .gt 13, 3) := by decide +kernel
theorem dX5_errandsOf_23 : decode cX5_errandsOf 23 = .ok (.iload_n 2, 1) := by decide +kernel
theorem dX5_errandsOf_24 : decode cX5_errandsOf 24 = .ok (.ifCond .lt 9, 3) := by decide +kernel
theorem dX5_errandsOf_27 : decode cX5_errandsOf 27 = .ok (.iload_n 2, 1) := by decide +kernel
theorem dX5_errandsOf_28 : decode cX5_errandsOf 28 = .ok (.bipush 10, 2) := by decide +kernel
theorem dX5_errandsOf_30 : decode cX5_errandsOf 30 = .ok (.if_icmp .le 6, 3) := by decide +kernel
theorem dX5_errandsOf_33 : decode cX5_errandsOf 33 = .ok (.bipush (-6), 2) := by decide +kernel
theorem dX5_errandsOf_35 : decode cX5_errandsOf 35 = .ok (.ireturn, 1) := by decide +kernel
theorem dX5_errandsOf_36 : decode cX5_errandsOf 36 = .ok (.iconst 0, 1) := by decide +kernel
theorem dX5_errandsOf_37 : decode cX5_errandsOf 37 = .ok (.istore 4, 2) := by decide +kernel
theorem dX5_errandsOf_39 : decode cX5_errandsOf 39 = .ok (.iconst 0, 1) := by decide +kernel
theorem dX5_errandsOf_40 : decode cX5_errandsOf 40 = .ok (.istore 5, 2) := by decide +kernel
theorem dX5_errandsOf_42 : decode cX5_errandsOf 42 = .ok (.iload 5, 2) := by decide +kernel
theorem dX5_errandsOf_44 : decode cX5_errandsOf 44 = .ok (.aload_n 0, 1) := by decide +kernel
theorem dX5_errandsOf_45 : decode cX5_errandsOf 45 = .ok (.getfield 57, 3) := by decide +kernel
theorem dX5_errandsOf_48 : decode cX5_errandsOf 48 = .ok (.iload_n 1, 1) := by decide +kernel
theorem dX5_errandsOf_49 : decode cX5_errandsOf 49 = .ok (.iaload, 1) := by decide +kernel
theorem dX5_errandsOf_50 : decode cX5_errandsOf 50 = .ok (.if_icmp .ge 33, 3) := by decide +kernel
theorem dX5_errandsOf_53 : decode cX5_errandsOf 53 = .ok (.iload 4, 2) := by decide +kernel
theorem dX5_errandsOf_55 : decode cX5_errandsOf 55 = .ok (.aload_n 0, 1) := by decide +kernel
theorem dX5_errandsOf_56 : decode cX5_errandsOf 56 = .ok (.aload_n 0, 1) := by decide +kernel
theorem dX5_errandsOf_57 : decode cX5_errandsOf 57 = .ok (.iload_n 1, 1) := by decide +kernel
theorem dX5_errandsOf_58 : decode cX5_errandsOf 58 = .ok (.iload 5, 2) := by decide +kernel
theorem dX5_errandsOf_60 : decode cX5_errandsOf 60 = .ok (.invokevirtual 241, 3) := by decide +kernel
theorem dX5_errandsOf_63 : decode cX5_errandsOf 63 = .ok (.invokevirtual 121, 3) := by decide +kernel
theorem dX5_errandsOf_66 : decode cX5_errandsOf 66 = .ok (.ifCond .eq 7, 3) := by decide +kernel
theorem dX5_errandsOf_69 : decode cX5_errandsOf 69 = .ok (.iconst 1, 1) := by decide +kernel
theorem dX5_errandsOf_70 : decode cX5_errandsOf 70 = .ok (.goto 4, 3) := by decide +kernel
theorem dX5_errandsOf_73 : decode cX5_errandsOf 73 = .ok (.iconst 0, 1) := by decide +kernel
theorem dX5_errandsOf_74 : decode cX5_errandsOf 74 = .ok (.iadd, 1) := by decide +kernel
theorem dX5_errandsOf_75 : decode cX5_errandsOf 75 = .ok (.istore 4, 2) := by decide +kernel
theorem dX5_errandsOf_77 : decode cX5_errandsOf 77 = .ok (.iinc 5 1, 3) := by decide +kernel
theorem dX5_errandsOf_80 : decode cX5_errandsOf 80 = .ok (.goto (-38), 3) := by decide +kernel
theorem dX5_errandsOf_83 : decode cX5_errandsOf 83 = .ok (.aload_n 0, 1) := by decide +kernel
theorem dX5_errandsOf_84 : decode cX5_errandsOf 84 = .ok (.getfield 7, 3) := by decide +kernel
theorem dX5_errandsOf_87 : decode cX5_errandsOf 87 = .ok (.aload_n 0, 1) := by decide +kernel
theorem dX5_errandsOf_88 : decode cX5_errandsOf 88 = .ok (.getfield 13, 3) := by decide +kernel
theorem dX5_errandsOf_91 : decode cX5_errandsOf 91 = .ok (.isub, 1) := by decide +kernel
theorem dX5_errandsOf_92 : decode cX5_errandsOf 92 = .ok (.iload 4, 2) := by decide +kernel
theorem dX5_errandsOf_94 : decode cX5_errandsOf 94 = .ok (.iload_n 2, 1) := by decide +kernel
theorem dX5_errandsOf_95 : decode cX5_errandsOf 95 = .ok (.iadd, 1) := by decide +kernel
theorem dX5_errandsOf_96 : decode cX5_errandsOf 96 = .ok (.if_icmp .ge 15, 3) := by decide +kernel
theorem dX5_errandsOf_99 : decode cX5_errandsOf 99 = .ok (.aload_n 0, 1) := by decide +kernel
theorem dX5_errandsOf_100 : decode cX5_errandsOf 100 = .ok (.getfield 7, 3) := by decide +kernel
theorem dX5_errandsOf_103 : decode cX5_errandsOf 103 = .ok (.aload_n 0, 1) := by decide +kernel
theorem dX5_errandsOf_104 : decode cX5_errandsOf 104 = .ok (.getfield 13, 3) := by decide +kernel
theorem dX5_errandsOf_107 : decode cX5_errandsOf 107 = .ok (.isub, 1) := by decide +kernel
theorem dX5_errandsOf_108 : decode cX5_errandsOf 108 = .ok (.goto 7, 3) := by decide +kernel
theorem dX5_errandsOf_111 : decode cX5_errandsOf 111 = .ok (.iload 4, 2) := by decide +kernel
theorem dX5_errandsOf_113 : decode cX5_errandsOf 113 = .ok (.iload_n 2, 1) := by decide +kernel
theorem dX5_errandsOf_114 : decode cX5_errandsOf 114 = .ok (.iadd, 1) := by decide +kernel
theorem dX5_errandsOf_115 : decode cX5_errandsOf 115 = .ok (.istore 5, 2) := by decide +kernel
theorem dX5_errandsOf_117 : decode cX5_errandsOf 117 = .ok (.aload_n 0, 1) := by decide +kernel
theorem dX5_errandsOf_118 : decode cX5_errandsOf 118 = .ok (.iconst 0, 1) := by decide +kernel
theorem dX5_errandsOf_119 : decode cX5_errandsOf 119 = .ok (.putfield 244, 3) := by decide +kernel
theorem dX5_errandsOf_122 : decode cX5_errandsOf 122 = .ok (.aload_n 0, 1) := by decide +kernel
theorem dX5_errandsOf_123 : decode cX5_errandsOf 123 = .ok (.iconst 0, 1) := by decide +kernel
theorem dX5_errandsOf_124 : decode cX5_errandsOf 124 = .ok (.putfield 247, 3) := by decide +kernel
theorem dX5_errandsOf_127 : decode cX5_errandsOf 127 = .ok (.iload_n 2, 1) := by decide +kernel
theorem dX5_errandsOf_128 : decode cX5_errandsOf 128 = .ok (.istore 6, 2) := by decide +kernel
theorem dX5_errandsOf_130 : decode cX5_errandsOf 130 = .ok (.iload 6, 2) := by decide +kernel
theorem dX5_errandsOf_132 : decode cX5_errandsOf 132 = .ok (.iload 5, 2) := by decide +kernel
theorem dX5_errandsOf_134 : decode cX5_errandsOf 134 = .ok (.if_icmp .ge 133, 3) := by decide +kernel
theorem dX5_errandsOf_137 : decode cX5_errandsOf 137 = .ok (.iconst (-1), 1) := by decide +kernel
theorem dX5_errandsOf_138 : decode cX5_errandsOf 138 = .ok (.istore 7, 2) := by decide +kernel
theorem dX5_errandsOf_140 : decode cX5_errandsOf 140 = .ok (.iconst 0, 1) := by decide +kernel
theorem dX5_errandsOf_141 : decode cX5_errandsOf 141 = .ok (.istore 8, 2) := by decide +kernel
theorem dX5_errandsOf_143 : decode cX5_errandsOf 143 = .ok (.iload 8, 2) := by decide +kernel
theorem dX5_errandsOf_145 : decode cX5_errandsOf 145 = .ok (.aload_n 0, 1) := by decide +kernel
theorem dX5_errandsOf_146 : decode cX5_errandsOf 146 = .ok (.getfield 57, 3) := by decide +kernel
theorem dX5_errandsOf_149 : decode cX5_errandsOf 149 = .ok (.iload_n 1, 1) := by decide +kernel
theorem dX5_errandsOf_150 : decode cX5_errandsOf 150 = .ok (.iaload, 1) := by decide +kernel
theorem dX5_errandsOf_151 : decode cX5_errandsOf 151 = .ok (.if_icmp .ge 76, 3) := by decide +kernel
theorem dX5_errandsOf_154 : decode cX5_errandsOf 154 = .ok (.aload_n 0, 1) := by decide +kernel
theorem dX5_errandsOf_155 : decode cX5_errandsOf 155 = .ok (.aload_n 0, 1) := by decide +kernel
theorem dX5_errandsOf_156 : decode cX5_errandsOf 156 = .ok (.iload_n 1, 1) := by decide +kernel
theorem dX5_errandsOf_157 : decode cX5_errandsOf 157 = .ok (.iload 8, 2) := by decide +kernel
theorem dX5_errandsOf_159 : decode cX5_errandsOf 159 = .ok (.invokevirtual 241, 3) := by decide +kernel
theorem dX5_errandsOf_162 : decode cX5_errandsOf 162 = .ok (.invokevirtual 121, 3) := by decide +kernel
theorem dX5_errandsOf_165 : decode cX5_errandsOf 165 = .ok (.ifCond .eq 56, 3) := by decide +kernel
theorem dX5_errandsOf_168 : decode cX5_errandsOf 168 = .ok (.aload_n 0, 1) := by decide +kernel
theorem dX5_errandsOf_169 : decode cX5_errandsOf 169 = .ok (.getfield 247, 3) := by decide +kernel
theorem dX5_errandsOf_172 : decode cX5_errandsOf 172 = .ok (.iload 8, 2) := by decide +kernel
theorem dX5_errandsOf_174 : decode cX5_errandsOf 174 = .ok (.ishr, 1) := by decide +kernel
theorem dX5_errandsOf_175 : decode cX5_errandsOf 175 = .ok (.iconst 1, 1) := by decide +kernel
theorem dX5_errandsOf_176 : decode cX5_errandsOf 176 = .ok (.iand, 1) := by decide +kernel
theorem dX5_errandsOf_177 : decode cX5_errandsOf 177 = .ok (.iconst 1, 1) := by decide +kernel
theorem dX5_errandsOf_178 : decode cX5_errandsOf 178 = .ok (.if_icmp .ne 6, 3) := by decide +kernel
theorem dX5_errandsOf_181 : decode cX5_errandsOf 181 = .ok (.goto 40, 3) := by decide +kernel
theorem dX5_errandsOf_184 : decode cX5_errandsOf 184 = .ok (.iload 7, 2) := by decide +kernel
theorem dX5_errandsOf_186 : decode cX5_errandsOf 186 = .ok (.iconst (-1), 1) := by decide +kernel
theorem dX5_errandsOf_187 : decode cX5_errandsOf 187 = .ok (.if_icmp .eq 30, 3) := by decide +kernel
theorem dX5_errandsOf_190 : decode cX5_errandsOf 190 = .ok (.aload_n 0, 1) := by decide +kernel
theorem dX5_errandsOf_191 : decode cX5_errandsOf 191 = .ok (.getfield 33, 3) := by decide +kernel
theorem dX5_errandsOf_194 : decode cX5_errandsOf 194 = .ok (.aload_n 0, 1) := by decide +kernel
theorem dX5_errandsOf_195 : decode cX5_errandsOf 195 = .ok (.iload_n 1, 1) := by decide +kernel
theorem dX5_errandsOf_196 : decode cX5_errandsOf 196 = .ok (.iload 8, 2) := by decide +kernel
theorem dX5_errandsOf_198 : decode cX5_errandsOf 198 = .ok (.invokevirtual 241, 3) := by decide +kernel
theorem dX5_errandsOf_201 : decode cX5_errandsOf 201 = .ok (.iaload, 1) := by decide +kernel
theorem dX5_errandsOf_202 : decode cX5_errandsOf 202 = .ok (.aload_n 0, 1) := by decide +kernel
theorem dX5_errandsOf_203 : decode cX5_errandsOf 203 = .ok (.getfield 33, 3) := by decide +kernel
theorem dX5_errandsOf_206 : decode cX5_errandsOf 206 = .ok (.aload_n 0, 1) := by decide +kernel
theorem dX5_errandsOf_207 : decode cX5_errandsOf 207 = .ok (.iload_n 1, 1) := by decide +kernel
theorem dX5_errandsOf_208 : decode cX5_errandsOf 208 = .ok (.iload 7, 2) := by decide +kernel
theorem dX5_errandsOf_210 : decode cX5_errandsOf 210 = .ok (.invokevirtual 241, 3) := by decide +kernel
theorem dX5_errandsOf_213 : decode cX5_errandsOf 213 = .ok (.iaload, 1) := by decide +kernel
theorem dX5_errandsOf_214 : decode cX5_errandsOf 214 = .ok (.if_icmp .ge 7, 3) := by decide +kernel
theorem dX5_errandsOf_217 : decode cX5_errandsOf 217 = .ok (.iload 8, 2) := by decide +kernel
theorem dX5_errandsOf_219 : decode cX5_errandsOf 219 = .ok (.istore 7, 2) := by decide +kernel
theorem dX5_errandsOf_221 : decode cX5_errandsOf 221 = .ok (.iinc 8 1, 3) := by decide +kernel
theorem dX5_errandsOf_224 : decode cX5_errandsOf 224 = .ok (.goto (-81), 3) := by decide +kernel
theorem dX5_errandsOf_227 : decode cX5_errandsOf 227 = .ok (.aload_n 0, 1) := by decide +kernel
theorem dX5_errandsOf_228 : decode cX5_errandsOf 228 = .ok (.dup, 1) := by decide +kernel
theorem dX5_errandsOf_229 : decode cX5_errandsOf 229 = .ok (.getfield 247, 3) := by decide +kernel
theorem dX5_errandsOf_232 : decode cX5_errandsOf 232 = .ok (.iconst 1, 1) := by decide +kernel
theorem dX5_errandsOf_233 : decode cX5_errandsOf 233 = .ok (.iload 7, 2) := by decide +kernel
theorem dX5_errandsOf_235 : decode cX5_errandsOf 235 = .ok (.ishl, 1) := by decide +kernel
theorem dX5_errandsOf_236 : decode cX5_errandsOf 236 = .ok (.ior, 1) := by decide +kernel
theorem dX5_errandsOf_237 : decode cX5_errandsOf 237 = .ok (.putfield 247, 3) := by decide +kernel
theorem dX5_errandsOf_240 : decode cX5_errandsOf 240 = .ok (.aload_n 0, 1) := by decide +kernel
theorem dX5_errandsOf_241 : decode cX5_errandsOf 241 = .ok (.dup, 1) := by decide +kernel
theorem dX5_errandsOf_242 : decode cX5_errandsOf 242 = .ok (.getfield 244, 3) := by decide +kernel
theorem dX5_errandsOf_245 : decode cX5_errandsOf 245 = .ok (.aload_n 0, 1) := by decide +kernel
theorem dX5_errandsOf_246 : decode cX5_errandsOf 246 = .ok (.getfield 33, 3) := by decide +kernel
theorem dX5_errandsOf_249 : decode cX5_errandsOf 249 = .ok (.aload_n 0, 1) := by decide +kernel
theorem dX5_errandsOf_250 : decode cX5_errandsOf 250 = .ok (.iload_n 1, 1) := by decide +kernel
theorem dX5_errandsOf_251 : decode cX5_errandsOf 251 = .ok (.iload 7, 2) := by decide +kernel
theorem dX5_errandsOf_253 : decode cX5_errandsOf 253 = .ok (.invokevirtual 241, 3) := by decide +kernel
theorem dX5_errandsOf_256 : decode cX5_errandsOf 256 = .ok (.iaload, 1) := by decide +kernel
theorem dX5_errandsOf_257 : decode cX5_errandsOf 257 = .ok (.iadd, 1) := by decide +kernel
theorem dX5_errandsOf_258 : decode cX5_errandsOf 258 = .ok (.putfield 244, 3) := by decide +kernel
theorem dX5_errandsOf_261 : decode cX5_errandsOf 261 = .ok (.iinc 6 1, 3) := by decide +kernel
theorem dX5_errandsOf_264 : decode cX5_errandsOf 264 = .ok (.goto (-134), 3) := by decide +kernel
theorem dX5_errandsOf_267 : decode cX5_errandsOf 267 = .ok (.iconst 0, 1) := by decide +kernel
theorem dX5_errandsOf_268 : decode cX5_errandsOf 268 = .ok (.ireturn, 1) := by decide +kernel
theorem dX5_errands_0 : decode cX5_errands 0 = .ok (.aload_n 0, 1) := by decide +kernel
theorem dX5_errands_1 : decode cX5_errands 1 = .ok (.iload_n 1, 1) := by decide +kernel
theorem dX5_errands_2 : decode cX5_errands 2 = .ok (.iload_n 2, 1) := by decide +kernel
theorem dX5_errands_3 : decode cX5_errands 3 = .ok (.invokevirtual 250, 3) := by decide +kernel
theorem dX5_errands_6 : decode cX5_errands 6 = .ok (.istore_n 3, 1) := by decide +kernel
theorem dX5_errands_7 : decode cX5_errands 7 = .ok (.iload_n 3, 1) := by decide +kernel
theorem dX5_errands_8 : decode cX5_errands 8 = .ok (.ifCond .eq 11, 3) := by decide +kernel
theorem dX5_errands_11 : decode cX5_errands 11 = .ok (.aload_n 0, 1) := by decide +kernel
theorem dX5_errands_12 : decode cX5_errands 12 = .ok (.iload_n 3, 1) := by decide +kernel
theorem dX5_errands_13 : decode cX5_errands 13 = .ok (.invokevirtual 99, 3) := by decide +kernel
theorem dX5_errands_16 : decode cX5_errands 16 = .ok (.goto 7, 3) := by decide +kernel
theorem dX5_errands_19 : decode cX5_errands 19 = .ok (.aload_n 0, 1) := by decide +kernel
theorem dX5_errands_20 : decode cX5_errands 20 = .ok (.getfield 244, 3) := by decide +kernel
theorem dX5_errands_23 : decode cX5_errands 23 = .ok (.ireturn, 1) := by decide +kernel
theorem dX5_placed_0 : decode cX5_placed 0 = .ok (.aload_n 0, 1) := by decide +kernel
theorem dX5_placed_1 : decode cX5_placed 1 = .ok (.iload_n 1, 1) := by decide +kernel
theorem dX5_placed_2 : decode cX5_placed 2 = .ok (.iload_n 2, 1) := by decide +kernel
theorem dX5_placed_3 : decode cX5_placed 3 = .ok (.invokevirtual 250, 3) := by decide +kernel
theorem dX5_placed_6 : decode cX5_placed 6 = .ok (.istore_n 3, 1) := by decide +kernel
theorem dX5_placed_7 : decode cX5_placed 7 = .ok (.iload_n 3, 1) := by decide +kernel
theorem dX5_placed_8 : decode cX5_placed 8 = .ok (.ifCond .eq 11, 3) := by decide +kernel
theorem dX5_placed_11 : decode cX5_placed 11 = .ok (.aload_n 0, 1) := by decide +kernel
theorem dX5_placed_12 : decode cX5_placed 12 = .ok (.iload_n 3, 1) := by decide +kernel
theorem dX5_placed_13 : decode cX5_placed 13 = .ok (.invokevirtual 99, 3) := by decide +kernel
theorem dX5_placed_16 : decode cX5_placed 16 = .ok (.goto 7, 3) := by decide +kernel
theorem dX5_placed_19 : decode cX5_placed 19 = .ok (.aload_n 0, 1) := by decide +kernel
theorem dX5_placed_20 : decode cX5_placed 20 = .ok (.getfield 247, 3) := by decide +kernel
theorem dX5_placed_23 : decode cX5_placed 23 = .ok (.ireturn, 1) := by decide +kernel
theorem dX5_trust_0 : decode cX5_trust 0 = .ok (.aload_n 0, 1) := by decide +kernel
theorem dX5_trust_1 : decode cX5_trust 1 = .ok (.iload_n 1, 1) := by decide +kernel
theorem dX5_trust_2 : decode cX5_trust 2 = .ok (.invokevirtual 103, 3) := by decide +kernel
theorem dX5_trust_5 : decode cX5_trust 5 = .ok (.ifCond .ne 9, 3) := by decide +kernel
theorem dX5_trust_8 : decode cX5_trust 8 = .ok (.aload_n 0, 1) := by decide +kernel
theorem dX5_trust_9 : decode cX5_trust 9 = .ok (.iconst (-1), 1) := by decide +kernel
theorem dX5_trust_10 : decode cX5_trust 10 = .ok (.invokevirtual 253, 3) := by decide +kernel
theorem dX5_trust_13 : decode cX5_trust 13 = .ok (.ireturn, 1) := by decide +kernel
theorem dX5_trust_14 : decode cX5_trust 14 = .ok (.aload_n 0, 1) := by decide +kernel
theorem dX5_trust_15 : decode cX5_trust 15 = .ok (.iload_n 1, 1) := by decide +kernel
theorem dX5_trust_16 : decode cX5_trust 16 = .ok (.invokevirtual 150, 3) := by decide +kernel
theorem dX5_trust_19 : decode cX5_trust 19 = .ok (.ifCond .eq 10, 3) := by decide +kernel
theorem dX5_trust_22 : decode cX5_trust 22 = .ok (.aload_n 0, 1) := by decide +kernel
theorem dX5_trust_23 : decode cX5_trust 23 = .ok (.bipush (-6), 2) := by decide +kernel
theorem dX5_trust_25 : decode cX5_trust 25 = .ok (.invokevirtual 253, 3) := by decide +kernel
theorem dX5_trust_28 : decode cX5_trust 28 = .ok (.ireturn, 1) := by decide +kernel
theorem dX5_trust_29 : decode cX5_trust 29 = .ok (.aload_n 0, 1) := by decide +kernel
theorem dX5_trust_30 : decode cX5_trust 30 = .ok (.invokevirtual 142, 3) := by decide +kernel
theorem dX5_trust_33 : decode cX5_trust 33 = .ok (.lstore_n 2, 1) := by decide +kernel
theorem dX5_trust_34 : decode cX5_trust 34 = .ok (.aload_n 0, 1) := by decide +kernel
theorem dX5_trust_35 : decode cX5_trust 35 = .ok (.iload_n 1, 1) := by decide +kernel
theorem dX5_trust_36 : decode cX5_trust 36 = .ok (.invokevirtual 127, 3) := by decide +kernel
theorem dX5_trust_39 : decode cX5_trust 39 = .ok (.ifCond .ne 26, 3) := by decide +kernel
theorem dX5_trust_42 : decode cX5_trust 42 = .ok (.aload_n 0, 1) := by decide +kernel
theorem dX5_trust_43 : decode cX5_trust 43 = .ok (.iload_n 1, 1) := by decide +kernel
theorem dX5_trust_44 : decode cX5_trust 44 = .ok (.aload_n 0, 1) := by decide +kernel
theorem dX5_trust_45 : decode cX5_trust 45 = .ok (.iload_n 1, 1) := by decide +kernel
theorem dX5_trust_46 : decode cX5_trust 46 = .ok (.invokevirtual 106, 3) := by decide +kernel
theorem dX5_trust_49 : decode cX5_trust 49 = .ok (.invokevirtual 109, 3) := by decide +kernel
theorem dX5_trust_52 : decode cX5_trust 52 = .ok (.ifCond .eq 11, 3) := by decide +kernel
theorem dX5_trust_55 : decode cX5_trust 55 = .ok (.aload_n 0, 1) := by decide +kernel
theorem dX5_trust_56 : decode cX5_trust 56 = .ok (.lload_n 2, 1) := by decide +kernel
theorem dX5_trust_57 : decode cX5_trust 57 = .ok (.invokevirtual 146, 3) := by decide +kernel
theorem dX5_trust_60 : decode cX5_trust 60 = .ok (.goto 4, 3) := by decide +kernel
theorem dX5_trust_63 : decode cX5_trust 63 = .ok (.iconst 0, 1) := by decide +kernel
theorem dX5_trust_64 : decode cX5_trust 64 = .ok (.ireturn, 1) := by decide +kernel
theorem dX5_trust_65 : decode cX5_trust 65 = .ok (.iconst 0, 1) := by decide +kernel
theorem dX5_trust_66 : decode cX5_trust 66 = .ok (.istore 4, 2) := by decide +kernel
theorem dX5_trust_68 : decode cX5_trust 68 = .ok (.iconst 0, 1) := by decide +kernel
theorem dX5_trust_69 : decode cX5_trust 69 = .ok (.istore 5, 2) := by decide +kernel
theorem dX5_trust_71 : decode cX5_trust 71 = .ok (.iload 5, 2) := by decide +kernel
theorem dX5_trust_73 : decode cX5_trust 73 = .ok (.iconst 1, 1) := by decide +kernel
theorem dX5_trust_74 : decode cX5_trust 74 = .ok (.aload_n 0, 1) := by decide +kernel
theorem dX5_trust_75 : decode cX5_trust 75 = .ok (.getfield 89, 3) := by decide +kernel
theorem dX5_trust_78 : decode cX5_trust 78 = .ok (.ishl, 1) := by decide +kernel
theorem dX5_trust_79 : decode cX5_trust 79 = .ok (.if_icmp .ge 65, 3) := by decide +kernel
theorem dX5_trust_82 : decode cX5_trust 82 = .ok (.lload_n 2, 1) := by decide +kernel
theorem dX5_trust_83 : decode cX5_trust 83 = .ok (.iload 5, 2) := by decide +kernel
theorem dX5_trust_85 : decode cX5_trust 85 = .ok (.lshr, 1) := by decide +kernel
theorem dX5_trust_86 : decode cX5_trust 86 = .ok (.lconst 1, 1) := by decide +kernel
theorem dX5_trust_87 : decode cX5_trust 87 = .ok (.land, 1) := by decide +kernel
theorem dX5_trust_88 : decode cX5_trust 88 = .ok (.lconst 0, 1) := by decide +kernel
theorem dX5_trust_89 : decode cX5_trust 89 = .ok (.lcmp, 1) := by decide +kernel
theorem dX5_trust_90 : decode cX5_trust 90 = .ok (.ifCond .ne 6, 3) := by decide +kernel
theorem dX5_trust_93 : decode cX5_trust 93 = .ok (.goto 45, 3) := by decide +kernel
theorem dX5_trust_96 : decode cX5_trust 96 = .ok (.iload 4, 2) := by decide +kernel
theorem dX5_trust_98 : decode cX5_trust 98 = .ok (.aload_n 0, 1) := by decide +kernel
theorem dX5_trust_99 : decode cX5_trust 99 = .ok (.iload_n 1, 1) := by decide +kernel
theorem dX5_trust_100 : decode cX5_trust 100 = .ok (.iload 5, 2) := by decide +kernel
theorem dX5_trust_102 : decode cX5_trust 102 = .ok (.iconst 1, 1) := by decide +kernel
theorem dX5_trust_103 : decode cX5_trust 103 = .ok (.invokevirtual 218, 3) := by decide +kernel
theorem dX5_trust_106 : decode cX5_trust 106 = .ok (.ifCond .eq 7, 3) := by decide +kernel
theorem dX5_trust_109 : decode cX5_trust 109 = .ok (.iconst 1, 1) := by decide +kernel
theorem dX5_trust_110 : decode cX5_trust 110 = .ok (.goto 4, 3) := by decide +kernel
theorem dX5_trust_113 : decode cX5_trust 113 = .ok (.iconst 0, 1) := by decide +kernel
theorem dX5_trust_114 : decode cX5_trust 114 = .ok (.iadd, 1) := by decide +kernel
theorem dX5_trust_115 : decode cX5_trust 115 = .ok (.istore 4, 2) := by decide +kernel
theorem dX5_trust_117 : decode cX5_trust 117 = .ok (.iload 4, 2) := by decide +kernel
theorem dX5_trust_119 : decode cX5_trust 119 = .ok (.aload_n 0, 1) := by decide +kernel
theorem dX5_trust_120 : decode cX5_trust 120 = .ok (.iload_n 1, 1) := by decide +kernel
theorem dX5_trust_121 : decode cX5_trust 121 = .ok (.iload 5, 2) := by decide +kernel
theorem dX5_trust_123 : decode cX5_trust 123 = .ok (.iconst 0, 1) := by decide +kernel
theorem dX5_trust_124 : decode cX5_trust 124 = .ok (.invokevirtual 218, 3) := by decide +kernel
theorem dX5_trust_127 : decode cX5_trust 127 = .ok (.ifCond .eq 7, 3) := by decide +kernel
theorem dX5_trust_130 : decode cX5_trust 130 = .ok (.iconst 1, 1) := by decide +kernel
theorem dX5_trust_131 : decode cX5_trust 131 = .ok (.goto 4, 3) := by decide +kernel
theorem dX5_trust_134 : decode cX5_trust 134 = .ok (.iconst 0, 1) := by decide +kernel
theorem dX5_trust_135 : decode cX5_trust 135 = .ok (.isub, 1) := by decide +kernel
theorem dX5_trust_136 : decode cX5_trust 136 = .ok (.istore 4, 2) := by decide +kernel
theorem dX5_trust_138 : decode cX5_trust 138 = .ok (.iinc 5 1, 3) := by decide +kernel
theorem dX5_trust_141 : decode cX5_trust 141 = .ok (.goto (-70), 3) := by decide +kernel
theorem dX5_trust_144 : decode cX5_trust 144 = .ok (.iload 4, 2) := by decide +kernel
theorem dX5_trust_146 : decode cX5_trust 146 = .ok (.ireturn, 1) := by decide +kernel
theorem dX5_witness_0 : decode cX5_witness 0 = .ok (.aload_n 0, 1) := by decide +kernel
theorem dX5_witness_1 : decode cX5_witness 1 = .ok (.getfield 92, 3) := by decide +kernel
theorem dX5_witness_4 : decode cX5_witness 4 = .ok (.ifCond .ne 10, 3) := by decide +kernel
theorem dX5_witness_7 : decode cX5_witness 7 = .ok (.aload_n 0, 1) := by decide +kernel
theorem dX5_witness_8 : decode cX5_witness 8 = .ok (.bipush (-5), 2) := by decide +kernel
theorem dX5_witness_10 : decode cX5_witness 10 = .ok (.invokevirtual 99, 3) := by decide +kernel
theorem dX5_witness_13 : decode cX5_witness 13 = .ok (.ireturn, 1) := by decide +kernel
theorem dX5_witness_14 : decode cX5_witness 14 = .ok (.iconst 0, 1) := by decide +kernel
theorem dX5_witness_15 : decode cX5_witness 15 = .ok (.istore_n 1, 1) := by decide +kernel
theorem dX5_witness_16 : decode cX5_witness 16 = .ok (.iconst (-1), 1) := by decide +kernel
theorem dX5_witness_17 : decode cX5_witness 17 = .ok (.istore_n 2, 1) := by decide +kernel
theorem dX5_witness_18 : decode cX5_witness 18 = .ok (.iconst 0, 1) := by decide +kernel
theorem dX5_witness_19 : decode cX5_witness 19 = .ok (.istore_n 3, 1) := by decide +kernel
theorem dX5_witness_20 : decode cX5_witness 20 = .ok (.iload_n 3, 1) := by decide +kernel
theorem dX5_witness_21 : decode cX5_witness 21 = .ok (.aload_n 0, 1) := by decide +kernel
theorem dX5_witness_22 : decode cX5_witness 22 = .ok (.getfield 92, 3) := by decide +kernel
theorem dX5_witness_25 : decode cX5_witness 25 = .ok (.if_icmp .ge 35, 3) := by decide +kernel
theorem dX5_witness_28 : decode cX5_witness 28 = .ok (.aload_n 0, 1) := by decide +kernel
theorem dX5_witness_29 : decode cX5_witness 29 = .ok (.aload_n 0, 1) := by decide +kernel
theorem dX5_witness_30 : decode cX5_witness 30 = .ok (.iconst (-1), 1) := by decide +kernel
theorem dX5_witness_31 : decode cX5_witness 31 = .ok (.iload_n 3, 1) := by decide +kernel
theorem dX5_witness_32 : decode cX5_witness 32 = .ok (.invokevirtual 134, 3) := by decide +kernel
theorem dX5_witness_35 : decode cX5_witness 35 = .ok (.invokevirtual 146, 3) := by decide +kernel
theorem dX5_witness_38 : decode cX5_witness 38 = .ok (.istore 4, 2) := by decide +kernel
theorem dX5_witness_40 : decode cX5_witness 40 = .ok (.iload 4, 2) := by decide +kernel
theorem dX5_witness_42 : decode cX5_witness 42 = .ok (.iload_n 2, 1) := by decide +kernel
theorem dX5_witness_43 : decode cX5_witness 43 = .ok (.if_icmp .gt 6, 3) := by decide +kernel
theorem dX5_witness_46 : decode cX5_witness 46 = .ok (.goto 8, 3) := by decide +kernel
theorem dX5_witness_49 : decode cX5_witness 49 = .ok (.iload 4, 2) := by decide +kernel
theorem dX5_witness_51 : decode cX5_witness 51 = .ok (.istore_n 2, 1) := by decide +kernel
theorem dX5_witness_52 : decode cX5_witness 52 = .ok (.iload_n 3, 1) := by decide +kernel
theorem dX5_witness_53 : decode cX5_witness 53 = .ok (.istore_n 1, 1) := by decide +kernel
theorem dX5_witness_54 : decode cX5_witness 54 = .ok (.iinc 3 1, 3) := by decide +kernel
theorem dX5_witness_57 : decode cX5_witness 57 = .ok (.goto (-37), 3) := by decide +kernel
theorem dX5_witness_60 : decode cX5_witness 60 = .ok (.iload_n 1, 1) := by decide +kernel
theorem dX5_witness_61 : decode cX5_witness 61 = .ok (.ireturn, 1) := by decide +kernel
theorem dX5_judge_0 : decode cX5_judge 0 = .ok (.aload_n 0, 1) := by decide +kernel
theorem dX5_judge_1 : decode cX5_judge 1 = .ok (.iload_n 1, 1) := by decide +kernel
theorem dX5_judge_2 : decode cX5_judge 2 = .ok (.invokevirtual 208, 3) := by decide +kernel
theorem dX5_judge_5 : decode cX5_judge 5 = .ok (.istore_n 3, 1) := by decide +kernel
theorem dX5_judge_6 : decode cX5_judge 6 = .ok (.iload_n 3, 1) := by decide +kernel
theorem dX5_judge_7 : decode cX5_judge 7 = .ok (.ifCond .eq 9, 3) := by decide +kernel
theorem dX5_judge_10 : decode cX5_judge 10 = .ok (.aload_n 0, 1) := by decide +kernel
theorem dX5_judge_11 : decode cX5_judge 11 = .ok (.iload_n 3, 1) := by decide +kernel
theorem dX5_judge_12 : decode cX5_judge 12 = .ok (.invokevirtual 99, 3) := by decide +kernel
theorem dX5_judge_15 : decode cX5_judge 15 = .ok (.ireturn, 1) := by decide +kernel
theorem dX5_judge_16 : decode cX5_judge 16 = .ok (.iload_n 2, 1) := by decide +kernel
theorem dX5_judge_17 : decode cX5_judge 17 = .ok (.ifCond .ge 10, 3) := by decide +kernel
theorem dX5_judge_20 : decode cX5_judge 20 = .ok (.aload_n 0, 1) := by decide +kernel
theorem dX5_judge_21 : decode cX5_judge 21 = .ok (.bipush (-4), 2) := by decide +kernel
theorem dX5_judge_23 : decode cX5_judge 23 = .ok (.invokevirtual 99, 3) := by decide +kernel
theorem dX5_judge_26 : decode cX5_judge 26 = .ok (.ireturn, 1) := by decide +kernel
theorem dX5_judge_27 : decode cX5_judge 27 = .ok (.iload_n 2, 1) := by decide +kernel
theorem dX5_judge_28 : decode cX5_judge 28 = .ok (.aload_n 0, 1) := by decide +kernel
theorem dX5_judge_29 : decode cX5_judge 29 = .ok (.getfield 57, 3) := by decide +kernel
theorem dX5_judge_32 : decode cX5_judge 32 = .ok (.iload_n 1, 1) := by decide +kernel
theorem dX5_judge_33 : decode cX5_judge 33 = .ok (.iaload, 1) := by decide +kernel
theorem dX5_judge_34 : decode cX5_judge 34 = .ok (.if_icmp .le 10, 3) := by decide +kernel
theorem dX5_judge_37 : decode cX5_judge 37 = .ok (.aload_n 0, 1) := by decide +kernel
theorem dX5_judge_38 : decode cX5_judge 38 = .ok (.bipush (-5), 2) := by decide +kernel
theorem dX5_judge_40 : decode cX5_judge 40 = .ok (.invokevirtual 99, 3) := by decide +kernel
theorem dX5_judge_43 : decode cX5_judge 43 = .ok (.ireturn, 1) := by decide +kernel
theorem dX5_judge_44 : decode cX5_judge 44 = .ok (.iload_n 2, 1) := by decide +kernel
theorem dX5_judge_45 : decode cX5_judge 45 = .ok (.bipush 24, 2) := by decide +kernel
theorem dX5_judge_47 : decode cX5_judge 47 = .ok (.if_icmp .le 10, 3) := by decide +kernel
theorem dX5_judge_50 : decode cX5_judge 50 = .ok (.aload_n 0, 1) := by decide +kernel
theorem dX5_judge_51 : decode cX5_judge 51 = .ok (.bipush (-6), 2) := by decide +kernel
theorem dX5_judge_53 : decode cX5_judge 53 = .ok (.invokevirtual 99, 3) := by decide +kernel
theorem dX5_judge_56 : decode cX5_judge 56 = .ok (.ireturn, 1) := by decide +kernel
theorem dX5_judge_57 : decode cX5_judge 57 = .ok (.aload_n 0, 1) := by decide +kernel
theorem dX5_judge_58 : decode cX5_judge 58 = .ok (.getfield 118, 3) := by decide +kernel
theorem dX5_judge_61 : decode cX5_judge 61 = .ok (.istore 4, 2) := by decide +kernel
theorem dX5_judge_63 : decode cX5_judge 63 = .ok (.iconst (-1), 1) := by decide +kernel
theorem dX5_judge_64 : decode cX5_judge 64 = .ok (.istore 5, 2) := by decide +kernel
theorem dX5_judge_66 : decode cX5_judge 66 = .ok (.iconst 0, 1) := by decide +kernel
theorem dX5_judge_67 : decode cX5_judge 67 = .ok (.istore 6, 2) := by decide +kernel
theorem dX5_judge_69 : decode cX5_judge 69 = .ok (.iload 6, 2) := by decide +kernel
theorem dX5_judge_71 : decode cX5_judge 71 = .ok (.iload_n 2, 1) := by decide +kernel
theorem dX5_judge_72 : decode cX5_judge 72 = .ok (.if_icmp .ge 128, 3) := by decide +kernel
theorem dX5_judge_75 : decode cX5_judge 75 = .ok (.iload 5, 2) := by decide +kernel
theorem dX5_judge_77 : decode cX5_judge 77 = .ok (.iconst (-1), 1) := by decide +kernel
theorem dX5_judge_78 : decode cX5_judge 78 = .ok (.if_icmp .ne 122, 3) := by decide +kernel
theorem dX5_judge_81 : decode cX5_judge 81 = .ok (.aload_n 0, 1) := by decide +kernel
theorem dX5_judge_82 : decode cX5_judge 82 = .ok (.iload_n 1, 1) := by decide +kernel
theorem dX5_judge_83 : decode cX5_judge 83 = .ok (.iload 6, 2) := by decide +kernel
theorem dX5_judge_85 : decode cX5_judge 85 = .ok (.invokevirtual 241, 3) := by decide +kernel
theorem dX5_judge_88 : decode cX5_judge 88 = .ok (.istore 7, 2) := by decide +kernel
theorem dX5_judge_90 : decode cX5_judge 90 = .ok (.iload 7, 2) := by decide +kernel
theorem dX5_judge_92 : decode cX5_judge 92 = .ok (.bipush 100, 2) := by decide +kernel
theorem dX5_judge_94 : decode cX5_judge 94 = .ok (.idiv, 1) := by decide +kernel
theorem dX5_judge_95 : decode cX5_judge 95 = .ok (.istore 8, 2) := by decide +kernel
theorem dX5_judge_97 : decode cX5_judge 97 = .ok (.iload 7, 2) := by decide +kernel
theorem dX5_judge_99 : decode cX5_judge 99 = .ok (.bipush 10, 2) := by decide +kernel
theorem dX5_judge_101 : decode cX5_judge 101 = .ok (.idiv, 1) := by decide +kernel
theorem dX5_judge_102 : decode cX5_judge 102 = .ok (.bipush 10, 2) := by decide +kernel
theorem dX5_judge_104 : decode cX5_judge 104 = .ok (.irem, 1) := by decide +kernel
theorem dX5_judge_105 : decode cX5_judge 105 = .ok (.istore 9, 2) := by decide +kernel
theorem dX5_judge_107 : decode cX5_judge 107 = .ok (.iload 7, 2) := by decide +kernel
theorem dX5_judge_109 : decode cX5_judge 109 = .ok (.bipush 10, 2) := by decide +kernel
theorem dX5_judge_111 : decode cX5_judge 111 = .ok (.irem, 1) := by decide +kernel
theorem dX5_judge_112 : decode cX5_judge 112 = .ok (.istore 10, 2) := by decide +kernel
theorem dX5_judge_114 : decode cX5_judge 114 = .ok (.iload 7, 2) := by decide +kernel
theorem dX5_judge_116 : decode cX5_judge 116 = .ok (.ifCond .lt 40, 3) := by decide +kernel
theorem dX5_judge_119 : decode cX5_judge 119 = .ok (.aload_n 0, 1) := by decide +kernel
theorem dX5_judge_120 : decode cX5_judge 120 = .ok (.iload 8, 2) := by decide +kernel
theorem dX5_judge_122 : decode cX5_judge 122 = .ok (.invokevirtual 103, 3) := by decide +kernel
theorem dX5_judge_125 : decode cX5_judge 125 = .ok (.ifCond .eq 31, 3) := by decide +kernel
theorem dX5_judge_128 : decode cX5_judge 128 = .ok (.aload_n 0, 1) := by decide +kernel
theorem dX5_judge_129 : decode cX5_judge 129 = .ok (.iload 9, 2) := by decide +kernel
theorem dX5_judge_131 : decode cX5_judge 131 = .ok (.invokevirtual 121, 3) := by decide +kernel
theorem dX5_judge_134 : decode cX5_judge 134 = .ok (.ifCond .eq 22, 3) := by decide +kernel
theorem dX5_judge_137 : decode cX5_judge 137 = .ok (.iload 10, 2) := by decide +kernel
theorem dX5_judge_139 : decode cX5_judge 139 = .ok (.iconst 2, 1) := by decide +kernel
theorem dX5_judge_140 : decode cX5_judge 140 = .ok (.if_icmp .ge 16, 3) := by decide +kernel
theorem dX5_judge_143 : decode cX5_judge 143 = .ok (.aload_n 0, 1) := by decide +kernel
theorem dX5_judge_144 : decode cX5_judge 144 = .ok (.iload 8, 2) := by decide +kernel
theorem dX5_judge_146 : decode cX5_judge 146 = .ok (.invokevirtual 150, 3) := by decide +kernel
theorem dX5_judge_149 : decode cX5_judge 149 = .ok (.ifCond .ne 7, 3) := by decide +kernel
theorem dX5_judge_152 : decode cX5_judge 152 = .ok (.iconst 1, 1) := by decide +kernel
theorem dX5_judge_153 : decode cX5_judge 153 = .ok (.goto 4, 3) := by decide +kernel
theorem dX5_judge_156 : decode cX5_judge 156 = .ok (.iconst 0, 1) := by decide +kernel
theorem dX5_judge_157 : decode cX5_judge 157 = .ok (.istore 11, 2) := by decide +kernel
theorem dX5_judge_159 : decode cX5_judge 159 = .ok (.iload 11, 2) := by decide +kernel
theorem dX5_judge_161 : decode cX5_judge 161 = .ok (.ifCond .eq 29, 3) := by decide +kernel
theorem dX5_judge_164 : decode cX5_judge 164 = .ok (.aload_n 0, 1) := by decide +kernel
theorem dX5_judge_165 : decode cX5_judge 165 = .ok (.iload 8, 2) := by decide +kernel
theorem dX5_judge_167 : decode cX5_judge 167 = .ok (.iload 9, 2) := by decide +kernel
theorem dX5_judge_169 : decode cX5_judge 169 = .ok (.iload 10, 2) := by decide +kernel
theorem dX5_judge_171 : decode cX5_judge 171 = .ok (.invokevirtual 153, 3) := by decide +kernel
theorem dX5_judge_174 : decode cX5_judge 174 = .ok (.ifCond .le 16, 3) := by decide +kernel
theorem dX5_judge_177 : decode cX5_judge 177 = .ok (.aload_n 0, 1) := by decide +kernel
theorem dX5_judge_178 : decode cX5_judge 178 = .ok (.iload 8, 2) := by decide +kernel
theorem dX5_judge_180 : decode cX5_judge 180 = .ok (.iload 9, 2) := by decide +kernel
theorem dX5_judge_182 : decode cX5_judge 182 = .ok (.iload 10, 2) := by decide +kernel
theorem dX5_judge_184 : decode cX5_judge 184 = .ok (.invokevirtual 138, 3) := by decide +kernel
theorem dX5_judge_187 : decode cX5_judge 187 = .ok (.goto 7, 3) := by decide +kernel
theorem dX5_judge_190 : decode cX5_judge 190 = .ok (.iload 6, 2) := by decide +kernel
theorem dX5_judge_192 : decode cX5_judge 192 = .ok (.istore 5, 2) := by decide +kernel
theorem dX5_judge_194 : decode cX5_judge 194 = .ok (.iinc 6 1, 3) := by decide +kernel
theorem dX5_judge_197 : decode cX5_judge 197 = .ok (.goto (-128), 3) := by decide +kernel
theorem dX5_judge_200 : decode cX5_judge 200 = .ok (.aload_n 0, 1) := by decide +kernel
theorem dX5_judge_201 : decode cX5_judge 201 = .ok (.iload 4, 2) := by decide +kernel
theorem dX5_judge_203 : decode cX5_judge 203 = .ok (.putfield 118, 3) := by decide +kernel
theorem dX5_judge_206 : decode cX5_judge 206 = .ok (.iload 5, 2) := by decide +kernel
theorem dX5_judge_208 : decode cX5_judge 208 = .ok (.ireturn, 1) := by decide +kernel
theorem dX5_sunset_0 : decode cX5_sunset 0 = .ok (.aload_n 0, 1) := by decide +kernel
theorem dX5_sunset_1 : decode cX5_sunset 1 = .ok (.aload_n 0, 1) := by decide +kernel
theorem dX5_sunset_2 : decode cX5_sunset 2 = .ok (.invokevirtual 142, 3) := by decide +kernel
theorem dX5_sunset_5 : decode cX5_sunset 5 = .ok (.putfield 25, 3) := by decide +kernel
theorem dX5_sunset_8 : decode cX5_sunset 8 = .ok (.aload_n 0, 1) := by decide +kernel
theorem dX5_sunset_9 : decode cX5_sunset 9 = .ok (.iconst 0, 1) := by decide +kernel
theorem dX5_sunset_10 : decode cX5_sunset 10 = .ok (.putfield 118, 3) := by decide +kernel
theorem dX5_sunset_13 : decode cX5_sunset 13 = .ok (.aload_n 0, 1) := by decide +kernel
theorem dX5_sunset_14 : decode cX5_sunset 14 = .ok (.dup, 1) := by decide +kernel
theorem dX5_sunset_15 : decode cX5_sunset 15 = .ok (.getfield 205, 3) := by decide +kernel
theorem dX5_sunset_18 : decode cX5_sunset 18 = .ok (.iconst 1, 1) := by decide +kernel
theorem dX5_sunset_19 : decode cX5_sunset 19 = .ok (.iadd, 1) := by decide +kernel
theorem dX5_sunset_20 : decode cX5_sunset 20 = .ok (.putfield 205, 3) := by decide +kernel
theorem dX5_sunset_23 : decode cX5_sunset 23 = .ok (.aload_n 0, 1) := by decide +kernel
theorem dX5_sunset_24 : decode cX5_sunset 24 = .ok (.aload_n 0, 1) := by decide +kernel
theorem dX5_sunset_25 : decode cX5_sunset 25 = .ok (.getfield 25, 3) := by decide +kernel
theorem dX5_sunset_28 : decode cX5_sunset 28 = .ok (.invokevirtual 146, 3) := by decide +kernel
theorem dX5_sunset_31 : decode cX5_sunset 31 = .ok (.ireturn, 1) := by decide +kernel
theorem dX5_lot_0 : decode cX5_lot 0 = .ok (.aload_n 0, 1) := by decide +kernel
theorem dX5_lot_1 : decode cX5_lot 1 = .ok (.aload_n 0, 1) := by decide +kernel
theorem dX5_lot_2 : decode cX5_lot 2 = .ok (.getfield 16, 3) := by decide +kernel
theorem dX5_lot_5 : decode cX5_lot 5 = .ok (.ldc_w 256, 3) := by decide +kernel
theorem dX5_lot_8 : decode cX5_lot 8 = .ok (.imul, 1) := by decide +kernel
theorem dX5_lot_9 : decode cX5_lot 9 = .ok (.sipush 12345, 3) := by decide +kernel
theorem dX5_lot_12 : decode cX5_lot 12 = .ok (.iadd, 1) := by decide +kernel
theorem dX5_lot_13 : decode cX5_lot 13 = .ok (.putfield 16, 3) := by decide +kernel
theorem dX5_lot_16 : decode cX5_lot 16 = .ok (.aload_n 0, 1) := by decide +kernel
theorem dX5_lot_17 : decode cX5_lot 17 = .ok (.getfield 16, 3) := by decide +kernel
theorem dX5_lot_20 : decode cX5_lot 20 = .ok (.bipush 16, 2) := by decide +kernel
theorem dX5_lot_22 : decode cX5_lot 22 = .ok (.iushr, 1) := by decide +kernel
theorem dX5_lot_23 : decode cX5_lot 23 = .ok (.iload_n 1, 1) := by decide +kernel
theorem dX5_lot_24 : decode cX5_lot 24 = .ok (.irem, 1) := by decide +kernel
theorem dX5_lot_25 : decode cX5_lot 25 = .ok (.ireturn, 1) := by decide +kernel
theorem dX5_draw_0 : decode cX5_draw 0 = .ok (.aload_n 0, 1) := by decide +kernel
theorem dX5_draw_1 : decode cX5_draw 1 = .ok (.invokevirtual 142, 3) := by decide +kernel
theorem dX5_draw_4 : decode cX5_draw 4 = .ok (.lstore_n 1, 1) := by decide +kernel
theorem dX5_draw_5 : decode cX5_draw 5 = .ok (.aload_n 0, 1) := by decide +kernel
theorem dX5_draw_6 : decode cX5_draw 6 = .ok (.lload_n 1, 1) := by decide +kernel
theorem dX5_draw_7 : decode cX5_draw 7 = .ok (.invokevirtual 146, 3) := by decide +kernel
theorem dX5_draw_10 : decode cX5_draw 10 = .ok (.istore_n 3, 1) := by decide +kernel
theorem dX5_draw_11 : decode cX5_draw 11 = .ok (.iload_n 3, 1) := by decide +kernel
theorem dX5_draw_12 : decode cX5_draw 12 = .ok (.ifCond .ne 5, 3) := by decide +kernel
theorem dX5_draw_15 : decode cX5_draw 15 = .ok (.iconst 0, 1) := by decide +kernel
theorem dX5_draw_16 : decode cX5_draw 16 = .ok (.ireturn, 1) := by decide +kernel
theorem dX5_draw_17 : decode cX5_draw 17 = .ok (.aload_n 0, 1) := by decide +kernel
theorem dX5_draw_18 : decode cX5_draw 18 = .ok (.iload_n 3, 1) := by decide +kernel
theorem dX5_draw_19 : decode cX5_draw 19 = .ok (.invokevirtual 257, 3) := by decide +kernel
theorem dX5_draw_22 : decode cX5_draw 22 = .ok (.istore 4, 2) := by decide +kernel
theorem dX5_draw_24 : decode cX5_draw 24 = .ok (.iconst 0, 1) := by decide +kernel
theorem dX5_draw_25 : decode cX5_draw 25 = .ok (.istore 5, 2) := by decide +kernel
theorem dX5_draw_27 : decode cX5_draw 27 = .ok (.iload 4, 2) := by decide +kernel
theorem dX5_draw_29 : decode cX5_draw 29 = .ok (.ifCond .gt 14, 3) := by decide +kernel
theorem dX5_draw_32 : decode cX5_draw 32 = .ok (.lload_n 1, 1) := by decide +kernel
theorem dX5_draw_33 : decode cX5_draw 33 = .ok (.iload 5, 2) := by decide +kernel
theorem dX5_draw_35 : decode cX5_draw 35 = .ok (.lshr, 1) := by decide +kernel
theorem dX5_draw_36 : decode cX5_draw 36 = .ok (.lconst 1, 1) := by decide +kernel
theorem dX5_draw_37 : decode cX5_draw 37 = .ok (.land, 1) := by decide +kernel
theorem dX5_draw_38 : decode cX5_draw 38 = .ok (.lconst 0, 1) := by decide +kernel
theorem dX5_draw_39 : decode cX5_draw 39 = .ok (.lcmp, 1) := by decide +kernel
theorem dX5_draw_40 : decode cX5_draw 40 = .ok (.ifCond .ne 23, 3) := by decide +kernel
theorem dX5_draw_43 : decode cX5_draw 43 = .ok (.lload_n 1, 1) := by decide +kernel
theorem dX5_draw_44 : decode cX5_draw 44 = .ok (.iload 5, 2) := by decide +kernel
theorem dX5_draw_46 : decode cX5_draw 46 = .ok (.lshr, 1) := by decide +kernel
theorem dX5_draw_47 : decode cX5_draw 47 = .ok (.lconst 1, 1) := by decide +kernel
theorem dX5_draw_48 : decode cX5_draw 48 = .ok (.land, 1) := by decide +kernel
theorem dX5_draw_49 : decode cX5_draw 49 = .ok (.lconst 1, 1) := by decide +kernel
theorem dX5_draw_50 : decode cX5_draw 50 = .ok (.lcmp, 1) := by decide +kernel
theorem dX5_draw_51 : decode cX5_draw 51 = .ok (.ifCond .ne 6, 3) := by decide +kernel
theorem dX5_draw_54 : decode cX5_draw 54 = .ok (.iinc 4 (-1), 3) := by decide +kernel
theorem dX5_draw_57 : decode cX5_draw 57 = .ok (.iinc 5 1, 3) := by decide +kernel
theorem dX5_draw_60 : decode cX5_draw 60 = .ok (.goto (-33), 3) := by decide +kernel
theorem dX5_draw_63 : decode cX5_draw 63 = .ok (.aload_n 0, 1) := by decide +kernel
theorem dX5_draw_64 : decode cX5_draw 64 = .ok (.iload 5, 2) := by decide +kernel
theorem dX5_draw_66 : decode cX5_draw 66 = .ok (.putfield 19, 3) := by decide +kernel
theorem dX5_draw_69 : decode cX5_draw 69 = .ok (.iload_n 3, 1) := by decide +kernel
theorem dX5_draw_70 : decode cX5_draw 70 = .ok (.ireturn, 1) := by decide +kernel
theorem dX5_ask_0 : decode cX5_ask 0 = .ok (.aload_n 0, 1) := by decide +kernel
theorem dX5_ask_1 : decode cX5_ask 1 = .ok (.iload_n 1, 1) := by decide +kernel
theorem dX5_ask_2 : decode cX5_ask 2 = .ok (.invokevirtual 103, 3) := by decide +kernel
theorem dX5_ask_5 : decode cX5_ask 5 = .ok (.ifCond .eq 11, 3) := by decide +kernel
theorem dX5_ask_8 : decode cX5_ask 8 = .ok (.aload_n 0, 1) := by decide +kernel
theorem dX5_ask_9 : decode cX5_ask 9 = .ok (.iload_n 2, 1) := by decide +kernel
theorem dX5_ask_10 : decode cX5_ask 10 = .ok (.invokevirtual 121, 3) := by decide +kernel
theorem dX5_ask_13 : decode cX5_ask 13 = .ok (.ifCond .ne 9, 3) := by decide +kernel
theorem dX5_ask_16 : decode cX5_ask 16 = .ok (.aload_n 0, 1) := by decide +kernel
theorem dX5_ask_17 : decode cX5_ask 17 = .ok (.iconst (-1), 1) := by decide +kernel
theorem dX5_ask_18 : decode cX5_ask 18 = .ok (.invokevirtual 99, 3) := by decide +kernel
theorem dX5_ask_21 : decode cX5_ask 21 = .ok (.ireturn, 1) := by decide +kernel
theorem dX5_ask_22 : decode cX5_ask 22 = .ok (.aload_n 0, 1) := by decide +kernel
theorem dX5_ask_23 : decode cX5_ask 23 = .ok (.iload_n 1, 1) := by decide +kernel
theorem dX5_ask_24 : decode cX5_ask 24 = .ok (.invokevirtual 150, 3) := by decide +kernel
theorem dX5_ask_27 : decode cX5_ask 27 = .ok (.ifCond .ne 11, 3) := by decide +kernel
theorem dX5_ask_30 : decode cX5_ask 30 = .ok (.aload_n 0, 1) := by decide +kernel
theorem dX5_ask_31 : decode cX5_ask 31 = .ok (.getfield 19, 3) := by decide +kernel
theorem dX5_ask_34 : decode cX5_ask 34 = .ok (.iconst (-1), 1) := by decide +kernel
theorem dX5_ask_35 : decode cX5_ask 35 = .ok (.if_icmp .ne 10, 3) := by decide +kernel
theorem dX5_ask_38 : decode cX5_ask 38 = .ok (.aload_n 0, 1) := by decide +kernel
theorem dX5_ask_39 : decode cX5_ask 39 = .ok (.bipush (-6), 2) := by decide +kernel
theorem dX5_ask_41 : decode cX5_ask 41 = .ok (.invokevirtual 99, 3) := by decide +kernel
theorem dX5_ask_44 : decode cX5_ask 44 = .ok (.ireturn, 1) := by decide +kernel
theorem dX5_ask_45 : decode cX5_ask 45 = .ok (.aload_n 0, 1) := by decide +kernel
theorem dX5_ask_46 : decode cX5_ask 46 = .ok (.getfield 16, 3) := by decide +kernel
theorem dX5_ask_49 : decode cX5_ask 49 = .ok (.istore_n 3, 1) := by decide +kernel
theorem dX5_ask_50 : decode cX5_ask 50 = .ok (.aload_n 0, 1) := by decide +kernel
theorem dX5_ask_51 : decode cX5_ask 51 = .ok (.iload_n 1, 1) := by decide +kernel
theorem dX5_ask_52 : decode cX5_ask 52 = .ok (.invokevirtual 127, 3) := by decide +kernel
theorem dX5_ask_55 : decode cX5_ask 55 = .ok (.ifCond .ne 18, 3) := by decide +kernel
theorem dX5_ask_58 : decode cX5_ask 58 = .ok (.aload_n 0, 1) := by decide +kernel
theorem dX5_ask_59 : decode cX5_ask 59 = .ok (.iload_n 1, 1) := by decide +kernel
theorem dX5_ask_60 : decode cX5_ask 60 = .ok (.aload_n 0, 1) := by decide +kernel
theorem dX5_ask_61 : decode cX5_ask 61 = .ok (.iload_n 1, 1) := by decide +kernel
theorem dX5_ask_62 : decode cX5_ask 62 = .ok (.invokevirtual 106, 3) := by decide +kernel
theorem dX5_ask_65 : decode cX5_ask 65 = .ok (.invokevirtual 109, 3) := by decide +kernel
theorem dX5_ask_68 : decode cX5_ask 68 = .ok (.istore 4, 2) := by decide +kernel
theorem dX5_ask_70 : decode cX5_ask 70 = .ok (.goto 72, 3) := by decide +kernel
theorem dX5_ask_73 : decode cX5_ask 73 = .ok (.aload_n 0, 1) := by decide +kernel
theorem dX5_ask_74 : decode cX5_ask 74 = .ok (.iload_n 1, 1) := by decide +kernel
theorem dX5_ask_75 : decode cX5_ask 75 = .ok (.aload_n 0, 1) := by decide +kernel
theorem dX5_ask_76 : decode cX5_ask 76 = .ok (.getfield 19, 3) := by decide +kernel
theorem dX5_ask_79 : decode cX5_ask 79 = .ok (.iconst 1, 1) := by decide +kernel
theorem dX5_ask_80 : decode cX5_ask 80 = .ok (.invokevirtual 218, 3) := by decide +kernel
theorem dX5_ask_83 : decode cX5_ask 83 = .ok (.istore 5, 2) := by decide +kernel
theorem dX5_ask_85 : decode cX5_ask 85 = .ok (.aload_n 0, 1) := by decide +kernel
theorem dX5_ask_86 : decode cX5_ask 86 = .ok (.iload_n 1, 1) := by decide +kernel
theorem dX5_ask_87 : decode cX5_ask 87 = .ok (.aload_n 0, 1) := by decide +kernel
theorem dX5_ask_88 : decode cX5_ask 88 = .ok (.getfield 19, 3) := by decide +kernel
theorem dX5_ask_91 : decode cX5_ask 91 = .ok (.iconst 0, 1) := by decide +kernel
theorem dX5_ask_92 : decode cX5_ask 92 = .ok (.invokevirtual 218, 3) := by decide +kernel
theorem dX5_ask_95 : decode cX5_ask 95 = .ok (.istore 6, 2) := by decide +kernel
theorem dX5_ask_97 : decode cX5_ask 97 = .ok (.iload 5, 2) := by decide +kernel
theorem dX5_ask_99 : decode cX5_ask 99 = .ok (.ifCond .ne 15, 3) := by decide +kernel
theorem dX5_ask_102 : decode cX5_ask 102 = .ok (.iload 6, 2) := by decide +kernel
theorem dX5_ask_104 : decode cX5_ask 104 = .ok (.ifCond .ne 10, 3) := by decide +kernel
theorem dX5_ask_107 : decode cX5_ask 107 = .ok (.aload_n 0, 1) := by decide +kernel
theorem dX5_ask_108 : decode cX5_ask 108 = .ok (.bipush (-6), 2) := by decide +kernel
theorem dX5_ask_110 : decode cX5_ask 110 = .ok (.invokevirtual 99, 3) := by decide +kernel
theorem dX5_ask_113 : decode cX5_ask 113 = .ok (.ireturn, 1) := by decide +kernel
theorem dX5_ask_114 : decode cX5_ask 114 = .ok (.iload 5, 2) := by decide +kernel
theorem dX5_ask_116 : decode cX5_ask 116 = .ok (.iload 6, 2) := by decide +kernel
theorem dX5_ask_118 : decode cX5_ask 118 = .ok (.if_icmp .eq 8, 3) := by decide +kernel
theorem dX5_ask_121 : decode cX5_ask 121 = .ok (.iload 5, 2) := by decide +kernel
theorem dX5_ask_123 : decode cX5_ask 123 = .ok (.goto 17, 3) := by decide +kernel
theorem dX5_ask_126 : decode cX5_ask 126 = .ok (.aload_n 0, 1) := by decide +kernel
theorem dX5_ask_127 : decode cX5_ask 127 = .ok (.iconst 2, 1) := by decide +kernel
theorem dX5_ask_128 : decode cX5_ask 128 = .ok (.invokevirtual 257, 3) := by decide +kernel
theorem dX5_ask_131 : decode cX5_ask 131 = .ok (.iconst 1, 1) := by decide +kernel
theorem dX5_ask_132 : decode cX5_ask 132 = .ok (.if_icmp .ne 7, 3) := by decide +kernel
theorem dX5_ask_135 : decode cX5_ask 135 = .ok (.iconst 1, 1) := by decide +kernel
theorem dX5_ask_136 : decode cX5_ask 136 = .ok (.goto 4, 3) := by decide +kernel
theorem dX5_ask_139 : decode cX5_ask 139 = .ok (.iconst 0, 1) := by decide +kernel
theorem dX5_ask_140 : decode cX5_ask 140 = .ok (.istore 4, 2) := by decide +kernel
theorem dX5_ask_142 : decode cX5_ask 142 = .ok (.aload_n 0, 1) := by decide +kernel
theorem dX5_ask_143 : decode cX5_ask 143 = .ok (.getfield 19, 3) := by decide +kernel
theorem dX5_ask_146 : decode cX5_ask 146 = .ok (.iload_n 2, 1) := by decide +kernel
theorem dX5_ask_147 : decode cX5_ask 147 = .ok (.ishr, 1) := by decide +kernel
theorem dX5_ask_148 : decode cX5_ask 148 = .ok (.iconst 1, 1) := by decide +kernel
theorem dX5_ask_149 : decode cX5_ask 149 = .ok (.iand, 1) := by decide +kernel
theorem dX5_ask_150 : decode cX5_ask 150 = .ok (.iconst 1, 1) := by decide +kernel
theorem dX5_ask_151 : decode cX5_ask 151 = .ok (.if_icmp .ne 7, 3) := by decide +kernel
theorem dX5_ask_154 : decode cX5_ask 154 = .ok (.iconst 1, 1) := by decide +kernel
theorem dX5_ask_155 : decode cX5_ask 155 = .ok (.goto 4, 3) := by decide +kernel
theorem dX5_ask_158 : decode cX5_ask 158 = .ok (.iconst 0, 1) := by decide +kernel
theorem dX5_ask_159 : decode cX5_ask 159 = .ok (.iload 4, 2) := by decide +kernel
theorem dX5_ask_161 : decode cX5_ask 161 = .ok (.if_icmp .ne 7, 3) := by decide +kernel
theorem dX5_ask_164 : decode cX5_ask 164 = .ok (.iconst 1, 1) := by decide +kernel
theorem dX5_ask_165 : decode cX5_ask 165 = .ok (.goto 4, 3) := by decide +kernel
theorem dX5_ask_168 : decode cX5_ask 168 = .ok (.iconst 0, 1) := by decide +kernel
theorem dX5_ask_169 : decode cX5_ask 169 = .ok (.istore 5, 2) := by decide +kernel
theorem dX5_ask_171 : decode cX5_ask 171 = .ok (.aload_n 0, 1) := by decide +kernel
theorem dX5_ask_172 : decode cX5_ask 172 = .ok (.iload_n 1, 1) := by decide +kernel
theorem dX5_ask_173 : decode cX5_ask 173 = .ok (.iload_n 2, 1) := by decide +kernel
theorem dX5_ask_174 : decode cX5_ask 174 = .ok (.iload 5, 2) := by decide +kernel
theorem dX5_ask_176 : decode cX5_ask 176 = .ok (.invokevirtual 153, 3) := by decide +kernel
theorem dX5_ask_179 : decode cX5_ask 179 = .ok (.ifCond .ne 15, 3) := by decide +kernel
theorem dX5_ask_182 : decode cX5_ask 182 = .ok (.aload_n 0, 1) := by decide +kernel
theorem dX5_ask_183 : decode cX5_ask 183 = .ok (.iload_n 3, 1) := by decide +kernel
theorem dX5_ask_184 : decode cX5_ask 184 = .ok (.putfield 16, 3) := by decide +kernel
theorem dX5_ask_187 : decode cX5_ask 187 = .ok (.aload_n 0, 1) := by decide +kernel
theorem dX5_ask_188 : decode cX5_ask 188 = .ok (.bipush (-6), 2) := by decide +kernel
theorem dX5_ask_190 : decode cX5_ask 190 = .ok (.invokevirtual 99, 3) := by decide +kernel
theorem dX5_ask_193 : decode cX5_ask 193 = .ok (.ireturn, 1) := by decide +kernel
theorem dX5_ask_194 : decode cX5_ask 194 = .ok (.aload_n 0, 1) := by decide +kernel
theorem dX5_ask_195 : decode cX5_ask 195 = .ok (.getfield 118, 3) := by decide +kernel
theorem dX5_ask_198 : decode cX5_ask 198 = .ok (.bipush 24, 2) := by decide +kernel
theorem dX5_ask_200 : decode cX5_ask 200 = .ok (.if_icmp .ne 15, 3) := by decide +kernel
theorem dX5_ask_203 : decode cX5_ask 203 = .ok (.aload_n 0, 1) := by decide +kernel
theorem dX5_ask_204 : decode cX5_ask 204 = .ok (.iload_n 3, 1) := by decide +kernel
theorem dX5_ask_205 : decode cX5_ask 205 = .ok (.putfield 16, 3) := by decide +kernel
theorem dX5_ask_208 : decode cX5_ask 208 = .ok (.aload_n 0, 1) := by decide +kernel
theorem dX5_ask_209 : decode cX5_ask 209 = .ok (.bipush (-7), 2) := by decide +kernel
theorem dX5_ask_211 : decode cX5_ask 211 = .ok (.invokevirtual 99, 3) := by decide +kernel
theorem dX5_ask_214 : decode cX5_ask 214 = .ok (.ireturn, 1) := by decide +kernel
theorem dX5_ask_215 : decode cX5_ask 215 = .ok (.aload_n 0, 1) := by decide +kernel
theorem dX5_ask_216 : decode cX5_ask 216 = .ok (.iload_n 1, 1) := by decide +kernel
theorem dX5_ask_217 : decode cX5_ask 217 = .ok (.iload_n 2, 1) := by decide +kernel
theorem dX5_ask_218 : decode cX5_ask 218 = .ok (.iload 5, 2) := by decide +kernel
theorem dX5_ask_220 : decode cX5_ask 220 = .ok (.invokevirtual 138, 3) := by decide +kernel
theorem dX5_ask_223 : decode cX5_ask 223 = .ok (.iload 5, 2) := by decide +kernel
theorem dX5_ask_225 : decode cX5_ask 225 = .ok (.ireturn, 1) := by decide +kernel
theorem dX5_truly_0 : decode cX5_truly 0 = .ok (.iload_n 1, 1) := by decide +kernel
theorem dX5_truly_1 : decode cX5_truly 1 = .ok (.ifCond .lt 13, 3) := by decide +kernel
theorem dX5_truly_4 : decode cX5_truly 4 = .ok (.iload_n 1, 1) := by decide +kernel
theorem dX5_truly_5 : decode cX5_truly 5 = .ok (.iconst 1, 1) := by decide +kernel
theorem dX5_truly_6 : decode cX5_truly 6 = .ok (.aload_n 0, 1) := by decide +kernel
theorem dX5_truly_7 : decode cX5_truly 7 = .ok (.getfield 89, 3) := by decide +kernel
theorem dX5_truly_10 : decode cX5_truly 10 = .ok (.ishl, 1) := by decide +kernel
theorem dX5_truly_11 : decode cX5_truly 11 = .ok (.if_icmp .lt 9, 3) := by decide +kernel
theorem dX5_truly_14 : decode cX5_truly 14 = .ok (.aload_n 0, 1) := by decide +kernel
theorem dX5_truly_15 : decode cX5_truly 15 = .ok (.iconst (-1), 1) := by decide +kernel
theorem dX5_truly_16 : decode cX5_truly 16 = .ok (.invokevirtual 99, 3) := by decide +kernel
theorem dX5_truly_19 : decode cX5_truly 19 = .ok (.ireturn, 1) := by decide +kernel
theorem dX5_truly_20 : decode cX5_truly 20 = .ok (.aload_n 0, 1) := by decide +kernel
theorem dX5_truly_21 : decode cX5_truly 21 = .ok (.getfield 19, 3) := by decide +kernel
theorem dX5_truly_24 : decode cX5_truly 24 = .ok (.iconst (-1), 1) := by decide +kernel
theorem dX5_truly_25 : decode cX5_truly 25 = .ok (.if_icmp .ne 10, 3) := by decide +kernel
theorem dX5_truly_28 : decode cX5_truly 28 = .ok (.aload_n 0, 1) := by decide +kernel
theorem dX5_truly_29 : decode cX5_truly 29 = .ok (.bipush (-6), 2) := by decide +kernel
theorem dX5_truly_31 : decode cX5_truly 31 = .ok (.invokevirtual 99, 3) := by decide +kernel
theorem dX5_truly_34 : decode cX5_truly 34 = .ok (.ireturn, 1) := by decide +kernel
theorem dX5_truly_35 : decode cX5_truly 35 = .ok (.iload_n 1, 1) := by decide +kernel
theorem dX5_truly_36 : decode cX5_truly 36 = .ok (.aload_n 0, 1) := by decide +kernel
theorem dX5_truly_37 : decode cX5_truly 37 = .ok (.getfield 19, 3) := by decide +kernel
theorem dX5_truly_40 : decode cX5_truly 40 = .ok (.if_icmp .ne 7, 3) := by decide +kernel
theorem dX5_truly_43 : decode cX5_truly 43 = .ok (.iconst 1, 1) := by decide +kernel
theorem dX5_truly_44 : decode cX5_truly 44 = .ok (.goto 4, 3) := by decide +kernel
theorem dX5_truly_47 : decode cX5_truly 47 = .ok (.iconst 0, 1) := by decide +kernel
theorem dX5_truly_48 : decode cX5_truly 48 = .ok (.ireturn, 1) := by decide +kernel
theorem dX5_seed_0 : decode cX5_seed 0 = .ok (.aload_n 0, 1) := by decide +kernel
theorem dX5_seed_1 : decode cX5_seed 1 = .ok (.getfield 16, 3) := by decide +kernel
theorem dX5_seed_4 : decode cX5_seed 4 = .ok (.istore_n 2, 1) := by decide +kernel
theorem dX5_seed_5 : decode cX5_seed 5 = .ok (.aload_n 0, 1) := by decide +kernel
theorem dX5_seed_6 : decode cX5_seed 6 = .ok (.iload_n 1, 1) := by decide +kernel
theorem dX5_seed_7 : decode cX5_seed 7 = .ok (.putfield 16, 3) := by decide +kernel
theorem dX5_seed_10 : decode cX5_seed 10 = .ok (.iload_n 2, 1) := by decide +kernel
theorem dX5_seed_11 : decode cX5_seed 11 = .ok (.ireturn, 1) := by decide +kernel
theorem dX5_body_0 : decode cX5_body 0 = .ok (.aload_n 0, 1) := by decide +kernel
theorem dX5_body_1 : decode cX5_body 1 = .ok (.getfield 260, 3) := by decide +kernel
theorem dX5_body_4 : decode cX5_body 4 = .ok (.bipush 20, 2) := by decide +kernel
theorem dX5_body_6 : decode cX5_body 6 = .ok (.if_icmp .ge 13, 3) := by decide +kernel
theorem dX5_body_9 : decode cX5_body 9 = .ok (.aload_n 0, 1) := by decide +kernel
theorem dX5_body_10 : decode cX5_body 10 = .ok (.getfield 85, 3) := by decide +kernel
theorem dX5_body_13 : decode cX5_body 13 = .ok (.aload_n 0, 1) := by decide +kernel
theorem dX5_body_14 : decode cX5_body 14 = .ok (.getfield 260, 3) := by decide +kernel
theorem dX5_body_17 : decode cX5_body 17 = .ok (.iload_n 1, 1) := by decide +kernel
theorem dX5_body_18 : decode cX5_body 18 = .ok (.iastore, 1) := by decide +kernel
theorem dX5_body_19 : decode cX5_body 19 = .ok (.aload_n 0, 1) := by decide +kernel
theorem dX5_body_20 : decode cX5_body 20 = .ok (.dup, 1) := by decide +kernel
theorem dX5_body_21 : decode cX5_body 21 = .ok (.getfield 260, 3) := by decide +kernel
theorem dX5_body_24 : decode cX5_body 24 = .ok (.iconst 1, 1) := by decide +kernel
theorem dX5_body_25 : decode cX5_body 25 = .ok (.iadd, 1) := by decide +kernel
theorem dX5_body_26 : decode cX5_body 26 = .ok (.putfield 260, 3) := by decide +kernel
theorem dX5_body_29 : decode cX5_body 29 = .ok (.return_, 1) := by decide +kernel
theorem dX5_saying_0 : decode cX5_saying 0 = .ok (.aload_n 0, 1) := by decide +kernel
theorem dX5_saying_1 : decode cX5_saying 1 = .ok (.getfield 36, 3) := by decide +kernel
theorem dX5_saying_4 : decode cX5_saying 4 = .ok (.iload_n 1, 1) := by decide +kernel
theorem dX5_saying_5 : decode cX5_saying 5 = .ok (.iaload, 1) := by decide +kernel
theorem dX5_saying_6 : decode cX5_saying 6 = .ok (.istore_n 3, 1) := by decide +kernel
theorem dX5_saying_7 : decode cX5_saying 7 = .ok (.iload_n 2, 1) := by decide +kernel
theorem dX5_saying_8 : decode cX5_saying 8 = .ok (.istore 4, 2) := by decide +kernel
theorem dX5_saying_10 : decode cX5_saying 10 = .ok (.iload_n 3, 1) := by decide +kernel
theorem dX5_saying_11 : decode cX5_saying 11 = .ok (.iconst 3, 1) := by decide +kernel
theorem dX5_saying_12 : decode cX5_saying 12 = .ok (.if_icmp .ne 14, 3) := by decide +kernel
theorem dX5_saying_15 : decode cX5_saying 15 = .ok (.aload_n 0, 1) := by decide +kernel
theorem dX5_saying_16 : decode cX5_saying 16 = .ok (.bipush 30, 2) := by decide +kernel
theorem dX5_saying_18 : decode cX5_saying 18 = .ok (.invokevirtual 263, 3) := by decide +kernel
theorem dX5_saying_21 : decode cX5_saying 21 = .ok (.iload_n 2, 1) := by decide +kernel
theorem dX5_saying_22 : decode cX5_saying 22 = .ok (.iconst 1, 1) := by decide +kernel
theorem dX5_saying_23 : decode cX5_saying 23 = .ok (.iadd, 1) := by decide +kernel
theorem dX5_saying_24 : decode cX5_saying 24 = .ok (.istore 4, 2) := by decide +kernel
theorem dX5_saying_26 : decode cX5_saying 26 = .ok (.iload_n 3, 1) := by decide +kernel
theorem dX5_saying_27 : decode cX5_saying 27 = .ok (.iconst 1, 1) := by decide +kernel
theorem dX5_saying_28 : decode cX5_saying 28 = .ok (.if_icmp .eq 8, 3) := by decide +kernel
theorem dX5_saying_31 : decode cX5_saying 31 = .ok (.iload_n 3, 1) := by decide +kernel
theorem dX5_saying_32 : decode cX5_saying 32 = .ok (.iconst 3, 1) := by decide +kernel
theorem dX5_saying_33 : decode cX5_saying 33 = .ok (.if_icmp .ne 9, 3) := by decide +kernel
theorem dX5_saying_36 : decode cX5_saying 36 = .ok (.aload_n 0, 1) := by decide +kernel
theorem dX5_saying_37 : decode cX5_saying 37 = .ok (.bipush 20, 2) := by decide +kernel
theorem dX5_saying_39 : decode cX5_saying 39 = .ok (.invokevirtual 263, 3) := by decide +kernel
theorem dX5_saying_42 : decode cX5_saying 42 = .ok (.iload_n 3, 1) := by decide +kernel
theorem dX5_saying_43 : decode cX5_saying 43 = .ok (.bipush 6, 2) := by decide +kernel
theorem dX5_saying_45 : decode cX5_saying 45 = .ok (.if_icmp .ne 9, 3) := by decide +kernel
theorem dX5_saying_48 : decode cX5_saying 48 = .ok (.aload_n 0, 1) := by decide +kernel
theorem dX5_saying_49 : decode cX5_saying 49 = .ok (.bipush 70, 2) := by decide +kernel
theorem dX5_saying_51 : decode cX5_saying 51 = .ok (.invokevirtual 263, 3) := by decide +kernel
theorem dX5_saying_54 : decode cX5_saying 54 = .ok (.aload_n 0, 1) := by decide +kernel
theorem dX5_saying_55 : decode cX5_saying 55 = .ok (.bipush 10, 2) := by decide +kernel
theorem dX5_saying_57 : decode cX5_saying 57 = .ok (.invokevirtual 263, 3) := by decide +kernel
theorem dX5_saying_60 : decode cX5_saying 60 = .ok (.iload 4, 2) := by decide +kernel
theorem dX5_saying_62 : decode cX5_saying 62 = .ok (.iload_n 1, 1) := by decide +kernel
theorem dX5_saying_63 : decode cX5_saying 63 = .ok (.iadd, 1) := by decide +kernel
theorem dX5_saying_64 : decode cX5_saying 64 = .ok (.istore 5, 2) := by decide +kernel
theorem dX5_saying_66 : decode cX5_saying 66 = .ok (.iload_n 3, 1) := by decide +kernel
theorem dX5_saying_67 : decode cX5_saying 67 = .ok (.iconst 1, 1) := by decide +kernel
theorem dX5_saying_68 : decode cX5_saying 68 = .ok (.if_icmp .eq 8, 3) := by decide +kernel
theorem dX5_saying_71 : decode cX5_saying 71 = .ok (.iload_n 3, 1) := by decide +kernel
theorem dX5_saying_72 : decode cX5_saying 72 = .ok (.iconst 3, 1) := by decide +kernel
theorem dX5_saying_73 : decode cX5_saying 73 = .ok (.if_icmp .ne 15, 3) := by decide +kernel
theorem dX5_saying_76 : decode cX5_saying 76 = .ok (.iload 5, 2) := by decide +kernel
theorem dX5_saying_78 : decode cX5_saying 78 = .ok (.aload_n 0, 1) := by decide +kernel
theorem dX5_saying_79 : decode cX5_saying 79 = .ok (.getfield 39, 3) := by decide +kernel
theorem dX5_saying_82 : decode cX5_saying 82 = .ok (.iload_n 1, 1) := by decide +kernel
theorem dX5_saying_83 : decode cX5_saying 83 = .ok (.iaload, 1) := by decide +kernel
theorem dX5_saying_84 : decode cX5_saying 84 = .ok (.iadd, 1) := by decide +kernel
theorem dX5_saying_85 : decode cX5_saying 85 = .ok (.goto 18, 3) := by decide +kernel
theorem dX5_saying_88 : decode cX5_saying 88 = .ok (.iload_n 3, 1) := by decide +kernel
theorem dX5_saying_89 : decode cX5_saying 89 = .ok (.bipush 6, 2) := by decide +kernel
theorem dX5_saying_91 : decode cX5_saying 91 = .ok (.if_icmp .ne 10, 3) := by decide +kernel
theorem dX5_saying_94 : decode cX5_saying 94 = .ok (.iload 5, 2) := by decide +kernel
theorem dX5_saying_96 : decode cX5_saying 96 = .ok (.iconst 2, 1) := by decide +kernel
theorem dX5_saying_97 : decode cX5_saying 97 = .ok (.imul, 1) := by decide +kernel
theorem dX5_saying_98 : decode cX5_saying 98 = .ok (.goto 5, 3) := by decide +kernel
theorem dX5_saying_101 : decode cX5_saying 101 = .ok (.iload 5, 2) := by decide +kernel
theorem dX5_saying_103 : decode cX5_saying 103 = .ok (.ireturn, 1) := by decide +kernel
theorem dX5_hiding_0 : decode cX5_hiding 0 = .ok (.aload_n 0, 1) := by decide +kernel
theorem dX5_hiding_1 : decode cX5_hiding 1 = .ok (.getfield 36, 3) := by decide +kernel
theorem dX5_hiding_4 : decode cX5_hiding 4 = .ok (.iload_n 1, 1) := by decide +kernel
theorem dX5_hiding_5 : decode cX5_hiding 5 = .ok (.iaload, 1) := by decide +kernel
theorem dX5_hiding_6 : decode cX5_hiding 6 = .ok (.istore_n 3, 1) := by decide +kernel
theorem dX5_hiding_7 : decode cX5_hiding 7 = .ok (.iload_n 3, 1) := by decide +kernel
theorem dX5_hiding_8 : decode cX5_hiding 8 = .ok (.iconst 2, 1) := by decide +kernel
theorem dX5_hiding_9 : decode cX5_hiding 9 = .ok (.if_icmp .ne 9, 3) := by decide +kernel
theorem dX5_hiding_12 : decode cX5_hiding 12 = .ok (.aload_n 0, 1) := by decide +kernel
theorem dX5_hiding_13 : decode cX5_hiding 13 = .ok (.bipush 40, 2) := by decide +kernel
theorem dX5_hiding_15 : decode cX5_hiding 15 = .ok (.invokevirtual 263, 3) := by decide +kernel
theorem dX5_hiding_18 : decode cX5_hiding 18 = .ok (.iload_n 3, 1) := by decide +kernel
theorem dX5_hiding_19 : decode cX5_hiding 19 = .ok (.iconst 5, 1) := by decide +kernel
theorem dX5_hiding_20 : decode cX5_hiding 20 = .ok (.if_icmp .ne 9, 3) := by decide +kernel
theorem dX5_hiding_23 : decode cX5_hiding 23 = .ok (.aload_n 0, 1) := by decide +kernel
theorem dX5_hiding_24 : decode cX5_hiding 24 = .ok (.bipush 60, 2) := by decide +kernel
theorem dX5_hiding_26 : decode cX5_hiding 26 = .ok (.invokevirtual 263, 3) := by decide +kernel
theorem dX5_hiding_29 : decode cX5_hiding 29 = .ok (.iload_n 3, 1) := by decide +kernel
theorem dX5_hiding_30 : decode cX5_hiding 30 = .ok (.iconst 4, 1) := by decide +kernel
theorem dX5_hiding_31 : decode cX5_hiding 31 = .ok (.if_icmp .eq 8, 3) := by decide +kernel
theorem dX5_hiding_34 : decode cX5_hiding 34 = .ok (.iload_n 3, 1) := by decide +kernel
theorem dX5_hiding_35 : decode cX5_hiding 35 = .ok (.iconst 5, 1) := by decide +kernel
theorem dX5_hiding_36 : decode cX5_hiding 36 = .ok (.if_icmp .ne 9, 3) := by decide +kernel
theorem dX5_hiding_39 : decode cX5_hiding 39 = .ok (.aload_n 0, 1) := by decide +kernel
theorem dX5_hiding_40 : decode cX5_hiding 40 = .ok (.bipush 50, 2) := by decide +kernel
theorem dX5_hiding_42 : decode cX5_hiding 42 = .ok (.invokevirtual 263, 3) := by decide +kernel
theorem dX5_hiding_45 : decode cX5_hiding 45 = .ok (.aload_n 0, 1) := by decide +kernel
theorem dX5_hiding_46 : decode cX5_hiding 46 = .ok (.bipush 11, 2) := by decide +kernel
theorem dX5_hiding_48 : decode cX5_hiding 48 = .ok (.invokevirtual 263, 3) := by decide +kernel
theorem dX5_hiding_51 : decode cX5_hiding 51 = .ok (.aload_n 0, 1) := by decide +kernel
theorem dX5_hiding_52 : decode cX5_hiding 52 = .ok (.iload_n 1, 1) := by decide +kernel
theorem dX5_hiding_53 : decode cX5_hiding 53 = .ok (.iload_n 2, 1) := by decide +kernel
theorem dX5_hiding_54 : decode cX5_hiding 54 = .ok (.invokevirtual 267, 3) := by decide +kernel
theorem dX5_hiding_57 : decode cX5_hiding 57 = .ok (.iconst 2, 1) := by decide +kernel
theorem dX5_hiding_58 : decode cX5_hiding 58 = .ok (.imul, 1) := by decide +kernel
theorem dX5_hiding_59 : decode cX5_hiding 59 = .ok (.istore 4, 2) := by decide +kernel
theorem dX5_hiding_61 : decode cX5_hiding 61 = .ok (.iload_n 3, 1) := by decide +kernel
theorem dX5_hiding_62 : decode cX5_hiding 62 = .ok (.iconst 2, 1) := by decide +kernel
theorem dX5_hiding_63 : decode cX5_hiding 63 = .ok (.if_icmp .ne 10, 3) := by decide +kernel
theorem dX5_hiding_66 : decode cX5_hiding 66 = .ok (.iload 4, 2) := by decide +kernel
theorem dX5_hiding_68 : decode cX5_hiding 68 = .ok (.iconst 3, 1) := by decide +kernel
theorem dX5_hiding_69 : decode cX5_hiding 69 = .ok (.imul, 1) := by decide +kernel
theorem dX5_hiding_70 : decode cX5_hiding 70 = .ok (.goto 29, 3) := by decide +kernel
theorem dX5_hiding_73 : decode cX5_hiding 73 = .ok (.iload_n 3, 1) := by decide +kernel
theorem dX5_hiding_74 : decode cX5_hiding 74 = .ok (.iconst 4, 1) := by decide +kernel
theorem dX5_hiding_75 : decode cX5_hiding 75 = .ok (.if_icmp .ne 9, 3) := by decide +kernel
theorem dX5_hiding_78 : decode cX5_hiding 78 = .ok (.iload 4, 2) := by decide +kernel
theorem dX5_hiding_80 : decode cX5_hiding 80 = .ok (.ineg, 1) := by decide +kernel
theorem dX5_hiding_81 : decode cX5_hiding 81 = .ok (.goto 18, 3) := by decide +kernel
theorem dX5_hiding_84 : decode cX5_hiding 84 = .ok (.iload_n 3, 1) := by decide +kernel
theorem dX5_hiding_85 : decode cX5_hiding 85 = .ok (.iconst 5, 1) := by decide +kernel
theorem dX5_hiding_86 : decode cX5_hiding 86 = .ok (.if_icmp .ne 11, 3) := by decide +kernel
theorem dX5_hiding_89 : decode cX5_hiding 89 = .ok (.iload 4, 2) := by decide +kernel
theorem dX5_hiding_91 : decode cX5_hiding 91 = .ok (.ineg, 1) := by decide +kernel
theorem dX5_hiding_92 : decode cX5_hiding 92 = .ok (.iconst 5, 1) := by decide +kernel
theorem dX5_hiding_93 : decode cX5_hiding 93 = .ok (.ixor, 1) := by decide +kernel
theorem dX5_hiding_94 : decode cX5_hiding 94 = .ok (.goto 5, 3) := by decide +kernel
theorem dX5_hiding_97 : decode cX5_hiding 97 = .ok (.iload 4, 2) := by decide +kernel
theorem dX5_hiding_99 : decode cX5_hiding 99 = .ok (.ireturn, 1) := by decide +kernel
theorem dX5_knowing_0 : decode cX5_knowing 0 = .ok (.aload_n 0, 1) := by decide +kernel
theorem dX5_knowing_1 : decode cX5_knowing 1 = .ok (.getfield 36, 3) := by decide +kernel
theorem dX5_knowing_4 : decode cX5_knowing 4 = .ok (.iload_n 1, 1) := by decide +kernel
theorem dX5_knowing_5 : decode cX5_knowing 5 = .ok (.iaload, 1) := by decide +kernel
theorem dX5_knowing_6 : decode cX5_knowing 6 = .ok (.istore_n 3, 1) := by decide +kernel
theorem dX5_knowing_7 : decode cX5_knowing 7 = .ok (.iload_n 2, 1) := by decide +kernel
theorem dX5_knowing_8 : decode cX5_knowing 8 = .ok (.istore 4, 2) := by decide +kernel
theorem dX5_knowing_10 : decode cX5_knowing 10 = .ok (.iload_n 3, 1) := by decide +kernel
theorem dX5_knowing_11 : decode cX5_knowing 11 = .ok (.iconst 3, 1) := by decide +kernel
theorem dX5_knowing_12 : decode cX5_knowing 12 = .ok (.if_icmp .ne 9, 3) := by decide +kernel
theorem dX5_knowing_15 : decode cX5_knowing 15 = .ok (.aload_n 0, 1) := by decide +kernel
theorem dX5_knowing_16 : decode cX5_knowing 16 = .ok (.bipush 31, 2) := by decide +kernel
theorem dX5_knowing_18 : decode cX5_knowing 18 = .ok (.invokevirtual 263, 3) := by decide +kernel
theorem dX5_knowing_21 : decode cX5_knowing 21 = .ok (.iload_n 3, 1) := by decide +kernel
theorem dX5_knowing_22 : decode cX5_knowing 22 = .ok (.bipush 6, 2) := by decide +kernel
theorem dX5_knowing_24 : decode cX5_knowing 24 = .ok (.if_icmp .ne 19, 3) := by decide +kernel
theorem dX5_knowing_27 : decode cX5_knowing 27 = .ok (.aload_n 0, 1) := by decide +kernel
theorem dX5_knowing_28 : decode cX5_knowing 28 = .ok (.bipush 71, 2) := by decide +kernel
theorem dX5_knowing_30 : decode cX5_knowing 30 = .ok (.invokevirtual 263, 3) := by decide +kernel
theorem dX5_knowing_33 : decode cX5_knowing 33 = .ok (.iload_n 2, 1) := by decide +kernel
theorem dX5_knowing_34 : decode cX5_knowing 34 = .ok (.aload_n 0, 1) := by decide +kernel
theorem dX5_knowing_35 : decode cX5_knowing 35 = .ok (.getfield 39, 3) := by decide +kernel
theorem dX5_knowing_38 : decode cX5_knowing 38 = .ok (.iload_n 1, 1) := by decide +kernel
theorem dX5_knowing_39 : decode cX5_knowing 39 = .ok (.iaload, 1) := by decide +kernel
theorem dX5_knowing_40 : decode cX5_knowing 40 = .ok (.isub, 1) := by decide +kernel
theorem dX5_knowing_41 : decode cX5_knowing 41 = .ok (.istore 4, 2) := by decide +kernel
theorem dX5_knowing_43 : decode cX5_knowing 43 = .ok (.aload_n 0, 1) := by decide +kernel
theorem dX5_knowing_44 : decode cX5_knowing 44 = .ok (.bipush 12, 2) := by decide +kernel
theorem dX5_knowing_46 : decode cX5_knowing 46 = .ok (.invokevirtual 263, 3) := by decide +kernel
theorem dX5_knowing_49 : decode cX5_knowing 49 = .ok (.aload_n 0, 1) := by decide +kernel
theorem dX5_knowing_50 : decode cX5_knowing 50 = .ok (.iload_n 1, 1) := by decide +kernel
theorem dX5_knowing_51 : decode cX5_knowing 51 = .ok (.iload 4, 2) := by decide +kernel
theorem dX5_knowing_53 : decode cX5_knowing 53 = .ok (.invokevirtual 270, 3) := by decide +kernel
theorem dX5_knowing_56 : decode cX5_knowing 56 = .ok (.istore 5, 2) := by decide +kernel
theorem dX5_knowing_58 : decode cX5_knowing 58 = .ok (.iload 5, 2) := by decide +kernel
theorem dX5_knowing_60 : decode cX5_knowing 60 = .ok (.aload_n 0, 1) := by decide +kernel
theorem dX5_knowing_61 : decode cX5_knowing 61 = .ok (.iload_n 1, 1) := by decide +kernel
theorem dX5_knowing_62 : decode cX5_knowing 62 = .ok (.iload 4, 2) := by decide +kernel
theorem dX5_knowing_64 : decode cX5_knowing 64 = .ok (.aload_n 0, 1) := by decide +kernel
theorem dX5_knowing_65 : decode cX5_knowing 65 = .ok (.getfield 39, 3) := by decide +kernel
theorem dX5_knowing_68 : decode cX5_knowing 68 = .ok (.iload_n 1, 1) := by decide +kernel
theorem dX5_knowing_69 : decode cX5_knowing 69 = .ok (.iaload, 1) := by decide +kernel
theorem dX5_knowing_70 : decode cX5_knowing 70 = .ok (.isub, 1) := by decide +kernel
theorem dX5_knowing_71 : decode cX5_knowing 71 = .ok (.invokevirtual 267, 3) := by decide +kernel
theorem dX5_knowing_74 : decode cX5_knowing 74 = .ok (.ixor, 1) := by decide +kernel
theorem dX5_knowing_75 : decode cX5_knowing 75 = .ok (.istore 5, 2) := by decide +kernel
theorem dX5_knowing_77 : decode cX5_knowing 77 = .ok (.iload_n 3, 1) := by decide +kernel
theorem dX5_knowing_78 : decode cX5_knowing 78 = .ok (.iconst 3, 1) := by decide +kernel
theorem dX5_knowing_79 : decode cX5_knowing 79 = .ok (.if_icmp .ne 10, 3) := by decide +kernel
theorem dX5_knowing_82 : decode cX5_knowing 82 = .ok (.iload 5, 2) := by decide +kernel
theorem dX5_knowing_84 : decode cX5_knowing 84 = .ok (.iload_n 1, 1) := by decide +kernel
theorem dX5_knowing_85 : decode cX5_knowing 85 = .ok (.isub, 1) := by decide +kernel
theorem dX5_knowing_86 : decode cX5_knowing 86 = .ok (.goto 5, 3) := by decide +kernel
theorem dX5_knowing_89 : decode cX5_knowing 89 = .ok (.iload 5, 2) := by decide +kernel
theorem dX5_knowing_91 : decode cX5_knowing 91 = .ok (.ireturn, 1) := by decide +kernel
theorem dX5_act_0 : decode cX5_act 0 = .ok (.aload_n 0, 1) := by decide +kernel
theorem dX5_act_1 : decode cX5_act 1 = .ok (.iconst 0, 1) := by decide +kernel
theorem dX5_act_2 : decode cX5_act 2 = .ok (.putfield 260, 3) := by decide +kernel
theorem dX5_act_5 : decode cX5_act 5 = .ok (.aload_n 0, 1) := by decide +kernel
theorem dX5_act_6 : decode cX5_act 6 = .ok (.iload_n 1, 1) := by decide +kernel
theorem dX5_act_7 : decode cX5_act 7 = .ok (.invokevirtual 103, 3) := by decide +kernel
theorem dX5_act_10 : decode cX5_act 10 = .ok (.ifCond .eq 12, 3) := by decide +kernel
theorem dX5_act_13 : decode cX5_act 13 = .ok (.iload_n 2, 1) := by decide +kernel
theorem dX5_act_14 : decode cX5_act 14 = .ok (.ifCond .lt 8, 3) := by decide +kernel
theorem dX5_act_17 : decode cX5_act 17 = .ok (.iload_n 2, 1) := by decide +kernel
theorem dX5_act_18 : decode cX5_act 18 = .ok (.iconst 2, 1) := by decide +kernel
theorem dX5_act_19 : decode cX5_act 19 = .ok (.if_icmp .le 5, 3) := by decide +kernel
theorem dX5_act_22 : decode cX5_act 22 = .ok (.iconst 0, 1) := by decide +kernel
theorem dX5_act_23 : decode cX5_act 23 = .ok (.ireturn, 1) := by decide +kernel
theorem dX5_act_24 : decode cX5_act 24 = .ok (.iload_n 2, 1) := by decide +kernel
theorem dX5_act_25 : decode cX5_act 25 = .ok (.ifCond .ne 12, 3) := by decide +kernel
theorem dX5_act_28 : decode cX5_act 28 = .ok (.aload_n 0, 1) := by decide +kernel
theorem dX5_act_29 : decode cX5_act 29 = .ok (.iload_n 1, 1) := by decide +kernel
theorem dX5_act_30 : decode cX5_act 30 = .ok (.iload_n 3, 1) := by decide +kernel
theorem dX5_act_31 : decode cX5_act 31 = .ok (.invokevirtual 267, 3) := by decide +kernel
theorem dX5_act_34 : decode cX5_act 34 = .ok (.goto 23, 3) := by decide +kernel
theorem dX5_act_37 : decode cX5_act 37 = .ok (.iload_n 2, 1) := by decide +kernel
theorem dX5_act_38 : decode cX5_act 38 = .ok (.iconst 1, 1) := by decide +kernel
theorem dX5_act_39 : decode cX5_act 39 = .ok (.if_icmp .ne 12, 3) := by decide +kernel
theorem dX5_act_42 : decode cX5_act 42 = .ok (.aload_n 0, 1) := by decide +kernel
theorem dX5_act_43 : decode cX5_act 43 = .ok (.iload_n 1, 1) := by decide +kernel
theorem dX5_act_44 : decode cX5_act 44 = .ok (.iload_n 3, 1) := by decide +kernel
theorem dX5_act_45 : decode cX5_act 45 = .ok (.invokevirtual 270, 3) := by decide +kernel
theorem dX5_act_48 : decode cX5_act 48 = .ok (.goto 9, 3) := by decide +kernel
theorem dX5_act_51 : decode cX5_act 51 = .ok (.aload_n 0, 1) := by decide +kernel
theorem dX5_act_52 : decode cX5_act 52 = .ok (.iload_n 1, 1) := by decide +kernel
theorem dX5_act_53 : decode cX5_act 53 = .ok (.iload_n 3, 1) := by decide +kernel
theorem dX5_act_54 : decode cX5_act 54 = .ok (.invokevirtual 273, 3) := by decide +kernel
theorem dX5_act_57 : decode cX5_act 57 = .ok (.ireturn, 1) := by decide +kernel
theorem dX5_trace_0 : decode cX5_trace 0 = .ok (.iload_n 1, 1) := by decide +kernel
theorem dX5_trace_1 : decode cX5_trace 1 = .ok (.ifCond .lt 26, 3) := by decide +kernel
theorem dX5_trace_4 : decode cX5_trace 4 = .ok (.iload_n 1, 1) := by decide +kernel
theorem dX5_trace_5 : decode cX5_trace 5 = .ok (.bipush 20, 2) := by decide +kernel
theorem dX5_trace_7 : decode cX5_trace 7 = .ok (.if_icmp .ge 20, 3) := by decide +kernel
theorem dX5_trace_10 : decode cX5_trace 10 = .ok (.iload_n 1, 1) := by decide +kernel
theorem dX5_trace_11 : decode cX5_trace 11 = .ok (.aload_n 0, 1) := by decide +kernel
theorem dX5_trace_12 : decode cX5_trace 12 = .ok (.getfield 260, 3) := by decide +kernel
theorem dX5_trace_15 : decode cX5_trace 15 = .ok (.if_icmp .ge 12, 3) := by decide +kernel
theorem dX5_trace_18 : decode cX5_trace 18 = .ok (.aload_n 0, 1) := by decide +kernel
theorem dX5_trace_19 : decode cX5_trace 19 = .ok (.getfield 85, 3) := by decide +kernel
theorem dX5_trace_22 : decode cX5_trace 22 = .ok (.iload_n 1, 1) := by decide +kernel
theorem dX5_trace_23 : decode cX5_trace 23 = .ok (.iaload, 1) := by decide +kernel
theorem dX5_trace_24 : decode cX5_trace 24 = .ok (.goto 4, 3) := by decide +kernel
end
section
theorem dX5_trace_27 : decode cX5_trace 27 = .ok (.iconst (-1), 1) := by decide +kernel
theorem dX5_trace_28 : decode cX5_trace 28 = .ok (.ireturn, 1) := by decide +kernel
theorem dX5_image_0 : decode cX5_image 0 = .ok (.aload_n 0, 1) := by decide +kernel
theorem dX5_image_1 : decode cX5_image 1 = .ok (.iconst 1, 1) := by decide +kernel
theorem dX5_image_2 : decode cX5_image 2 = .ok (.putfield 276, 3) := by decide +kernel
theorem dX5_image_5 : decode cX5_image 5 = .ok (.aload_n 0, 1) := by decide +kernel
theorem dX5_image_6 : decode cX5_image 6 = .ok (.aload_n 0, 1) := by decide +kernel
theorem dX5_image_7 : decode cX5_image 7 = .ok (.getfield 79, 3) := by decide +kernel
theorem dX5_image_10 : decode cX5_image 10 = .ok (.iconst 1, 1) := by decide +kernel
theorem dX5_image_11 : decode cX5_image 11 = .ok (.iconst 0, 1) := by decide +kernel
theorem dX5_image_12 : decode cX5_image 12 = .ok (.invokevirtual 211, 3) := by decide +kernel
theorem dX5_image_15 : decode cX5_image 15 = .ok (.aload_n 0, 1) := by decide +kernel
theorem dX5_image_16 : decode cX5_image 16 = .ok (.getfield 118, 3) := by decide +kernel
theorem dX5_image_19 : decode cX5_image 19 = .ok (.ireturn, 1) := by decide +kernel
theorem dX5_restore_0 : decode cX5_restore 0 = .ok (.aload_n 0, 1) := by decide +kernel
theorem dX5_restore_1 : decode cX5_restore 1 = .ok (.getfield 276, 3) := by decide +kernel
theorem dX5_restore_4 : decode cX5_restore 4 = .ok (.ifCond .ne 10, 3) := by decide +kernel
theorem dX5_restore_7 : decode cX5_restore 7 = .ok (.aload_n 0, 1) := by decide +kernel
theorem dX5_restore_8 : decode cX5_restore 8 = .ok (.bipush (-6), 2) := by decide +kernel
theorem dX5_restore_10 : decode cX5_restore 10 = .ok (.invokevirtual 99, 3) := by decide +kernel
theorem dX5_restore_13 : decode cX5_restore 13 = .ok (.ireturn, 1) := by decide +kernel
theorem dX5_restore_14 : decode cX5_restore 14 = .ok (.aload_n 0, 1) := by decide +kernel
theorem dX5_restore_15 : decode cX5_restore 15 = .ok (.aload_n 0, 1) := by decide +kernel
theorem dX5_restore_16 : decode cX5_restore 16 = .ok (.getfield 79, 3) := by decide +kernel
theorem dX5_restore_19 : decode cX5_restore 19 = .ok (.iconst 1, 1) := by decide +kernel
theorem dX5_restore_20 : decode cX5_restore 20 = .ok (.iconst 1, 1) := by decide +kernel
theorem dX5_restore_21 : decode cX5_restore 21 = .ok (.invokevirtual 211, 3) := by decide +kernel
theorem dX5_restore_24 : decode cX5_restore 24 = .ok (.iconst 0, 1) := by decide +kernel
theorem dX5_restore_25 : decode cX5_restore 25 = .ok (.istore_n 1, 1) := by decide +kernel
theorem dX5_restore_26 : decode cX5_restore 26 = .ok (.iload_n 1, 1) := by decide +kernel
theorem dX5_restore_27 : decode cX5_restore 27 = .ok (.bipush 8, 2) := by decide +kernel
theorem dX5_restore_29 : decode cX5_restore 29 = .ok (.if_icmp .ge 39, 3) := by decide +kernel
theorem dX5_restore_32 : decode cX5_restore 32 = .ok (.aload_n 0, 1) := by decide +kernel
theorem dX5_restore_33 : decode cX5_restore 33 = .ok (.getfield 51, 3) := by decide +kernel
theorem dX5_restore_36 : decode cX5_restore 36 = .ok (.iload_n 1, 1) := by decide +kernel
theorem dX5_restore_37 : decode cX5_restore 37 = .ok (.iaload, 1) := by decide +kernel
theorem dX5_restore_38 : decode cX5_restore 38 = .ok (.iconst 2, 1) := by decide +kernel
theorem dX5_restore_39 : decode cX5_restore 39 = .ok (.if_icmp .ne 23, 3) := by decide +kernel
theorem dX5_restore_42 : decode cX5_restore 42 = .ok (.aload_n 0, 1) := by decide +kernel
theorem dX5_restore_43 : decode cX5_restore 43 = .ok (.getfield 60, 3) := by decide +kernel
theorem dX5_restore_46 : decode cX5_restore 46 = .ok (.iload_n 1, 1) := by decide +kernel
theorem dX5_restore_47 : decode cX5_restore 47 = .ok (.iaload, 1) := by decide +kernel
theorem dX5_restore_48 : decode cX5_restore 48 = .ok (.aload_n 0, 1) := by decide +kernel
theorem dX5_restore_49 : decode cX5_restore 49 = .ok (.getfield 92, 3) := by decide +kernel
theorem dX5_restore_52 : decode cX5_restore 52 = .ok (.if_icmp .lt 10, 3) := by decide +kernel
theorem dX5_restore_55 : decode cX5_restore 55 = .ok (.aload_n 0, 1) := by decide +kernel
theorem dX5_restore_56 : decode cX5_restore 56 = .ok (.getfield 51, 3) := by decide +kernel
theorem dX5_restore_59 : decode cX5_restore 59 = .ok (.iload_n 1, 1) := by decide +kernel
theorem dX5_restore_60 : decode cX5_restore 60 = .ok (.iconst 0, 1) := by decide +kernel
theorem dX5_restore_61 : decode cX5_restore 61 = .ok (.iastore, 1) := by decide +kernel
theorem dX5_restore_62 : decode cX5_restore 62 = .ok (.iinc 1 1, 3) := by decide +kernel
theorem dX5_restore_65 : decode cX5_restore 65 = .ok (.goto (-39), 3) := by decide +kernel
theorem dX5_restore_68 : decode cX5_restore 68 = .ok (.aload_n 0, 1) := by decide +kernel
theorem dX5_restore_69 : decode cX5_restore 69 = .ok (.getfield 118, 3) := by decide +kernel
theorem dX5_restore_72 : decode cX5_restore 72 = .ok (.ireturn, 1) := by decide +kernel
theorem dX5_status_0 : decode cX5_status 0 = .ok (.iload_n 1, 1) := by decide +kernel
theorem dX5_status_1 : decode cX5_status 1 = .ok (.bipush 11, 2) := by decide +kernel
theorem dX5_status_3 : decode cX5_status 3 = .ok (.if_icmp .lt 19, 3) := by decide +kernel
theorem dX5_status_6 : decode cX5_status 6 = .ok (.iload_n 1, 1) := by decide +kernel
theorem dX5_status_7 : decode cX5_status 7 = .ok (.bipush 17, 2) := by decide +kernel
theorem dX5_status_9 : decode cX5_status 9 = .ok (.if_icmp .gt 13, 3) := by decide +kernel
theorem dX5_status_12 : decode cX5_status 12 = .ok (.aload_n 0, 1) := by decide +kernel
theorem dX5_status_13 : decode cX5_status 13 = .ok (.getfield 29, 3) := by decide +kernel
theorem dX5_status_16 : decode cX5_status 16 = .ok (.iload_n 1, 1) := by decide +kernel
theorem dX5_status_17 : decode cX5_status 17 = .ok (.bipush 10, 2) := by decide +kernel
theorem dX5_status_19 : decode cX5_status 19 = .ok (.isub, 1) := by decide +kernel
theorem dX5_status_20 : decode cX5_status 20 = .ok (.iaload, 1) := by decide +kernel
theorem dX5_status_21 : decode cX5_status 21 = .ok (.ireturn, 1) := by decide +kernel
theorem dX5_status_22 : decode cX5_status 22 = .ok (.iload_n 1, 1) := by decide +kernel
theorem dX5_status_23 : decode cX5_status 23 = .ok (.tableswitch 98 0 8 #[49, 54, 59, 64, 73, 78, 83, 88, 93], 49) := by decide +kernel
theorem dX5_status_72 : decode cX5_status 72 = .ok (.aload_n 0, 1) := by decide +kernel
theorem dX5_status_73 : decode cX5_status 73 = .ok (.getfield 89, 3) := by decide +kernel
theorem dX5_status_76 : decode cX5_status 76 = .ok (.ireturn, 1) := by decide +kernel
theorem dX5_status_77 : decode cX5_status 77 = .ok (.aload_n 0, 1) := by decide +kernel
theorem dX5_status_78 : decode cX5_status 78 = .ok (.getfield 92, 3) := by decide +kernel
theorem dX5_status_81 : decode cX5_status 81 = .ok (.ireturn, 1) := by decide +kernel
theorem dX5_status_82 : decode cX5_status 82 = .ok (.aload_n 0, 1) := by decide +kernel
theorem dX5_status_83 : decode cX5_status 83 = .ok (.getfield 118, 3) := by decide +kernel
theorem dX5_status_86 : decode cX5_status 86 = .ok (.ireturn, 1) := by decide +kernel
theorem dX5_status_87 : decode cX5_status 87 = .ok (.aload_n 0, 1) := by decide +kernel
theorem dX5_status_88 : decode cX5_status 88 = .ok (.aload_n 0, 1) := by decide +kernel
theorem dX5_status_89 : decode cX5_status 89 = .ok (.getfield 25, 3) := by decide +kernel
theorem dX5_status_92 : decode cX5_status 92 = .ok (.invokevirtual 146, 3) := by decide +kernel
theorem dX5_status_95 : decode cX5_status 95 = .ok (.ireturn, 1) := by decide +kernel
theorem dX5_status_96 : decode cX5_status 96 = .ok (.aload_n 0, 1) := by decide +kernel
theorem dX5_status_97 : decode cX5_status 97 = .ok (.getfield 7, 3) := by decide +kernel
theorem dX5_status_100 : decode cX5_status 100 = .ok (.ireturn, 1) := by decide +kernel
theorem dX5_status_101 : decode cX5_status 101 = .ok (.aload_n 0, 1) := by decide +kernel
theorem dX5_status_102 : decode cX5_status 102 = .ok (.getfield 13, 3) := by decide +kernel
theorem dX5_status_105 : decode cX5_status 105 = .ok (.ireturn, 1) := by decide +kernel
theorem dX5_status_106 : decode cX5_status 106 = .ok (.aload_n 0, 1) := by decide +kernel
theorem dX5_status_107 : decode cX5_status 107 = .ok (.getfield 205, 3) := by decide +kernel
theorem dX5_status_110 : decode cX5_status 110 = .ok (.ireturn, 1) := by decide +kernel
theorem dX5_status_111 : decode cX5_status 111 = .ok (.aload_n 0, 1) := by decide +kernel
theorem dX5_status_112 : decode cX5_status 112 = .ok (.getfield 16, 3) := by decide +kernel
theorem dX5_status_115 : decode cX5_status 115 = .ok (.ireturn, 1) := by decide +kernel
theorem dX5_status_116 : decode cX5_status 116 = .ok (.aload_n 0, 1) := by decide +kernel
theorem dX5_status_117 : decode cX5_status 117 = .ok (.getfield 260, 3) := by decide +kernel
theorem dX5_status_120 : decode cX5_status 120 = .ok (.ireturn, 1) := by decide +kernel
theorem dX5_status_121 : decode cX5_status 121 = .ok (.iconst (-1), 1) := by decide +kernel
theorem dX5_status_122 : decode cX5_status 122 = .ok (.ireturn, 1) := by decide +kernel
theorem dJ6_bitCount_0f7a4_0 : decode cJ6_bitCount_0f7a4 0 = .ok (.iload_n 0, 1) := by decide +kernel
theorem dJ6_bitCount_0f7a4_1 : decode cJ6_bitCount_0f7a4 1 = .ok (.iload_n 0, 1) := by decide +kernel
theorem dJ6_bitCount_0f7a4_2 : decode cJ6_bitCount_0f7a4 2 = .ok (.iconst 1, 1) := by decide +kernel
theorem dJ6_bitCount_0f7a4_3 : decode cJ6_bitCount_0f7a4 3 = .ok (.iushr, 1) := by decide +kernel
theorem dJ6_bitCount_0f7a4_4 : decode cJ6_bitCount_0f7a4 4 = .ok (.ldc_w 265, 3) := by decide +kernel
theorem dJ6_bitCount_0f7a4_7 : decode cJ6_bitCount_0f7a4 7 = .ok (.iand, 1) := by decide +kernel
theorem dJ6_bitCount_0f7a4_8 : decode cJ6_bitCount_0f7a4 8 = .ok (.isub, 1) := by decide +kernel
theorem dJ6_bitCount_0f7a4_9 : decode cJ6_bitCount_0f7a4 9 = .ok (.istore_n 0, 1) := by decide +kernel
theorem dJ6_bitCount_0f7a4_10 : decode cJ6_bitCount_0f7a4 10 = .ok (.iload_n 0, 1) := by decide +kernel
theorem dJ6_bitCount_0f7a4_11 : decode cJ6_bitCount_0f7a4 11 = .ok (.ldc_w 266, 3) := by decide +kernel
theorem dJ6_bitCount_0f7a4_14 : decode cJ6_bitCount_0f7a4 14 = .ok (.iand, 1) := by decide +kernel
theorem dJ6_bitCount_0f7a4_15 : decode cJ6_bitCount_0f7a4 15 = .ok (.iload_n 0, 1) := by decide +kernel
theorem dJ6_bitCount_0f7a4_16 : decode cJ6_bitCount_0f7a4 16 = .ok (.iconst 2, 1) := by decide +kernel
theorem dJ6_bitCount_0f7a4_17 : decode cJ6_bitCount_0f7a4 17 = .ok (.iushr, 1) := by decide +kernel
theorem dJ6_bitCount_0f7a4_18 : decode cJ6_bitCount_0f7a4 18 = .ok (.ldc_w 266, 3) := by decide +kernel
theorem dJ6_bitCount_0f7a4_21 : decode cJ6_bitCount_0f7a4 21 = .ok (.iand, 1) := by decide +kernel
theorem dJ6_bitCount_0f7a4_22 : decode cJ6_bitCount_0f7a4 22 = .ok (.iadd, 1) := by decide +kernel
theorem dJ6_bitCount_0f7a4_23 : decode cJ6_bitCount_0f7a4 23 = .ok (.istore_n 0, 1) := by decide +kernel
theorem dJ6_bitCount_0f7a4_24 : decode cJ6_bitCount_0f7a4 24 = .ok (.iload_n 0, 1) := by decide +kernel
theorem dJ6_bitCount_0f7a4_25 : decode cJ6_bitCount_0f7a4 25 = .ok (.iload_n 0, 1) := by decide +kernel
theorem dJ6_bitCount_0f7a4_26 : decode cJ6_bitCount_0f7a4 26 = .ok (.iconst 4, 1) := by decide +kernel
theorem dJ6_bitCount_0f7a4_27 : decode cJ6_bitCount_0f7a4 27 = .ok (.iushr, 1) := by decide +kernel
theorem dJ6_bitCount_0f7a4_28 : decode cJ6_bitCount_0f7a4 28 = .ok (.iadd, 1) := by decide +kernel
theorem dJ6_bitCount_0f7a4_29 : decode cJ6_bitCount_0f7a4 29 = .ok (.ldc_w 267, 3) := by decide +kernel
theorem dJ6_bitCount_0f7a4_32 : decode cJ6_bitCount_0f7a4 32 = .ok (.iand, 1) := by decide +kernel
theorem dJ6_bitCount_0f7a4_33 : decode cJ6_bitCount_0f7a4 33 = .ok (.istore_n 0, 1) := by decide +kernel
theorem dJ6_bitCount_0f7a4_34 : decode cJ6_bitCount_0f7a4 34 = .ok (.iload_n 0, 1) := by decide +kernel
theorem dJ6_bitCount_0f7a4_35 : decode cJ6_bitCount_0f7a4 35 = .ok (.iload_n 0, 1) := by decide +kernel
theorem dJ6_bitCount_0f7a4_36 : decode cJ6_bitCount_0f7a4 36 = .ok (.bipush 8, 2) := by decide +kernel
theorem dJ6_bitCount_0f7a4_38 : decode cJ6_bitCount_0f7a4 38 = .ok (.iushr, 1) := by decide +kernel
theorem dJ6_bitCount_0f7a4_39 : decode cJ6_bitCount_0f7a4 39 = .ok (.iadd, 1) := by decide +kernel
theorem dJ6_bitCount_0f7a4_40 : decode cJ6_bitCount_0f7a4 40 = .ok (.istore_n 0, 1) := by decide +kernel
theorem dJ6_bitCount_0f7a4_41 : decode cJ6_bitCount_0f7a4 41 = .ok (.iload_n 0, 1) := by decide +kernel
theorem dJ6_bitCount_0f7a4_42 : decode cJ6_bitCount_0f7a4 42 = .ok (.iload_n 0, 1) := by decide +kernel
theorem dJ6_bitCount_0f7a4_43 : decode cJ6_bitCount_0f7a4 43 = .ok (.bipush 16, 2) := by decide +kernel
theorem dJ6_bitCount_0f7a4_45 : decode cJ6_bitCount_0f7a4 45 = .ok (.iushr, 1) := by decide +kernel
theorem dJ6_bitCount_0f7a4_46 : decode cJ6_bitCount_0f7a4 46 = .ok (.iadd, 1) := by decide +kernel
theorem dJ6_bitCount_0f7a4_47 : decode cJ6_bitCount_0f7a4 47 = .ok (.istore_n 0, 1) := by decide +kernel
theorem dJ6_bitCount_0f7a4_48 : decode cJ6_bitCount_0f7a4 48 = .ok (.iload_n 0, 1) := by decide +kernel
theorem dJ6_bitCount_0f7a4_49 : decode cJ6_bitCount_0f7a4 49 = .ok (.bipush 63, 2) := by decide +kernel
theorem dJ6_bitCount_0f7a4_51 : decode cJ6_bitCount_0f7a4 51 = .ok (.iand, 1) := by decide +kernel
theorem dJ6_bitCount_0f7a4_52 : decode cJ6_bitCount_0f7a4 52 = .ok (.ireturn, 1) := by decide +kernel
theorem dJ13_bitCount_95d88_0 : decode cJ13_bitCount_95d88 0 = .ok (.lload_n 0, 1) := by decide +kernel
theorem dJ13_bitCount_95d88_1 : decode cJ13_bitCount_95d88 1 = .ok (.lload_n 0, 1) := by decide +kernel
theorem dJ13_bitCount_95d88_2 : decode cJ13_bitCount_95d88 2 = .ok (.iconst 1, 1) := by decide +kernel
theorem dJ13_bitCount_95d88_3 : decode cJ13_bitCount_95d88 3 = .ok (.lushr, 1) := by decide +kernel
theorem dJ13_bitCount_95d88_4 : decode cJ13_bitCount_95d88 4 = .ok (.ldc2_w 314, 3) := by decide +kernel
theorem dJ13_bitCount_95d88_7 : decode cJ13_bitCount_95d88 7 = .ok (.land, 1) := by decide +kernel
theorem dJ13_bitCount_95d88_8 : decode cJ13_bitCount_95d88 8 = .ok (.lsub, 1) := by decide +kernel
theorem dJ13_bitCount_95d88_9 : decode cJ13_bitCount_95d88 9 = .ok (.lstore_n 0, 1) := by decide +kernel
theorem dJ13_bitCount_95d88_10 : decode cJ13_bitCount_95d88 10 = .ok (.lload_n 0, 1) := by decide +kernel
theorem dJ13_bitCount_95d88_11 : decode cJ13_bitCount_95d88 11 = .ok (.ldc2_w 316, 3) := by decide +kernel
theorem dJ13_bitCount_95d88_14 : decode cJ13_bitCount_95d88 14 = .ok (.land, 1) := by decide +kernel
theorem dJ13_bitCount_95d88_15 : decode cJ13_bitCount_95d88 15 = .ok (.lload_n 0, 1) := by decide +kernel
theorem dJ13_bitCount_95d88_16 : decode cJ13_bitCount_95d88 16 = .ok (.iconst 2, 1) := by decide +kernel
theorem dJ13_bitCount_95d88_17 : decode cJ13_bitCount_95d88 17 = .ok (.lushr, 1) := by decide +kernel
theorem dJ13_bitCount_95d88_18 : decode cJ13_bitCount_95d88 18 = .ok (.ldc2_w 316, 3) := by decide +kernel
theorem dJ13_bitCount_95d88_21 : decode cJ13_bitCount_95d88 21 = .ok (.land, 1) := by decide +kernel
theorem dJ13_bitCount_95d88_22 : decode cJ13_bitCount_95d88 22 = .ok (.ladd, 1) := by decide +kernel
theorem dJ13_bitCount_95d88_23 : decode cJ13_bitCount_95d88 23 = .ok (.lstore_n 0, 1) := by decide +kernel
theorem dJ13_bitCount_95d88_24 : decode cJ13_bitCount_95d88 24 = .ok (.lload_n 0, 1) := by decide +kernel
theorem dJ13_bitCount_95d88_25 : decode cJ13_bitCount_95d88 25 = .ok (.lload_n 0, 1) := by decide +kernel
theorem dJ13_bitCount_95d88_26 : decode cJ13_bitCount_95d88 26 = .ok (.iconst 4, 1) := by decide +kernel
theorem dJ13_bitCount_95d88_27 : decode cJ13_bitCount_95d88 27 = .ok (.lushr, 1) := by decide +kernel
theorem dJ13_bitCount_95d88_28 : decode cJ13_bitCount_95d88 28 = .ok (.ladd, 1) := by decide +kernel
theorem dJ13_bitCount_95d88_29 : decode cJ13_bitCount_95d88 29 = .ok (.ldc2_w 318, 3) := by decide +kernel
theorem dJ13_bitCount_95d88_32 : decode cJ13_bitCount_95d88 32 = .ok (.land, 1) := by decide +kernel
theorem dJ13_bitCount_95d88_33 : decode cJ13_bitCount_95d88 33 = .ok (.lstore_n 0, 1) := by decide +kernel
theorem dJ13_bitCount_95d88_34 : decode cJ13_bitCount_95d88 34 = .ok (.lload_n 0, 1) := by decide +kernel
theorem dJ13_bitCount_95d88_35 : decode cJ13_bitCount_95d88 35 = .ok (.lload_n 0, 1) := by decide +kernel
theorem dJ13_bitCount_95d88_36 : decode cJ13_bitCount_95d88 36 = .ok (.bipush 8, 2) := by decide +kernel
theorem dJ13_bitCount_95d88_38 : decode cJ13_bitCount_95d88 38 = .ok (.lushr, 1) := by decide +kernel
theorem dJ13_bitCount_95d88_39 : decode cJ13_bitCount_95d88 39 = .ok (.ladd, 1) := by decide +kernel
theorem dJ13_bitCount_95d88_40 : decode cJ13_bitCount_95d88 40 = .ok (.lstore_n 0, 1) := by decide +kernel
theorem dJ13_bitCount_95d88_41 : decode cJ13_bitCount_95d88 41 = .ok (.lload_n 0, 1) := by decide +kernel
theorem dJ13_bitCount_95d88_42 : decode cJ13_bitCount_95d88 42 = .ok (.lload_n 0, 1) := by decide +kernel
theorem dJ13_bitCount_95d88_43 : decode cJ13_bitCount_95d88 43 = .ok (.bipush 16, 2) := by decide +kernel
theorem dJ13_bitCount_95d88_45 : decode cJ13_bitCount_95d88 45 = .ok (.lushr, 1) := by decide +kernel
theorem dJ13_bitCount_95d88_46 : decode cJ13_bitCount_95d88 46 = .ok (.ladd, 1) := by decide +kernel
theorem dJ13_bitCount_95d88_47 : decode cJ13_bitCount_95d88 47 = .ok (.lstore_n 0, 1) := by decide +kernel
theorem dJ13_bitCount_95d88_48 : decode cJ13_bitCount_95d88 48 = .ok (.lload_n 0, 1) := by decide +kernel
theorem dJ13_bitCount_95d88_49 : decode cJ13_bitCount_95d88 49 = .ok (.lload_n 0, 1) := by decide +kernel
theorem dJ13_bitCount_95d88_50 : decode cJ13_bitCount_95d88 50 = .ok (.bipush 32, 2) := by decide +kernel
theorem dJ13_bitCount_95d88_52 : decode cJ13_bitCount_95d88 52 = .ok (.lushr, 1) := by decide +kernel
theorem dJ13_bitCount_95d88_53 : decode cJ13_bitCount_95d88 53 = .ok (.ladd, 1) := by decide +kernel
theorem dJ13_bitCount_95d88_54 : decode cJ13_bitCount_95d88 54 = .ok (.lstore_n 0, 1) := by decide +kernel
theorem dJ13_bitCount_95d88_55 : decode cJ13_bitCount_95d88 55 = .ok (.lload_n 0, 1) := by decide +kernel
theorem dJ13_bitCount_95d88_56 : decode cJ13_bitCount_95d88 56 = .ok (.l2i, 1) := by decide +kernel
theorem dJ13_bitCount_95d88_57 : decode cJ13_bitCount_95d88 57 = .ok (.bipush 127, 2) := by decide +kernel
theorem dJ13_bitCount_95d88_59 : decode cJ13_bitCount_95d88 59 = .ok (.iand, 1) := by decide +kernel
theorem dJ13_bitCount_95d88_60 : decode cJ13_bitCount_95d88 60 = .ok (.ireturn, 1) := by decide +kernel
theorem dJ9_max_7cf53_0 : decode cJ9_max_7cf53 0 = .ok (.iload_n 0, 1) := by decide +kernel
theorem dJ9_max_7cf53_1 : decode cJ9_max_7cf53 1 = .ok (.iload_n 1, 1) := by decide +kernel
theorem dJ9_max_7cf53_2 : decode cJ9_max_7cf53 2 = .ok (.if_icmp .lt 7, 3) := by decide +kernel
theorem dJ9_max_7cf53_5 : decode cJ9_max_7cf53 5 = .ok (.iload_n 0, 1) := by decide +kernel
theorem dJ9_max_7cf53_6 : decode cJ9_max_7cf53 6 = .ok (.goto 4, 3) := by decide +kernel
theorem dJ9_max_7cf53_9 : decode cJ9_max_7cf53 9 = .ok (.iload_n 1, 1) := by decide +kernel
theorem dJ9_max_7cf53_10 : decode cJ9_max_7cf53 10 = .ok (.ireturn, 1) := by decide +kernel
theorem dJ9_min_7cf53_0 : decode cJ9_min_7cf53 0 = .ok (.iload_n 0, 1) := by decide +kernel
theorem dJ9_min_7cf53_1 : decode cJ9_min_7cf53 1 = .ok (.iload_n 1, 1) := by decide +kernel
theorem dJ9_min_7cf53_2 : decode cJ9_min_7cf53 2 = .ok (.if_icmp .gt 7, 3) := by decide +kernel
theorem dJ9_min_7cf53_5 : decode cJ9_min_7cf53 5 = .ok (.iload_n 0, 1) := by decide +kernel
theorem dJ9_min_7cf53_6 : decode cJ9_min_7cf53 6 = .ok (.goto 4, 3) := by decide +kernel
theorem dJ9_min_7cf53_9 : decode cJ9_min_7cf53 9 = .ok (.iload_n 1, 1) := by decide +kernel
theorem dJ9_min_7cf53_10 : decode cJ9_min_7cf53 10 = .ok (.ireturn, 1) := by decide +kernel
theorem dJ0_length_8abf5_0 : decode cJ0_length_8abf5 0 = .ok (.aload_n 0, 1) := by decide +kernel
theorem dJ0_length_8abf5_1 : decode cJ0_length_8abf5 1 = .ok (.getfield 9, 3) := by decide +kernel
theorem dJ0_length_8abf5_4 : decode cJ0_length_8abf5 4 = .ok (.arraylength, 1) := by decide +kernel
theorem dJ0_length_8abf5_5 : decode cJ0_length_8abf5 5 = .ok (.aload_n 0, 1) := by decide +kernel
theorem dJ0_length_8abf5_6 : decode cJ0_length_8abf5 6 = .ok (.invokevirtual 335, 3) := by decide +kernel
theorem dJ0_length_8abf5_9 : decode cJ0_length_8abf5 9 = .ok (.ishr, 1) := by decide +kernel
theorem dJ0_length_8abf5_10 : decode cJ0_length_8abf5 10 = .ok (.ireturn, 1) := by decide +kernel
theorem dJ0_charAt_5068e_0 : decode cJ0_charAt_5068e 0 = .ok (.aload_n 0, 1) := by decide +kernel
theorem dJ0_charAt_5068e_1 : decode cJ0_charAt_5068e 1 = .ok (.invokevirtual 492, 3) := by decide +kernel
theorem dJ0_charAt_5068e_4 : decode cJ0_charAt_5068e 4 = .ok (.ifCond .eq 12, 3) := by decide +kernel
theorem dJ0_charAt_5068e_7 : decode cJ0_charAt_5068e 7 = .ok (.aload_n 0, 1) := by decide +kernel
theorem dJ0_charAt_5068e_8 : decode cJ0_charAt_5068e 8 = .ok (.getfield 9, 3) := by decide +kernel
theorem dJ0_charAt_5068e_11 : decode cJ0_charAt_5068e 11 = .ok (.iload_n 1, 1) := by decide +kernel
theorem dJ0_charAt_5068e_12 : decode cJ0_charAt_5068e 12 = .ok (.invokestatic 495, 3) := by decide +kernel
theorem dJ0_charAt_5068e_15 : decode cJ0_charAt_5068e 15 = .ok (.ireturn, 1) := by decide +kernel
theorem dJ0_charAt_5068e_16 : decode cJ0_charAt_5068e 16 = .ok (.aload_n 0, 1) := by decide +kernel
theorem dJ0_charAt_5068e_17 : decode cJ0_charAt_5068e 17 = .ok (.getfield 9, 3) := by decide +kernel
theorem dJ0_charAt_5068e_20 : decode cJ0_charAt_5068e 20 = .ok (.iload_n 1, 1) := by decide +kernel
theorem dJ0_charAt_5068e_21 : decode cJ0_charAt_5068e 21 = .ok (.invokestatic 498, 3) := by decide +kernel
theorem dJ0_charAt_5068e_24 : decode cJ0_charAt_5068e 24 = .ok (.ireturn, 1) := by decide +kernel
theorem dJ0_coder_7d493_0 : decode cJ0_coder_7d493 0 = .ok (.getstatic 38, 3) := by decide +kernel
theorem dJ0_coder_7d493_3 : decode cJ0_coder_7d493 3 = .ok (.ifCond .eq 10, 3) := by decide +kernel
theorem dJ0_coder_7d493_6 : decode cJ0_coder_7d493 6 = .ok (.aload_n 0, 1) := by decide +kernel
theorem dJ0_coder_7d493_7 : decode cJ0_coder_7d493 7 = .ok (.getfield 15, 3) := by decide +kernel
theorem dJ0_coder_7d493_10 : decode cJ0_coder_7d493 10 = .ok (.goto 4, 3) := by decide +kernel
theorem dJ0_coder_7d493_13 : decode cJ0_coder_7d493 13 = .ok (.iconst 1, 1) := by decide +kernel
theorem dJ0_coder_7d493_14 : decode cJ0_coder_7d493 14 = .ok (.ireturn, 1) := by decide +kernel
theorem dJ0_isLatin1_aae02_0 : decode cJ0_isLatin1_aae02 0 = .ok (.getstatic 38, 3) := by decide +kernel
theorem dJ0_isLatin1_aae02_3 : decode cJ0_isLatin1_aae02 3 = .ok (.ifCond .eq 14, 3) := by decide +kernel
theorem dJ0_isLatin1_aae02_6 : decode cJ0_isLatin1_aae02 6 = .ok (.aload_n 0, 1) := by decide +kernel
theorem dJ0_isLatin1_aae02_7 : decode cJ0_isLatin1_aae02 7 = .ok (.getfield 15, 3) := by decide +kernel
theorem dJ0_isLatin1_aae02_10 : decode cJ0_isLatin1_aae02 10 = .ok (.ifCond .ne 7, 3) := by decide +kernel
theorem dJ0_isLatin1_aae02_13 : decode cJ0_isLatin1_aae02 13 = .ok (.iconst 1, 1) := by decide +kernel
theorem dJ0_isLatin1_aae02_14 : decode cJ0_isLatin1_aae02 14 = .ok (.goto 4, 3) := by decide +kernel
theorem dJ0_isLatin1_aae02_17 : decode cJ0_isLatin1_aae02 17 = .ok (.iconst 0, 1) := by decide +kernel
theorem dJ0_isLatin1_aae02_18 : decode cJ0_isLatin1_aae02 18 = .ok (.ireturn, 1) := by decide +kernel
theorem dJ0_checkIndex_df160_0 : decode cJ0_checkIndex_df160 0 = .ok (.iload_n 0, 1) := by decide +kernel
theorem dJ0_checkIndex_df160_1 : decode cJ0_checkIndex_df160 1 = .ok (.iload_n 1, 1) := by decide +kernel
theorem dJ0_checkIndex_df160_2 : decode cJ0_checkIndex_df160 2 = .ok (.getstatic 1053, 3) := by decide +kernel
theorem dJ0_checkIndex_df160_5 : decode cJ0_checkIndex_df160 5 = .ok (.invokestatic 1059, 3) := by decide +kernel
theorem dJ0_checkIndex_df160_8 : decode cJ0_checkIndex_df160 8 = .ok (.pop, 1) := by decide +kernel
theorem dJ0_checkIndex_df160_9 : decode cJ0_checkIndex_df160 9 = .ok (.return_, 1) := by decide +kernel
theorem dJ1_charAt_3b067_0 : decode cJ1_charAt_3b067 0 = .ok (.iload_n 1, 1) := by decide +kernel
theorem dJ1_charAt_3b067_1 : decode cJ1_charAt_3b067 1 = .ok (.aload_n 0, 1) := by decide +kernel
theorem dJ1_charAt_3b067_2 : decode cJ1_charAt_3b067 2 = .ok (.arraylength, 1) := by decide +kernel
theorem dJ1_charAt_3b067_3 : decode cJ1_charAt_3b067 3 = .ok (.invokestatic 9, 3) := by decide +kernel
theorem dJ1_charAt_3b067_6 : decode cJ1_charAt_3b067 6 = .ok (.aload_n 0, 1) := by decide +kernel
theorem dJ1_charAt_3b067_7 : decode cJ1_charAt_3b067 7 = .ok (.iload_n 1, 1) := by decide +kernel
theorem dJ1_charAt_3b067_8 : decode cJ1_charAt_3b067 8 = .ok (.baload, 1) := by decide +kernel
theorem dJ1_charAt_3b067_9 : decode cJ1_charAt_3b067 9 = .ok (.sipush 255, 3) := by decide +kernel
theorem dJ1_charAt_3b067_12 : decode cJ1_charAt_3b067 12 = .ok (.iand, 1) := by decide +kernel
theorem dJ1_charAt_3b067_13 : decode cJ1_charAt_3b067 13 = .ok (.i2c, 1) := by decide +kernel
theorem dJ1_charAt_3b067_14 : decode cJ1_charAt_3b067 14 = .ok (.ireturn, 1) := by decide +kernel
theorem dJ2_getChar_3b067_0 : decode cJ2_getChar_3b067 0 = .ok (.getstatic 44, 3) := by decide +kernel
theorem dJ2_getChar_3b067_3 : decode cJ2_getChar_3b067 3 = .ok (.ifCond .ne 25, 3) := by decide +kernel
theorem dJ2_getChar_3b067_6 : decode cJ2_getChar_3b067 6 = .ok (.iload_n 1, 1) := by decide +kernel
theorem dJ2_getChar_3b067_7 : decode cJ2_getChar_3b067 7 = .ok (.ifCond .lt 11, 3) := by decide +kernel
theorem dJ2_getChar_3b067_10 : decode cJ2_getChar_3b067 10 = .ok (.iload_n 1, 1) := by decide +kernel
theorem dJ2_getChar_3b067_11 : decode cJ2_getChar_3b067 11 = .ok (.aload_n 0, 1) := by decide +kernel
theorem dJ2_getChar_3b067_12 : decode cJ2_getChar_3b067 12 = .ok (.invokestatic 48, 3) := by decide +kernel
theorem dJ2_getChar_3b067_15 : decode cJ2_getChar_3b067 15 = .ok (.if_icmp .lt 13, 3) := by decide +kernel
theorem dJ2_getChar_3b067_18 : decode cJ2_getChar_3b067 18 = .ok (.new 52, 3) := by decide +kernel
theorem dJ2_getChar_3b067_21 : decode cJ2_getChar_3b067 21 = .ok (.dup, 1) := by decide +kernel
theorem dJ2_getChar_3b067_22 : decode cJ2_getChar_3b067 22 = .ok (.ldc 54, 2) := by decide +kernel
theorem dJ2_getChar_3b067_24 : decode cJ2_getChar_3b067 24 = .ok (.invokespecial 56, 3) := by decide +kernel
theorem dJ2_getChar_3b067_27 : decode cJ2_getChar_3b067 27 = .ok (.athrow, 1) := by decide +kernel
theorem dJ2_getChar_3b067_28 : decode cJ2_getChar_3b067 28 = .ok (.iload_n 1, 1) := by decide +kernel
theorem dJ2_getChar_3b067_29 : decode cJ2_getChar_3b067 29 = .ok (.iconst 1, 1) := by decide +kernel
theorem dJ2_getChar_3b067_30 : decode cJ2_getChar_3b067 30 = .ok (.ishl, 1) := by decide +kernel
theorem dJ2_getChar_3b067_31 : decode cJ2_getChar_3b067 31 = .ok (.istore_n 1, 1) := by decide +kernel
theorem dJ2_getChar_3b067_32 : decode cJ2_getChar_3b067 32 = .ok (.aload_n 0, 1) := by decide +kernel
theorem dJ2_getChar_3b067_33 : decode cJ2_getChar_3b067 33 = .ok (.iload_n 1, 1) := by decide +kernel
theorem dJ2_getChar_3b067_34 : decode cJ2_getChar_3b067 34 = .ok (.iinc 1 1, 3) := by decide +kernel
theorem dJ2_getChar_3b067_37 : decode cJ2_getChar_3b067 37 = .ok (.baload, 1) := by decide +kernel
theorem dJ2_getChar_3b067_38 : decode cJ2_getChar_3b067 38 = .ok (.sipush 255, 3) := by decide +kernel
theorem dJ2_getChar_3b067_41 : decode cJ2_getChar_3b067 41 = .ok (.iand, 1) := by decide +kernel
theorem dJ2_getChar_3b067_42 : decode cJ2_getChar_3b067 42 = .ok (.getstatic 59, 3) := by decide +kernel
theorem dJ2_getChar_3b067_45 : decode cJ2_getChar_3b067 45 = .ok (.ishl, 1) := by decide +kernel
theorem dJ2_getChar_3b067_46 : decode cJ2_getChar_3b067 46 = .ok (.aload_n 0, 1) := by decide +kernel
theorem dJ2_getChar_3b067_47 : decode cJ2_getChar_3b067 47 = .ok (.iload_n 1, 1) := by decide +kernel
theorem dJ2_getChar_3b067_48 : decode cJ2_getChar_3b067 48 = .ok (.baload, 1) := by decide +kernel
theorem dJ2_getChar_3b067_49 : decode cJ2_getChar_3b067 49 = .ok (.sipush 255, 3) := by decide +kernel
theorem dJ2_getChar_3b067_52 : decode cJ2_getChar_3b067 52 = .ok (.iand, 1) := by decide +kernel
theorem dJ2_getChar_3b067_53 : decode cJ2_getChar_3b067 53 = .ok (.getstatic 63, 3) := by decide +kernel
theorem dJ2_getChar_3b067_56 : decode cJ2_getChar_3b067 56 = .ok (.ishl, 1) := by decide +kernel
theorem dJ2_getChar_3b067_57 : decode cJ2_getChar_3b067 57 = .ok (.ior, 1) := by decide +kernel
theorem dJ2_getChar_3b067_58 : decode cJ2_getChar_3b067 58 = .ok (.i2c, 1) := by decide +kernel
theorem dJ2_getChar_3b067_59 : decode cJ2_getChar_3b067 59 = .ok (.ireturn, 1) := by decide +kernel
theorem dJ2_length_9d52b_0 : decode cJ2_length_9d52b 0 = .ok (.aload_n 0, 1) := by decide +kernel
theorem dJ2_length_9d52b_1 : decode cJ2_length_9d52b 1 = .ok (.arraylength, 1) := by decide +kernel
theorem dJ2_length_9d52b_2 : decode cJ2_length_9d52b 2 = .ok (.iconst 1, 1) := by decide +kernel
theorem dJ2_length_9d52b_3 : decode cJ2_length_9d52b 3 = .ok (.ishr, 1) := by decide +kernel
theorem dJ2_length_9d52b_4 : decode cJ2_length_9d52b 4 = .ok (.ireturn, 1) := by decide +kernel
theorem dJ2_charAt_3b067_0 : decode cJ2_charAt_3b067 0 = .ok (.iload_n 1, 1) := by decide +kernel
theorem dJ2_charAt_3b067_1 : decode cJ2_charAt_3b067 1 = .ok (.aload_n 0, 1) := by decide +kernel
theorem dJ2_charAt_3b067_2 : decode cJ2_charAt_3b067 2 = .ok (.invokestatic 67, 3) := by decide +kernel
theorem dJ2_charAt_3b067_5 : decode cJ2_charAt_3b067 5 = .ok (.aload_n 0, 1) := by decide +kernel
theorem dJ2_charAt_3b067_6 : decode cJ2_charAt_3b067 6 = .ok (.iload_n 1, 1) := by decide +kernel
theorem dJ2_charAt_3b067_7 : decode cJ2_charAt_3b067 7 = .ok (.invokestatic 71, 3) := by decide +kernel
theorem dJ2_charAt_3b067_10 : decode cJ2_charAt_3b067 10 = .ok (.ireturn, 1) := by decide +kernel
theorem dJ2_checkIndex_2214a_0 : decode cJ2_checkIndex_2214a 0 = .ok (.iload_n 0, 1) := by decide +kernel
theorem dJ2_checkIndex_2214a_1 : decode cJ2_checkIndex_2214a 1 = .ok (.aload_n 1, 1) := by decide +kernel
theorem dJ2_checkIndex_2214a_2 : decode cJ2_checkIndex_2214a 2 = .ok (.invokestatic 48, 3) := by decide +kernel
theorem dJ2_checkIndex_2214a_5 : decode cJ2_checkIndex_2214a 5 = .ok (.invokestatic 414, 3) := by decide +kernel
theorem dJ2_checkIndex_2214a_8 : decode cJ2_checkIndex_2214a 8 = .ok (.return_, 1) := by decide +kernel
theorem dJ3_checkIndex_8e157_0 : decode cJ3_checkIndex_8e157 0 = .ok (.iload_n 0, 1) := by decide +kernel
theorem dJ3_checkIndex_8e157_1 : decode cJ3_checkIndex_8e157 1 = .ok (.ifCond .lt 8, 3) := by decide +kernel
theorem dJ3_checkIndex_8e157_4 : decode cJ3_checkIndex_8e157 4 = .ok (.iload_n 0, 1) := by decide +kernel
theorem dJ3_checkIndex_8e157_5 : decode cJ3_checkIndex_8e157 5 = .ok (.iload_n 1, 1) := by decide +kernel
theorem dJ3_checkIndex_8e157_6 : decode cJ3_checkIndex_8e157 6 = .ok (.if_icmp .lt 10, 3) := by decide +kernel
theorem dJ3_checkIndex_8e157_9 : decode cJ3_checkIndex_8e157 9 = .ok (.aload_n 2, 1) := by decide +kernel
theorem dJ3_checkIndex_8e157_10 : decode cJ3_checkIndex_8e157 10 = .ok (.iload_n 0, 1) := by decide +kernel
theorem dJ3_checkIndex_8e157_11 : decode cJ3_checkIndex_8e157 11 = .ok (.iload_n 1, 1) := by decide +kernel
theorem dJ3_checkIndex_8e157_12 : decode cJ3_checkIndex_8e157 12 = .ok (.invokestatic 95, 3) := by decide +kernel
theorem dJ3_checkIndex_8e157_15 : decode cJ3_checkIndex_8e157 15 = .ok (.athrow, 1) := by decide +kernel
theorem dJ3_checkIndex_8e157_16 : decode cJ3_checkIndex_8e157 16 = .ok (.iload_n 0, 1) := by decide +kernel
theorem dJ3_checkIndex_8e157_17 : decode cJ3_checkIndex_8e157 17 = .ok (.ireturn, 1) := by decide +kernel
theorem dL_law_0 : decode cL_law 0 = .ok (.new 7, 3) := by decide +kernel
theorem dL_law_3 : decode cL_law 3 = .ok (.dup, 1) := by decide +kernel
theorem dL_law_4 : decode cL_law 4 = .ok (.invokespecial 9, 3) := by decide +kernel
theorem dL_law_7 : decode cL_law 7 = .ok (.astore_n 1, 1) := by decide +kernel
theorem dL_law_8 : decode cL_law 8 = .ok (.new 10, 3) := by decide +kernel
theorem dL_law_11 : decode cL_law 11 = .ok (.dup, 1) := by decide +kernel
theorem dL_law_12 : decode cL_law 12 = .ok (.invokespecial 12, 3) := by decide +kernel
theorem dL_law_15 : decode cL_law 15 = .ok (.astore_n 2, 1) := by decide +kernel
theorem dL_law_16 : decode cL_law 16 = .ok (.iconst 0, 1) := by decide +kernel
theorem dL_law_17 : decode cL_law 17 = .ok (.istore_n 3, 1) := by decide +kernel
theorem dL_law_18 : decode cL_law 18 = .ok (.iload_n 3, 1) := by decide +kernel
theorem dL_law_19 : decode cL_law 19 = .ok (.aload_n 0, 1) := by decide +kernel
theorem dL_law_20 : decode cL_law 20 = .ok (.arraylength, 1) := by decide +kernel
theorem dL_law_21 : decode cL_law 21 = .ok (.bipush 6, 2) := by decide +kernel
theorem dL_law_23 : decode cL_law 23 = .ok (.isub, 1) := by decide +kernel
theorem dL_law_24 : decode cL_law 24 = .ok (.if_icmp .gt 1563, 3) := by decide +kernel
theorem dL_law_27 : decode cL_law 27 = .ok (.aload_n 0, 1) := by decide +kernel
theorem dL_law_28 : decode cL_law 28 = .ok (.iload_n 3, 1) := by decide +kernel
theorem dL_law_29 : decode cL_law 29 = .ok (.iaload, 1) := by decide +kernel
theorem dL_law_30 : decode cL_law 30 = .ok (.bipush 63, 2) := by decide +kernel
theorem dL_law_32 : decode cL_law 32 = .ok (.iand, 1) := by decide +kernel
theorem dL_law_33 : decode cL_law 33 = .ok (.tableswitch 1548 0 46 #[203, 246, 319, 382, 416, 449, 472, 505, 528, 561, 594, 627, 660, 719, 732, 755, 804, 827, 840, 873, 916, 930, 943, 966, 979, 1002, 1025, 1058, 1071, 1104, 1127, 1160, 1193, 1226, 1259, 1282, 1295, 1328, 1341, 1354, 1387, 1410, 1433, 1476, 1499, 1512, 1525], 203) := by decide +kernel
theorem dL_law_236 : decode cL_law 236 = .ok (.aload_n 1, 1) := by decide +kernel
theorem dL_law_237 : decode cL_law 237 = .ok (.aload_n 0, 1) := by decide +kernel
theorem dL_law_238 : decode cL_law 238 = .ok (.iload_n 3, 1) := by decide +kernel
theorem dL_law_239 : decode cL_law 239 = .ok (.iconst 1, 1) := by decide +kernel
theorem dL_law_240 : decode cL_law 240 = .ok (.iadd, 1) := by decide +kernel
theorem dL_law_241 : decode cL_law 241 = .ok (.iaload, 1) := by decide +kernel
theorem dL_law_242 : decode cL_law 242 = .ok (.aload_n 0, 1) := by decide +kernel
theorem dL_law_243 : decode cL_law 243 = .ok (.iload_n 3, 1) := by decide +kernel
theorem dL_law_244 : decode cL_law 244 = .ok (.iconst 2, 1) := by decide +kernel
theorem dL_law_245 : decode cL_law 245 = .ok (.iadd, 1) := by decide +kernel
theorem dL_law_246 : decode cL_law 246 = .ok (.iaload, 1) := by decide +kernel
theorem dL_law_247 : decode cL_law 247 = .ok (.aload_n 0, 1) := by decide +kernel
theorem dL_law_248 : decode cL_law 248 = .ok (.iload_n 3, 1) := by decide +kernel
theorem dL_law_249 : decode cL_law 249 = .ok (.iconst 3, 1) := by decide +kernel
theorem dL_law_250 : decode cL_law 250 = .ok (.iadd, 1) := by decide +kernel
theorem dL_law_251 : decode cL_law 251 = .ok (.iaload, 1) := by decide +kernel
theorem dL_law_252 : decode cL_law 252 = .ok (.invokevirtual 13, 3) := by decide +kernel
theorem dL_law_255 : decode cL_law 255 = .ok (.aload_n 2, 1) := by decide +kernel
theorem dL_law_256 : decode cL_law 256 = .ok (.aload_n 0, 1) := by decide +kernel
theorem dL_law_257 : decode cL_law 257 = .ok (.iload_n 3, 1) := by decide +kernel
theorem dL_law_258 : decode cL_law 258 = .ok (.iconst 1, 1) := by decide +kernel
theorem dL_law_259 : decode cL_law 259 = .ok (.iadd, 1) := by decide +kernel
theorem dL_law_260 : decode cL_law 260 = .ok (.iaload, 1) := by decide +kernel
theorem dL_law_261 : decode cL_law 261 = .ok (.aload_n 0, 1) := by decide +kernel
theorem dL_law_262 : decode cL_law 262 = .ok (.iload_n 3, 1) := by decide +kernel
theorem dL_law_263 : decode cL_law 263 = .ok (.iconst 2, 1) := by decide +kernel
theorem dL_law_264 : decode cL_law 264 = .ok (.iadd, 1) := by decide +kernel
theorem dL_law_265 : decode cL_law 265 = .ok (.iaload, 1) := by decide +kernel
theorem dL_law_266 : decode cL_law 266 = .ok (.aload_n 0, 1) := by decide +kernel
theorem dL_law_267 : decode cL_law 267 = .ok (.iload_n 3, 1) := by decide +kernel
theorem dL_law_268 : decode cL_law 268 = .ok (.iconst 3, 1) := by decide +kernel
theorem dL_law_269 : decode cL_law 269 = .ok (.iadd, 1) := by decide +kernel
theorem dL_law_270 : decode cL_law 270 = .ok (.iaload, 1) := by decide +kernel
theorem dL_law_271 : decode cL_law 271 = .ok (.invokevirtual 17, 3) := by decide +kernel
theorem dL_law_274 : decode cL_law 274 = .ok (.if_icmp .eq 1307, 3) := by decide +kernel
theorem dL_law_277 : decode cL_law 277 = .ok (.iconst 0, 1) := by decide +kernel
theorem dL_law_278 : decode cL_law 278 = .ok (.ireturn, 1) := by decide +kernel
theorem dL_law_279 : decode cL_law 279 = .ok (.aload_n 1, 1) := by decide +kernel
theorem dL_law_280 : decode cL_law 280 = .ok (.aload_n 0, 1) := by decide +kernel
theorem dL_law_281 : decode cL_law 281 = .ok (.iload_n 3, 1) := by decide +kernel
theorem dL_law_282 : decode cL_law 282 = .ok (.iconst 1, 1) := by decide +kernel
theorem dL_law_283 : decode cL_law 283 = .ok (.iadd, 1) := by decide +kernel
theorem dL_law_284 : decode cL_law 284 = .ok (.iaload, 1) := by decide +kernel
theorem dL_law_285 : decode cL_law 285 = .ok (.aload_n 0, 1) := by decide +kernel
theorem dL_law_286 : decode cL_law 286 = .ok (.iload_n 3, 1) := by decide +kernel
theorem dL_law_287 : decode cL_law 287 = .ok (.iconst 2, 1) := by decide +kernel
theorem dL_law_288 : decode cL_law 288 = .ok (.iadd, 1) := by decide +kernel
theorem dL_law_289 : decode cL_law 289 = .ok (.iaload, 1) := by decide +kernel
theorem dL_law_290 : decode cL_law 290 = .ok (.aload_n 0, 1) := by decide +kernel
theorem dL_law_291 : decode cL_law 291 = .ok (.iload_n 3, 1) := by decide +kernel
theorem dL_law_292 : decode cL_law 292 = .ok (.iconst 3, 1) := by decide +kernel
theorem dL_law_293 : decode cL_law 293 = .ok (.iadd, 1) := by decide +kernel
theorem dL_law_294 : decode cL_law 294 = .ok (.iaload, 1) := by decide +kernel
theorem dL_law_295 : decode cL_law 295 = .ok (.i2l, 1) := by decide +kernel
theorem dL_law_296 : decode cL_law 296 = .ok (.bipush 32, 2) := by decide +kernel
theorem dL_law_298 : decode cL_law 298 = .ok (.lshl, 1) := by decide +kernel
theorem dL_law_299 : decode cL_law 299 = .ok (.aload_n 0, 1) := by decide +kernel
theorem dL_law_300 : decode cL_law 300 = .ok (.iload_n 3, 1) := by decide +kernel
theorem dL_law_301 : decode cL_law 301 = .ok (.iconst 4, 1) := by decide +kernel
theorem dL_law_302 : decode cL_law 302 = .ok (.iadd, 1) := by decide +kernel
theorem dL_law_303 : decode cL_law 303 = .ok (.iaload, 1) := by decide +kernel
theorem dL_law_304 : decode cL_law 304 = .ok (.i2l, 1) := by decide +kernel
theorem dL_law_305 : decode cL_law 305 = .ok (.ldc2_w 18, 3) := by decide +kernel
theorem dL_law_308 : decode cL_law 308 = .ok (.land, 1) := by decide +kernel
theorem dL_law_309 : decode cL_law 309 = .ok (.lor, 1) := by decide +kernel
theorem dL_law_310 : decode cL_law 310 = .ok (.invokevirtual 20, 3) := by decide +kernel
theorem dL_law_313 : decode cL_law 313 = .ok (.aload_n 2, 1) := by decide +kernel
theorem dL_law_314 : decode cL_law 314 = .ok (.aload_n 0, 1) := by decide +kernel
theorem dL_law_315 : decode cL_law 315 = .ok (.iload_n 3, 1) := by decide +kernel
theorem dL_law_316 : decode cL_law 316 = .ok (.iconst 1, 1) := by decide +kernel
theorem dL_law_317 : decode cL_law 317 = .ok (.iadd, 1) := by decide +kernel
theorem dL_law_318 : decode cL_law 318 = .ok (.iaload, 1) := by decide +kernel
theorem dL_law_319 : decode cL_law 319 = .ok (.aload_n 0, 1) := by decide +kernel
theorem dL_law_320 : decode cL_law 320 = .ok (.iload_n 3, 1) := by decide +kernel
theorem dL_law_321 : decode cL_law 321 = .ok (.iconst 2, 1) := by decide +kernel
theorem dL_law_322 : decode cL_law 322 = .ok (.iadd, 1) := by decide +kernel
theorem dL_law_323 : decode cL_law 323 = .ok (.iaload, 1) := by decide +kernel
theorem dL_law_324 : decode cL_law 324 = .ok (.aload_n 0, 1) := by decide +kernel
theorem dL_law_325 : decode cL_law 325 = .ok (.iload_n 3, 1) := by decide +kernel
theorem dL_law_326 : decode cL_law 326 = .ok (.iconst 3, 1) := by decide +kernel
theorem dL_law_327 : decode cL_law 327 = .ok (.iadd, 1) := by decide +kernel
theorem dL_law_328 : decode cL_law 328 = .ok (.iaload, 1) := by decide +kernel
theorem dL_law_329 : decode cL_law 329 = .ok (.i2l, 1) := by decide +kernel
theorem dL_law_330 : decode cL_law 330 = .ok (.bipush 32, 2) := by decide +kernel
theorem dL_law_332 : decode cL_law 332 = .ok (.lshl, 1) := by decide +kernel
theorem dL_law_333 : decode cL_law 333 = .ok (.aload_n 0, 1) := by decide +kernel
theorem dL_law_334 : decode cL_law 334 = .ok (.iload_n 3, 1) := by decide +kernel
theorem dL_law_335 : decode cL_law 335 = .ok (.iconst 4, 1) := by decide +kernel
theorem dL_law_336 : decode cL_law 336 = .ok (.iadd, 1) := by decide +kernel
theorem dL_law_337 : decode cL_law 337 = .ok (.iaload, 1) := by decide +kernel
theorem dL_law_338 : decode cL_law 338 = .ok (.i2l, 1) := by decide +kernel
theorem dL_law_339 : decode cL_law 339 = .ok (.ldc2_w 18, 3) := by decide +kernel
theorem dL_law_342 : decode cL_law 342 = .ok (.land, 1) := by decide +kernel
theorem dL_law_343 : decode cL_law 343 = .ok (.lor, 1) := by decide +kernel
theorem dL_law_344 : decode cL_law 344 = .ok (.invokevirtual 24, 3) := by decide +kernel
theorem dL_law_347 : decode cL_law 347 = .ok (.if_icmp .eq 1234, 3) := by decide +kernel
theorem dL_law_350 : decode cL_law 350 = .ok (.iconst 0, 1) := by decide +kernel
theorem dL_law_351 : decode cL_law 351 = .ok (.ireturn, 1) := by decide +kernel
theorem dL_law_352 : decode cL_law 352 = .ok (.aload_n 1, 1) := by decide +kernel
theorem dL_law_353 : decode cL_law 353 = .ok (.aload_n 0, 1) := by decide +kernel
theorem dL_law_354 : decode cL_law 354 = .ok (.iload_n 3, 1) := by decide +kernel
theorem dL_law_355 : decode cL_law 355 = .ok (.iconst 1, 1) := by decide +kernel
theorem dL_law_356 : decode cL_law 356 = .ok (.iadd, 1) := by decide +kernel
theorem dL_law_357 : decode cL_law 357 = .ok (.iaload, 1) := by decide +kernel
theorem dL_law_358 : decode cL_law 358 = .ok (.aload_n 0, 1) := by decide +kernel
theorem dL_law_359 : decode cL_law 359 = .ok (.iload_n 3, 1) := by decide +kernel
theorem dL_law_360 : decode cL_law 360 = .ok (.iconst 2, 1) := by decide +kernel
theorem dL_law_361 : decode cL_law 361 = .ok (.iadd, 1) := by decide +kernel
theorem dL_law_362 : decode cL_law 362 = .ok (.iaload, 1) := by decide +kernel
theorem dL_law_363 : decode cL_law 363 = .ok (.aload_n 0, 1) := by decide +kernel
theorem dL_law_364 : decode cL_law 364 = .ok (.iload_n 3, 1) := by decide +kernel
theorem dL_law_365 : decode cL_law 365 = .ok (.iconst 3, 1) := by decide +kernel
theorem dL_law_366 : decode cL_law 366 = .ok (.iadd, 1) := by decide +kernel
theorem dL_law_367 : decode cL_law 367 = .ok (.iaload, 1) := by decide +kernel
theorem dL_law_368 : decode cL_law 368 = .ok (.aload_n 0, 1) := by decide +kernel
theorem dL_law_369 : decode cL_law 369 = .ok (.iload_n 3, 1) := by decide +kernel
theorem dL_law_370 : decode cL_law 370 = .ok (.iconst 4, 1) := by decide +kernel
theorem dL_law_371 : decode cL_law 371 = .ok (.iadd, 1) := by decide +kernel
theorem dL_law_372 : decode cL_law 372 = .ok (.iaload, 1) := by decide +kernel
theorem dL_law_373 : decode cL_law 373 = .ok (.aload_n 0, 1) := by decide +kernel
theorem dL_law_374 : decode cL_law 374 = .ok (.iload_n 3, 1) := by decide +kernel
theorem dL_law_375 : decode cL_law 375 = .ok (.iconst 5, 1) := by decide +kernel
theorem dL_law_376 : decode cL_law 376 = .ok (.iadd, 1) := by decide +kernel
theorem dL_law_377 : decode cL_law 377 = .ok (.iaload, 1) := by decide +kernel
theorem dL_law_378 : decode cL_law 378 = .ok (.invokevirtual 25, 3) := by decide +kernel
theorem dL_law_381 : decode cL_law 381 = .ok (.aload_n 2, 1) := by decide +kernel
theorem dL_law_382 : decode cL_law 382 = .ok (.aload_n 0, 1) := by decide +kernel
theorem dL_law_383 : decode cL_law 383 = .ok (.iload_n 3, 1) := by decide +kernel
theorem dL_law_384 : decode cL_law 384 = .ok (.iconst 1, 1) := by decide +kernel
theorem dL_law_385 : decode cL_law 385 = .ok (.iadd, 1) := by decide +kernel
theorem dL_law_386 : decode cL_law 386 = .ok (.iaload, 1) := by decide +kernel
theorem dL_law_387 : decode cL_law 387 = .ok (.aload_n 0, 1) := by decide +kernel
theorem dL_law_388 : decode cL_law 388 = .ok (.iload_n 3, 1) := by decide +kernel
theorem dL_law_389 : decode cL_law 389 = .ok (.iconst 2, 1) := by decide +kernel
theorem dL_law_390 : decode cL_law 390 = .ok (.iadd, 1) := by decide +kernel
theorem dL_law_391 : decode cL_law 391 = .ok (.iaload, 1) := by decide +kernel
theorem dL_law_392 : decode cL_law 392 = .ok (.aload_n 0, 1) := by decide +kernel
theorem dL_law_393 : decode cL_law 393 = .ok (.iload_n 3, 1) := by decide +kernel
theorem dL_law_394 : decode cL_law 394 = .ok (.iconst 3, 1) := by decide +kernel
theorem dL_law_395 : decode cL_law 395 = .ok (.iadd, 1) := by decide +kernel
theorem dL_law_396 : decode cL_law 396 = .ok (.iaload, 1) := by decide +kernel
theorem dL_law_397 : decode cL_law 397 = .ok (.aload_n 0, 1) := by decide +kernel
theorem dL_law_398 : decode cL_law 398 = .ok (.iload_n 3, 1) := by decide +kernel
theorem dL_law_399 : decode cL_law 399 = .ok (.iconst 4, 1) := by decide +kernel
theorem dL_law_400 : decode cL_law 400 = .ok (.iadd, 1) := by decide +kernel
theorem dL_law_401 : decode cL_law 401 = .ok (.iaload, 1) := by decide +kernel
theorem dL_law_402 : decode cL_law 402 = .ok (.aload_n 0, 1) := by decide +kernel
theorem dL_law_403 : decode cL_law 403 = .ok (.iload_n 3, 1) := by decide +kernel
theorem dL_law_404 : decode cL_law 404 = .ok (.iconst 5, 1) := by decide +kernel
theorem dL_law_405 : decode cL_law 405 = .ok (.iadd, 1) := by decide +kernel
theorem dL_law_406 : decode cL_law 406 = .ok (.iaload, 1) := by decide +kernel
theorem dL_law_407 : decode cL_law 407 = .ok (.invokevirtual 29, 3) := by decide +kernel
theorem dL_law_410 : decode cL_law 410 = .ok (.if_icmp .eq 1171, 3) := by decide +kernel
theorem dL_law_413 : decode cL_law 413 = .ok (.iconst 0, 1) := by decide +kernel
theorem dL_law_414 : decode cL_law 414 = .ok (.ireturn, 1) := by decide +kernel
theorem dL_law_415 : decode cL_law 415 = .ok (.aload_n 1, 1) := by decide +kernel
theorem dL_law_416 : decode cL_law 416 = .ok (.aload_n 0, 1) := by decide +kernel
theorem dL_law_417 : decode cL_law 417 = .ok (.iload_n 3, 1) := by decide +kernel
theorem dL_law_418 : decode cL_law 418 = .ok (.iconst 1, 1) := by decide +kernel
theorem dL_law_419 : decode cL_law 419 = .ok (.iadd, 1) := by decide +kernel
theorem dL_law_420 : decode cL_law 420 = .ok (.iaload, 1) := by decide +kernel
theorem dL_law_421 : decode cL_law 421 = .ok (.aload_n 0, 1) := by decide +kernel
theorem dL_law_422 : decode cL_law 422 = .ok (.iload_n 3, 1) := by decide +kernel
theorem dL_law_423 : decode cL_law 423 = .ok (.iconst 2, 1) := by decide +kernel
theorem dL_law_424 : decode cL_law 424 = .ok (.iadd, 1) := by decide +kernel
theorem dL_law_425 : decode cL_law 425 = .ok (.iaload, 1) := by decide +kernel
theorem dL_law_426 : decode cL_law 426 = .ok (.invokevirtual 30, 3) := by decide +kernel
theorem dL_law_429 : decode cL_law 429 = .ok (.aload_n 2, 1) := by decide +kernel
theorem dL_law_430 : decode cL_law 430 = .ok (.aload_n 0, 1) := by decide +kernel
theorem dL_law_431 : decode cL_law 431 = .ok (.iload_n 3, 1) := by decide +kernel
theorem dL_law_432 : decode cL_law 432 = .ok (.iconst 1, 1) := by decide +kernel
theorem dL_law_433 : decode cL_law 433 = .ok (.iadd, 1) := by decide +kernel
theorem dL_law_434 : decode cL_law 434 = .ok (.iaload, 1) := by decide +kernel
theorem dL_law_435 : decode cL_law 435 = .ok (.aload_n 0, 1) := by decide +kernel
theorem dL_law_436 : decode cL_law 436 = .ok (.iload_n 3, 1) := by decide +kernel
theorem dL_law_437 : decode cL_law 437 = .ok (.iconst 2, 1) := by decide +kernel
theorem dL_law_438 : decode cL_law 438 = .ok (.iadd, 1) := by decide +kernel
theorem dL_law_439 : decode cL_law 439 = .ok (.iaload, 1) := by decide +kernel
theorem dL_law_440 : decode cL_law 440 = .ok (.invokevirtual 34, 3) := by decide +kernel
theorem dL_law_443 : decode cL_law 443 = .ok (.lcmp, 1) := by decide +kernel
theorem dL_law_444 : decode cL_law 444 = .ok (.ifCond .eq 1137, 3) := by decide +kernel
theorem dL_law_447 : decode cL_law 447 = .ok (.iconst 0, 1) := by decide +kernel
theorem dL_law_448 : decode cL_law 448 = .ok (.ireturn, 1) := by decide +kernel
theorem dL_law_449 : decode cL_law 449 = .ok (.aload_n 1, 1) := by decide +kernel
theorem dL_law_450 : decode cL_law 450 = .ok (.aload_n 0, 1) := by decide +kernel
theorem dL_law_451 : decode cL_law 451 = .ok (.iload_n 3, 1) := by decide +kernel
theorem dL_law_452 : decode cL_law 452 = .ok (.iconst 1, 1) := by decide +kernel
theorem dL_law_453 : decode cL_law 453 = .ok (.iadd, 1) := by decide +kernel
theorem dL_law_454 : decode cL_law 454 = .ok (.iaload, 1) := by decide +kernel
theorem dL_law_455 : decode cL_law 455 = .ok (.aload_n 0, 1) := by decide +kernel
theorem dL_law_456 : decode cL_law 456 = .ok (.iload_n 3, 1) := by decide +kernel
theorem dL_law_457 : decode cL_law 457 = .ok (.iconst 2, 1) := by decide +kernel
theorem dL_law_458 : decode cL_law 458 = .ok (.iadd, 1) := by decide +kernel
theorem dL_law_459 : decode cL_law 459 = .ok (.iaload, 1) := by decide +kernel
theorem dL_law_460 : decode cL_law 460 = .ok (.invokevirtual 35, 3) := by decide +kernel
theorem dL_law_463 : decode cL_law 463 = .ok (.aload_n 2, 1) := by decide +kernel
theorem dL_law_464 : decode cL_law 464 = .ok (.aload_n 0, 1) := by decide +kernel
theorem dL_law_465 : decode cL_law 465 = .ok (.iload_n 3, 1) := by decide +kernel
theorem dL_law_466 : decode cL_law 466 = .ok (.iconst 1, 1) := by decide +kernel
theorem dL_law_467 : decode cL_law 467 = .ok (.iadd, 1) := by decide +kernel
theorem dL_law_468 : decode cL_law 468 = .ok (.iaload, 1) := by decide +kernel
theorem dL_law_469 : decode cL_law 469 = .ok (.aload_n 0, 1) := by decide +kernel
theorem dL_law_470 : decode cL_law 470 = .ok (.iload_n 3, 1) := by decide +kernel
theorem dL_law_471 : decode cL_law 471 = .ok (.iconst 2, 1) := by decide +kernel
theorem dL_law_472 : decode cL_law 472 = .ok (.iadd, 1) := by decide +kernel
theorem dL_law_473 : decode cL_law 473 = .ok (.iaload, 1) := by decide +kernel
theorem dL_law_474 : decode cL_law 474 = .ok (.invokevirtual 39, 3) := by decide +kernel
theorem dL_law_477 : decode cL_law 477 = .ok (.if_icmp .eq 1104, 3) := by decide +kernel
theorem dL_law_480 : decode cL_law 480 = .ok (.iconst 0, 1) := by decide +kernel
theorem dL_law_481 : decode cL_law 481 = .ok (.ireturn, 1) := by decide +kernel
theorem dL_law_482 : decode cL_law 482 = .ok (.aload_n 1, 1) := by decide +kernel
theorem dL_law_483 : decode cL_law 483 = .ok (.aload_n 0, 1) := by decide +kernel
theorem dL_law_484 : decode cL_law 484 = .ok (.iload_n 3, 1) := by decide +kernel
theorem dL_law_485 : decode cL_law 485 = .ok (.iconst 1, 1) := by decide +kernel
theorem dL_law_486 : decode cL_law 486 = .ok (.iadd, 1) := by decide +kernel
theorem dL_law_487 : decode cL_law 487 = .ok (.iaload, 1) := by decide +kernel
theorem dL_law_488 : decode cL_law 488 = .ok (.invokevirtual 40, 3) := by decide +kernel
theorem dL_law_491 : decode cL_law 491 = .ok (.aload_n 2, 1) := by decide +kernel
theorem dL_law_492 : decode cL_law 492 = .ok (.aload_n 0, 1) := by decide +kernel
theorem dL_law_493 : decode cL_law 493 = .ok (.iload_n 3, 1) := by decide +kernel
theorem dL_law_494 : decode cL_law 494 = .ok (.iconst 1, 1) := by decide +kernel
theorem dL_law_495 : decode cL_law 495 = .ok (.iadd, 1) := by decide +kernel
theorem dL_law_496 : decode cL_law 496 = .ok (.iaload, 1) := by decide +kernel
theorem dL_law_497 : decode cL_law 497 = .ok (.invokevirtual 44, 3) := by decide +kernel
theorem dL_law_500 : decode cL_law 500 = .ok (.if_icmp .eq 1081, 3) := by decide +kernel
theorem dL_law_503 : decode cL_law 503 = .ok (.iconst 0, 1) := by decide +kernel
theorem dL_law_504 : decode cL_law 504 = .ok (.ireturn, 1) := by decide +kernel
theorem dL_law_505 : decode cL_law 505 = .ok (.aload_n 1, 1) := by decide +kernel
theorem dL_law_506 : decode cL_law 506 = .ok (.aload_n 0, 1) := by decide +kernel
theorem dL_law_507 : decode cL_law 507 = .ok (.iload_n 3, 1) := by decide +kernel
theorem dL_law_508 : decode cL_law 508 = .ok (.iconst 1, 1) := by decide +kernel
theorem dL_law_509 : decode cL_law 509 = .ok (.iadd, 1) := by decide +kernel
theorem dL_law_510 : decode cL_law 510 = .ok (.iaload, 1) := by decide +kernel
theorem dL_law_511 : decode cL_law 511 = .ok (.aload_n 0, 1) := by decide +kernel
theorem dL_law_512 : decode cL_law 512 = .ok (.iload_n 3, 1) := by decide +kernel
theorem dL_law_513 : decode cL_law 513 = .ok (.iconst 2, 1) := by decide +kernel
theorem dL_law_514 : decode cL_law 514 = .ok (.iadd, 1) := by decide +kernel
theorem dL_law_515 : decode cL_law 515 = .ok (.iaload, 1) := by decide +kernel
theorem dL_law_516 : decode cL_law 516 = .ok (.invokevirtual 45, 3) := by decide +kernel
theorem dL_law_519 : decode cL_law 519 = .ok (.aload_n 2, 1) := by decide +kernel
theorem dL_law_520 : decode cL_law 520 = .ok (.aload_n 0, 1) := by decide +kernel
theorem dL_law_521 : decode cL_law 521 = .ok (.iload_n 3, 1) := by decide +kernel
theorem dL_law_522 : decode cL_law 522 = .ok (.iconst 1, 1) := by decide +kernel
theorem dL_law_523 : decode cL_law 523 = .ok (.iadd, 1) := by decide +kernel
theorem dL_law_524 : decode cL_law 524 = .ok (.iaload, 1) := by decide +kernel
theorem dL_law_525 : decode cL_law 525 = .ok (.aload_n 0, 1) := by decide +kernel
theorem dL_law_526 : decode cL_law 526 = .ok (.iload_n 3, 1) := by decide +kernel
theorem dL_law_527 : decode cL_law 527 = .ok (.iconst 2, 1) := by decide +kernel
theorem dL_law_528 : decode cL_law 528 = .ok (.iadd, 1) := by decide +kernel
theorem dL_law_529 : decode cL_law 529 = .ok (.iaload, 1) := by decide +kernel
theorem dL_law_530 : decode cL_law 530 = .ok (.invokevirtual 48, 3) := by decide +kernel
theorem dL_law_533 : decode cL_law 533 = .ok (.if_icmp .eq 1048, 3) := by decide +kernel
theorem dL_law_536 : decode cL_law 536 = .ok (.iconst 0, 1) := by decide +kernel
theorem dL_law_537 : decode cL_law 537 = .ok (.ireturn, 1) := by decide +kernel
theorem dL_law_538 : decode cL_law 538 = .ok (.aload_n 1, 1) := by decide +kernel
theorem dL_law_539 : decode cL_law 539 = .ok (.aload_n 0, 1) := by decide +kernel
theorem dL_law_540 : decode cL_law 540 = .ok (.iload_n 3, 1) := by decide +kernel
theorem dL_law_541 : decode cL_law 541 = .ok (.iconst 1, 1) := by decide +kernel
theorem dL_law_542 : decode cL_law 542 = .ok (.iadd, 1) := by decide +kernel
theorem dL_law_543 : decode cL_law 543 = .ok (.iaload, 1) := by decide +kernel
theorem dL_law_544 : decode cL_law 544 = .ok (.invokevirtual 49, 3) := by decide +kernel
theorem dL_law_547 : decode cL_law 547 = .ok (.aload_n 2, 1) := by decide +kernel
theorem dL_law_548 : decode cL_law 548 = .ok (.aload_n 0, 1) := by decide +kernel
theorem dL_law_549 : decode cL_law 549 = .ok (.iload_n 3, 1) := by decide +kernel
theorem dL_law_550 : decode cL_law 550 = .ok (.iconst 1, 1) := by decide +kernel
theorem dL_law_551 : decode cL_law 551 = .ok (.iadd, 1) := by decide +kernel
theorem dL_law_552 : decode cL_law 552 = .ok (.iaload, 1) := by decide +kernel
theorem dL_law_553 : decode cL_law 553 = .ok (.invokevirtual 52, 3) := by decide +kernel
theorem dL_law_556 : decode cL_law 556 = .ok (.if_icmp .eq 1025, 3) := by decide +kernel
theorem dL_law_559 : decode cL_law 559 = .ok (.iconst 0, 1) := by decide +kernel
theorem dL_law_560 : decode cL_law 560 = .ok (.ireturn, 1) := by decide +kernel
theorem dL_law_561 : decode cL_law 561 = .ok (.aload_n 1, 1) := by decide +kernel
theorem dL_law_562 : decode cL_law 562 = .ok (.aload_n 0, 1) := by decide +kernel
theorem dL_law_563 : decode cL_law 563 = .ok (.iload_n 3, 1) := by decide +kernel
theorem dL_law_564 : decode cL_law 564 = .ok (.iconst 1, 1) := by decide +kernel
theorem dL_law_565 : decode cL_law 565 = .ok (.iadd, 1) := by decide +kernel
theorem dL_law_566 : decode cL_law 566 = .ok (.iaload, 1) := by decide +kernel
theorem dL_law_567 : decode cL_law 567 = .ok (.aload_n 0, 1) := by decide +kernel
theorem dL_law_568 : decode cL_law 568 = .ok (.iload_n 3, 1) := by decide +kernel
theorem dL_law_569 : decode cL_law 569 = .ok (.iconst 2, 1) := by decide +kernel
theorem dL_law_570 : decode cL_law 570 = .ok (.iadd, 1) := by decide +kernel
theorem dL_law_571 : decode cL_law 571 = .ok (.iaload, 1) := by decide +kernel
theorem dL_law_572 : decode cL_law 572 = .ok (.invokevirtual 53, 3) := by decide +kernel
theorem dL_law_575 : decode cL_law 575 = .ok (.aload_n 2, 1) := by decide +kernel
theorem dL_law_576 : decode cL_law 576 = .ok (.aload_n 0, 1) := by decide +kernel
theorem dL_law_577 : decode cL_law 577 = .ok (.iload_n 3, 1) := by decide +kernel
theorem dL_law_578 : decode cL_law 578 = .ok (.iconst 1, 1) := by decide +kernel
theorem dL_law_579 : decode cL_law 579 = .ok (.iadd, 1) := by decide +kernel
theorem dL_law_580 : decode cL_law 580 = .ok (.iaload, 1) := by decide +kernel
theorem dL_law_581 : decode cL_law 581 = .ok (.aload_n 0, 1) := by decide +kernel
theorem dL_law_582 : decode cL_law 582 = .ok (.iload_n 3, 1) := by decide +kernel
theorem dL_law_583 : decode cL_law 583 = .ok (.iconst 2, 1) := by decide +kernel
theorem dL_law_584 : decode cL_law 584 = .ok (.iadd, 1) := by decide +kernel
theorem dL_law_585 : decode cL_law 585 = .ok (.iaload, 1) := by decide +kernel
theorem dL_law_586 : decode cL_law 586 = .ok (.invokevirtual 56, 3) := by decide +kernel
theorem dL_law_589 : decode cL_law 589 = .ok (.if_icmp .eq 992, 3) := by decide +kernel
theorem dL_law_592 : decode cL_law 592 = .ok (.iconst 0, 1) := by decide +kernel
theorem dL_law_593 : decode cL_law 593 = .ok (.ireturn, 1) := by decide +kernel
theorem dL_law_594 : decode cL_law 594 = .ok (.aload_n 1, 1) := by decide +kernel
theorem dL_law_595 : decode cL_law 595 = .ok (.aload_n 0, 1) := by decide +kernel
theorem dL_law_596 : decode cL_law 596 = .ok (.iload_n 3, 1) := by decide +kernel
theorem dL_law_597 : decode cL_law 597 = .ok (.iconst 1, 1) := by decide +kernel
theorem dL_law_598 : decode cL_law 598 = .ok (.iadd, 1) := by decide +kernel
theorem dL_law_599 : decode cL_law 599 = .ok (.iaload, 1) := by decide +kernel
theorem dL_law_600 : decode cL_law 600 = .ok (.aload_n 0, 1) := by decide +kernel
theorem dL_law_601 : decode cL_law 601 = .ok (.iload_n 3, 1) := by decide +kernel
theorem dL_law_602 : decode cL_law 602 = .ok (.iconst 2, 1) := by decide +kernel
theorem dL_law_603 : decode cL_law 603 = .ok (.iadd, 1) := by decide +kernel
theorem dL_law_604 : decode cL_law 604 = .ok (.iaload, 1) := by decide +kernel
theorem dL_law_605 : decode cL_law 605 = .ok (.invokevirtual 57, 3) := by decide +kernel
theorem dL_law_608 : decode cL_law 608 = .ok (.aload_n 2, 1) := by decide +kernel
theorem dL_law_609 : decode cL_law 609 = .ok (.aload_n 0, 1) := by decide +kernel
theorem dL_law_610 : decode cL_law 610 = .ok (.iload_n 3, 1) := by decide +kernel
theorem dL_law_611 : decode cL_law 611 = .ok (.iconst 1, 1) := by decide +kernel
theorem dL_law_612 : decode cL_law 612 = .ok (.iadd, 1) := by decide +kernel
theorem dL_law_613 : decode cL_law 613 = .ok (.iaload, 1) := by decide +kernel
theorem dL_law_614 : decode cL_law 614 = .ok (.aload_n 0, 1) := by decide +kernel
theorem dL_law_615 : decode cL_law 615 = .ok (.iload_n 3, 1) := by decide +kernel
theorem dL_law_616 : decode cL_law 616 = .ok (.iconst 2, 1) := by decide +kernel
theorem dL_law_617 : decode cL_law 617 = .ok (.iadd, 1) := by decide +kernel
theorem dL_law_618 : decode cL_law 618 = .ok (.iaload, 1) := by decide +kernel
theorem dL_law_619 : decode cL_law 619 = .ok (.invokevirtual 60, 3) := by decide +kernel
theorem dL_law_622 : decode cL_law 622 = .ok (.if_icmp .eq 959, 3) := by decide +kernel
theorem dL_law_625 : decode cL_law 625 = .ok (.iconst 0, 1) := by decide +kernel
theorem dL_law_626 : decode cL_law 626 = .ok (.ireturn, 1) := by decide +kernel
theorem dL_law_627 : decode cL_law 627 = .ok (.aload_n 1, 1) := by decide +kernel
theorem dL_law_628 : decode cL_law 628 = .ok (.aload_n 0, 1) := by decide +kernel
theorem dL_law_629 : decode cL_law 629 = .ok (.iload_n 3, 1) := by decide +kernel
theorem dL_law_630 : decode cL_law 630 = .ok (.iconst 1, 1) := by decide +kernel
theorem dL_law_631 : decode cL_law 631 = .ok (.iadd, 1) := by decide +kernel
theorem dL_law_632 : decode cL_law 632 = .ok (.iaload, 1) := by decide +kernel
theorem dL_law_633 : decode cL_law 633 = .ok (.aload_n 0, 1) := by decide +kernel
theorem dL_law_634 : decode cL_law 634 = .ok (.iload_n 3, 1) := by decide +kernel
theorem dL_law_635 : decode cL_law 635 = .ok (.iconst 2, 1) := by decide +kernel
theorem dL_law_636 : decode cL_law 636 = .ok (.iadd, 1) := by decide +kernel
theorem dL_law_637 : decode cL_law 637 = .ok (.iaload, 1) := by decide +kernel
theorem dL_law_638 : decode cL_law 638 = .ok (.invokevirtual 61, 3) := by decide +kernel
theorem dL_law_641 : decode cL_law 641 = .ok (.aload_n 2, 1) := by decide +kernel
theorem dL_law_642 : decode cL_law 642 = .ok (.aload_n 0, 1) := by decide +kernel
theorem dL_law_643 : decode cL_law 643 = .ok (.iload_n 3, 1) := by decide +kernel
theorem dL_law_644 : decode cL_law 644 = .ok (.iconst 1, 1) := by decide +kernel
theorem dL_law_645 : decode cL_law 645 = .ok (.iadd, 1) := by decide +kernel
theorem dL_law_646 : decode cL_law 646 = .ok (.iaload, 1) := by decide +kernel
theorem dL_law_647 : decode cL_law 647 = .ok (.aload_n 0, 1) := by decide +kernel
theorem dL_law_648 : decode cL_law 648 = .ok (.iload_n 3, 1) := by decide +kernel
theorem dL_law_649 : decode cL_law 649 = .ok (.iconst 2, 1) := by decide +kernel
theorem dL_law_650 : decode cL_law 650 = .ok (.iadd, 1) := by decide +kernel
theorem dL_law_651 : decode cL_law 651 = .ok (.iaload, 1) := by decide +kernel
theorem dL_law_652 : decode cL_law 652 = .ok (.invokevirtual 64, 3) := by decide +kernel
theorem dL_law_655 : decode cL_law 655 = .ok (.if_icmp .eq 926, 3) := by decide +kernel
theorem dL_law_658 : decode cL_law 658 = .ok (.iconst 0, 1) := by decide +kernel
theorem dL_law_659 : decode cL_law 659 = .ok (.ireturn, 1) := by decide +kernel
theorem dL_law_660 : decode cL_law 660 = .ok (.aload_n 1, 1) := by decide +kernel
theorem dL_law_661 : decode cL_law 661 = .ok (.aload_n 0, 1) := by decide +kernel
theorem dL_law_662 : decode cL_law 662 = .ok (.iload_n 3, 1) := by decide +kernel
theorem dL_law_663 : decode cL_law 663 = .ok (.iconst 1, 1) := by decide +kernel
theorem dL_law_664 : decode cL_law 664 = .ok (.iadd, 1) := by decide +kernel
theorem dL_law_665 : decode cL_law 665 = .ok (.iaload, 1) := by decide +kernel
theorem dL_law_666 : decode cL_law 666 = .ok (.aload_n 0, 1) := by decide +kernel
theorem dL_law_667 : decode cL_law 667 = .ok (.iload_n 3, 1) := by decide +kernel
theorem dL_law_668 : decode cL_law 668 = .ok (.iconst 2, 1) := by decide +kernel
theorem dL_law_669 : decode cL_law 669 = .ok (.iadd, 1) := by decide +kernel
theorem dL_law_670 : decode cL_law 670 = .ok (.iaload, 1) := by decide +kernel
theorem dL_law_671 : decode cL_law 671 = .ok (.invokevirtual 65, 3) := by decide +kernel
theorem dL_law_674 : decode cL_law 674 = .ok (.aload_n 2, 1) := by decide +kernel
theorem dL_law_675 : decode cL_law 675 = .ok (.aload_n 0, 1) := by decide +kernel
theorem dL_law_676 : decode cL_law 676 = .ok (.iload_n 3, 1) := by decide +kernel
theorem dL_law_677 : decode cL_law 677 = .ok (.iconst 1, 1) := by decide +kernel
theorem dL_law_678 : decode cL_law 678 = .ok (.iadd, 1) := by decide +kernel
theorem dL_law_679 : decode cL_law 679 = .ok (.iaload, 1) := by decide +kernel
theorem dL_law_680 : decode cL_law 680 = .ok (.aload_n 0, 1) := by decide +kernel
theorem dL_law_681 : decode cL_law 681 = .ok (.iload_n 3, 1) := by decide +kernel
theorem dL_law_682 : decode cL_law 682 = .ok (.iconst 2, 1) := by decide +kernel
theorem dL_law_683 : decode cL_law 683 = .ok (.iadd, 1) := by decide +kernel
theorem dL_law_684 : decode cL_law 684 = .ok (.iaload, 1) := by decide +kernel
theorem dL_law_685 : decode cL_law 685 = .ok (.invokevirtual 68, 3) := by decide +kernel
theorem dL_law_688 : decode cL_law 688 = .ok (.if_icmp .eq 893, 3) := by decide +kernel
theorem dL_law_691 : decode cL_law 691 = .ok (.iconst 0, 1) := by decide +kernel
theorem dL_law_692 : decode cL_law 692 = .ok (.ireturn, 1) := by decide +kernel
theorem dL_law_693 : decode cL_law 693 = .ok (.aload_n 1, 1) := by decide +kernel
theorem dL_law_694 : decode cL_law 694 = .ok (.aload_n 0, 1) := by decide +kernel
theorem dL_law_695 : decode cL_law 695 = .ok (.iload_n 3, 1) := by decide +kernel
theorem dL_law_696 : decode cL_law 696 = .ok (.iconst 1, 1) := by decide +kernel
theorem dL_law_697 : decode cL_law 697 = .ok (.iadd, 1) := by decide +kernel
theorem dL_law_698 : decode cL_law 698 = .ok (.iaload, 1) := by decide +kernel
theorem dL_law_699 : decode cL_law 699 = .ok (.aload_n 0, 1) := by decide +kernel
theorem dL_law_700 : decode cL_law 700 = .ok (.iload_n 3, 1) := by decide +kernel
theorem dL_law_701 : decode cL_law 701 = .ok (.iconst 2, 1) := by decide +kernel
theorem dL_law_702 : decode cL_law 702 = .ok (.iadd, 1) := by decide +kernel
theorem dL_law_703 : decode cL_law 703 = .ok (.iaload, 1) := by decide +kernel
theorem dL_law_704 : decode cL_law 704 = .ok (.aload_n 0, 1) := by decide +kernel
theorem dL_law_705 : decode cL_law 705 = .ok (.iload_n 3, 1) := by decide +kernel
theorem dL_law_706 : decode cL_law 706 = .ok (.iconst 3, 1) := by decide +kernel
theorem dL_law_707 : decode cL_law 707 = .ok (.iadd, 1) := by decide +kernel
theorem dL_law_708 : decode cL_law 708 = .ok (.iaload, 1) := by decide +kernel
theorem dL_law_709 : decode cL_law 709 = .ok (.ifCond .eq 7, 3) := by decide +kernel
theorem dL_law_712 : decode cL_law 712 = .ok (.iconst 1, 1) := by decide +kernel
theorem dL_law_713 : decode cL_law 713 = .ok (.goto 4, 3) := by decide +kernel
theorem dL_law_716 : decode cL_law 716 = .ok (.iconst 0, 1) := by decide +kernel
theorem dL_law_717 : decode cL_law 717 = .ok (.invokevirtual 69, 3) := by decide +kernel
theorem dL_law_720 : decode cL_law 720 = .ok (.aload_n 2, 1) := by decide +kernel
theorem dL_law_721 : decode cL_law 721 = .ok (.aload_n 0, 1) := by decide +kernel
theorem dL_law_722 : decode cL_law 722 = .ok (.iload_n 3, 1) := by decide +kernel
theorem dL_law_723 : decode cL_law 723 = .ok (.iconst 1, 1) := by decide +kernel
theorem dL_law_724 : decode cL_law 724 = .ok (.iadd, 1) := by decide +kernel
theorem dL_law_725 : decode cL_law 725 = .ok (.iaload, 1) := by decide +kernel
theorem dL_law_726 : decode cL_law 726 = .ok (.aload_n 0, 1) := by decide +kernel
theorem dL_law_727 : decode cL_law 727 = .ok (.iload_n 3, 1) := by decide +kernel
theorem dL_law_728 : decode cL_law 728 = .ok (.iconst 2, 1) := by decide +kernel
theorem dL_law_729 : decode cL_law 729 = .ok (.iadd, 1) := by decide +kernel
theorem dL_law_730 : decode cL_law 730 = .ok (.iaload, 1) := by decide +kernel
theorem dL_law_731 : decode cL_law 731 = .ok (.aload_n 0, 1) := by decide +kernel
theorem dL_law_732 : decode cL_law 732 = .ok (.iload_n 3, 1) := by decide +kernel
theorem dL_law_733 : decode cL_law 733 = .ok (.iconst 3, 1) := by decide +kernel
theorem dL_law_734 : decode cL_law 734 = .ok (.iadd, 1) := by decide +kernel
theorem dL_law_735 : decode cL_law 735 = .ok (.iaload, 1) := by decide +kernel
theorem dL_law_736 : decode cL_law 736 = .ok (.ifCond .eq 7, 3) := by decide +kernel
theorem dL_law_739 : decode cL_law 739 = .ok (.iconst 1, 1) := by decide +kernel
theorem dL_law_740 : decode cL_law 740 = .ok (.goto 4, 3) := by decide +kernel
theorem dL_law_743 : decode cL_law 743 = .ok (.iconst 0, 1) := by decide +kernel
theorem dL_law_744 : decode cL_law 744 = .ok (.invokevirtual 73, 3) := by decide +kernel
theorem dL_law_747 : decode cL_law 747 = .ok (.if_icmp .eq 834, 3) := by decide +kernel
theorem dL_law_750 : decode cL_law 750 = .ok (.iconst 0, 1) := by decide +kernel
theorem dL_law_751 : decode cL_law 751 = .ok (.ireturn, 1) := by decide +kernel
theorem dL_law_752 : decode cL_law 752 = .ok (.aload_n 1, 1) := by decide +kernel
theorem dL_law_753 : decode cL_law 753 = .ok (.invokevirtual 74, 3) := by decide +kernel
theorem dL_law_756 : decode cL_law 756 = .ok (.aload_n 2, 1) := by decide +kernel
theorem dL_law_757 : decode cL_law 757 = .ok (.invokevirtual 78, 3) := by decide +kernel
theorem dL_law_760 : decode cL_law 760 = .ok (.if_icmp .eq 821, 3) := by decide +kernel
theorem dL_law_763 : decode cL_law 763 = .ok (.iconst 0, 1) := by decide +kernel
theorem dL_law_764 : decode cL_law 764 = .ok (.ireturn, 1) := by decide +kernel
theorem dL_law_765 : decode cL_law 765 = .ok (.aload_n 1, 1) := by decide +kernel
theorem dL_law_766 : decode cL_law 766 = .ok (.aload_n 0, 1) := by decide +kernel
theorem dL_law_767 : decode cL_law 767 = .ok (.iload_n 3, 1) := by decide +kernel
theorem dL_law_768 : decode cL_law 768 = .ok (.iconst 1, 1) := by decide +kernel
theorem dL_law_769 : decode cL_law 769 = .ok (.iadd, 1) := by decide +kernel
theorem dL_law_770 : decode cL_law 770 = .ok (.iaload, 1) := by decide +kernel
theorem dL_law_771 : decode cL_law 771 = .ok (.invokevirtual 79, 3) := by decide +kernel
theorem dL_law_774 : decode cL_law 774 = .ok (.aload_n 2, 1) := by decide +kernel
theorem dL_law_775 : decode cL_law 775 = .ok (.aload_n 0, 1) := by decide +kernel
theorem dL_law_776 : decode cL_law 776 = .ok (.iload_n 3, 1) := by decide +kernel
theorem dL_law_777 : decode cL_law 777 = .ok (.iconst 1, 1) := by decide +kernel
theorem dL_law_778 : decode cL_law 778 = .ok (.iadd, 1) := by decide +kernel
theorem dL_law_779 : decode cL_law 779 = .ok (.iaload, 1) := by decide +kernel
theorem dL_law_780 : decode cL_law 780 = .ok (.invokevirtual 82, 3) := by decide +kernel
theorem dL_law_783 : decode cL_law 783 = .ok (.if_icmp .eq 798, 3) := by decide +kernel
theorem dL_law_786 : decode cL_law 786 = .ok (.iconst 0, 1) := by decide +kernel
theorem dL_law_787 : decode cL_law 787 = .ok (.ireturn, 1) := by decide +kernel
theorem dL_law_788 : decode cL_law 788 = .ok (.aload_n 1, 1) := by decide +kernel
theorem dL_law_789 : decode cL_law 789 = .ok (.aload_n 0, 1) := by decide +kernel
theorem dL_law_790 : decode cL_law 790 = .ok (.iload_n 3, 1) := by decide +kernel
theorem dL_law_791 : decode cL_law 791 = .ok (.iconst 1, 1) := by decide +kernel
theorem dL_law_792 : decode cL_law 792 = .ok (.iadd, 1) := by decide +kernel
theorem dL_law_793 : decode cL_law 793 = .ok (.iaload, 1) := by decide +kernel
theorem dL_law_794 : decode cL_law 794 = .ok (.aload_n 0, 1) := by decide +kernel
theorem dL_law_795 : decode cL_law 795 = .ok (.iload_n 3, 1) := by decide +kernel
theorem dL_law_796 : decode cL_law 796 = .ok (.iconst 2, 1) := by decide +kernel
theorem dL_law_797 : decode cL_law 797 = .ok (.iadd, 1) := by decide +kernel
theorem dL_law_798 : decode cL_law 798 = .ok (.iaload, 1) := by decide +kernel
theorem dL_law_799 : decode cL_law 799 = .ok (.ifCond .eq 7, 3) := by decide +kernel
theorem dL_law_802 : decode cL_law 802 = .ok (.iconst 1, 1) := by decide +kernel
theorem dL_law_803 : decode cL_law 803 = .ok (.goto 4, 3) := by decide +kernel
theorem dL_law_806 : decode cL_law 806 = .ok (.iconst 0, 1) := by decide +kernel
theorem dL_law_807 : decode cL_law 807 = .ok (.invokevirtual 83, 3) := by decide +kernel
theorem dL_law_810 : decode cL_law 810 = .ok (.aload_n 2, 1) := by decide +kernel
theorem dL_law_811 : decode cL_law 811 = .ok (.aload_n 0, 1) := by decide +kernel
theorem dL_law_812 : decode cL_law 812 = .ok (.iload_n 3, 1) := by decide +kernel
theorem dL_law_813 : decode cL_law 813 = .ok (.iconst 1, 1) := by decide +kernel
theorem dL_law_814 : decode cL_law 814 = .ok (.iadd, 1) := by decide +kernel
theorem dL_law_815 : decode cL_law 815 = .ok (.iaload, 1) := by decide +kernel
theorem dL_law_816 : decode cL_law 816 = .ok (.aload_n 0, 1) := by decide +kernel
theorem dL_law_817 : decode cL_law 817 = .ok (.iload_n 3, 1) := by decide +kernel
theorem dL_law_818 : decode cL_law 818 = .ok (.iconst 2, 1) := by decide +kernel
theorem dL_law_819 : decode cL_law 819 = .ok (.iadd, 1) := by decide +kernel
theorem dL_law_820 : decode cL_law 820 = .ok (.iaload, 1) := by decide +kernel
theorem dL_law_821 : decode cL_law 821 = .ok (.ifCond .eq 7, 3) := by decide +kernel
theorem dL_law_824 : decode cL_law 824 = .ok (.iconst 1, 1) := by decide +kernel
theorem dL_law_825 : decode cL_law 825 = .ok (.goto 4, 3) := by decide +kernel
theorem dL_law_828 : decode cL_law 828 = .ok (.iconst 0, 1) := by decide +kernel
theorem dL_law_829 : decode cL_law 829 = .ok (.invokevirtual 87, 3) := by decide +kernel
theorem dL_law_832 : decode cL_law 832 = .ok (.if_icmp .eq 749, 3) := by decide +kernel
theorem dL_law_835 : decode cL_law 835 = .ok (.iconst 0, 1) := by decide +kernel
theorem dL_law_836 : decode cL_law 836 = .ok (.ireturn, 1) := by decide +kernel
theorem dL_law_837 : decode cL_law 837 = .ok (.aload_n 1, 1) := by decide +kernel
theorem dL_law_838 : decode cL_law 838 = .ok (.aload_n 0, 1) := by decide +kernel
theorem dL_law_839 : decode cL_law 839 = .ok (.iload_n 3, 1) := by decide +kernel
theorem dL_law_840 : decode cL_law 840 = .ok (.iconst 1, 1) := by decide +kernel
theorem dL_law_841 : decode cL_law 841 = .ok (.iadd, 1) := by decide +kernel
theorem dL_law_842 : decode cL_law 842 = .ok (.iaload, 1) := by decide +kernel
theorem dL_law_843 : decode cL_law 843 = .ok (.invokevirtual 88, 3) := by decide +kernel
theorem dL_law_846 : decode cL_law 846 = .ok (.aload_n 2, 1) := by decide +kernel
theorem dL_law_847 : decode cL_law 847 = .ok (.aload_n 0, 1) := by decide +kernel
theorem dL_law_848 : decode cL_law 848 = .ok (.iload_n 3, 1) := by decide +kernel
theorem dL_law_849 : decode cL_law 849 = .ok (.iconst 1, 1) := by decide +kernel
theorem dL_law_850 : decode cL_law 850 = .ok (.iadd, 1) := by decide +kernel
theorem dL_law_851 : decode cL_law 851 = .ok (.iaload, 1) := by decide +kernel
theorem dL_law_852 : decode cL_law 852 = .ok (.invokevirtual 91, 3) := by decide +kernel
theorem dL_law_855 : decode cL_law 855 = .ok (.if_icmp .eq 726, 3) := by decide +kernel
theorem dL_law_858 : decode cL_law 858 = .ok (.iconst 0, 1) := by decide +kernel
theorem dL_law_859 : decode cL_law 859 = .ok (.ireturn, 1) := by decide +kernel
theorem dL_law_860 : decode cL_law 860 = .ok (.aload_n 1, 1) := by decide +kernel
theorem dL_law_861 : decode cL_law 861 = .ok (.invokevirtual 92, 3) := by decide +kernel
theorem dL_law_864 : decode cL_law 864 = .ok (.aload_n 2, 1) := by decide +kernel
theorem dL_law_865 : decode cL_law 865 = .ok (.invokevirtual 95, 3) := by decide +kernel
theorem dL_law_868 : decode cL_law 868 = .ok (.if_icmp .eq 713, 3) := by decide +kernel
theorem dL_law_871 : decode cL_law 871 = .ok (.iconst 0, 1) := by decide +kernel
theorem dL_law_872 : decode cL_law 872 = .ok (.ireturn, 1) := by decide +kernel
theorem dL_law_873 : decode cL_law 873 = .ok (.aload_n 1, 1) := by decide +kernel
theorem dL_law_874 : decode cL_law 874 = .ok (.aload_n 0, 1) := by decide +kernel
theorem dL_law_875 : decode cL_law 875 = .ok (.iload_n 3, 1) := by decide +kernel
theorem dL_law_876 : decode cL_law 876 = .ok (.iconst 1, 1) := by decide +kernel
theorem dL_law_877 : decode cL_law 877 = .ok (.iadd, 1) := by decide +kernel
theorem dL_law_878 : decode cL_law 878 = .ok (.iaload, 1) := by decide +kernel
theorem dL_law_879 : decode cL_law 879 = .ok (.aload_n 0, 1) := by decide +kernel
theorem dL_law_880 : decode cL_law 880 = .ok (.iload_n 3, 1) := by decide +kernel
theorem dL_law_881 : decode cL_law 881 = .ok (.iconst 2, 1) := by decide +kernel
theorem dL_law_882 : decode cL_law 882 = .ok (.iadd, 1) := by decide +kernel
theorem dL_law_883 : decode cL_law 883 = .ok (.iaload, 1) := by decide +kernel
theorem dL_law_884 : decode cL_law 884 = .ok (.invokevirtual 96, 3) := by decide +kernel
theorem dL_law_887 : decode cL_law 887 = .ok (.aload_n 2, 1) := by decide +kernel
theorem dL_law_888 : decode cL_law 888 = .ok (.aload_n 0, 1) := by decide +kernel
theorem dL_law_889 : decode cL_law 889 = .ok (.iload_n 3, 1) := by decide +kernel
theorem dL_law_890 : decode cL_law 890 = .ok (.iconst 1, 1) := by decide +kernel
theorem dL_law_891 : decode cL_law 891 = .ok (.iadd, 1) := by decide +kernel
theorem dL_law_892 : decode cL_law 892 = .ok (.iaload, 1) := by decide +kernel
theorem dL_law_893 : decode cL_law 893 = .ok (.aload_n 0, 1) := by decide +kernel
theorem dL_law_894 : decode cL_law 894 = .ok (.iload_n 3, 1) := by decide +kernel
theorem dL_law_895 : decode cL_law 895 = .ok (.iconst 2, 1) := by decide +kernel
theorem dL_law_896 : decode cL_law 896 = .ok (.iadd, 1) := by decide +kernel
theorem dL_law_897 : decode cL_law 897 = .ok (.iaload, 1) := by decide +kernel
theorem dL_law_898 : decode cL_law 898 = .ok (.invokevirtual 99, 3) := by decide +kernel
theorem dL_law_901 : decode cL_law 901 = .ok (.if_icmp .eq 680, 3) := by decide +kernel
theorem dL_law_904 : decode cL_law 904 = .ok (.iconst 0, 1) := by decide +kernel
theorem dL_law_905 : decode cL_law 905 = .ok (.ireturn, 1) := by decide +kernel
theorem dL_law_906 : decode cL_law 906 = .ok (.aload_n 1, 1) := by decide +kernel
theorem dL_law_907 : decode cL_law 907 = .ok (.aload_n 0, 1) := by decide +kernel
theorem dL_law_908 : decode cL_law 908 = .ok (.iload_n 3, 1) := by decide +kernel
theorem dL_law_909 : decode cL_law 909 = .ok (.iconst 1, 1) := by decide +kernel
theorem dL_law_910 : decode cL_law 910 = .ok (.iadd, 1) := by decide +kernel
theorem dL_law_911 : decode cL_law 911 = .ok (.iaload, 1) := by decide +kernel
theorem dL_law_912 : decode cL_law 912 = .ok (.aload_n 0, 1) := by decide +kernel
theorem dL_law_913 : decode cL_law 913 = .ok (.iload_n 3, 1) := by decide +kernel
theorem dL_law_914 : decode cL_law 914 = .ok (.iconst 2, 1) := by decide +kernel
theorem dL_law_915 : decode cL_law 915 = .ok (.iadd, 1) := by decide +kernel
theorem dL_law_916 : decode cL_law 916 = .ok (.iaload, 1) := by decide +kernel
theorem dL_law_917 : decode cL_law 917 = .ok (.aload_n 0, 1) := by decide +kernel
theorem dL_law_918 : decode cL_law 918 = .ok (.iload_n 3, 1) := by decide +kernel
theorem dL_law_919 : decode cL_law 919 = .ok (.iconst 3, 1) := by decide +kernel
theorem dL_law_920 : decode cL_law 920 = .ok (.iadd, 1) := by decide +kernel
theorem dL_law_921 : decode cL_law 921 = .ok (.iaload, 1) := by decide +kernel
theorem dL_law_922 : decode cL_law 922 = .ok (.invokevirtual 100, 3) := by decide +kernel
theorem dL_law_925 : decode cL_law 925 = .ok (.aload_n 2, 1) := by decide +kernel
theorem dL_law_926 : decode cL_law 926 = .ok (.aload_n 0, 1) := by decide +kernel
theorem dL_law_927 : decode cL_law 927 = .ok (.iload_n 3, 1) := by decide +kernel
theorem dL_law_928 : decode cL_law 928 = .ok (.iconst 1, 1) := by decide +kernel
theorem dL_law_929 : decode cL_law 929 = .ok (.iadd, 1) := by decide +kernel
theorem dL_law_930 : decode cL_law 930 = .ok (.iaload, 1) := by decide +kernel
theorem dL_law_931 : decode cL_law 931 = .ok (.aload_n 0, 1) := by decide +kernel
theorem dL_law_932 : decode cL_law 932 = .ok (.iload_n 3, 1) := by decide +kernel
theorem dL_law_933 : decode cL_law 933 = .ok (.iconst 2, 1) := by decide +kernel
theorem dL_law_934 : decode cL_law 934 = .ok (.iadd, 1) := by decide +kernel
theorem dL_law_935 : decode cL_law 935 = .ok (.iaload, 1) := by decide +kernel
theorem dL_law_936 : decode cL_law 936 = .ok (.aload_n 0, 1) := by decide +kernel
theorem dL_law_937 : decode cL_law 937 = .ok (.iload_n 3, 1) := by decide +kernel
theorem dL_law_938 : decode cL_law 938 = .ok (.iconst 3, 1) := by decide +kernel
theorem dL_law_939 : decode cL_law 939 = .ok (.iadd, 1) := by decide +kernel
theorem dL_law_940 : decode cL_law 940 = .ok (.iaload, 1) := by decide +kernel
theorem dL_law_941 : decode cL_law 941 = .ok (.invokevirtual 103, 3) := by decide +kernel
theorem dL_law_944 : decode cL_law 944 = .ok (.if_icmp .eq 637, 3) := by decide +kernel
theorem dL_law_947 : decode cL_law 947 = .ok (.iconst 0, 1) := by decide +kernel
theorem dL_law_948 : decode cL_law 948 = .ok (.ireturn, 1) := by decide +kernel
theorem dL_law_949 : decode cL_law 949 = .ok (.aload_n 1, 1) := by decide +kernel
theorem dL_law_950 : decode cL_law 950 = .ok (.invokevirtual 104, 3) := by decide +kernel
theorem dL_law_953 : decode cL_law 953 = .ok (.aload_n 2, 1) := by decide +kernel
theorem dL_law_954 : decode cL_law 954 = .ok (.invokevirtual 108, 3) := by decide +kernel
theorem dL_law_957 : decode cL_law 957 = .ok (.lcmp, 1) := by decide +kernel
theorem dL_law_958 : decode cL_law 958 = .ok (.ifCond .eq 623, 3) := by decide +kernel
theorem dL_law_961 : decode cL_law 961 = .ok (.iconst 0, 1) := by decide +kernel
theorem dL_law_962 : decode cL_law 962 = .ok (.ireturn, 1) := by decide +kernel
theorem dL_law_963 : decode cL_law 963 = .ok (.aload_n 1, 1) := by decide +kernel
theorem dL_law_964 : decode cL_law 964 = .ok (.invokevirtual 109, 3) := by decide +kernel
theorem dL_law_967 : decode cL_law 967 = .ok (.aload_n 2, 1) := by decide +kernel
theorem dL_law_968 : decode cL_law 968 = .ok (.invokevirtual 112, 3) := by decide +kernel
theorem dL_law_971 : decode cL_law 971 = .ok (.if_icmp .eq 610, 3) := by decide +kernel
theorem dL_law_974 : decode cL_law 974 = .ok (.iconst 0, 1) := by decide +kernel
theorem dL_law_975 : decode cL_law 975 = .ok (.ireturn, 1) := by decide +kernel
theorem dL_law_976 : decode cL_law 976 = .ok (.aload_n 1, 1) := by decide +kernel
theorem dL_law_977 : decode cL_law 977 = .ok (.aload_n 0, 1) := by decide +kernel
theorem dL_law_978 : decode cL_law 978 = .ok (.iload_n 3, 1) := by decide +kernel
theorem dL_law_979 : decode cL_law 979 = .ok (.iconst 1, 1) := by decide +kernel
theorem dL_law_980 : decode cL_law 980 = .ok (.iadd, 1) := by decide +kernel
theorem dL_law_981 : decode cL_law 981 = .ok (.iaload, 1) := by decide +kernel
theorem dL_law_982 : decode cL_law 982 = .ok (.invokevirtual 113, 3) := by decide +kernel
theorem dL_law_985 : decode cL_law 985 = .ok (.aload_n 2, 1) := by decide +kernel
theorem dL_law_986 : decode cL_law 986 = .ok (.aload_n 0, 1) := by decide +kernel
theorem dL_law_987 : decode cL_law 987 = .ok (.iload_n 3, 1) := by decide +kernel
theorem dL_law_988 : decode cL_law 988 = .ok (.iconst 1, 1) := by decide +kernel
theorem dL_law_989 : decode cL_law 989 = .ok (.iadd, 1) := by decide +kernel
theorem dL_law_990 : decode cL_law 990 = .ok (.iaload, 1) := by decide +kernel
theorem dL_law_991 : decode cL_law 991 = .ok (.invokevirtual 116, 3) := by decide +kernel
theorem dL_law_994 : decode cL_law 994 = .ok (.if_icmp .eq 587, 3) := by decide +kernel
theorem dL_law_997 : decode cL_law 997 = .ok (.iconst 0, 1) := by decide +kernel
theorem dL_law_998 : decode cL_law 998 = .ok (.ireturn, 1) := by decide +kernel
theorem dL_law_999 : decode cL_law 999 = .ok (.aload_n 1, 1) := by decide +kernel
theorem dL_law_1000 : decode cL_law 1000 = .ok (.invokevirtual 117, 3) := by decide +kernel
theorem dL_law_1003 : decode cL_law 1003 = .ok (.aload_n 2, 1) := by decide +kernel
theorem dL_law_1004 : decode cL_law 1004 = .ok (.invokevirtual 120, 3) := by decide +kernel
theorem dL_law_1007 : decode cL_law 1007 = .ok (.if_icmp .eq 574, 3) := by decide +kernel
theorem dL_law_1010 : decode cL_law 1010 = .ok (.iconst 0, 1) := by decide +kernel
theorem dL_law_1011 : decode cL_law 1011 = .ok (.ireturn, 1) := by decide +kernel
theorem dL_law_1012 : decode cL_law 1012 = .ok (.aload_n 1, 1) := by decide +kernel
theorem dL_law_1013 : decode cL_law 1013 = .ok (.aload_n 0, 1) := by decide +kernel
theorem dL_law_1014 : decode cL_law 1014 = .ok (.iload_n 3, 1) := by decide +kernel
theorem dL_law_1015 : decode cL_law 1015 = .ok (.iconst 1, 1) := by decide +kernel
theorem dL_law_1016 : decode cL_law 1016 = .ok (.iadd, 1) := by decide +kernel
theorem dL_law_1017 : decode cL_law 1017 = .ok (.iaload, 1) := by decide +kernel
theorem dL_law_1018 : decode cL_law 1018 = .ok (.invokevirtual 121, 3) := by decide +kernel
theorem dL_law_1021 : decode cL_law 1021 = .ok (.aload_n 2, 1) := by decide +kernel
theorem dL_law_1022 : decode cL_law 1022 = .ok (.aload_n 0, 1) := by decide +kernel
theorem dL_law_1023 : decode cL_law 1023 = .ok (.iload_n 3, 1) := by decide +kernel
theorem dL_law_1024 : decode cL_law 1024 = .ok (.iconst 1, 1) := by decide +kernel
theorem dL_law_1025 : decode cL_law 1025 = .ok (.iadd, 1) := by decide +kernel
theorem dL_law_1026 : decode cL_law 1026 = .ok (.iaload, 1) := by decide +kernel
theorem dL_law_1027 : decode cL_law 1027 = .ok (.invokevirtual 124, 3) := by decide +kernel
theorem dL_law_1030 : decode cL_law 1030 = .ok (.if_icmp .eq 551, 3) := by decide +kernel
theorem dL_law_1033 : decode cL_law 1033 = .ok (.iconst 0, 1) := by decide +kernel
theorem dL_law_1034 : decode cL_law 1034 = .ok (.ireturn, 1) := by decide +kernel
theorem dL_law_1035 : decode cL_law 1035 = .ok (.aload_n 1, 1) := by decide +kernel
theorem dL_law_1036 : decode cL_law 1036 = .ok (.aload_n 0, 1) := by decide +kernel
theorem dL_law_1037 : decode cL_law 1037 = .ok (.iload_n 3, 1) := by decide +kernel
theorem dL_law_1038 : decode cL_law 1038 = .ok (.iconst 1, 1) := by decide +kernel
theorem dL_law_1039 : decode cL_law 1039 = .ok (.iadd, 1) := by decide +kernel
theorem dL_law_1040 : decode cL_law 1040 = .ok (.iaload, 1) := by decide +kernel
theorem dL_law_1041 : decode cL_law 1041 = .ok (.invokevirtual 125, 3) := by decide +kernel
theorem dL_law_1044 : decode cL_law 1044 = .ok (.aload_n 2, 1) := by decide +kernel
theorem dL_law_1045 : decode cL_law 1045 = .ok (.aload_n 0, 1) := by decide +kernel
theorem dL_law_1046 : decode cL_law 1046 = .ok (.iload_n 3, 1) := by decide +kernel
theorem dL_law_1047 : decode cL_law 1047 = .ok (.iconst 1, 1) := by decide +kernel
theorem dL_law_1048 : decode cL_law 1048 = .ok (.iadd, 1) := by decide +kernel
theorem dL_law_1049 : decode cL_law 1049 = .ok (.iaload, 1) := by decide +kernel
theorem dL_law_1050 : decode cL_law 1050 = .ok (.invokevirtual 128, 3) := by decide +kernel
theorem dL_law_1053 : decode cL_law 1053 = .ok (.if_icmp .eq 528, 3) := by decide +kernel
theorem dL_law_1056 : decode cL_law 1056 = .ok (.iconst 0, 1) := by decide +kernel
theorem dL_law_1057 : decode cL_law 1057 = .ok (.ireturn, 1) := by decide +kernel
theorem dL_law_1058 : decode cL_law 1058 = .ok (.aload_n 1, 1) := by decide +kernel
theorem dL_law_1059 : decode cL_law 1059 = .ok (.aload_n 0, 1) := by decide +kernel
theorem dL_law_1060 : decode cL_law 1060 = .ok (.iload_n 3, 1) := by decide +kernel
theorem dL_law_1061 : decode cL_law 1061 = .ok (.iconst 1, 1) := by decide +kernel
theorem dL_law_1062 : decode cL_law 1062 = .ok (.iadd, 1) := by decide +kernel
theorem dL_law_1063 : decode cL_law 1063 = .ok (.iaload, 1) := by decide +kernel
theorem dL_law_1064 : decode cL_law 1064 = .ok (.aload_n 0, 1) := by decide +kernel
theorem dL_law_1065 : decode cL_law 1065 = .ok (.iload_n 3, 1) := by decide +kernel
theorem dL_law_1066 : decode cL_law 1066 = .ok (.iconst 2, 1) := by decide +kernel
theorem dL_law_1067 : decode cL_law 1067 = .ok (.iadd, 1) := by decide +kernel
theorem dL_law_1068 : decode cL_law 1068 = .ok (.iaload, 1) := by decide +kernel
theorem dL_law_1069 : decode cL_law 1069 = .ok (.invokevirtual 129, 3) := by decide +kernel
theorem dL_law_1072 : decode cL_law 1072 = .ok (.aload_n 2, 1) := by decide +kernel
theorem dL_law_1073 : decode cL_law 1073 = .ok (.aload_n 0, 1) := by decide +kernel
theorem dL_law_1074 : decode cL_law 1074 = .ok (.iload_n 3, 1) := by decide +kernel
theorem dL_law_1075 : decode cL_law 1075 = .ok (.iconst 1, 1) := by decide +kernel
theorem dL_law_1076 : decode cL_law 1076 = .ok (.iadd, 1) := by decide +kernel
theorem dL_law_1077 : decode cL_law 1077 = .ok (.iaload, 1) := by decide +kernel
theorem dL_law_1078 : decode cL_law 1078 = .ok (.aload_n 0, 1) := by decide +kernel
theorem dL_law_1079 : decode cL_law 1079 = .ok (.iload_n 3, 1) := by decide +kernel
theorem dL_law_1080 : decode cL_law 1080 = .ok (.iconst 2, 1) := by decide +kernel
theorem dL_law_1081 : decode cL_law 1081 = .ok (.iadd, 1) := by decide +kernel
theorem dL_law_1082 : decode cL_law 1082 = .ok (.iaload, 1) := by decide +kernel
theorem dL_law_1083 : decode cL_law 1083 = .ok (.invokevirtual 132, 3) := by decide +kernel
theorem dL_law_1086 : decode cL_law 1086 = .ok (.if_icmp .eq 495, 3) := by decide +kernel
theorem dL_law_1089 : decode cL_law 1089 = .ok (.iconst 0, 1) := by decide +kernel
theorem dL_law_1090 : decode cL_law 1090 = .ok (.ireturn, 1) := by decide +kernel
theorem dL_law_1091 : decode cL_law 1091 = .ok (.aload_n 1, 1) := by decide +kernel
theorem dL_law_1092 : decode cL_law 1092 = .ok (.invokevirtual 133, 3) := by decide +kernel
theorem dL_law_1095 : decode cL_law 1095 = .ok (.aload_n 2, 1) := by decide +kernel
theorem dL_law_1096 : decode cL_law 1096 = .ok (.invokevirtual 136, 3) := by decide +kernel
theorem dL_law_1099 : decode cL_law 1099 = .ok (.if_icmp .eq 482, 3) := by decide +kernel
theorem dL_law_1102 : decode cL_law 1102 = .ok (.iconst 0, 1) := by decide +kernel
theorem dL_law_1103 : decode cL_law 1103 = .ok (.ireturn, 1) := by decide +kernel
theorem dL_law_1104 : decode cL_law 1104 = .ok (.aload_n 1, 1) := by decide +kernel
theorem dL_law_1105 : decode cL_law 1105 = .ok (.aload_n 0, 1) := by decide +kernel
theorem dL_law_1106 : decode cL_law 1106 = .ok (.iload_n 3, 1) := by decide +kernel
theorem dL_law_1107 : decode cL_law 1107 = .ok (.iconst 1, 1) := by decide +kernel
theorem dL_law_1108 : decode cL_law 1108 = .ok (.iadd, 1) := by decide +kernel
theorem dL_law_1109 : decode cL_law 1109 = .ok (.iaload, 1) := by decide +kernel
theorem dL_law_1110 : decode cL_law 1110 = .ok (.aload_n 0, 1) := by decide +kernel
theorem dL_law_1111 : decode cL_law 1111 = .ok (.iload_n 3, 1) := by decide +kernel
theorem dL_law_1112 : decode cL_law 1112 = .ok (.iconst 2, 1) := by decide +kernel
theorem dL_law_1113 : decode cL_law 1113 = .ok (.iadd, 1) := by decide +kernel
theorem dL_law_1114 : decode cL_law 1114 = .ok (.iaload, 1) := by decide +kernel
theorem dL_law_1115 : decode cL_law 1115 = .ok (.invokevirtual 137, 3) := by decide +kernel
theorem dL_law_1118 : decode cL_law 1118 = .ok (.aload_n 2, 1) := by decide +kernel
theorem dL_law_1119 : decode cL_law 1119 = .ok (.aload_n 0, 1) := by decide +kernel
theorem dL_law_1120 : decode cL_law 1120 = .ok (.iload_n 3, 1) := by decide +kernel
theorem dL_law_1121 : decode cL_law 1121 = .ok (.iconst 1, 1) := by decide +kernel
theorem dL_law_1122 : decode cL_law 1122 = .ok (.iadd, 1) := by decide +kernel
theorem dL_law_1123 : decode cL_law 1123 = .ok (.iaload, 1) := by decide +kernel
theorem dL_law_1124 : decode cL_law 1124 = .ok (.aload_n 0, 1) := by decide +kernel
theorem dL_law_1125 : decode cL_law 1125 = .ok (.iload_n 3, 1) := by decide +kernel
theorem dL_law_1126 : decode cL_law 1126 = .ok (.iconst 2, 1) := by decide +kernel
theorem dL_law_1127 : decode cL_law 1127 = .ok (.iadd, 1) := by decide +kernel
theorem dL_law_1128 : decode cL_law 1128 = .ok (.iaload, 1) := by decide +kernel
theorem dL_law_1129 : decode cL_law 1129 = .ok (.invokevirtual 140, 3) := by decide +kernel
theorem dL_law_1132 : decode cL_law 1132 = .ok (.if_icmp .eq 449, 3) := by decide +kernel
theorem dL_law_1135 : decode cL_law 1135 = .ok (.iconst 0, 1) := by decide +kernel
theorem dL_law_1136 : decode cL_law 1136 = .ok (.ireturn, 1) := by decide +kernel
theorem dL_law_1137 : decode cL_law 1137 = .ok (.aload_n 1, 1) := by decide +kernel
theorem dL_law_1138 : decode cL_law 1138 = .ok (.aload_n 0, 1) := by decide +kernel
theorem dL_law_1139 : decode cL_law 1139 = .ok (.iload_n 3, 1) := by decide +kernel
theorem dL_law_1140 : decode cL_law 1140 = .ok (.iconst 1, 1) := by decide +kernel
theorem dL_law_1141 : decode cL_law 1141 = .ok (.iadd, 1) := by decide +kernel
theorem dL_law_1142 : decode cL_law 1142 = .ok (.iaload, 1) := by decide +kernel
theorem dL_law_1143 : decode cL_law 1143 = .ok (.invokevirtual 141, 3) := by decide +kernel
theorem dL_law_1146 : decode cL_law 1146 = .ok (.aload_n 2, 1) := by decide +kernel
theorem dL_law_1147 : decode cL_law 1147 = .ok (.aload_n 0, 1) := by decide +kernel
theorem dL_law_1148 : decode cL_law 1148 = .ok (.iload_n 3, 1) := by decide +kernel
theorem dL_law_1149 : decode cL_law 1149 = .ok (.iconst 1, 1) := by decide +kernel
theorem dL_law_1150 : decode cL_law 1150 = .ok (.iadd, 1) := by decide +kernel
theorem dL_law_1151 : decode cL_law 1151 = .ok (.iaload, 1) := by decide +kernel
theorem dL_law_1152 : decode cL_law 1152 = .ok (.invokevirtual 144, 3) := by decide +kernel
theorem dL_law_1155 : decode cL_law 1155 = .ok (.if_icmp .eq 426, 3) := by decide +kernel
theorem dL_law_1158 : decode cL_law 1158 = .ok (.iconst 0, 1) := by decide +kernel
theorem dL_law_1159 : decode cL_law 1159 = .ok (.ireturn, 1) := by decide +kernel
theorem dL_law_1160 : decode cL_law 1160 = .ok (.aload_n 1, 1) := by decide +kernel
theorem dL_law_1161 : decode cL_law 1161 = .ok (.aload_n 0, 1) := by decide +kernel
theorem dL_law_1162 : decode cL_law 1162 = .ok (.iload_n 3, 1) := by decide +kernel
theorem dL_law_1163 : decode cL_law 1163 = .ok (.iconst 1, 1) := by decide +kernel
theorem dL_law_1164 : decode cL_law 1164 = .ok (.iadd, 1) := by decide +kernel
theorem dL_law_1165 : decode cL_law 1165 = .ok (.iaload, 1) := by decide +kernel
theorem dL_law_1166 : decode cL_law 1166 = .ok (.aload_n 0, 1) := by decide +kernel
theorem dL_law_1167 : decode cL_law 1167 = .ok (.iload_n 3, 1) := by decide +kernel
theorem dL_law_1168 : decode cL_law 1168 = .ok (.iconst 2, 1) := by decide +kernel
theorem dL_law_1169 : decode cL_law 1169 = .ok (.iadd, 1) := by decide +kernel
theorem dL_law_1170 : decode cL_law 1170 = .ok (.iaload, 1) := by decide +kernel
theorem dL_law_1171 : decode cL_law 1171 = .ok (.invokevirtual 145, 3) := by decide +kernel
theorem dL_law_1174 : decode cL_law 1174 = .ok (.aload_n 2, 1) := by decide +kernel
theorem dL_law_1175 : decode cL_law 1175 = .ok (.aload_n 0, 1) := by decide +kernel
theorem dL_law_1176 : decode cL_law 1176 = .ok (.iload_n 3, 1) := by decide +kernel
theorem dL_law_1177 : decode cL_law 1177 = .ok (.iconst 1, 1) := by decide +kernel
theorem dL_law_1178 : decode cL_law 1178 = .ok (.iadd, 1) := by decide +kernel
theorem dL_law_1179 : decode cL_law 1179 = .ok (.iaload, 1) := by decide +kernel
theorem dL_law_1180 : decode cL_law 1180 = .ok (.aload_n 0, 1) := by decide +kernel
theorem dL_law_1181 : decode cL_law 1181 = .ok (.iload_n 3, 1) := by decide +kernel
theorem dL_law_1182 : decode cL_law 1182 = .ok (.iconst 2, 1) := by decide +kernel
theorem dL_law_1183 : decode cL_law 1183 = .ok (.iadd, 1) := by decide +kernel
theorem dL_law_1184 : decode cL_law 1184 = .ok (.iaload, 1) := by decide +kernel
theorem dL_law_1185 : decode cL_law 1185 = .ok (.invokevirtual 148, 3) := by decide +kernel
theorem dL_law_1188 : decode cL_law 1188 = .ok (.if_icmp .eq 393, 3) := by decide +kernel
theorem dL_law_1191 : decode cL_law 1191 = .ok (.iconst 0, 1) := by decide +kernel
theorem dL_law_1192 : decode cL_law 1192 = .ok (.ireturn, 1) := by decide +kernel
theorem dL_law_1193 : decode cL_law 1193 = .ok (.aload_n 1, 1) := by decide +kernel
theorem dL_law_1194 : decode cL_law 1194 = .ok (.aload_n 0, 1) := by decide +kernel
theorem dL_law_1195 : decode cL_law 1195 = .ok (.iload_n 3, 1) := by decide +kernel
theorem dL_law_1196 : decode cL_law 1196 = .ok (.iconst 1, 1) := by decide +kernel
theorem dL_law_1197 : decode cL_law 1197 = .ok (.iadd, 1) := by decide +kernel
theorem dL_law_1198 : decode cL_law 1198 = .ok (.iaload, 1) := by decide +kernel
theorem dL_law_1199 : decode cL_law 1199 = .ok (.aload_n 0, 1) := by decide +kernel
theorem dL_law_1200 : decode cL_law 1200 = .ok (.iload_n 3, 1) := by decide +kernel
theorem dL_law_1201 : decode cL_law 1201 = .ok (.iconst 2, 1) := by decide +kernel
theorem dL_law_1202 : decode cL_law 1202 = .ok (.iadd, 1) := by decide +kernel
theorem dL_law_1203 : decode cL_law 1203 = .ok (.iaload, 1) := by decide +kernel
theorem dL_law_1204 : decode cL_law 1204 = .ok (.invokevirtual 149, 3) := by decide +kernel
theorem dL_law_1207 : decode cL_law 1207 = .ok (.aload_n 2, 1) := by decide +kernel
theorem dL_law_1208 : decode cL_law 1208 = .ok (.aload_n 0, 1) := by decide +kernel
theorem dL_law_1209 : decode cL_law 1209 = .ok (.iload_n 3, 1) := by decide +kernel
theorem dL_law_1210 : decode cL_law 1210 = .ok (.iconst 1, 1) := by decide +kernel
theorem dL_law_1211 : decode cL_law 1211 = .ok (.iadd, 1) := by decide +kernel
theorem dL_law_1212 : decode cL_law 1212 = .ok (.iaload, 1) := by decide +kernel
theorem dL_law_1213 : decode cL_law 1213 = .ok (.aload_n 0, 1) := by decide +kernel
theorem dL_law_1214 : decode cL_law 1214 = .ok (.iload_n 3, 1) := by decide +kernel
theorem dL_law_1215 : decode cL_law 1215 = .ok (.iconst 2, 1) := by decide +kernel
theorem dL_law_1216 : decode cL_law 1216 = .ok (.iadd, 1) := by decide +kernel
theorem dL_law_1217 : decode cL_law 1217 = .ok (.iaload, 1) := by decide +kernel
theorem dL_law_1218 : decode cL_law 1218 = .ok (.invokevirtual 152, 3) := by decide +kernel
theorem dL_law_1221 : decode cL_law 1221 = .ok (.if_icmp .eq 360, 3) := by decide +kernel
theorem dL_law_1224 : decode cL_law 1224 = .ok (.iconst 0, 1) := by decide +kernel
theorem dL_law_1225 : decode cL_law 1225 = .ok (.ireturn, 1) := by decide +kernel
theorem dL_law_1226 : decode cL_law 1226 = .ok (.aload_n 1, 1) := by decide +kernel
theorem dL_law_1227 : decode cL_law 1227 = .ok (.aload_n 0, 1) := by decide +kernel
theorem dL_law_1228 : decode cL_law 1228 = .ok (.iload_n 3, 1) := by decide +kernel
theorem dL_law_1229 : decode cL_law 1229 = .ok (.iconst 1, 1) := by decide +kernel
theorem dL_law_1230 : decode cL_law 1230 = .ok (.iadd, 1) := by decide +kernel
theorem dL_law_1231 : decode cL_law 1231 = .ok (.iaload, 1) := by decide +kernel
theorem dL_law_1232 : decode cL_law 1232 = .ok (.aload_n 0, 1) := by decide +kernel
theorem dL_law_1233 : decode cL_law 1233 = .ok (.iload_n 3, 1) := by decide +kernel
theorem dL_law_1234 : decode cL_law 1234 = .ok (.iconst 2, 1) := by decide +kernel
theorem dL_law_1235 : decode cL_law 1235 = .ok (.iadd, 1) := by decide +kernel
theorem dL_law_1236 : decode cL_law 1236 = .ok (.iaload, 1) := by decide +kernel
theorem dL_law_1237 : decode cL_law 1237 = .ok (.invokevirtual 153, 3) := by decide +kernel
theorem dL_law_1240 : decode cL_law 1240 = .ok (.aload_n 2, 1) := by decide +kernel
theorem dL_law_1241 : decode cL_law 1241 = .ok (.aload_n 0, 1) := by decide +kernel
theorem dL_law_1242 : decode cL_law 1242 = .ok (.iload_n 3, 1) := by decide +kernel
theorem dL_law_1243 : decode cL_law 1243 = .ok (.iconst 1, 1) := by decide +kernel
theorem dL_law_1244 : decode cL_law 1244 = .ok (.iadd, 1) := by decide +kernel
theorem dL_law_1245 : decode cL_law 1245 = .ok (.iaload, 1) := by decide +kernel
theorem dL_law_1246 : decode cL_law 1246 = .ok (.aload_n 0, 1) := by decide +kernel
theorem dL_law_1247 : decode cL_law 1247 = .ok (.iload_n 3, 1) := by decide +kernel
theorem dL_law_1248 : decode cL_law 1248 = .ok (.iconst 2, 1) := by decide +kernel
theorem dL_law_1249 : decode cL_law 1249 = .ok (.iadd, 1) := by decide +kernel
theorem dL_law_1250 : decode cL_law 1250 = .ok (.iaload, 1) := by decide +kernel
theorem dL_law_1251 : decode cL_law 1251 = .ok (.invokevirtual 156, 3) := by decide +kernel
theorem dL_law_1254 : decode cL_law 1254 = .ok (.if_icmp .eq 327, 3) := by decide +kernel
theorem dL_law_1257 : decode cL_law 1257 = .ok (.iconst 0, 1) := by decide +kernel
theorem dL_law_1258 : decode cL_law 1258 = .ok (.ireturn, 1) := by decide +kernel
theorem dL_law_1259 : decode cL_law 1259 = .ok (.aload_n 1, 1) := by decide +kernel
theorem dL_law_1260 : decode cL_law 1260 = .ok (.aload_n 0, 1) := by decide +kernel
theorem dL_law_1261 : decode cL_law 1261 = .ok (.iload_n 3, 1) := by decide +kernel
theorem dL_law_1262 : decode cL_law 1262 = .ok (.iconst 1, 1) := by decide +kernel
theorem dL_law_1263 : decode cL_law 1263 = .ok (.iadd, 1) := by decide +kernel
theorem dL_law_1264 : decode cL_law 1264 = .ok (.iaload, 1) := by decide +kernel
theorem dL_law_1265 : decode cL_law 1265 = .ok (.aload_n 0, 1) := by decide +kernel
theorem dL_law_1266 : decode cL_law 1266 = .ok (.iload_n 3, 1) := by decide +kernel
theorem dL_law_1267 : decode cL_law 1267 = .ok (.iconst 2, 1) := by decide +kernel
theorem dL_law_1268 : decode cL_law 1268 = .ok (.iadd, 1) := by decide +kernel
theorem dL_law_1269 : decode cL_law 1269 = .ok (.iaload, 1) := by decide +kernel
theorem dL_law_1270 : decode cL_law 1270 = .ok (.invokevirtual 157, 3) := by decide +kernel
theorem dL_law_1273 : decode cL_law 1273 = .ok (.aload_n 2, 1) := by decide +kernel
theorem dL_law_1274 : decode cL_law 1274 = .ok (.aload_n 0, 1) := by decide +kernel
theorem dL_law_1275 : decode cL_law 1275 = .ok (.iload_n 3, 1) := by decide +kernel
theorem dL_law_1276 : decode cL_law 1276 = .ok (.iconst 1, 1) := by decide +kernel
theorem dL_law_1277 : decode cL_law 1277 = .ok (.iadd, 1) := by decide +kernel
theorem dL_law_1278 : decode cL_law 1278 = .ok (.iaload, 1) := by decide +kernel
theorem dL_law_1279 : decode cL_law 1279 = .ok (.aload_n 0, 1) := by decide +kernel
theorem dL_law_1280 : decode cL_law 1280 = .ok (.iload_n 3, 1) := by decide +kernel
theorem dL_law_1281 : decode cL_law 1281 = .ok (.iconst 2, 1) := by decide +kernel
theorem dL_law_1282 : decode cL_law 1282 = .ok (.iadd, 1) := by decide +kernel
theorem dL_law_1283 : decode cL_law 1283 = .ok (.iaload, 1) := by decide +kernel
theorem dL_law_1284 : decode cL_law 1284 = .ok (.invokevirtual 160, 3) := by decide +kernel
theorem dL_law_1287 : decode cL_law 1287 = .ok (.if_icmp .eq 294, 3) := by decide +kernel
theorem dL_law_1290 : decode cL_law 1290 = .ok (.iconst 0, 1) := by decide +kernel
theorem dL_law_1291 : decode cL_law 1291 = .ok (.ireturn, 1) := by decide +kernel
theorem dL_law_1292 : decode cL_law 1292 = .ok (.aload_n 1, 1) := by decide +kernel
theorem dL_law_1293 : decode cL_law 1293 = .ok (.aload_n 0, 1) := by decide +kernel
theorem dL_law_1294 : decode cL_law 1294 = .ok (.iload_n 3, 1) := by decide +kernel
theorem dL_law_1295 : decode cL_law 1295 = .ok (.iconst 1, 1) := by decide +kernel
theorem dL_law_1296 : decode cL_law 1296 = .ok (.iadd, 1) := by decide +kernel
theorem dL_law_1297 : decode cL_law 1297 = .ok (.iaload, 1) := by decide +kernel
theorem dL_law_1298 : decode cL_law 1298 = .ok (.invokevirtual 161, 3) := by decide +kernel
theorem dL_law_1301 : decode cL_law 1301 = .ok (.aload_n 2, 1) := by decide +kernel
theorem dL_law_1302 : decode cL_law 1302 = .ok (.aload_n 0, 1) := by decide +kernel
theorem dL_law_1303 : decode cL_law 1303 = .ok (.iload_n 3, 1) := by decide +kernel
theorem dL_law_1304 : decode cL_law 1304 = .ok (.iconst 1, 1) := by decide +kernel
theorem dL_law_1305 : decode cL_law 1305 = .ok (.iadd, 1) := by decide +kernel
theorem dL_law_1306 : decode cL_law 1306 = .ok (.iaload, 1) := by decide +kernel
theorem dL_law_1307 : decode cL_law 1307 = .ok (.invokevirtual 164, 3) := by decide +kernel
theorem dL_law_1310 : decode cL_law 1310 = .ok (.if_icmp .eq 271, 3) := by decide +kernel
theorem dL_law_1313 : decode cL_law 1313 = .ok (.iconst 0, 1) := by decide +kernel
theorem dL_law_1314 : decode cL_law 1314 = .ok (.ireturn, 1) := by decide +kernel
theorem dL_law_1315 : decode cL_law 1315 = .ok (.aload_n 1, 1) := by decide +kernel
theorem dL_law_1316 : decode cL_law 1316 = .ok (.invokevirtual 165, 3) := by decide +kernel
theorem dL_law_1319 : decode cL_law 1319 = .ok (.aload_n 2, 1) := by decide +kernel
theorem dL_law_1320 : decode cL_law 1320 = .ok (.invokevirtual 168, 3) := by decide +kernel
theorem dL_law_1323 : decode cL_law 1323 = .ok (.if_icmp .eq 258, 3) := by decide +kernel
theorem dL_law_1326 : decode cL_law 1326 = .ok (.iconst 0, 1) := by decide +kernel
theorem dL_law_1327 : decode cL_law 1327 = .ok (.ireturn, 1) := by decide +kernel
theorem dL_law_1328 : decode cL_law 1328 = .ok (.aload_n 1, 1) := by decide +kernel
theorem dL_law_1329 : decode cL_law 1329 = .ok (.aload_n 0, 1) := by decide +kernel
theorem dL_law_1330 : decode cL_law 1330 = .ok (.iload_n 3, 1) := by decide +kernel
theorem dL_law_1331 : decode cL_law 1331 = .ok (.iconst 1, 1) := by decide +kernel
theorem dL_law_1332 : decode cL_law 1332 = .ok (.iadd, 1) := by decide +kernel
theorem dL_law_1333 : decode cL_law 1333 = .ok (.iaload, 1) := by decide +kernel
theorem dL_law_1334 : decode cL_law 1334 = .ok (.aload_n 0, 1) := by decide +kernel
theorem dL_law_1335 : decode cL_law 1335 = .ok (.iload_n 3, 1) := by decide +kernel
theorem dL_law_1336 : decode cL_law 1336 = .ok (.iconst 2, 1) := by decide +kernel
theorem dL_law_1337 : decode cL_law 1337 = .ok (.iadd, 1) := by decide +kernel
theorem dL_law_1338 : decode cL_law 1338 = .ok (.iaload, 1) := by decide +kernel
theorem dL_law_1339 : decode cL_law 1339 = .ok (.invokevirtual 169, 3) := by decide +kernel
theorem dL_law_1342 : decode cL_law 1342 = .ok (.aload_n 2, 1) := by decide +kernel
theorem dL_law_1343 : decode cL_law 1343 = .ok (.aload_n 0, 1) := by decide +kernel
theorem dL_law_1344 : decode cL_law 1344 = .ok (.iload_n 3, 1) := by decide +kernel
theorem dL_law_1345 : decode cL_law 1345 = .ok (.iconst 1, 1) := by decide +kernel
theorem dL_law_1346 : decode cL_law 1346 = .ok (.iadd, 1) := by decide +kernel
theorem dL_law_1347 : decode cL_law 1347 = .ok (.iaload, 1) := by decide +kernel
theorem dL_law_1348 : decode cL_law 1348 = .ok (.aload_n 0, 1) := by decide +kernel
theorem dL_law_1349 : decode cL_law 1349 = .ok (.iload_n 3, 1) := by decide +kernel
theorem dL_law_1350 : decode cL_law 1350 = .ok (.iconst 2, 1) := by decide +kernel
theorem dL_law_1351 : decode cL_law 1351 = .ok (.iadd, 1) := by decide +kernel
theorem dL_law_1352 : decode cL_law 1352 = .ok (.iaload, 1) := by decide +kernel
theorem dL_law_1353 : decode cL_law 1353 = .ok (.invokevirtual 172, 3) := by decide +kernel
theorem dL_law_1356 : decode cL_law 1356 = .ok (.if_icmp .eq 225, 3) := by decide +kernel
theorem dL_law_1359 : decode cL_law 1359 = .ok (.iconst 0, 1) := by decide +kernel
theorem dL_law_1360 : decode cL_law 1360 = .ok (.ireturn, 1) := by decide +kernel
theorem dL_law_1361 : decode cL_law 1361 = .ok (.aload_n 1, 1) := by decide +kernel
theorem dL_law_1362 : decode cL_law 1362 = .ok (.invokevirtual 173, 3) := by decide +kernel
theorem dL_law_1365 : decode cL_law 1365 = .ok (.aload_n 2, 1) := by decide +kernel
theorem dL_law_1366 : decode cL_law 1366 = .ok (.invokevirtual 176, 3) := by decide +kernel
theorem dL_law_1369 : decode cL_law 1369 = .ok (.if_icmp .eq 212, 3) := by decide +kernel
theorem dL_law_1372 : decode cL_law 1372 = .ok (.iconst 0, 1) := by decide +kernel
theorem dL_law_1373 : decode cL_law 1373 = .ok (.ireturn, 1) := by decide +kernel
theorem dL_law_1374 : decode cL_law 1374 = .ok (.aload_n 1, 1) := by decide +kernel
theorem dL_law_1375 : decode cL_law 1375 = .ok (.invokevirtual 177, 3) := by decide +kernel
theorem dL_law_1378 : decode cL_law 1378 = .ok (.aload_n 2, 1) := by decide +kernel
theorem dL_law_1379 : decode cL_law 1379 = .ok (.invokevirtual 180, 3) := by decide +kernel
theorem dL_law_1382 : decode cL_law 1382 = .ok (.if_icmp .eq 199, 3) := by decide +kernel
theorem dL_law_1385 : decode cL_law 1385 = .ok (.iconst 0, 1) := by decide +kernel
theorem dL_law_1386 : decode cL_law 1386 = .ok (.ireturn, 1) := by decide +kernel
theorem dL_law_1387 : decode cL_law 1387 = .ok (.aload_n 1, 1) := by decide +kernel
theorem dL_law_1388 : decode cL_law 1388 = .ok (.aload_n 0, 1) := by decide +kernel
theorem dL_law_1389 : decode cL_law 1389 = .ok (.iload_n 3, 1) := by decide +kernel
theorem dL_law_1390 : decode cL_law 1390 = .ok (.iconst 1, 1) := by decide +kernel
theorem dL_law_1391 : decode cL_law 1391 = .ok (.iadd, 1) := by decide +kernel
theorem dL_law_1392 : decode cL_law 1392 = .ok (.iaload, 1) := by decide +kernel
theorem dL_law_1393 : decode cL_law 1393 = .ok (.aload_n 0, 1) := by decide +kernel
theorem dL_law_1394 : decode cL_law 1394 = .ok (.iload_n 3, 1) := by decide +kernel
theorem dL_law_1395 : decode cL_law 1395 = .ok (.iconst 2, 1) := by decide +kernel
theorem dL_law_1396 : decode cL_law 1396 = .ok (.iadd, 1) := by decide +kernel
theorem dL_law_1397 : decode cL_law 1397 = .ok (.iaload, 1) := by decide +kernel
theorem dL_law_1398 : decode cL_law 1398 = .ok (.invokevirtual 181, 3) := by decide +kernel
theorem dL_law_1401 : decode cL_law 1401 = .ok (.aload_n 2, 1) := by decide +kernel
theorem dL_law_1402 : decode cL_law 1402 = .ok (.aload_n 0, 1) := by decide +kernel
theorem dL_law_1403 : decode cL_law 1403 = .ok (.iload_n 3, 1) := by decide +kernel
theorem dL_law_1404 : decode cL_law 1404 = .ok (.iconst 1, 1) := by decide +kernel
theorem dL_law_1405 : decode cL_law 1405 = .ok (.iadd, 1) := by decide +kernel
theorem dL_law_1406 : decode cL_law 1406 = .ok (.iaload, 1) := by decide +kernel
theorem dL_law_1407 : decode cL_law 1407 = .ok (.aload_n 0, 1) := by decide +kernel
theorem dL_law_1408 : decode cL_law 1408 = .ok (.iload_n 3, 1) := by decide +kernel
theorem dL_law_1409 : decode cL_law 1409 = .ok (.iconst 2, 1) := by decide +kernel
theorem dL_law_1410 : decode cL_law 1410 = .ok (.iadd, 1) := by decide +kernel
theorem dL_law_1411 : decode cL_law 1411 = .ok (.iaload, 1) := by decide +kernel
theorem dL_law_1412 : decode cL_law 1412 = .ok (.invokevirtual 184, 3) := by decide +kernel
theorem dL_law_1415 : decode cL_law 1415 = .ok (.if_icmp .eq 166, 3) := by decide +kernel
theorem dL_law_1418 : decode cL_law 1418 = .ok (.iconst 0, 1) := by decide +kernel
theorem dL_law_1419 : decode cL_law 1419 = .ok (.ireturn, 1) := by decide +kernel
theorem dL_law_1420 : decode cL_law 1420 = .ok (.aload_n 1, 1) := by decide +kernel
theorem dL_law_1421 : decode cL_law 1421 = .ok (.aload_n 0, 1) := by decide +kernel
theorem dL_law_1422 : decode cL_law 1422 = .ok (.iload_n 3, 1) := by decide +kernel
theorem dL_law_1423 : decode cL_law 1423 = .ok (.iconst 1, 1) := by decide +kernel
theorem dL_law_1424 : decode cL_law 1424 = .ok (.iadd, 1) := by decide +kernel
theorem dL_law_1425 : decode cL_law 1425 = .ok (.iaload, 1) := by decide +kernel
theorem dL_law_1426 : decode cL_law 1426 = .ok (.invokevirtual 185, 3) := by decide +kernel
theorem dL_law_1429 : decode cL_law 1429 = .ok (.aload_n 2, 1) := by decide +kernel
theorem dL_law_1430 : decode cL_law 1430 = .ok (.aload_n 0, 1) := by decide +kernel
theorem dL_law_1431 : decode cL_law 1431 = .ok (.iload_n 3, 1) := by decide +kernel
theorem dL_law_1432 : decode cL_law 1432 = .ok (.iconst 1, 1) := by decide +kernel
theorem dL_law_1433 : decode cL_law 1433 = .ok (.iadd, 1) := by decide +kernel
theorem dL_law_1434 : decode cL_law 1434 = .ok (.iaload, 1) := by decide +kernel
theorem dL_law_1435 : decode cL_law 1435 = .ok (.invokevirtual 188, 3) := by decide +kernel
theorem dL_law_1438 : decode cL_law 1438 = .ok (.if_icmp .eq 143, 3) := by decide +kernel
theorem dL_law_1441 : decode cL_law 1441 = .ok (.iconst 0, 1) := by decide +kernel
theorem dL_law_1442 : decode cL_law 1442 = .ok (.ireturn, 1) := by decide +kernel
theorem dL_law_1443 : decode cL_law 1443 = .ok (.aload_n 1, 1) := by decide +kernel
theorem dL_law_1444 : decode cL_law 1444 = .ok (.aload_n 0, 1) := by decide +kernel
theorem dL_law_1445 : decode cL_law 1445 = .ok (.iload_n 3, 1) := by decide +kernel
theorem dL_law_1446 : decode cL_law 1446 = .ok (.iconst 1, 1) := by decide +kernel
theorem dL_law_1447 : decode cL_law 1447 = .ok (.iadd, 1) := by decide +kernel
theorem dL_law_1448 : decode cL_law 1448 = .ok (.iaload, 1) := by decide +kernel
theorem dL_law_1449 : decode cL_law 1449 = .ok (.invokevirtual 189, 3) := by decide +kernel
theorem dL_law_1452 : decode cL_law 1452 = .ok (.aload_n 2, 1) := by decide +kernel
theorem dL_law_1453 : decode cL_law 1453 = .ok (.aload_n 0, 1) := by decide +kernel
theorem dL_law_1454 : decode cL_law 1454 = .ok (.iload_n 3, 1) := by decide +kernel
theorem dL_law_1455 : decode cL_law 1455 = .ok (.iconst 1, 1) := by decide +kernel
theorem dL_law_1456 : decode cL_law 1456 = .ok (.iadd, 1) := by decide +kernel
theorem dL_law_1457 : decode cL_law 1457 = .ok (.iaload, 1) := by decide +kernel
theorem dL_law_1458 : decode cL_law 1458 = .ok (.invokevirtual 192, 3) := by decide +kernel
theorem dL_law_1461 : decode cL_law 1461 = .ok (.if_icmp .eq 120, 3) := by decide +kernel
theorem dL_law_1464 : decode cL_law 1464 = .ok (.iconst 0, 1) := by decide +kernel
theorem dL_law_1465 : decode cL_law 1465 = .ok (.ireturn, 1) := by decide +kernel
theorem dL_law_1466 : decode cL_law 1466 = .ok (.aload_n 1, 1) := by decide +kernel
theorem dL_law_1467 : decode cL_law 1467 = .ok (.aload_n 0, 1) := by decide +kernel
theorem dL_law_1468 : decode cL_law 1468 = .ok (.iload_n 3, 1) := by decide +kernel
theorem dL_law_1469 : decode cL_law 1469 = .ok (.iconst 1, 1) := by decide +kernel
theorem dL_law_1470 : decode cL_law 1470 = .ok (.iadd, 1) := by decide +kernel
theorem dL_law_1471 : decode cL_law 1471 = .ok (.iaload, 1) := by decide +kernel
theorem dL_law_1472 : decode cL_law 1472 = .ok (.aload_n 0, 1) := by decide +kernel
theorem dL_law_1473 : decode cL_law 1473 = .ok (.iload_n 3, 1) := by decide +kernel
theorem dL_law_1474 : decode cL_law 1474 = .ok (.iconst 2, 1) := by decide +kernel
theorem dL_law_1475 : decode cL_law 1475 = .ok (.iadd, 1) := by decide +kernel
theorem dL_law_1476 : decode cL_law 1476 = .ok (.iaload, 1) := by decide +kernel
theorem dL_law_1477 : decode cL_law 1477 = .ok (.aload_n 0, 1) := by decide +kernel
theorem dL_law_1478 : decode cL_law 1478 = .ok (.iload_n 3, 1) := by decide +kernel
theorem dL_law_1479 : decode cL_law 1479 = .ok (.iconst 3, 1) := by decide +kernel
theorem dL_law_1480 : decode cL_law 1480 = .ok (.iadd, 1) := by decide +kernel
theorem dL_law_1481 : decode cL_law 1481 = .ok (.iaload, 1) := by decide +kernel
theorem dL_law_1482 : decode cL_law 1482 = .ok (.invokevirtual 193, 3) := by decide +kernel
theorem dL_law_1485 : decode cL_law 1485 = .ok (.aload_n 2, 1) := by decide +kernel
theorem dL_law_1486 : decode cL_law 1486 = .ok (.aload_n 0, 1) := by decide +kernel
theorem dL_law_1487 : decode cL_law 1487 = .ok (.iload_n 3, 1) := by decide +kernel
theorem dL_law_1488 : decode cL_law 1488 = .ok (.iconst 1, 1) := by decide +kernel
theorem dL_law_1489 : decode cL_law 1489 = .ok (.iadd, 1) := by decide +kernel
theorem dL_law_1490 : decode cL_law 1490 = .ok (.iaload, 1) := by decide +kernel
theorem dL_law_1491 : decode cL_law 1491 = .ok (.aload_n 0, 1) := by decide +kernel
theorem dL_law_1492 : decode cL_law 1492 = .ok (.iload_n 3, 1) := by decide +kernel
theorem dL_law_1493 : decode cL_law 1493 = .ok (.iconst 2, 1) := by decide +kernel
theorem dL_law_1494 : decode cL_law 1494 = .ok (.iadd, 1) := by decide +kernel
theorem dL_law_1495 : decode cL_law 1495 = .ok (.iaload, 1) := by decide +kernel
theorem dL_law_1496 : decode cL_law 1496 = .ok (.aload_n 0, 1) := by decide +kernel
theorem dL_law_1497 : decode cL_law 1497 = .ok (.iload_n 3, 1) := by decide +kernel
theorem dL_law_1498 : decode cL_law 1498 = .ok (.iconst 3, 1) := by decide +kernel
theorem dL_law_1499 : decode cL_law 1499 = .ok (.iadd, 1) := by decide +kernel
theorem dL_law_1500 : decode cL_law 1500 = .ok (.iaload, 1) := by decide +kernel
theorem dL_law_1501 : decode cL_law 1501 = .ok (.invokevirtual 196, 3) := by decide +kernel
theorem dL_law_1504 : decode cL_law 1504 = .ok (.if_icmp .eq 77, 3) := by decide +kernel
theorem dL_law_1507 : decode cL_law 1507 = .ok (.iconst 0, 1) := by decide +kernel
theorem dL_law_1508 : decode cL_law 1508 = .ok (.ireturn, 1) := by decide +kernel
theorem dL_law_1509 : decode cL_law 1509 = .ok (.aload_n 1, 1) := by decide +kernel
theorem dL_law_1510 : decode cL_law 1510 = .ok (.aload_n 0, 1) := by decide +kernel
theorem dL_law_1511 : decode cL_law 1511 = .ok (.iload_n 3, 1) := by decide +kernel
theorem dL_law_1512 : decode cL_law 1512 = .ok (.iconst 1, 1) := by decide +kernel
theorem dL_law_1513 : decode cL_law 1513 = .ok (.iadd, 1) := by decide +kernel
theorem dL_law_1514 : decode cL_law 1514 = .ok (.iaload, 1) := by decide +kernel
theorem dL_law_1515 : decode cL_law 1515 = .ok (.invokevirtual 197, 3) := by decide +kernel
theorem dL_law_1518 : decode cL_law 1518 = .ok (.aload_n 2, 1) := by decide +kernel
theorem dL_law_1519 : decode cL_law 1519 = .ok (.aload_n 0, 1) := by decide +kernel
theorem dL_law_1520 : decode cL_law 1520 = .ok (.iload_n 3, 1) := by decide +kernel
theorem dL_law_1521 : decode cL_law 1521 = .ok (.iconst 1, 1) := by decide +kernel
theorem dL_law_1522 : decode cL_law 1522 = .ok (.iadd, 1) := by decide +kernel
theorem dL_law_1523 : decode cL_law 1523 = .ok (.iaload, 1) := by decide +kernel
theorem dL_law_1524 : decode cL_law 1524 = .ok (.invokevirtual 200, 3) := by decide +kernel
theorem dL_law_1527 : decode cL_law 1527 = .ok (.if_icmp .eq 54, 3) := by decide +kernel
theorem dL_law_1530 : decode cL_law 1530 = .ok (.iconst 0, 1) := by decide +kernel
theorem dL_law_1531 : decode cL_law 1531 = .ok (.ireturn, 1) := by decide +kernel
theorem dL_law_1532 : decode cL_law 1532 = .ok (.aload_n 1, 1) := by decide +kernel
theorem dL_law_1533 : decode cL_law 1533 = .ok (.invokevirtual 201, 3) := by decide +kernel
theorem dL_law_1536 : decode cL_law 1536 = .ok (.aload_n 2, 1) := by decide +kernel
theorem dL_law_1537 : decode cL_law 1537 = .ok (.invokevirtual 204, 3) := by decide +kernel
theorem dL_law_1540 : decode cL_law 1540 = .ok (.if_icmp .eq 41, 3) := by decide +kernel
theorem dL_law_1543 : decode cL_law 1543 = .ok (.iconst 0, 1) := by decide +kernel
theorem dL_law_1544 : decode cL_law 1544 = .ok (.ireturn, 1) := by decide +kernel
theorem dL_law_1545 : decode cL_law 1545 = .ok (.aload_n 1, 1) := by decide +kernel
theorem dL_law_1546 : decode cL_law 1546 = .ok (.invokevirtual 205, 3) := by decide +kernel
theorem dL_law_1549 : decode cL_law 1549 = .ok (.aload_n 2, 1) := by decide +kernel
theorem dL_law_1550 : decode cL_law 1550 = .ok (.invokevirtual 208, 3) := by decide +kernel
theorem dL_law_1553 : decode cL_law 1553 = .ok (.if_icmp .eq 28, 3) := by decide +kernel
theorem dL_law_1556 : decode cL_law 1556 = .ok (.iconst 0, 1) := by decide +kernel
theorem dL_law_1557 : decode cL_law 1557 = .ok (.ireturn, 1) := by decide +kernel
theorem dL_law_1558 : decode cL_law 1558 = .ok (.aload_n 1, 1) := by decide +kernel
theorem dL_law_1559 : decode cL_law 1559 = .ok (.aload_n 0, 1) := by decide +kernel
theorem dL_law_1560 : decode cL_law 1560 = .ok (.iload_n 3, 1) := by decide +kernel
theorem dL_law_1561 : decode cL_law 1561 = .ok (.iconst 1, 1) := by decide +kernel
theorem dL_law_1562 : decode cL_law 1562 = .ok (.iadd, 1) := by decide +kernel
theorem dL_law_1563 : decode cL_law 1563 = .ok (.iaload, 1) := by decide +kernel
theorem dL_law_1564 : decode cL_law 1564 = .ok (.invokevirtual 209, 3) := by decide +kernel
theorem dL_law_1567 : decode cL_law 1567 = .ok (.aload_n 2, 1) := by decide +kernel
theorem dL_law_1568 : decode cL_law 1568 = .ok (.aload_n 0, 1) := by decide +kernel
theorem dL_law_1569 : decode cL_law 1569 = .ok (.iload_n 3, 1) := by decide +kernel
theorem dL_law_1570 : decode cL_law 1570 = .ok (.iconst 1, 1) := by decide +kernel
theorem dL_law_1571 : decode cL_law 1571 = .ok (.iadd, 1) := by decide +kernel
theorem dL_law_1572 : decode cL_law 1572 = .ok (.iaload, 1) := by decide +kernel
theorem dL_law_1573 : decode cL_law 1573 = .ok (.invokevirtual 212, 3) := by decide +kernel
theorem dL_law_1576 : decode cL_law 1576 = .ok (.if_icmp .eq 5, 3) := by decide +kernel
theorem dL_law_1579 : decode cL_law 1579 = .ok (.iconst 0, 1) := by decide +kernel
theorem dL_law_1580 : decode cL_law 1580 = .ok (.ireturn, 1) := by decide +kernel
theorem dL_law_1581 : decode cL_law 1581 = .ok (.iinc 3 6, 3) := by decide +kernel
theorem dL_law_1584 : decode cL_law 1584 = .ok (.goto (-1566), 3) := by decide +kernel
theorem dL_law_1587 : decode cL_law 1587 = .ok (.iconst 1, 1) := by decide +kernel
theorem dL_law_1588 : decode cL_law 1588 = .ok (.ireturn, 1) := by decide +kernel
end
section
/-! the world of 69 cells: numbers of int fields and arrays, of long ones, and references by the cells' numbers -/
abbrev hf_M : Type := (Nat → Nat → Int32) × (Nat → Nat → Int64) × (Nat → Nat → Option Nat)
def hf_u {α : Type} (f : Nat → Nat → α) (k j : Nat) (v : α) : Nat → Nat → α := fun a b => if a = k ∧ b = j then v else f a b
def hf_sI (M : hf_M) (k j : Nat) (v : Int32) : hf_M := (hf_u M.1 k j v, M.2.1, M.2.2)
def hf_sL (M : hf_M) (k j : Nat) (v : Int64) : hf_M := (M.1, hf_u M.2.1 k j v, M.2.2)
def hf_sR (M : hf_M) (k j : Nat) (v : Option Nat) : hf_M := (M.1, M.2.1, hf_u M.2.2 k j v)
/-- the shape of a cell: 0 to 5 an object of that class, 6 ints, 7 longs, 8 shelves -/
def hf_shp (k : Nat) : Nat := ([4, 3, 6, 6, 6, 6, 6, 6, 6, 7, 3, 6, 6, 6, 6, 6, 6, 6, 7, 3, 6, 6, 6, 6, 6, 6, 6, 7, 8, 1, 0, 6, 6, 2, 7, 2, 7, 2, 7, 2, 7, 2, 7, 2, 7, 2, 7, 2, 7, 5, 6, 6, 6, 6, 6, 6, 6, 6, 6, 6, 6, 7, 7, 6, 6, 6, 6, 7, 6] : List Nat).getD k 9
def hf_len (k : Nat) : Nat := ([0, 0, 6, 6, 6, 6, 48, 48, 48, 48, 0, 6, 6, 6, 6, 48, 48, 48, 48, 0, 6, 6, 6, 6, 48, 48, 48, 48, 8, 0, 0, 20, 8, 0, 160, 0, 160, 0, 160, 0, 160, 0, 160, 0, 160, 0, 160, 0, 160, 0, 8, 6, 6, 6, 52, 52, 52, 8, 8, 8, 8, 1280, 160, 29, 3, 120, 120, 2, 20] : List Nat).getD k 0
def hf_nf (c : Nat) : Nat := ([5, 7, 3, 17, 9, 38] : List Nat).getD c 0
/-- a field's type: 0 an int (or boolean), 1 a long, 2 a reference -/
def hf_fty (c j : Nat) : Nat := (([[2, 0, 0, 0, 0], [2, 2, 0, 0, 0, 0, 0], [2, 0, 0], [2, 2, 2, 2, 2, 2, 2, 2, 0, 0, 0, 1, 0, 0, 0, 0, 0], [2, 2, 2, 2, 2, 2, 2, 0, 0], [0, 0, 0, 0, 0, 0, 0, 0, 0, 1, 2, 2, 2, 2, 2, 2, 2, 2, 2, 2, 2, 2, 2, 2, 2, 0, 0, 0, 0, 0, 2, 2, 2, 0, 0, 2, 0, 0]] : List (List Nat)).getD c []).getD j 9
/-- the shape that a reference of a cell of a shape speaks of -/
def hf_wnt (c j : Nat) : Nat := (([[6], [2, 3], [7], [6, 6, 6, 6, 6, 6, 6, 7], [3, 3, 3, 8, 1, 0, 6], [9, 9, 9, 9, 9, 9, 9, 9, 9, 9, 6, 6, 6, 6, 6, 6, 6, 6, 6, 6, 6, 7, 7, 6, 6, 9, 9, 9, 9, 9, 6, 6, 7, 9, 9, 6], [], [], [2, 2, 2, 2, 2, 2, 2, 2]] : List (List Nat)).getD c []).getD j 9
/-- what a start fixes: the classes, the cells' addresses, the classes of the rows, the heap's size, the addresses of the tables and of the texts -/
abbrev hf_G : Type := va_G × (Nat → Nat) × (ClassId × ClassId × ClassId) × Nat × (Nat × Nat × Nat) × (Nat → Nat) × (Nat → Nat)
abbrev hf_D (g : hf_G) : va_G := g.1
abbrev hf_a (g : hf_G) : Nat → Nat := g.2.1
abbrev hf_cI (g : hf_G) : ClassId := g.2.2.1.1
abbrev hf_cJ (g : hf_G) : ClassId := g.2.2.1.2.1
abbrev hf_cS (g : hf_G) : ClassId := g.2.2.1.2.2
abbrev hf_s0 (g : hf_G) : Nat := g.2.2.2.1
abbrev hf_tA (g : hf_G) : Nat := g.2.2.2.2.1.1
abbrev hf_tS (g : hf_G) : Nat := g.2.2.2.2.1.2.1
abbrev hf_tB (g : hf_G) : Nat := g.2.2.2.2.1.2.2
abbrev hf_aK (g : hf_G) : Nat → Nat := g.2.2.2.2.2.1
abbrev hf_aV (g : hf_G) : Nat → Nat := g.2.2.2.2.2.2
def hf_ty (g : hf_G) : List (ClassId × FieldType) := [(hf_cI g, .int), (hf_cJ g, .long), (hf_cS g, .object RX2)]
def hf_fv (g : hf_G) (M : hf_M) (k c j : Nat) : Value := if hf_fty c j = 0 then .int (M.1 k j) else if hf_fty c j = 1 then .long (M.2.1 k j) else va_rf ((M.2.2 k j).map (hf_a g))
def hf_fs (g : hf_G) (M : hf_M) (k c : Nat) : List Value := (List.range (hf_nf c)).map (hf_fv g M k c)
def hf_c (g : hf_G) (M : hf_M) (k : Nat) : va_E :=
  if hf_shp k = 6 then .inl (hf_cI g, hf_len k, .inl (M.1 k)) else if hf_shp k = 7 then .inl (hf_cJ g, hf_len k, .inr (.inl (M.2.1 k)))
  else if hf_shp k = 8 then .inl (hf_cS g, hf_len k, .inr (.inr (.inr (.inr (fun i => (M.2.2 k i).map (hf_a g)))))) else .inr (hf_shp k, hf_fs g M k (hf_shp k))
def hf_w (g : hf_G) (M : hf_M) : va_W := (List.range 69).map (fun k => (hf_a g k, hf_c g M k))
def hf_A (g : hf_G) : Nat → Prop := fun q => (∃ k, k < 69 ∧ q = hf_a g k) ∨ hf_s0 g ≤ q
def hf_RT (M : hf_M) : Prop := ∀ k j t, M.2.2 k j = some t → t < 69 ∧ hf_shp t = hf_wnt (hf_shp k) j
def hf_AB (j : Nat) : Int32 := ([-1, 0, 0, 1, 0, 4, 0] : List Int32).getD j 0
def hf_SO (j : Nat) : Int64 := ([-6148914691236517206, -3689348814741910324, -1085102592571150096, -71777214294589696, -281470681808896, -4294967296] : List Int64).getD j 0
def hf_BO (j : Nat) : Int32 := ([10, 11, 12, 20, 0, 0, 0, 40, 0, 30, 0, 31, 0, 50, 0, 0, 60, 0, 70, 0, 71] : List Int32).getD j 0
/-- the five words of a text: their lengths and letters -/
def hf_wl : List Nat := [4, 3, 3, 4, 5]
def hf_wc : List (List Int32) := [[102, 97, 99, 116], [109, 97, 110], [108, 97, 119], [115, 97, 121, 115], [107, 110, 111, 119, 110]]
def hf_wx : List Nat := [87, 106, 115, 126, 145]
def hf_wt : List String := ["fact", "man", "law", "says", "known"]
/-- links to private members of a nest mate -/
def hf_NF : List (String × Nat × String × String × String × String) := [(RX4, 161, RX3, "harms", "[I", "HalfOfItFalse"), (RX4, 121, RX3, "kinds", "[I", "HalfOfItFalse"), (RX4, 155, RX3, "marks", "[I", "HalfOfItFalse"), (RX4, 127, RX3, "counts", "[I", "HalfOfItFalse"), (RX4, 187, RX3, "words", "[I", "HalfOfItFalse"), (RX1, 89, RX3, "facts", "I", "HalfOfItFalse"), (RX4, 133, RX3, "facts", "I", "HalfOfItFalse"), (RX1, 108, RX3, "speakers", "I", "HalfOfItFalse"), (RX4, 140, RX3, "speakers", "I", "HalfOfItFalse"), (RX1, 117, RX3, "sayings", "I", "HalfOfItFalse"), (RX4, 146, RX3, "sayings", "I", "HalfOfItFalse"), (RX4, 198, RX3, "left", "J", "HalfOfItFalse"), (RX1, 120, RX3, "perDay", "I", "HalfOfItFalse"), (RX4, 149, RX3, "perDay", "I", "HalfOfItFalse"), (RX1, 123, RX3, "trueOnes", "I", "HalfOfItFalse"), (RX4, 152, RX3, "trueOnes", "I", "HalfOfItFalse"), (RX4, 288, RX3, "days", "I", "HalfOfItFalse"), (RX4, 297, RX3, "seed", "I", "HalfOfItFalse"), (RX4, 294, RX3, "drawn", "I", "HalfOfItFalse"), (RX4, 210, RX1, "items", "I", "HalfOfItFalse"), (RX4, 313, RX0, "bodies", "[I", "HalfOfItFalse"), (RX4, 310, RX0, "ran", "I", "HalfOfItFalse"), (RX4, 110, RX2, "elements", "[J", "HalfOfItFalse"), (RX4, 103, RX2, "held", "I", "HalfOfItFalse"), (RX1, 39, RX2, "size", "I", "HalfOfItFalse"), (RX4, 261, RX2, "size", "I", "HalfOfItFalse"), (RX0, 47, RX4, "ABOVE", "[I", "HalfOfItFalse")]
def hf_NM : List (String × Nat × MethodName × String) := [(RX4, 9, yX3_init, "HalfOfItFalse"), (RX4, 30, yX1_init, "HalfOfItFalse"), (RX4, 37, yX0_init, "HalfOfItFalse"), (RX4, 54, yX2_init, "HalfOfItFalse"), (RX3, 72, yX4_truthOf, "HalfOfItFalse"), (RX1, 147, yX4_truthOf, "HalfOfItFalse"), (RX0, 36, yX4_isKind, "HalfOfItFalse")]
def hf_S (g : hf_G) (U : State) (H : Heap) : Prop :=
  (va_Z RX4 "ABOVE" "[I" (.ref (hf_tA g)) (hf_A g) U H ∧ va_T .int (hf_tA g) 7 (fun j => .int (hf_AB j)) (hf_A g) U H) ∧
  (va_Z RX4 "SO" "[J" (.ref (hf_tS g)) (hf_A g) U H ∧ va_T .long (hf_tS g) 6 (fun j => .long (hf_SO j)) (hf_A g) U H) ∧
  (va_Z RX0 "BODIES" "[I" (.ref (hf_tB g)) (hf_A g) U H ∧ va_T .int (hf_tB g) 21 (fun j => .int (hf_BO j)) (hf_A g) U H) ∧
  (va_Z "java/lang/String" "COMPACT_STRINGS" "Z" (.int 1) (hf_A g) U H ∧ vk_S 5 hf_wl hf_wc (hf_aK g) (hf_aV g) (hf_A g) U H ∧ ∀ i, i < 5 → vk_R RX1 (hf_wx.getD i 0) (hf_wt.getD i "") (hf_aK g i) U) ∧
  (∀ q ∈ hf_NF, va_Nw (.fieldLinkNest q.1 q.2.1 q.2.2.1 q.2.2.2.1 q.2.2.2.2.1 q.2.2.2.2.2) U) ∧ (∀ q ∈ hf_NM, va_Nw (.methodLinkNest q.1 q.2.1 q.2.2.1 q.2.2.2) U)
theorem hf_w_at (g : hf_G) (M : hf_M) {k : Nat} (h : k < 69) : (hf_w g M)[k]? = some (hf_a g k, hf_c g M k) := by
  simp [hf_w, List.getElem?_range h]
theorem hf_w_len (g : hf_G) (M : hf_M) : (hf_w g M).length = 69 := by simp [hf_w]
theorem hf_w_in {g : hf_G} {M : hf_M} {k : Nat} {q : Nat × va_E} (h : (hf_w g M)[k]? = some q) : k < 69 ∧ q = (hf_a g k, hf_c g M k) := by
  have hk : k < 69 := by
    have := (List.getElem?_eq_some_iff.mp h).1
    rwa [hf_w_len] at this
  rw [hf_w_at g M hk] at h
  exact ⟨hk, (Option.some.inj h).symm⟩
theorem hf_w_set (g : hf_G) (M M' : hf_M) {k : Nat} (h : k < 69) (hne : ∀ j, j ≠ k → hf_c g M' j = hf_c g M j) : (hf_w g M).set k (hf_a g k, hf_c g M' k) = hf_w g M' := by
  apply List.ext_getElem?
  intro j
  by_cases hj : j < 69
  · rw [hf_w_at g M' hj]
    by_cases hjk : j = k
    · subst hjk
      rw [List.getElem?_set_self (by rw [hf_w_len]; exact h)]
    · rw [List.getElem?_set_ne (Ne.symm hjk), hf_w_at g M hj, hne j hjk]
  · rw [List.getElem?_eq_none (by rw [List.length_set, hf_w_len]; omega), List.getElem?_eq_none (by rw [hf_w_len]; omega)]
theorem hf_D_any {g : hf_G} {M M' : hf_M} {A : Nat → Prop} (h : va_D A (hf_w g M)) : va_D A (hf_w g M') := by
  refine ⟨fun i j p q hi hj e => ?_, fun k q hk => ?_⟩
  · obtain ⟨h1, rfl⟩ := hf_w_in hi
    obtain ⟨h2, rfl⟩ := hf_w_in hj
    exact h.1 i j _ _ (hf_w_at g M h1) (hf_w_at g M h2) e
  · obtain ⟨h1, rfl⟩ := hf_w_in hk
    exact h.2 k (hf_a g k, hf_c g M k) (hf_w_at g M h1)
theorem hf_c_eq (g : hf_G) {M M' : hf_M} {k : Nat} (h1 : M'.1 k = M.1 k) (h2 : M'.2.1 k = M.2.1 k) (h3 : M'.2.2 k = M.2.2 k) : hf_c g M' k = hf_c g M k := by
  have e : hf_fv g M' k (hf_shp k) = hf_fv g M k (hf_shp k) := by
    funext j
    simp only [hf_fv, h1, h2, h3]
  simp only [hf_c, hf_fs, h1, h2, h3, e]
theorem hf_u_row {α : Type} (f : Nat → Nat → α) (k j : Nat) (v : α) {a : Nat} (h : a ≠ k) : hf_u f k j v a = f a := by
  funext b
  simp [hf_u, h]
theorem hf_u_own {α : Type} (f : Nat → Nat → α) (k j : Nat) (v : α) (b : Nat) : hf_u f k j v k b = if b = j then v else f k b := by
  simp [hf_u]
theorem hf_cI_ne (g : hf_G) (M : hf_M) (k j : Nat) (v : Int32) : ∀ i, i ≠ k → hf_c g (hf_sI M k j v) i = hf_c g M i := fun i h => hf_c_eq g (hf_u_row _ _ _ _ h) rfl rfl
theorem hf_cL_ne (g : hf_G) (M : hf_M) (k j : Nat) (v : Int64) : ∀ i, i ≠ k → hf_c g (hf_sL M k j v) i = hf_c g M i := fun i h => hf_c_eq g rfl (hf_u_row _ _ _ _ h) rfl
theorem hf_cR_ne (g : hf_G) (M : hf_M) (k j : Nat) (v : Option Nat) : ∀ i, i ≠ k → hf_c g (hf_sR M k j v) i = hf_c g M i := fun i h => hf_c_eq g rfl rfl (hf_u_row _ _ _ _ h)
theorem hf_c6 (g : hf_G) (M : hf_M) {k : Nat} (h : hf_shp k = 6) : hf_c g M k = .inl (hf_cI g, hf_len k, .inl (M.1 k)) := by simp [hf_c, h]
theorem hf_c7 (g : hf_G) (M : hf_M) {k : Nat} (h : hf_shp k = 7) : hf_c g M k = .inl (hf_cJ g, hf_len k, .inr (.inl (M.2.1 k))) := by simp [hf_c, h]
theorem hf_c8 (g : hf_G) (M : hf_M) {k : Nat} (h : hf_shp k = 8) : hf_c g M k = .inl (hf_cS g, hf_len k, .inr (.inr (.inr (.inr (fun i => (M.2.2 k i).map (hf_a g)))))) := by simp [hf_c, h]
theorem hf_cO (g : hf_G) (M : hf_M) {k c : Nat} (h : hf_shp k = c) (hc : c < 6) : hf_c g M k = .inr (c, hf_fs g M k c) := by
  subst h
  simp [hf_c, show hf_shp k ≠ 6 by omega, show hf_shp k ≠ 7 by omega, show hf_shp k ≠ 8 by omega]
theorem hf_fs_at (g : hf_G) (M : hf_M) (k : Nat) {c j : Nat} (h : j < hf_nf c) : (hf_fs g M k c)[j]? = some (hf_fv g M k c j) := by
  simp [hf_fs, List.getElem?_range h]
theorem hf_fs_len (g : hf_G) (M : hf_M) (k c : Nat) : (hf_fs g M k c).length = hf_nf c := by simp [hf_fs]
theorem hf_fs_set (g : hf_G) (M M' : hf_M) (k c : Nat) {j : Nat} (h : j < hf_nf c) (hne : ∀ i, i ≠ j → hf_fv g M' k c i = hf_fv g M k c i) : (hf_fs g M k c).set j (hf_fv g M' k c j) = hf_fs g M' k c := by
  apply List.ext_getElem?
  intro i
  by_cases hi : i < hf_nf c
  · rw [hf_fs_at g M' k hi]
    by_cases hij : i = j
    · subst hij
      rw [List.getElem?_set_self (by rw [hf_fs_len]; exact h)]
    · rw [List.getElem?_set_ne (Ne.symm hij), hf_fs_at g M k hi, hne i hij]
  · rw [List.getElem?_eq_none (by rw [List.length_set, hf_fs_len]; omega), List.getElem?_eq_none (by rw [hf_fs_len]; omega)]
theorem hf_fsI (g : hf_G) (M : hf_M) (k : Nat) {c j : Nat} (v : Int32) (h : j < hf_nf c) (hf : hf_fty c j = 0) : (hf_fs g M k c).set j (.int v) = hf_fs g (hf_sI M k j v) k c := by
  have e : hf_fv g (hf_sI M k j v) k c j = .int v := by simp [hf_fv, hf, hf_sI, hf_u]
  rw [← hf_fs_set g M (hf_sI M k j v) k c h (fun i hi => by simp [hf_fv, hf_sI, hf_u, hi]), e]
theorem hf_fsL (g : hf_G) (M : hf_M) (k : Nat) {c j : Nat} (v : Int64) (h : j < hf_nf c) (hf : hf_fty c j = 1) : (hf_fs g M k c).set j (.long v) = hf_fs g (hf_sL M k j v) k c := by
  have e : hf_fv g (hf_sL M k j v) k c j = .long v := by simp [hf_fv, hf, hf_sL, hf_u]
  rw [← hf_fs_set g M (hf_sL M k j v) k c h (fun i hi => by simp [hf_fv, hf_sL, hf_u, hi]), e]
theorem hf_fsR (g : hf_G) (M : hf_M) (k : Nat) {c j : Nat} (v : Option Nat) (h : j < hf_nf c) (hf : hf_fty c j = 2) : (hf_fs g M k c).set j (va_rf (v.map (hf_a g))) = hf_fs g (hf_sR M k j v) k c := by
  have e : hf_fv g (hf_sR M k j v) k c j = va_rf (v.map (hf_a g)) := by simp [hf_fv, hf, hf_sR, hf_u]
  rw [← hf_fs_set g M (hf_sR M k j v) k c h (fun i hi => by simp [hf_fv, hf_sR, hf_u, hi]), e]
theorem hf_A_old {g : hf_G} {k : Nat} (h : k < 69) : hf_A g (hf_a g k) := Or.inl ⟨k, h, rfl⟩
end
section
/-! the calculus: from a place of a method, with locals L, stack st and the world M, the machine comes to what sh says -/
def hf_T : List Cond := lw_tbl.filter goodWord
def hf_R (d : Nat) : Room := { frames := d, cells := 0, slots := 0, locals := 48 * d }
def hf_P (g : hf_G) (M : hf_M) (s : State) (H : Heap) (locs : List Loc) : Prop := va_P (hf_D g) vwCl (hf_w g M) H ∧ va_D (hf_A g) (hf_w g M) ∧ va_S (hf_A g) s.heap H locs ∧ hf_RT M
def hf_L (ls : Array Slot) (n : Nat) (L : List (Option Value)) : Prop := ls.size = n ∧ lv_wf ls ∧ ∀ (i : Nat) (v : Value), L[i]? = some (some v) → ls[i]? = some (.val v)
def hf_X (g : hf_G) (p : Program) (s : State) (m : MethodId) (args : Array Value) (meth : Method) (c : Code) (cc : ByteArray) (n : Nat) (own : String) (ret : Option FieldType) : Prop :=
  p.tables.exec = Jvm.exec ∧ c.code = cc ∧ c.maxLocals = n ∧ s.vm.findClass own = some m.cls ∧ (∀ w ∈ hf_T, w.before args s = true) ∧ meth.sig.returnType = ret ∧ meth.locks = false ∧ va_K (hf_D g) vwCl (hf_ty g) s ∧ hf_S g s s.heap ∧ hf_s0 g ≤ s.heap.size
def hf_W {α : Type} (g : hf_G) (p : Program) (l : Launch) (e : Env) (d : Nat) (s : State) (m : MethodId) (args : Array Value) (below : List Frame) (meth : Method) (c : Code) (n : Nat) (Qf : α → hf_M → State → Prop) (M : hf_M) (pc : Nat) (L : List (Option Value)) (st : List Value) (sh : Option (α × hf_M)) : Prop :=
  ∀ (r : α) (M' : hf_M), sh = some (r, M') → ∀ (H : Heap) (locs : List Loc) (ls : Array Slot), hf_P g M s H locs → hf_L ls n L → W p l e (hf_R d) s m args below meth c H locs 0 0 (Qf r M') (F0 m pc ls st)
/-- reads that may be out of a row -/
def hf_in (i : Int32) (n : Nat) : Prop := ¬ (i < 0 ∨ n ≤ i.toNatClampNeg)
def hf_ix {β : Type} (i : Int32) (n : Nat) (k : Nat → Option β) : Option β := if i < 0 ∨ n ≤ i.toNatClampNeg then none else k i.toNatClampNeg
def hf_rf {β : Type} (r : Option Nat) (k : Nat → Option β) : Option β := match r with | none => none | some t => k t
/-- a divisor that isn't 0 -/
def hf_nz {β : Type} (y : Int32) (k : Option β) : Option β := if y = 0 then none else k
def hf_ldI {β : Type} (M : hf_M) (q : Nat) (i : Int32) (k : Int32 → Option β) : Option β := hf_ix i (hf_len q) (fun z => k (M.1 q z))
def hf_ldL {β : Type} (M : hf_M) (q : Nat) (i : Int32) (k : Int64 → Option β) : Option β := hf_ix i (hf_len q) (fun z => k (M.2.1 q z))
def hf_ldR {β : Type} (M : hf_M) (q : Nat) (i : Int32) (k : Nat → Option β) : Option β := hf_ix i (hf_len q) (fun z => hf_rf (M.2.2 q z) k)
def hf_stI {β : Type} (M : hf_M) (q : Nat) (i v : Int32) (k : hf_M → Option β) : Option β := hf_ix i (hf_len q) (fun z => k (hf_sI M q z v))
def hf_stL {β : Type} (M : hf_M) (q : Nat) (i : Int32) (v : Int64) (k : hf_M → Option β) : Option β := hf_ix i (hf_len q) (fun z => k (hf_sL M q z v))
def hf_ldAB {β : Type} (i : Int32) (k : Int32 → Option β) : Option β := hf_ix i 7 (fun z => k (hf_AB z))
def hf_ldSO {β : Type} (i : Int32) (k : Int64 → Option β) : Option β := hf_ix i 6 (fun z => k (hf_SO z))
def hf_ldBO {β : Type} (i : Int32) (k : Int32 → Option β) : Option β := hf_ix i 21 (fun z => k (hf_BO z))
def hf_bd {α β : Type} (c : Option (α × hf_M)) (k : α → hf_M → Option β) : Option β := match c with | none => none | some q => k q.1 q.2
theorem hf_mem {w : Cond} (h : w ∈ lw_tbl) (hg : goodWord w = true) : w ∈ hf_T := List.mem_filter.mpr ⟨h, hg⟩
theorem hf_good {w : Cond} (h : w ∈ hf_T) : w ∈ hf_T ∧ ((w.onTables && w.keeps) = true ∨ ∃ ty, w = .arrayClass ty) := ⟨h, good_of_word (List.mem_filter.mp h).2⟩
theorem hf_t1 {w : Cond} (h : w ∈ tables_1) (hg : goodWord w = true) : w ∈ hf_T := hf_mem (List.mem_append_right _ h) hg
theorem hf_c1 {w : Cond} (i : Nat) (h : tables_1_1[i]? = some w) (hg : goodWord w = true) : w ∈ hf_T := hf_t1 (List.mem_append_left _ (List.mem_of_getElem? h)) hg
theorem hf_c2 {w : Cond} (i : Nat) (h : tables_1_2[i]? = some w) (hg : goodWord w = true) : w ∈ hf_T := hf_t1 (List.mem_append_right _ (List.mem_append_left _ (List.mem_of_getElem? h))) hg
theorem hf_c3 {w : Cond} (i : Nat) (h : tables_1_3[i]? = some w) (hg : goodWord w = true) : w ∈ hf_T := hf_t1 (List.mem_append_right _ (List.mem_append_right _ (List.mem_append_left _ (List.mem_of_getElem? h)))) hg
theorem hf_c4 {w : Cond} (i : Nat) (h : tables_1_4[i]? = some w) (hg : goodWord w = true) : w ∈ hf_T := hf_t1 (List.mem_append_right _ (List.mem_append_right _ (List.mem_append_right _ (List.mem_append_left _ (List.mem_of_getElem? h))))) hg
theorem hf_c5 {w : Cond} (i : Nat) (h : tables_1_5[i]? = some w) (hg : goodWord w = true) : w ∈ hf_T := hf_t1 (List.mem_append_right _ (List.mem_append_right _ (List.mem_append_right _ (List.mem_append_right _ (List.mem_append_left _ (List.mem_of_getElem? h)))))) hg
theorem hf_c6x {w : Cond} (i : Nat) (h : tables_1_6[i]? = some w) (hg : goodWord w = true) : w ∈ hf_T := hf_t1 (List.mem_append_right _ (List.mem_append_right _ (List.mem_append_right _ (List.mem_append_right _ (List.mem_append_right _ (List.mem_of_getElem? h)))))) hg
theorem hf_cp {q : MethodName × Nat} (h : q ∈ lw_privs) : Cond.selects q.1.cls q.1 q.1 ∈ hf_T := hf_mem (List.mem_append_left _ (List.mem_map.mpr ⟨q, h, rfl⟩)) rfl
/-- locals -/
def hf_ok1 (L : List (Option Value)) (i : Nat) : Bool := match i with | 0 => true | j + 1 => match L[j]? with | some (some v) => v.category == 1 | _ => true
def hf_lv : List (Option Value) → Nat → List (Nat × Value)
  | [], _ => []
  | none :: L, i => hf_lv L (i + 1)
  | some v :: L, i => (i, v) :: hf_lv L (i + 1)
theorem hf_lv_mem : ∀ (L : List (Option Value)) (i j : Nat) (v : Value), (j, v) ∈ hf_lv L i ↔ i ≤ j ∧ L[j - i]? = some (some v)
  | [], i, j, v => by simp [hf_lv]
  | none :: L, i, j, v => by
    rw [hf_lv, hf_lv_mem L (i + 1) j v]
    constructor
    · rintro ⟨h1, h2⟩
      refine ⟨by omega, ?_⟩
      rw [show j - i = (j - (i + 1)) + 1 by omega, List.getElem?_cons_succ]
      exact h2
    · rintro ⟨h1, h2⟩
      have hne : j ≠ i := fun e => by subst e; simp at h2
      refine ⟨by omega, ?_⟩
      rw [show j - i = (j - (i + 1)) + 1 by omega, List.getElem?_cons_succ] at h2
      exact h2
  | some w :: L, i, j, v => by
    rw [hf_lv, List.mem_cons, hf_lv_mem L (i + 1) j v]
    constructor
    · rintro (h | ⟨h1, h2⟩)
      · cases h
        simp
      · refine ⟨by omega, ?_⟩
        rw [show j - i = (j - (i + 1)) + 1 by omega, List.getElem?_cons_succ]
        exact h2
    · rintro ⟨h1, h2⟩
      by_cases hne : j = i
      · subst hne
        simp at h2
        subst h2
        exact Or.inl rfl
      · refine Or.inr ⟨by omega, ?_⟩
        rw [show j - i = (j - (i + 1)) + 1 by omega, List.getElem?_cons_succ] at h2
        exact h2
theorem hf_lv_has {ls : Array Slot} {n : Nat} {L : List (Option Value)} (h : hf_L ls n L) : lv_has ls n (hf_lv L 0) :=
  ⟨h.1, h.2.1, fun q hq => h.2.2 q.1 q.2 (by have := (hf_lv_mem L 0 q.1 q.2).mp hq; simpa using this.2)⟩
theorem hf_L_of1 {ls : Array Slot} {n : Nat} {L : List (Option Value)} {i : Nat} {v : Value} (hk : hf_ok1 L i = true) (h : lv_has ls n ((i, v) :: (hf_lv L 0).filter (fun q => !(q.1 == i) && !(q.1 + 1 == i && q.2.category == 2)))) : hf_L ls n (L.set i (some v)) := by
  refine ⟨h.1, h.2.1, fun j w hj => ?_⟩
  by_cases hji : j = i
  · subst hji
    have hlt : j < L.length := by
      have := (List.getElem?_eq_some_iff.mp hj).1
      rwa [List.length_set] at this
    rw [List.getElem?_set_self hlt] at hj
    cases hj
    exact h.2.2 _ List.mem_cons_self
  · rw [List.getElem?_set_ne (Ne.symm hji)] at hj
    refine h.2.2 (j, w) (List.mem_cons_of_mem _ (List.mem_filter.mpr ⟨(hf_lv_mem L 0 j w).mpr ⟨Nat.zero_le _, by simpa using hj⟩, ?_⟩))
    have h2 : ¬ (j + 1 = i ∧ w.category = 2) := by
      rintro ⟨e, h2⟩
      subst e
      simp [hf_ok1, hj, h2] at hk
    simp only [hji, beq_iff_eq, Bool.and_eq_true, Bool.not_eq_true', beq_eq_false_iff_ne, ne_eq, not_false_eq_true, true_and, Bool.and_eq_false_iff]
    exact Decidable.not_and_iff_or_not.mp h2
theorem hf_L_of2 {ls : Array Slot} {n : Nat} {L : List (Option Value)} {i : Nat} {v : Value} (hk : hf_ok1 L i = true) (h : lv_has ls n ((i, v) :: (hf_lv L 0).filter (fun q => !(q.1 == i) && (!(q.1 == i + 1) && !(q.1 + 1 == i && q.2.category == 2))))) : hf_L ls n ((L.set i (some v)).set (i + 1) none) := by
  refine ⟨h.1, h.2.1, fun j w hj => ?_⟩
  by_cases hj1 : j = i + 1
  · subst hj1
    by_cases hlt : i + 1 < L.length
    · rw [List.getElem?_set_self (by rw [List.length_set]; exact hlt)] at hj
      cases hj
    · rw [List.getElem?_eq_none (by rw [List.length_set, List.length_set]; omega)] at hj
      cases hj
  · rw [List.getElem?_set_ne (Ne.symm hj1)] at hj
    by_cases hji : j = i
    · subst hji
      have hlt : j < L.length := by
        have := (List.getElem?_eq_some_iff.mp hj).1
        rwa [List.length_set] at this
      rw [List.getElem?_set_self hlt] at hj
      cases hj
      exact h.2.2 _ List.mem_cons_self
    · rw [List.getElem?_set_ne (Ne.symm hji)] at hj
      refine h.2.2 (j, w) (List.mem_cons_of_mem _ (List.mem_filter.mpr ⟨(hf_lv_mem L 0 j w).mpr ⟨Nat.zero_le _, by simpa using hj⟩, ?_⟩))
      have h2 : ¬ (j + 1 = i ∧ w.category = 2) := by
        rintro ⟨e, h2⟩
        subst e
        simp [hf_ok1, hj, h2] at hk
      simp only [hji, hj1, beq_iff_eq, Bool.and_eq_true, Bool.not_eq_true', beq_eq_false_iff_ne, ne_eq, not_false_eq_true, true_and, Bool.and_eq_false_iff]
      exact Decidable.not_and_iff_or_not.mp h2
section HF
variable {α β : Type} {g : hf_G} {p : Program} {l : Launch} {e : Env} {d : Nat} {s : State} {m : MethodId} {args : Array Value} {below : List Frame} {meth : Method} {c : Code} {n : Nat} {Qf : α → hf_M → State → Prop} {M : hf_M} {pc : Nat} {L : List (Option Value)} {st : List Value} {sh : Option (α × hf_M)} {cc : ByteArray} {own : String} {ret : Option FieldType}

theorem hr_iadd (X : hf_X g p s m args meth c cc n own ret) {x y : Int32} (hd : decode cc pc = .ok (.iadd, 1))  (k : hf_W g p l e d s m args below meth c n Qf M (pc + 1) L (.int (x + y) :: st) sh) : hf_W g p l e d s m args below meth c n Qf M (pc) L (.int y :: .int x :: st) sh := fun r M' e H locs ls hP hL => lv_iadd X.1 X.2.1 hd (k r M' e H locs ls hP hL)
theorem hr_isub (X : hf_X g p s m args meth c cc n own ret) {x y : Int32} (hd : decode cc pc = .ok (.isub, 1))  (k : hf_W g p l e d s m args below meth c n Qf M (pc + 1) L (.int (x - y) :: st) sh) : hf_W g p l e d s m args below meth c n Qf M (pc) L (.int y :: .int x :: st) sh := fun r M' e H locs ls hP hL => lv_isub X.1 X.2.1 hd (k r M' e H locs ls hP hL)
theorem hr_imul (X : hf_X g p s m args meth c cc n own ret) {x y : Int32} (hd : decode cc pc = .ok (.imul, 1))  (k : hf_W g p l e d s m args below meth c n Qf M (pc + 1) L (.int (x * y) :: st) sh) : hf_W g p l e d s m args below meth c n Qf M (pc) L (.int y :: .int x :: st) sh := fun r M' e H locs ls hP hL => lv_imul X.1 X.2.1 hd (k r M' e H locs ls hP hL)
theorem hr_iand (X : hf_X g p s m args meth c cc n own ret) {x y : Int32} (hd : decode cc pc = .ok (.iand, 1))  (k : hf_W g p l e d s m args below meth c n Qf M (pc + 1) L (.int (x &&& y) :: st) sh) : hf_W g p l e d s m args below meth c n Qf M (pc) L (.int y :: .int x :: st) sh := fun r M' e H locs ls hP hL => lv_iand X.1 X.2.1 hd (k r M' e H locs ls hP hL)
theorem hr_ior (X : hf_X g p s m args meth c cc n own ret) {x y : Int32} (hd : decode cc pc = .ok (.ior, 1))  (k : hf_W g p l e d s m args below meth c n Qf M (pc + 1) L (.int (x ||| y) :: st) sh) : hf_W g p l e d s m args below meth c n Qf M (pc) L (.int y :: .int x :: st) sh := fun r M' e H locs ls hP hL => lv_ior X.1 X.2.1 hd (k r M' e H locs ls hP hL)
theorem hr_ixor (X : hf_X g p s m args meth c cc n own ret) {x y : Int32} (hd : decode cc pc = .ok (.ixor, 1))  (k : hf_W g p l e d s m args below meth c n Qf M (pc + 1) L (.int (x ^^^ y) :: st) sh) : hf_W g p l e d s m args below meth c n Qf M (pc) L (.int y :: .int x :: st) sh := fun r M' e H locs ls hP hL => lv_ixor X.1 X.2.1 hd (k r M' e H locs ls hP hL)
theorem hr_ladd (X : hf_X g p s m args meth c cc n own ret) {x y : Int64} (hd : decode cc pc = .ok (.ladd, 1))  (k : hf_W g p l e d s m args below meth c n Qf M (pc + 1) L (.long (x + y) :: st) sh) : hf_W g p l e d s m args below meth c n Qf M (pc) L (.long y :: .long x :: st) sh := fun r M' e H locs ls hP hL => lv_ladd X.1 X.2.1 hd (k r M' e H locs ls hP hL)
theorem hr_lsub (X : hf_X g p s m args meth c cc n own ret) {x y : Int64} (hd : decode cc pc = .ok (.lsub, 1))  (k : hf_W g p l e d s m args below meth c n Qf M (pc + 1) L (.long (x - y) :: st) sh) : hf_W g p l e d s m args below meth c n Qf M (pc) L (.long y :: .long x :: st) sh := fun r M' e H locs ls hP hL => lv_lsub X.1 X.2.1 hd (k r M' e H locs ls hP hL)
theorem hr_land (X : hf_X g p s m args meth c cc n own ret) {x y : Int64} (hd : decode cc pc = .ok (.land, 1))  (k : hf_W g p l e d s m args below meth c n Qf M (pc + 1) L (.long (x &&& y) :: st) sh) : hf_W g p l e d s m args below meth c n Qf M (pc) L (.long y :: .long x :: st) sh := fun r M' e H locs ls hP hL => lv_land X.1 X.2.1 hd (k r M' e H locs ls hP hL)
theorem hr_lor (X : hf_X g p s m args meth c cc n own ret) {x y : Int64} (hd : decode cc pc = .ok (.lor, 1))  (k : hf_W g p l e d s m args below meth c n Qf M (pc + 1) L (.long (x ||| y) :: st) sh) : hf_W g p l e d s m args below meth c n Qf M (pc) L (.long y :: .long x :: st) sh := fun r M' e H locs ls hP hL => lv_lor X.1 X.2.1 hd (k r M' e H locs ls hP hL)
theorem hr_lxor (X : hf_X g p s m args meth c cc n own ret) {x y : Int64} (hd : decode cc pc = .ok (.lxor, 1))  (k : hf_W g p l e d s m args below meth c n Qf M (pc + 1) L (.long (x ^^^ y) :: st) sh) : hf_W g p l e d s m args below meth c n Qf M (pc) L (.long y :: .long x :: st) sh := fun r M' e H locs ls hP hL => lv_lxor X.1 X.2.1 hd (k r M' e H locs ls hP hL)
-- shifts as the rows have them
def hn_ishl (x y : Int32) : Int32 := x <<< (y &&& 31)
def hn_ishr (x y : Int32) : Int32 := x >>> (y &&& 31)
def hn_iushr (x y : Int32) : Int32 := (x.toUInt32 >>> (y.toUInt32 &&& Int32.toUInt32 31)).toInt32
def hn_lushr (x : Int64) (y : Int32) : Int64 := (x.toUInt64 >>> (y.toInt64.toUInt64 &&& Int64.toUInt64 63)).toInt64
def hn_lshl (x : Int64) (y : Int32) : Int64 := x <<< (y.toInt64 &&& 63)
def hn_lshr (x : Int64) (y : Int32) : Int64 := x >>> (y.toInt64 &&& 63)
def hn_irem (x y : Int32) : Int32 := x - x / y * y
def hn_i2b (x : Int32) : Int32 := x.toInt8.toInt32
def hn_i2s (x : Int32) : Int32 := x.toInt16.toInt32
def hn_max (x y : Int32) : Int32 := if x < y then y else x
def hn_min (x y : Int32) : Int32 := if y < x then y else x
theorem hr_ishl (X : hf_X g p s m args meth c cc n own ret) {x y : Int32} (hd : decode cc pc = .ok (.ishl, 1))  (k : hf_W g p l e d s m args below meth c n Qf M (pc + 1) L (.int (hn_ishl x y) :: st) sh) : hf_W g p l e d s m args below meth c n Qf M (pc) L (.int y :: .int x :: st) sh := fun r M' e H locs ls hP hL => lv_ishl X.1 X.2.1 hd (k r M' e H locs ls hP hL)
theorem hr_ishr (X : hf_X g p s m args meth c cc n own ret) {x y : Int32} (hd : decode cc pc = .ok (.ishr, 1))  (k : hf_W g p l e d s m args below meth c n Qf M (pc + 1) L (.int (hn_ishr x y) :: st) sh) : hf_W g p l e d s m args below meth c n Qf M (pc) L (.int y :: .int x :: st) sh := fun r M' e H locs ls hP hL => lv_ishr X.1 X.2.1 hd (k r M' e H locs ls hP hL)
theorem hr_iushr (X : hf_X g p s m args meth c cc n own ret) {x y : Int32} (hd : decode cc pc = .ok (.iushr, 1))  (k : hf_W g p l e d s m args below meth c n Qf M (pc + 1) L (.int (hn_iushr x y) :: st) sh) : hf_W g p l e d s m args below meth c n Qf M (pc) L (.int y :: .int x :: st) sh := fun r M' e H locs ls hP hL => lv_iushr X.1 X.2.1 hd rfl (k r M' e H locs ls hP hL)
theorem hr_lushr (X : hf_X g p s m args meth c cc n own ret) {x : Int64} {y : Int32} (hd : decode cc pc = .ok (.lushr, 1))  (k : hf_W g p l e d s m args below meth c n Qf M (pc + 1) L (.long (hn_lushr x y) :: st) sh) : hf_W g p l e d s m args below meth c n Qf M (pc) L (.int y :: .long x :: st) sh := fun r M' e H locs ls hP hL => lv_lushr X.1 X.2.1 hd rfl (k r M' e H locs ls hP hL)
theorem hr_lshl (X : hf_X g p s m args meth c cc n own ret) {x : Int64} {y : Int32} (hd : decode cc pc = .ok (.lshl, 1))  (k : hf_W g p l e d s m args below meth c n Qf M (pc + 1) L (.long (hn_lshl x y) :: st) sh) : hf_W g p l e d s m args below meth c n Qf M (pc) L (.int y :: .long x :: st) sh := fun r M' e H locs ls hP hL => lv_lshl X.1 X.2.1 hd rfl (k r M' e H locs ls hP hL)
theorem hr_lshr (X : hf_X g p s m args meth c cc n own ret) {x : Int64} {y : Int32} (hd : decode cc pc = .ok (.lshr, 1))  (k : hf_W g p l e d s m args below meth c n Qf M (pc + 1) L (.long (hn_lshr x y) :: st) sh) : hf_W g p l e d s m args below meth c n Qf M (pc) L (.int y :: .long x :: st) sh := fun r M' e H locs ls hP hL => lv_lshr X.1 X.2.1 hd rfl (k r M' e H locs ls hP hL)
theorem hr_ineg (X : hf_X g p s m args meth c cc n own ret) {x : Int32} (hd : decode cc pc = .ok (.ineg, 1))  (k : hf_W g p l e d s m args below meth c n Qf M (pc + 1) L (.int (-x) :: st) sh) : hf_W g p l e d s m args below meth c n Qf M (pc) L (.int x :: st) sh := fun r M' e H locs ls hP hL => lv_ineg X.1 X.2.1 hd (k r M' e H locs ls hP hL)
theorem hr_lcmp (X : hf_X g p s m args meth c cc n own ret) {x y : Int64} (hd : decode cc pc = .ok (.lcmp, 1))  (k : hf_W g p l e d s m args below meth c n Qf M (pc + 1) L (.int (lg_cmp x y) :: st) sh) : hf_W g p l e d s m args below meth c n Qf M (pc) L (.long y :: .long x :: st) sh := fun r M' e H locs ls hP hL => W.lcmp X.1 X.2.1 hd (k r M' e H locs ls hP hL)
theorem hr_i2l (X : hf_X g p s m args meth c cc n own ret) {x : Int32} (hd : decode cc pc = .ok (.i2l, 1))  (k : hf_W g p l e d s m args below meth c n Qf M (pc + 1) L (.long x.toInt64 :: st) sh) : hf_W g p l e d s m args below meth c n Qf M (pc) L (.int x :: st) sh := fun r M' e H locs ls hP hL => lv_i2l X.1 X.2.1 hd rfl (k r M' e H locs ls hP hL)
theorem hr_l2i (X : hf_X g p s m args meth c cc n own ret) {x : Int64} (hd : decode cc pc = .ok (.l2i, 1))  (k : hf_W g p l e d s m args below meth c n Qf M (pc + 1) L (.int x.toInt32 :: st) sh) : hf_W g p l e d s m args below meth c n Qf M (pc) L (.long x :: st) sh := fun r M' e H locs ls hP hL => lv_l2i X.1 X.2.1 hd rfl (k r M' e H locs ls hP hL)
theorem hr_i2b (X : hf_X g p s m args meth c cc n own ret) {x : Int32} (hd : decode cc pc = .ok (.i2b, 1))  (k : hf_W g p l e d s m args below meth c n Qf M (pc + 1) L (.int (hn_i2b x) :: st) sh) : hf_W g p l e d s m args below meth c n Qf M (pc) L (.int x :: st) sh := fun r M' e H locs ls hP hL => lv_i2b X.1 X.2.1 hd rfl (k r M' e H locs ls hP hL)
theorem hr_i2s (X : hf_X g p s m args meth c cc n own ret) {x : Int32} (hd : decode cc pc = .ok (.i2s, 1))  (k : hf_W g p l e d s m args below meth c n Qf M (pc + 1) L (.int (hn_i2s x) :: st) sh) : hf_W g p l e d s m args below meth c n Qf M (pc) L (.int x :: st) sh := fun r M' e H locs ls hP hL => lv_i2s X.1 X.2.1 hd rfl (k r M' e H locs ls hP hL)
theorem hr_dup (X : hf_X g p s m args meth c cc n own ret) {va : Value} (hd : decode cc pc = .ok (.dup, 1)) (hva : va.category = 1) (k : hf_W g p l e d s m args below meth c n Qf M (pc + 1) L (va :: va :: st) sh) : hf_W g p l e d s m args below meth c n Qf M (pc) L (va :: st) sh := fun r M' e H locs ls hP hL => lv_dup X.1 X.2.1 hd hva (k r M' e H locs ls hP hL)
theorem hr_pop (X : hf_X g p s m args meth c cc n own ret) {va : Value} (hd : decode cc pc = .ok (.pop, 1)) (hva : va.category = 1) (k : hf_W g p l e d s m args below meth c n Qf M (pc + 1) L (st) sh) : hf_W g p l e d s m args below meth c n Qf M (pc) L (va :: st) sh := fun r M' e H locs ls hP hL => lv_pop X.1 X.2.1 hd hva (k r M' e H locs ls hP hL)
theorem hr_dup_x1 (X : hf_X g p s m args meth c cc n own ret) {va vb : Value} (hd : decode cc pc = .ok (.dup_x1, 1)) (hva : va.category = 1) (hvb : vb.category = 1) (k : hf_W g p l e d s m args below meth c n Qf M (pc + 1) L (va :: vb :: va :: st) sh) : hf_W g p l e d s m args below meth c n Qf M (pc) L (va :: vb :: st) sh := fun r M' e H locs ls hP hL => lv_dup_x1 X.1 X.2.1 hd hva hvb (k r M' e H locs ls hP hL)
theorem hr_dup2 (X : hf_X g p s m args meth c cc n own ret) {va vb : Value} (hd : decode cc pc = .ok (.dup2, 1)) (hva : va.category = 1) (hvb : vb.category = 1) (k : hf_W g p l e d s m args below meth c n Qf M (pc + 1) L (va :: vb :: va :: vb :: st) sh) : hf_W g p l e d s m args below meth c n Qf M (pc) L (va :: vb :: st) sh := fun r M' e H locs ls hP hL => lv_dup2_11 X.1 X.2.1 hd hva hvb (k r M' e H locs ls hP hL)
theorem hr_iconst (X : hf_X g p s m args meth c cc n own ret) {z : Int} (v : Int32) (hd : decode cc pc = .ok (.iconst z, 1)) (hv : Int32.ofInt z = v) (k : hf_W g p l e d s m args below meth c n Qf M (pc + 1) L (.int v :: st) sh) : hf_W g p l e d s m args below meth c n Qf M (pc) L (st) sh := fun r M' e H locs ls hP hL => lv_iconst X.1 X.2.1 hd hv (k r M' e H locs ls hP hL)
theorem hr_bipush (X : hf_X g p s m args meth c cc n own ret) {z : Int} (v : Int32) (hd : decode cc pc = .ok (.bipush z, 2)) (hv : (Int8.ofInt z).toInt32 = v) (k : hf_W g p l e d s m args below meth c n Qf M (pc + 2) L (.int v :: st) sh) : hf_W g p l e d s m args below meth c n Qf M (pc) L (st) sh := fun r M' e H locs ls hP hL => lv_bipush X.1 X.2.1 hd hv (k r M' e H locs ls hP hL)
theorem hr_sipush (X : hf_X g p s m args meth c cc n own ret) {z : Int} (v : Int32) (hd : decode cc pc = .ok (.sipush z, 3)) (hv : (Int16.ofInt z).toInt32 = v) (k : hf_W g p l e d s m args below meth c n Qf M (pc + 3) L (.int v :: st) sh) : hf_W g p l e d s m args below meth c n Qf M (pc) L (st) sh := fun r M' e H locs ls hP hL => lv_sipush X.1 X.2.1 hd hv (k r M' e H locs ls hP hL)
theorem hr_lconst (X : hf_X g p s m args meth c cc n own ret) {z : Fin 2} (v : Int64) (hd : decode cc pc = .ok (.lconst z, 1)) (hv : Int64.ofNat (z : Nat) = v) (k : hf_W g p l e d s m args below meth c n Qf M (pc + 1) L (.long v :: st) sh) : hf_W g p l e d s m args below meth c n Qf M (pc) L (st) sh := fun r M' e H locs ls hP hL => lv_lconst X.1 X.2.1 hd hv (k r M' e H locs ls hP hL)
theorem hr_ldc (X : hf_X g p s m args meth c cc n own ret) {z : Nat} {v : Int32} (hd : decode cc pc = .ok (.ldc z, 2)) (hw : Cond.constant own z v ∈ hf_T) (k : hf_W g p l e d s m args below meth c n Qf M (pc + 2) L (.int v :: st) sh) : hf_W g p l e d s m args below meth c n Qf M (pc) L (st) sh := fun r M' e H locs ls hP hL => lv_ldc X.1 X.2.1 X.2.2.2.1 (X.2.2.2.2.1 _ hw) hd (k r M' e H locs ls hP hL)
theorem hr_ldc_w (X : hf_X g p s m args meth c cc n own ret) {z : Nat} {v : Int32} (hd : decode cc pc = .ok (.ldc_w z, 3)) (hw : Cond.constant own z v ∈ hf_T) (k : hf_W g p l e d s m args below meth c n Qf M (pc + 3) L (.int v :: st) sh) : hf_W g p l e d s m args below meth c n Qf M (pc) L (st) sh := fun r M' e H locs ls hP hL => lv_ldcw X.1 X.2.1 X.2.2.2.1 (X.2.2.2.2.1 _ hw) hd (k r M' e H locs ls hP hL)
theorem hr_ldc2 (X : hf_X g p s m args meth c cc n own ret) {z : Nat} {v : Int64} (hd : decode cc pc = .ok (.ldc2_w z, 3)) (hw : Cond.constantLong own z v ∈ hf_T) (k : hf_W g p l e d s m args below meth c n Qf M (pc + 3) L (.long v :: st) sh) : hf_W g p l e d s m args below meth c n Qf M (pc) L (st) sh := fun r M' e H locs ls hP hL => lv_ldc2 X.1 X.2.1 X.2.2.2.1 (X.2.2.2.2.1 _ hw) hd (k r M' e H locs ls hP hL)
theorem hr_iload (X : hf_X g p s m args meth c cc n own ret) {z : Nat} {x : Int32} (hd : decode cc pc = .ok (.iload z, 2)) (hl : L[(z : Nat)]? = some (some (.int x))) (k : hf_W g p l e d s m args below meth c n Qf M (pc + 2) L (.int x :: st) sh) : hf_W g p l e d s m args below meth c n Qf M (pc) L (st) sh := fun r M' e H locs ls hP hL => lv_iload X.1 X.2.1 hd (hL.2.2 _ _ hl) (k r M' e H locs ls hP hL)
theorem hr_iload_n (X : hf_X g p s m args meth c cc n own ret) {z : Fin 4} {x : Int32} (hd : decode cc pc = .ok (.iload_n z, 1)) (hl : L[(z : Nat)]? = some (some (.int x))) (k : hf_W g p l e d s m args below meth c n Qf M (pc + 1) L (.int x :: st) sh) : hf_W g p l e d s m args below meth c n Qf M (pc) L (st) sh := fun r M' e H locs ls hP hL => lv_iload_n X.1 X.2.1 hd rfl (hL.2.2 _ _ hl) (k r M' e H locs ls hP hL)
theorem hr_lload (X : hf_X g p s m args meth c cc n own ret) {z : Nat} {x : Int64} (hd : decode cc pc = .ok (.lload z, 2)) (hl : L[(z : Nat)]? = some (some (.long x))) (k : hf_W g p l e d s m args below meth c n Qf M (pc + 2) L (.long x :: st) sh) : hf_W g p l e d s m args below meth c n Qf M (pc) L (st) sh := fun r M' e H locs ls hP hL => lv_lload X.1 X.2.1 hd (hL.2.2 _ _ hl) (k r M' e H locs ls hP hL)
theorem hr_lload_n (X : hf_X g p s m args meth c cc n own ret) {z : Fin 4} {x : Int64} (hd : decode cc pc = .ok (.lload_n z, 1)) (hl : L[(z : Nat)]? = some (some (.long x))) (k : hf_W g p l e d s m args below meth c n Qf M (pc + 1) L (.long x :: st) sh) : hf_W g p l e d s m args below meth c n Qf M (pc) L (st) sh := fun r M' e H locs ls hP hL => lv_lload_n X.1 X.2.1 hd rfl (hL.2.2 _ _ hl) (k r M' e H locs ls hP hL)
theorem hr_aload (X : hf_X g p s m args meth c cc n own ret) {z : Nat} {x : Nat} (hd : decode cc pc = .ok (.aload z, 2)) (hl : L[(z : Nat)]? = some (some (.ref x))) (k : hf_W g p l e d s m args below meth c n Qf M (pc + 2) L (.ref x :: st) sh) : hf_W g p l e d s m args below meth c n Qf M (pc) L (st) sh := fun r M' e H locs ls hP hL => lv_aload X.1 X.2.1 hd (hL.2.2 _ _ hl) (k r M' e H locs ls hP hL)
theorem hr_aload_n (X : hf_X g p s m args meth c cc n own ret) {z : Fin 4} {x : Nat} (hd : decode cc pc = .ok (.aload_n z, 1)) (hl : L[(z : Nat)]? = some (some (.ref x))) (k : hf_W g p l e d s m args below meth c n Qf M (pc + 1) L (.ref x :: st) sh) : hf_W g p l e d s m args below meth c n Qf M (pc) L (st) sh := fun r M' e H locs ls hP hL => lv_aload_n X.1 X.2.1 hd rfl (hL.2.2 _ _ hl) (k r M' e H locs ls hP hL)
theorem hr_istore (X : hf_X g p s m args meth c cc n own ret) {z : Nat} {x : Int32} (hd : decode cc pc = .ok (.istore z, 2)) (hn : (z : Nat) < n) (hk : hf_ok1 L (z : Nat) = true) (k : hf_W g p l e d s m args below meth c n Qf M (pc + 2) (L.set (z : Nat) (some (.int x))) (st) sh) : hf_W g p l e d s m args below meth c n Qf M (pc) L (.int x :: st) sh := fun r M' e H locs ls hP hL => lv_istore X.1 X.2.1 hd (hf_lv_has hL) hn rfl (fun ls' hl => k r M' e H locs ls' hP (hf_L_of1 hk hl))
theorem hr_istore_n (X : hf_X g p s m args meth c cc n own ret) {z : Fin 4} {x : Int32} (hd : decode cc pc = .ok (.istore_n z, 1)) (hn : (z : Nat) < n) (hk : hf_ok1 L (z : Nat) = true) (k : hf_W g p l e d s m args below meth c n Qf M (pc + 1) (L.set (z : Nat) (some (.int x))) (st) sh) : hf_W g p l e d s m args below meth c n Qf M (pc) L (.int x :: st) sh := fun r M' e H locs ls hP hL => lv_istore_n X.1 X.2.1 hd rfl (hf_lv_has hL) hn rfl (fun ls' hl => k r M' e H locs ls' hP (hf_L_of1 hk hl))
theorem hr_lstore (X : hf_X g p s m args meth c cc n own ret) {z : Nat} {x : Int64} (hd : decode cc pc = .ok (.lstore z, 2)) (hn : (z : Nat) + 1 < n) (hk : hf_ok1 L (z : Nat) = true) (k : hf_W g p l e d s m args below meth c n Qf M (pc + 2) ((L.set (z : Nat) (some (.long x))).set ((z : Nat) + 1) none) (st) sh) : hf_W g p l e d s m args below meth c n Qf M (pc) L (.long x :: st) sh := fun r M' e H locs ls hP hL => lv_lstore X.1 X.2.1 hd (hf_lv_has hL) hn rfl (fun ls' hl => k r M' e H locs ls' hP (hf_L_of2 hk hl))
theorem hr_lstore_n (X : hf_X g p s m args meth c cc n own ret) {z : Fin 4} {x : Int64} (hd : decode cc pc = .ok (.lstore_n z, 1)) (hn : (z : Nat) + 1 < n) (hk : hf_ok1 L (z : Nat) = true) (k : hf_W g p l e d s m args below meth c n Qf M (pc + 1) ((L.set (z : Nat) (some (.long x))).set ((z : Nat) + 1) none) (st) sh) : hf_W g p l e d s m args below meth c n Qf M (pc) L (.long x :: st) sh := fun r M' e H locs ls hP hL => lv_lstore_n X.1 X.2.1 hd rfl (hf_lv_has hL) hn rfl (fun ls' hl => k r M' e H locs ls' hP (hf_L_of2 hk hl))
theorem hr_astore (X : hf_X g p s m args meth c cc n own ret) {z : Nat} {x : Nat} (hd : decode cc pc = .ok (.astore z, 2)) (hn : (z : Nat) < n) (hk : hf_ok1 L (z : Nat) = true) (k : hf_W g p l e d s m args below meth c n Qf M (pc + 2) (L.set (z : Nat) (some (.ref x))) (st) sh) : hf_W g p l e d s m args below meth c n Qf M (pc) L (.ref x :: st) sh := fun r M' e H locs ls hP hL => lv_astore X.1 X.2.1 hd (hf_lv_has hL) hn rfl (fun ls' hl => k r M' e H locs ls' hP (hf_L_of1 hk hl))
theorem hr_astore_n (X : hf_X g p s m args meth c cc n own ret) {z : Fin 4} {x : Nat} (hd : decode cc pc = .ok (.astore_n z, 1)) (hn : (z : Nat) < n) (hk : hf_ok1 L (z : Nat) = true) (k : hf_W g p l e d s m args below meth c n Qf M (pc + 1) (L.set (z : Nat) (some (.ref x))) (st) sh) : hf_W g p l e d s m args below meth c n Qf M (pc) L (.ref x :: st) sh := fun r M' e H locs ls hP hL => lv_astore_n X.1 X.2.1 hd rfl (hf_lv_has hL) hn rfl (fun ls' hl => k r M' e H locs ls' hP (hf_L_of1 hk hl))
theorem hf_idx {L : List (Option Value)} {i : Nat} {v : Value} (h : L[i]? = some (some v)) : ∃ k : Nat, (hf_lv L 0)[k]? = some (i, v) := List.getElem?_of_mem ((hf_lv_mem L 0 i v).mpr ⟨Nat.zero_le _, by simpa using h⟩)
theorem hr_iinc (X : hf_X g p s m args meth c cc n own ret) {z : Nat} {w : Int} {x : Int32} (v : Int32) (hd : decode cc pc = .ok (.iinc z w, 3)) (hl : L[z]? = some (some (.int x))) (hv : x + Int32.ofInt w = v) (hn : z < n) (hk : hf_ok1 L z = true) (k : hf_W g p l e d s m args below meth c n Qf M (pc + 3) (L.set z (some (.int v))) (st) sh) : hf_W g p l e d s m args below meth c n Qf M (pc) L (st) sh := by
  intro r M' e H locs ls hP hL
  obtain ⟨q, hq⟩ := hf_idx hl
  exact lv_iinc X.1 X.2.1 hd (hf_lv_has hL) hq hv hn rfl (fun ls' hl => k r M' e H locs ls' hP (hf_L_of1 hk hl))
theorem hr_if_eq (X : hf_X g p s m args meth c cc n own ret) {x : Int32} {off : Int} (tgt : Nat) {sa sb : Option (α × hf_M)} (hd : decode cc pc = .ok (.ifCond .eq off, 3)) (ht : (pc : Int) + off = (tgt : Int)) (kt : hf_W g p l e d s m args below meth c n Qf M (tgt) L (st) sa) (kf : hf_W g p l e d s m args below meth c n Qf M (pc + 3) L (st) sb) : hf_W g p l e d s m args below meth c n Qf M (pc) L (.int x :: st) (if x = 0 then sa else sb) := by
  intro r M' e H locs ls hP hL
  exact lv_if_eq X.1 X.2.1 hd ht (fun c => kt r M' (by rw [if_pos c] at e; exact e) H locs ls hP hL) (fun c => kf r M' (by rw [if_neg c] at e; exact e) H locs ls hP hL)
theorem hr_icmp_eq (X : hf_X g p s m args meth c cc n own ret) {x y : Int32} {off : Int} (tgt : Nat) {sa sb : Option (α × hf_M)} (hd : decode cc pc = .ok (.if_icmp .eq off, 3)) (ht : (pc : Int) + off = (tgt : Int)) (kt : hf_W g p l e d s m args below meth c n Qf M (tgt) L (st) sa) (kf : hf_W g p l e d s m args below meth c n Qf M (pc + 3) L (st) sb) : hf_W g p l e d s m args below meth c n Qf M (pc) L (.int y :: .int x :: st) (if x = y then sa else sb) := by
  intro r M' e H locs ls hP hL
  exact lv_icmp_eq X.1 X.2.1 hd ht (fun c => kt r M' (by rw [if_pos c] at e; exact e) H locs ls hP hL) (fun c => kf r M' (by rw [if_neg c] at e; exact e) H locs ls hP hL)
theorem hr_if_ne (X : hf_X g p s m args meth c cc n own ret) {x : Int32} {off : Int} (tgt : Nat) {sa sb : Option (α × hf_M)} (hd : decode cc pc = .ok (.ifCond .ne off, 3)) (ht : (pc : Int) + off = (tgt : Int)) (kt : hf_W g p l e d s m args below meth c n Qf M (tgt) L (st) sb) (kf : hf_W g p l e d s m args below meth c n Qf M (pc + 3) L (st) sa) : hf_W g p l e d s m args below meth c n Qf M (pc) L (.int x :: st) (if x = 0 then sa else sb) := by
  intro r M' e H locs ls hP hL
  exact lv_if_ne X.1 X.2.1 hd ht (fun c => kt r M' (by rw [if_neg c] at e; exact e) H locs ls hP hL) (fun c => kf r M' (by rw [if_pos c] at e; exact e) H locs ls hP hL)
theorem hr_icmp_ne (X : hf_X g p s m args meth c cc n own ret) {x y : Int32} {off : Int} (tgt : Nat) {sa sb : Option (α × hf_M)} (hd : decode cc pc = .ok (.if_icmp .ne off, 3)) (ht : (pc : Int) + off = (tgt : Int)) (kt : hf_W g p l e d s m args below meth c n Qf M (tgt) L (st) sb) (kf : hf_W g p l e d s m args below meth c n Qf M (pc + 3) L (st) sa) : hf_W g p l e d s m args below meth c n Qf M (pc) L (.int y :: .int x :: st) (if x = y then sa else sb) := by
  intro r M' e H locs ls hP hL
  exact lv_icmp_ne X.1 X.2.1 hd ht (fun c => kt r M' (by rw [if_neg c] at e; exact e) H locs ls hP hL) (fun c => kf r M' (by rw [if_pos c] at e; exact e) H locs ls hP hL)
theorem hr_if_lt (X : hf_X g p s m args meth c cc n own ret) {x : Int32} {off : Int} (tgt : Nat) {sa sb : Option (α × hf_M)} (hd : decode cc pc = .ok (.ifCond .lt off, 3)) (ht : (pc : Int) + off = (tgt : Int)) (kt : hf_W g p l e d s m args below meth c n Qf M (tgt) L (st) sa) (kf : hf_W g p l e d s m args below meth c n Qf M (pc + 3) L (st) sb) : hf_W g p l e d s m args below meth c n Qf M (pc) L (.int x :: st) (if x < 0 then sa else sb) := by
  intro r M' e H locs ls hP hL
  exact lv_if_lt X.1 X.2.1 hd ht (fun c => kt r M' (by rw [if_pos c] at e; exact e) H locs ls hP hL) (fun c => kf r M' (by rw [if_neg c] at e; exact e) H locs ls hP hL)
theorem hr_icmp_lt (X : hf_X g p s m args meth c cc n own ret) {x y : Int32} {off : Int} (tgt : Nat) {sa sb : Option (α × hf_M)} (hd : decode cc pc = .ok (.if_icmp .lt off, 3)) (ht : (pc : Int) + off = (tgt : Int)) (kt : hf_W g p l e d s m args below meth c n Qf M (tgt) L (st) sa) (kf : hf_W g p l e d s m args below meth c n Qf M (pc + 3) L (st) sb) : hf_W g p l e d s m args below meth c n Qf M (pc) L (.int y :: .int x :: st) (if x < y then sa else sb) := by
  intro r M' e H locs ls hP hL
  exact lv_icmp_lt X.1 X.2.1 hd ht (fun c => kt r M' (by rw [if_pos c] at e; exact e) H locs ls hP hL) (fun c => kf r M' (by rw [if_neg c] at e; exact e) H locs ls hP hL)
theorem hr_if_ge (X : hf_X g p s m args meth c cc n own ret) {x : Int32} {off : Int} (tgt : Nat) {sa sb : Option (α × hf_M)} (hd : decode cc pc = .ok (.ifCond .ge off, 3)) (ht : (pc : Int) + off = (tgt : Int)) (kt : hf_W g p l e d s m args below meth c n Qf M (tgt) L (st) sa) (kf : hf_W g p l e d s m args below meth c n Qf M (pc + 3) L (st) sb) : hf_W g p l e d s m args below meth c n Qf M (pc) L (.int x :: st) (if 0 ≤ x then sa else sb) := by
  intro r M' e H locs ls hP hL
  exact lv_if_ge X.1 X.2.1 hd ht (fun c => kt r M' (by rw [if_pos c] at e; exact e) H locs ls hP hL) (fun c => kf r M' (by rw [if_neg c] at e; exact e) H locs ls hP hL)
theorem hr_icmp_ge (X : hf_X g p s m args meth c cc n own ret) {x y : Int32} {off : Int} (tgt : Nat) {sa sb : Option (α × hf_M)} (hd : decode cc pc = .ok (.if_icmp .ge off, 3)) (ht : (pc : Int) + off = (tgt : Int)) (kt : hf_W g p l e d s m args below meth c n Qf M (tgt) L (st) sa) (kf : hf_W g p l e d s m args below meth c n Qf M (pc + 3) L (st) sb) : hf_W g p l e d s m args below meth c n Qf M (pc) L (.int y :: .int x :: st) (if y ≤ x then sa else sb) := by
  intro r M' e H locs ls hP hL
  exact lv_icmp_ge X.1 X.2.1 hd ht (fun c => kt r M' (by rw [if_pos c] at e; exact e) H locs ls hP hL) (fun c => kf r M' (by rw [if_neg c] at e; exact e) H locs ls hP hL)
theorem hr_if_gt (X : hf_X g p s m args meth c cc n own ret) {x : Int32} {off : Int} (tgt : Nat) {sa sb : Option (α × hf_M)} (hd : decode cc pc = .ok (.ifCond .gt off, 3)) (ht : (pc : Int) + off = (tgt : Int)) (kt : hf_W g p l e d s m args below meth c n Qf M (tgt) L (st) sa) (kf : hf_W g p l e d s m args below meth c n Qf M (pc + 3) L (st) sb) : hf_W g p l e d s m args below meth c n Qf M (pc) L (.int x :: st) (if 0 < x then sa else sb) := by
  intro r M' e H locs ls hP hL
  exact lv_if_gt X.1 X.2.1 hd ht (fun c => kt r M' (by rw [if_pos c] at e; exact e) H locs ls hP hL) (fun c => kf r M' (by rw [if_neg c] at e; exact e) H locs ls hP hL)
theorem hr_icmp_gt (X : hf_X g p s m args meth c cc n own ret) {x y : Int32} {off : Int} (tgt : Nat) {sa sb : Option (α × hf_M)} (hd : decode cc pc = .ok (.if_icmp .gt off, 3)) (ht : (pc : Int) + off = (tgt : Int)) (kt : hf_W g p l e d s m args below meth c n Qf M (tgt) L (st) sa) (kf : hf_W g p l e d s m args below meth c n Qf M (pc + 3) L (st) sb) : hf_W g p l e d s m args below meth c n Qf M (pc) L (.int y :: .int x :: st) (if y < x then sa else sb) := by
  intro r M' e H locs ls hP hL
  exact lv_icmp_gt X.1 X.2.1 hd ht (fun c => kt r M' (by rw [if_pos c] at e; exact e) H locs ls hP hL) (fun c => kf r M' (by rw [if_neg c] at e; exact e) H locs ls hP hL)
theorem hr_if_le (X : hf_X g p s m args meth c cc n own ret) {x : Int32} {off : Int} (tgt : Nat) {sa sb : Option (α × hf_M)} (hd : decode cc pc = .ok (.ifCond .le off, 3)) (ht : (pc : Int) + off = (tgt : Int)) (kt : hf_W g p l e d s m args below meth c n Qf M (tgt) L (st) sa) (kf : hf_W g p l e d s m args below meth c n Qf M (pc + 3) L (st) sb) : hf_W g p l e d s m args below meth c n Qf M (pc) L (.int x :: st) (if x ≤ 0 then sa else sb) := by
  intro r M' e H locs ls hP hL
  exact lv_if_le X.1 X.2.1 hd ht (fun c => kt r M' (by rw [if_pos c] at e; exact e) H locs ls hP hL) (fun c => kf r M' (by rw [if_neg c] at e; exact e) H locs ls hP hL)
theorem hr_icmp_le (X : hf_X g p s m args meth c cc n own ret) {x y : Int32} {off : Int} (tgt : Nat) {sa sb : Option (α × hf_M)} (hd : decode cc pc = .ok (.if_icmp .le off, 3)) (ht : (pc : Int) + off = (tgt : Int)) (kt : hf_W g p l e d s m args below meth c n Qf M (tgt) L (st) sa) (kf : hf_W g p l e d s m args below meth c n Qf M (pc + 3) L (st) sb) : hf_W g p l e d s m args below meth c n Qf M (pc) L (.int y :: .int x :: st) (if x ≤ y then sa else sb) := by
  intro r M' e H locs ls hP hL
  exact lv_icmp_le X.1 X.2.1 hd ht (fun c => kt r M' (by rw [if_pos c] at e; exact e) H locs ls hP hL) (fun c => kf r M' (by rw [if_neg c] at e; exact e) H locs ls hP hL)
theorem hr_goto (X : hf_X g p s m args meth c cc n own ret) {off : Int} (tgt : Nat) (hd : decode cc pc = .ok (.goto off, 3)) (ht : (pc : Int) + off = (tgt : Int)) (k : hf_W g p l e d s m args below meth c n Qf M (tgt) L (st) sh) : hf_W g p l e d s m args below meth c n Qf M (pc) L (st) sh := fun r M' e H locs ls hP hL => lv_goto X.1 X.2.1 hd ht (k r M' e H locs ls hP hL)
theorem hr_case {x : Int32} (v : Int32) {sa sb : Option (α × hf_M)} (ka : x = v → hf_W g p l e d s m args below meth c n Qf M (pc) L ((.int v :: st)) sa) (kb : ¬ x = v → hf_W g p l e d s m args below meth c n Qf M (pc) L ((.int x :: st)) sb) : hf_W g p l e d s m args below meth c n Qf M (pc) L ((.int x :: st)) (if x = v then sa else sb) := by
  by_cases h : x = v
  · rw [if_pos h]
    have := ka h
    rw [← h] at this
    exact this
  · rw [if_neg h]
    exact kb h
theorem hr_tabIn (X : hf_X g p s m args meth c cc n own ret) {dflt lo hi : Int} {offs : Array Int} {len : Nat} {x : Int32} {off : Int} (tgt : Nat) (hd : decode cc pc = .ok (.tableswitch dflt lo hi offs, len)) (h1 : ¬ x.toInt < lo) (h2 : ¬ hi < x.toInt) (ho : offs[(x.toInt - lo).toNat]? = some off) (ht : (pc : Int) + off = (tgt : Int)) (k : hf_W g p l e d s m args below meth c n Qf M (tgt) L (st) sh) : hf_W g p l e d s m args below meth c n Qf M (pc) L ((.int x :: st)) sh := fun r M' e H locs ls hP hL => lv_tableIn X.1 X.2.1 hd h1 h2 ho ht (k r M' e H locs ls hP hL)
theorem hr_tabOut (X : hf_X g p s m args meth c cc n own ret) {dflt lo hi : Int} {offs : Array Int} {len : Nat} {x : Int32} (tgt : Nat) (hd : decode cc pc = .ok (.tableswitch dflt lo hi offs, len)) (h : x.toInt < lo ∨ hi < x.toInt) (ht : (pc : Int) + dflt = (tgt : Int)) (k : hf_W g p l e d s m args below meth c n Qf M (tgt) L (st) sh) : hf_W g p l e d s m args below meth c n Qf M (pc) L ((.int x :: st)) sh := fun r M' e H locs ls hP hL => lv_tableOut X.1 X.2.1 hd h ht (k r M' e H locs ls hP hL)
theorem hr_lookup (X : hf_X g p s m args meth c cc n own ret) {dflt : Int} {ps : Array (Int × Int)} {len : Nat} {x : Int32} {off : Int} (tgt : Nat) (hd : decode cc pc = .ok (.lookupswitch dflt ps, len)) (hp : (ps.toList.zip (ps.toList.drop 1)).all (fun (a, next) => a.1 < next.1) = true) (ho : Op.lookupswitch.offset ps.toList dflt x.toInt = off) (ht : (pc : Int) + off = (tgt : Int)) (k : hf_W g p l e d s m args below meth c n Qf M (tgt) L (st) sh) : hf_W g p l e d s m args below meth c n Qf M (pc) L ((.int x :: st)) sh := fun r M' e H locs ls hP hL => lv_lookup X.1 X.2.1 hd hp ho ht (k r M' e H locs ls hP hL)
theorem hf_neT {x : Int32} (k : Int) (h : ¬ x = Int32.ofInt k) (hk : (Int32.ofInt k).toInt = k) : x.toInt ≠ k := fun q => h (Int32.toInt_inj.mp (by rw [hk]; exact q))
theorem hf_br {P : Prop} {i1 i2 : Decidable P} {sa sb : Option (α × hf_M)} : @ite _ P i1 sa sb = @ite _ P i2 sa sb := by congr
theorem hr_idiv (X : hf_X g p s m args meth c cc n own ret) {x y : Int32} (hd : decode cc pc = .ok (.idiv, 1)) (hne : ¬ y = 0) (k : hf_W g p l e d s m args below meth c n Qf M (pc + 1) L ((.int (x / y) :: st)) sh) : hf_W g p l e d s m args below meth c n Qf M (pc) L ((.int y :: .int x :: st)) sh := fun r M' e H locs ls hP hL => lv_idiv X.1 X.2.1 hd hne (k r M' e H locs ls hP hL)
theorem hr_idivC (X : hf_X g p s m args meth c cc n own ret) {x y : Int32} (hd : decode cc pc = .ok (.idiv, 1)) (k : hf_W g p l e d s m args below meth c n Qf M (pc + 1) L ((.int (x / y) :: st)) sh) : hf_W g p l e d s m args below meth c n Qf M (pc) L ((.int y :: .int x :: st)) (hf_nz y sh) := by
  intro r M' e H locs ls hP hL
  unfold hf_nz at e
  by_cases h : y = 0
  · rw [if_pos h] at e; cases e
  · rw [if_neg h] at e
    exact lv_idiv X.1 X.2.1 hd h (k r M' e H locs ls hP hL)
theorem hr_irem (X : hf_X g p s m args meth c cc n own ret) {x y : Int32} (hd : decode cc pc = .ok (.irem, 1)) (hne : ¬ y = 0) (k : hf_W g p l e d s m args below meth c n Qf M (pc + 1) L ((.int (hn_irem x y) :: st)) sh) : hf_W g p l e d s m args below meth c n Qf M (pc) L ((.int y :: .int x :: st)) sh := fun r M' e H locs ls hP hL => lv_irem X.1 X.2.1 hd hne (k r M' e H locs ls hP hL)
theorem hr_iremC (X : hf_X g p s m args meth c cc n own ret) {x y : Int32} (hd : decode cc pc = .ok (.irem, 1)) (k : hf_W g p l e d s m args below meth c n Qf M (pc + 1) L ((.int (hn_irem x y) :: st)) sh) : hf_W g p l e d s m args below meth c n Qf M (pc) L ((.int y :: .int x :: st)) (hf_nz y sh) := by
  intro r M' e H locs ls hP hL
  unfold hf_nz at e
  by_cases h : y = 0
  · rw [if_pos h] at e; cases e
  · rw [if_neg h] at e
    exact lv_irem X.1 X.2.1 hd h (k r M' e H locs ls hP hL)
def hf_FL (own : String) (z : Nat) (C n d : String) : Prop := Cond.fieldLink own z C n d ∈ hf_T ∨ ∃ host, (own, z, C, n, d, host) ∈ hf_NF
theorem hf_get {R : Room} {H : Heap} {locs : List Loc} {cells slots : Nat} {Q : State → Prop} {ls : Array Slot} {rest : List Value} {a : Nat} {tys : List (ClassId × FieldType)} {ws : va_W} (hexec : p.tables.exec = Jvm.exec) (hb : c.code = cc) {ref C : String} {T : u_T} {N ci index : Nat} (hts : ∀ w ∈ hf_T, w.before args s = true) (hin : ∀ w ∈ u_ws C T N, w ∈ hf_T) (hown : s.vm.findClass own = some m.cls) (hK : va_K (hf_D g) vwCl tys s) (hS : hf_S g s s.heap) (hP : va_P (hf_D g) vwCl ws H) (q0 : Nat) {fs : List Value} (he : ws[q0]? = some (a, .inr (ci, fs))) (hc : vwCl[ci]? = some (C, T, N)) (k : Nat) (hk : k < N) (hlink : hf_FL own index ref (T k).2.1 (T k).2.2.1) (hsame : ∀ x, s.fieldFound? (T k).1 (T k).2.1 (T k).2.2.1 = some x → s.fieldFound? ref (T k).2.1 (T k).2.2.1 = some x) {v : Value} (hv : fs[k]? = some v) (hdg : decode cc pc = .ok (.getfield index, 3))
    (kk : W p l e R s m args below meth c H locs cells slots Q (F0 m (pc + 3) ls (v :: rest))) : W p l e R s m args below meth c H locs cells slots Q (F0 m pc ls (.ref a :: rest)) := by
  rcases hlink with hw | ⟨host, hw⟩
  · exact va_get hexec hb hts hin hown hK hP q0 he hc k hk (hts _ hw) hsame hv hdg kk
  · exact va_getN hexec hb hts hin hown hK hP q0 he hc k hk (va_Nw.use rfl (hS.2.2.2.2.1 _ hw)) hsame hv hdg kk
theorem hf_put {R : Room} {H H0 : Heap} {locs : List Loc} {cells slots : Nat} {Q : State → Prop} {ls : Array Slot} {rest : List Value} {a : Nat} {tys : List (ClassId × FieldType)} {ws : va_W} {A : Nat → Prop} (hexec : p.tables.exec = Jvm.exec) (hb : c.code = cc) {ref C : String} {T : u_T} {N ci index : Nat} (hts : ∀ w ∈ hf_T, w.before args s = true) (hin : ∀ w ∈ u_ws C T N, w ∈ hf_T) (ty0 : Nat → FieldType) (hty : ∀ k, k < N → parseFieldDescriptor (T k).2.2.1 = some (ty0 k)) (hnm : ∀ a, a < N → ∀ b, b < N → a ≠ b → (T a).2.1 ≠ (T b).2.1) (hown : s.vm.findClass own = some m.cls) (hK : va_K (hf_D g) vwCl tys s) (hS : hf_S g s s.heap) (hP : va_P (hf_D g) vwCl ws H) (hD : va_D A ws) (hS0 : va_S A H0 H locs) (q0 : Nat) {fs : List Value} (he : ws[q0]? = some (a, .inr (ci, fs))) (hc : vwCl[ci]? = some (C, T, N)) (k : Nat) (hk : k < N) (hlink : hf_FL own index ref (T k).2.1 (T k).2.2.1) (hsame : ∀ x, s.fieldFound? (T k).1 (T k).2.1 (T k).2.2.1 = some x → s.fieldFound? ref (T k).2.1 (T k).2.2.1 = some x) (hfin : (T k).2.2.2 = false) {ty : FieldType} {v : Value} (hd : parseFieldDescriptor (T k).2.2.1 = some ty) (hn : narrow ty v = v) (hfit : fits ty v = true) (hl : k < fs.length)
    (hdg : decode cc pc = .ok (.putfield index, 3)) (kk : ∀ (H1 : Heap) (locs1 : List Loc), va_P (hf_D g) vwCl (ws.set q0 (a, .inr (ci, fs.set k v))) H1 → va_D A (ws.set q0 (a, .inr (ci, fs.set k v))) → va_S A H0 H1 locs1 → W p l e R s m args below meth c H1 locs1 cells slots Q (F0 m (pc + 3) ls rest)) : W p l e R s m args below meth c H locs cells slots Q (F0 m pc ls (v :: .ref a :: rest)) := by
  rcases hlink with hw | ⟨host, hw⟩
  · exact va_put hexec hb hts hin ty0 hty hnm hown hK hP hD hS0 q0 he hc k hk (hts _ hw) hsame hfin hd hn hfit hl hdg kk
  · exact va_putN hexec hb hts hin ty0 hty hnm hown hK hP hD hS0 q0 he hc k hk (va_Nw.use rfl (hS.2.2.2.2.1 _ hw)) hsame hfin hd hn hfit hl hdg kk
theorem hr_getI (X : hf_X g p s m args meth c cc n own ret) {t ci j z N : Nat} {C : String} {T : u_T} (ht : t < 69) (hs : hf_shp t = ci) (hf : hf_fty ci j = 0 ∧ j < hf_nf ci ∧ ci < 6 ∧ vwCl[ci]? = some (C, T, N) ∧ j < N) (hin : ∀ w ∈ u_ws C T N, w ∈ hf_T) (hw : hf_FL own z C (T j).2.1 (T j).2.2.1) (hC : (T j).1 = C) (hd : decode cc pc = .ok (.getfield z, 3)) (k : hf_W g p l e d s m args below meth c n Qf M (pc + 3) L ((.int (M.1 t j) :: st)) sh) : hf_W g p l e d s m args below meth c n Qf M (pc) L ((.ref (hf_a g t) :: st)) sh := by
  intro r M' e H locs ls hP hL
  obtain ⟨hx, hb, hml, hown, hts, hr, hlk, hK, hS, h0⟩ := X
  have he := hf_w_at g M ht
  rw [hf_cO g M hs hf.2.2.1] at he
  refine hf_get hx hb hts hin hown hK hS hP.1 t he hf.2.2.2.1 j hf.2.2.2.2 hw (fun x h => by rw [hC] at h; exact h) (hf_fs_at g M t hf.2.1) hd ?_
  rw [hf_fv, if_pos hf.1]
  exact k r M' e H locs ls hP hL
theorem hr_getL (X : hf_X g p s m args meth c cc n own ret) {t ci j z N : Nat} {C : String} {T : u_T} (ht : t < 69) (hs : hf_shp t = ci) (hf : hf_fty ci j = 1 ∧ j < hf_nf ci ∧ ci < 6 ∧ vwCl[ci]? = some (C, T, N) ∧ j < N) (hin : ∀ w ∈ u_ws C T N, w ∈ hf_T) (hw : hf_FL own z C (T j).2.1 (T j).2.2.1) (hC : (T j).1 = C) (hd : decode cc pc = .ok (.getfield z, 3)) (k : hf_W g p l e d s m args below meth c n Qf M (pc + 3) L ((.long (M.2.1 t j) :: st)) sh) : hf_W g p l e d s m args below meth c n Qf M (pc) L ((.ref (hf_a g t) :: st)) sh := by
  intro r M' e H locs ls hP hL
  obtain ⟨hx, hb, hml, hown, hts, hr, hlk, hK, hS, h0⟩ := X
  have he := hf_w_at g M ht
  rw [hf_cO g M hs hf.2.2.1] at he
  refine hf_get hx hb hts hin hown hK hS hP.1 t he hf.2.2.2.1 j hf.2.2.2.2 hw (fun x h => by rw [hC] at h; exact h) (hf_fs_at g M t hf.2.1) hd ?_
  rw [hf_fv, if_neg (by rw [hf.1]; decide), if_pos hf.1]
  exact k r M' e H locs ls hP hL
theorem hr_getR (X : hf_X g p s m args meth c cc n own ret) {t ci j z N : Nat} {C : String} {T : u_T} {kk : Nat → Option (α × hf_M)} (sw : Nat) (ht : t < 69) (hs : hf_shp t = ci) (hf : hf_fty ci j = 2 ∧ j < hf_nf ci ∧ ci < 6 ∧ vwCl[ci]? = some (C, T, N) ∧ j < N) (hsw : hf_wnt ci j = sw) (hin : ∀ w ∈ u_ws C T N, w ∈ hf_T) (hw : hf_FL own z C (T j).2.1 (T j).2.2.1) (hC : (T j).1 = C) (hd : decode cc pc = .ok (.getfield z, 3)) (k : ∀ q : Nat, q < 69 → hf_shp q = sw → hf_W g p l e d s m args below meth c n Qf M (pc + 3) L ((.ref (hf_a g q) :: st)) (kk q)) : hf_W g p l e d s m args below meth c n Qf M (pc) L ((.ref (hf_a g t) :: st)) (hf_rf (M.2.2 t j) kk) := by
  intro r M' e H locs ls hP hL
  obtain ⟨hx, hb, hml, hown, hts, hr, hlk, hK, hS, h0⟩ := X
  have he := hf_w_at g M ht
  rw [hf_cO g M hs hf.2.2.1] at he
  refine hf_get hx hb hts hin hown hK hS hP.1 t he hf.2.2.2.1 j hf.2.2.2.2 hw (fun x h => by rw [hC] at h; exact h) (hf_fs_at g M t hf.2.1) hd ?_
  rw [hf_fv, if_neg (by rw [hf.1]; decide), if_neg (by rw [hf.1]; decide)]
  unfold hf_rf at e
  cases hq : M.2.2 t j with
  | none => rw [hq] at e; cases e
  | some q =>
    rw [hq] at e
    have h2 := hP.2.2.2 t j q hq
    exact k q h2.1 (by rw [h2.2, hs]; exact hsw) r M' e H locs ls hP hL
theorem hf_RT_I {M : hf_M} (h : hf_RT M) (k j : Nat) (v : Int32) : hf_RT (hf_sI M k j v) := h
theorem hf_RT_L {M : hf_M} (h : hf_RT M) (k j : Nat) (v : Int64) : hf_RT (hf_sL M k j v) := h
theorem hf_RT_R {M : hf_M} (h : hf_RT M) (k j : Nat) (v : Nat) (hv : v < 69 ∧ hf_shp v = hf_wnt (hf_shp k) j) : hf_RT (hf_sR M k j (some v)) := by
  intro a b t ht
  simp only [hf_sR, hf_u] at ht
  by_cases c : a = k ∧ b = j
  · rw [if_pos c] at ht
    cases ht
    rw [c.1, c.2]
    exact hv
  · rw [if_neg c] at ht
    exact h a b t ht
theorem hr_putI (X : hf_X g p s m args meth c cc n own ret) {t ci j z N : Nat} {C : String} {T : u_T} {v : Int32} {ty0 : Nat → FieldType} {ty : FieldType} (ht : t < 69) (hs : hf_shp t = ci) (hf : hf_fty ci j = 0 ∧ j < hf_nf ci ∧ ci < 6 ∧ vwCl[ci]? = some (C, T, N) ∧ j < N) (hin : ∀ w ∈ u_ws C T N, w ∈ hf_T) (hw : hf_FL own z C (T j).2.1 (T j).2.2.1) (hC : (T j).1 = C) (hty : ∀ k, k < N → parseFieldDescriptor (T k).2.2.1 = some (ty0 k)) (hnm : ∀ a, a < N → ∀ b, b < N → a ≠ b → (T a).2.1 ≠ (T b).2.1) (hfin : (T j).2.2.2 = false) (hdd : ty0 j = ty) (hn : narrow ty (.int v) = .int v) (hfit : fits ty (.int v) = true) (hd : decode cc pc = .ok (.putfield z, 3)) (k : hf_W g p l e d s m args below meth c n Qf (hf_sI M t j v) (pc + 3) L (st) sh) : hf_W g p l e d s m args below meth c n Qf M (pc) L ((.int v :: .ref (hf_a g t) :: st)) sh := by
  intro r M' e H locs ls hP hL
  obtain ⟨hx, hb, hml, hown, hts, hr, hlk, hK, hS, h0⟩ := X
  have he := hf_w_at g M ht
  rw [hf_cO g M hs hf.2.2.1] at he
  refine hf_put hx hb hts hin ty0 hty hnm hown hK hS hP.1 hP.2.1 hP.2.2.1 t he hf.2.2.2.1 j hf.2.2.2.2 hw (fun x h => by rw [hC] at h; exact h) hfin (by rw [hty j hf.2.2.2.2, hdd]) hn hfit (by rw [hf_fs_len]; exact hf.2.1) hd (fun H1 locs1 hP1 hD1 hS1 => ?_)
  have e1 : (hf_w g M).set t (hf_a g t, .inr (ci, (hf_fs g M t ci).set j (.int v))) = hf_w g (hf_sI M t j v) := by
    rw [hf_fsI g M t v hf.2.1 hf.1, ← hf_cO g (hf_sI M t j v) hs hf.2.2.1]
    exact hf_w_set g M _ ht (hf_cI_ne g M t j v)
  rw [e1] at hP1 hD1
  exact k r M' e H1 locs1 ls ⟨hP1, hD1, hS1, hf_RT_I hP.2.2.2 t j v⟩ hL
theorem hr_putL (X : hf_X g p s m args meth c cc n own ret) {t ci j z N : Nat} {C : String} {T : u_T} {v : Int64} {ty0 : Nat → FieldType} (ht : t < 69) (hs : hf_shp t = ci) (hf : hf_fty ci j = 1 ∧ j < hf_nf ci ∧ ci < 6 ∧ vwCl[ci]? = some (C, T, N) ∧ j < N) (hin : ∀ w ∈ u_ws C T N, w ∈ hf_T) (hw : hf_FL own z C (T j).2.1 (T j).2.2.1) (hC : (T j).1 = C) (hty : ∀ k, k < N → parseFieldDescriptor (T k).2.2.1 = some (ty0 k)) (hnm : ∀ a, a < N → ∀ b, b < N → a ≠ b → (T a).2.1 ≠ (T b).2.1) (hfin : (T j).2.2.2 = false) (hdd : ty0 j = .long) (hd : decode cc pc = .ok (.putfield z, 3)) (k : hf_W g p l e d s m args below meth c n Qf (hf_sL M t j v) (pc + 3) L (st) sh) : hf_W g p l e d s m args below meth c n Qf M (pc) L ((.long v :: .ref (hf_a g t) :: st)) sh := by
  intro r M' e H locs ls hP hL
  obtain ⟨hx, hb, hml, hown, hts, hr, hlk, hK, hS, h0⟩ := X
  have he := hf_w_at g M ht
  rw [hf_cO g M hs hf.2.2.1] at he
  refine hf_put hx hb hts hin ty0 hty hnm hown hK hS hP.1 hP.2.1 hP.2.2.1 t he hf.2.2.2.1 j hf.2.2.2.2 hw (fun x h => by rw [hC] at h; exact h) hfin (by rw [hty j hf.2.2.2.2, hdd]) rfl rfl (by rw [hf_fs_len]; exact hf.2.1) hd (fun H1 locs1 hP1 hD1 hS1 => ?_)
  have e1 : (hf_w g M).set t (hf_a g t, .inr (ci, (hf_fs g M t ci).set j (.long v))) = hf_w g (hf_sL M t j v) := by
    rw [hf_fsL g M t v hf.2.1 hf.1, ← hf_cO g (hf_sL M t j v) hs hf.2.2.1]
    exact hf_w_set g M _ ht (hf_cL_ne g M t j v)
  rw [e1] at hP1 hD1
  exact k r M' e H1 locs1 ls ⟨hP1, hD1, hS1, hf_RT_L hP.2.2.2 t j v⟩ hL
theorem hr_putR (X : hf_X g p s m args meth c cc n own ret) {t ci j z N q : Nat} {C : String} {T : u_T} {ty0 : Nat → FieldType} {ty : FieldType} (ht : t < 69) (hs : hf_shp t = ci) (hf : hf_fty ci j = 2 ∧ j < hf_nf ci ∧ ci < 6 ∧ vwCl[ci]? = some (C, T, N) ∧ j < N) (hq : q < 69) (hqs : hf_shp q = hf_wnt ci j) (hin : ∀ w ∈ u_ws C T N, w ∈ hf_T) (hw : hf_FL own z C (T j).2.1 (T j).2.2.1) (hC : (T j).1 = C) (hty : ∀ k, k < N → parseFieldDescriptor (T k).2.2.1 = some (ty0 k)) (hnm : ∀ a, a < N → ∀ b, b < N → a ≠ b → (T a).2.1 ≠ (T b).2.1) (hfin : (T j).2.2.2 = false) (hdd : ty0 j = ty) (hn : narrow ty (.ref (hf_a g q)) = .ref (hf_a g q)) (hfit : fits ty (.ref (hf_a g q)) = true) (hd : decode cc pc = .ok (.putfield z, 3)) (k : hf_W g p l e d s m args below meth c n Qf (hf_sR M t j (some q)) (pc + 3) L (st) sh) : hf_W g p l e d s m args below meth c n Qf M (pc) L ((.ref (hf_a g q) :: .ref (hf_a g t) :: st)) sh := by
  intro r M' e H locs ls hP hL
  obtain ⟨hx, hb, hml, hown, hts, hr, hlk, hK, hS, h0⟩ := X
  have he := hf_w_at g M ht
  rw [hf_cO g M hs hf.2.2.1] at he
  refine hf_put hx hb hts hin ty0 hty hnm hown hK hS hP.1 hP.2.1 hP.2.2.1 t he hf.2.2.2.1 j hf.2.2.2.2 hw (fun x h => by rw [hC] at h; exact h) hfin (by rw [hty j hf.2.2.2.2, hdd]) hn hfit (by rw [hf_fs_len]; exact hf.2.1) hd (fun H1 locs1 hP1 hD1 hS1 => ?_)
  have e1 : (hf_w g M).set t (hf_a g t, .inr (ci, (hf_fs g M t ci).set j (.ref (hf_a g q)))) = hf_w g (hf_sR M t j (some q)) := by
    rw [show Value.ref (hf_a g q) = va_rf ((some q).map (hf_a g)) from rfl, hf_fsR g M t (some q) hf.2.1 hf.1, ← hf_cO g (hf_sR M t j (some q)) hs hf.2.2.1]
    exact hf_w_set g M _ ht (hf_cR_ne g M t j (some q))
  rw [e1] at hP1 hD1
  exact k r M' e H1 locs1 ls ⟨hP1, hD1, hS1, hf_RT_R hP.2.2.2 t j q ⟨hq, by rw [hs]; exact hqs⟩⟩ hL
theorem hr_iald (X : hf_X g p s m args meth c cc n own ret) {q : Nat} {i : Int32} {kk : Int32 → Option (α × hf_M)} (hq : q < 69) (hs : hf_shp q = 6) (hd : decode cc pc = .ok (.iaload, 1)) (k : ∀ v, v = M.1 q i.toNatClampNeg → hf_in i (hf_len q) → hf_W g p l e d s m args below meth c n Qf M (pc + 1) L ((.int v :: st)) (kk v)) : hf_W g p l e d s m args below meth c n Qf M (pc) L ((.int i :: .ref (hf_a g q) :: st)) (hf_ldI M q i kk) := by
  intro r M' e H locs ls hP hL
  obtain ⟨hx, hb, hml, hown, hts, hr, hlk, hK, hS, h0⟩ := X
  have he := hf_w_at g M hq
  rw [hf_c6 g M hs] at he
  unfold hf_ldI hf_ix at e
  by_cases hin : i < 0 ∨ hf_len q ≤ i.toNatClampNeg
  · rw [if_pos hin] at e; cases e
  · rw [if_neg hin] at e
    exact va_iald hx hb hK hP.1 q 0 he rfl hin hd (k _ rfl hin r M' e H locs ls hP hL)
theorem hr_iast (X : hf_X g p s m args meth c cc n own ret) {q : Nat} {i : Int32} {v : Int32} {kk : hf_M → Option (α × hf_M)} (hq : q < 69) (hs : hf_shp q = 6) (hd : decode cc pc = .ok (.iastore, 1)) (k : hf_in i (hf_len q) → hf_W g p l e d s m args below meth c n Qf (hf_sI M q i.toNatClampNeg v) (pc + 1) L (st) (kk (hf_sI M q i.toNatClampNeg v))) : hf_W g p l e d s m args below meth c n Qf M (pc) L ((.int v :: .int i :: .ref (hf_a g q) :: st)) (hf_stI M q i v kk) := by
  intro r M' e H locs ls hP hL
  obtain ⟨hx, hb, hml, hown, hts, hr, hlk, hK, hS, h0⟩ := X
  have he := hf_w_at g M hq
  rw [hf_c6 g M hs] at he
  unfold hf_stI hf_ix at e
  by_cases hin : i < 0 ∨ hf_len q ≤ i.toNatClampNeg
  · rw [if_pos hin] at e; cases e
  · rw [if_neg hin] at e
    refine va_iast hx hb hK hP.1 hP.2.1 hP.2.2.1 q 0 he rfl hin hd (fun H1 locs1 hP1 hD1 hS1 => ?_)
    have e1 : (hf_w g M).set q (hf_a g q, .inl (hf_cI g, hf_len q, .inl (upd (M.1 q) i.toNatClampNeg v))) = hf_w g (hf_sI M q i.toNatClampNeg v) := by
      have ef : (hf_sI M q i.toNatClampNeg v).1 q = upd (M.1 q) i.toNatClampNeg v := by
        funext b
        simp [hf_sI, hf_u, upd]
      rw [← hf_w_set g M (hf_sI M q i.toNatClampNeg v) hq (hf_cI_ne g M q _ v), hf_c6 g _ hs, ef]
    rw [e1] at hP1 hD1
    exact k hin r M' e H1 locs1 ls ⟨hP1, hD1, hS1, hf_RT_I hP.2.2.2 q _ v⟩ hL
theorem hr_lald (X : hf_X g p s m args meth c cc n own ret) {q : Nat} {i : Int32} {kk : Int64 → Option (α × hf_M)} (hq : q < 69) (hs : hf_shp q = 7) (hd : decode cc pc = .ok (.laload, 1)) (k : ∀ v, v = M.2.1 q i.toNatClampNeg → hf_in i (hf_len q) → hf_W g p l e d s m args below meth c n Qf M (pc + 1) L ((.long v :: st)) (kk v)) : hf_W g p l e d s m args below meth c n Qf M (pc) L ((.int i :: .ref (hf_a g q) :: st)) (hf_ldL M q i kk) := by
  intro r M' e H locs ls hP hL
  obtain ⟨hx, hb, hml, hown, hts, hr, hlk, hK, hS, h0⟩ := X
  have he := hf_w_at g M hq
  rw [hf_c7 g M hs] at he
  unfold hf_ldL hf_ix at e
  by_cases hin : i < 0 ∨ hf_len q ≤ i.toNatClampNeg
  · rw [if_pos hin] at e; cases e
  · rw [if_neg hin] at e
    exact va_lald hx hb hK hP.1 q 1 he rfl hin hd (k _ rfl hin r M' e H locs ls hP hL)
theorem hr_last (X : hf_X g p s m args meth c cc n own ret) {q : Nat} {i : Int32} {v : Int64} {kk : hf_M → Option (α × hf_M)} (hq : q < 69) (hs : hf_shp q = 7) (hd : decode cc pc = .ok (.lastore, 1)) (k : hf_in i (hf_len q) → hf_W g p l e d s m args below meth c n Qf (hf_sL M q i.toNatClampNeg v) (pc + 1) L (st) (kk (hf_sL M q i.toNatClampNeg v))) : hf_W g p l e d s m args below meth c n Qf M (pc) L ((.long v :: .int i :: .ref (hf_a g q) :: st)) (hf_stL M q i v kk) := by
  intro r M' e H locs ls hP hL
  obtain ⟨hx, hb, hml, hown, hts, hr, hlk, hK, hS, h0⟩ := X
  have he := hf_w_at g M hq
  rw [hf_c7 g M hs] at he
  unfold hf_stL hf_ix at e
  by_cases hin : i < 0 ∨ hf_len q ≤ i.toNatClampNeg
  · rw [if_pos hin] at e; cases e
  · rw [if_neg hin] at e
    refine va_last hx hb hK hP.1 hP.2.1 hP.2.2.1 q 1 he rfl hin hd (fun H1 locs1 hP1 hD1 hS1 => ?_)
    have e1 : (hf_w g M).set q (hf_a g q, .inl (hf_cJ g, hf_len q, .inr (.inl (vp_updL (M.2.1 q) i.toNatClampNeg v)))) = hf_w g (hf_sL M q i.toNatClampNeg v) := by
      have ef : (hf_sL M q i.toNatClampNeg v).2.1 q = vp_updL (M.2.1 q) i.toNatClampNeg v := by
        funext b
        simp [hf_sL, hf_u, vp_updL]
      rw [← hf_w_set g M (hf_sL M q i.toNatClampNeg v) hq (hf_cL_ne g M q _ v), hf_c7 g _ hs, ef]
    rw [e1] at hP1 hD1
    exact k hin r M' e H1 locs1 ls ⟨hP1, hD1, hS1, hf_RT_L hP.2.2.2 q _ v⟩ hL
theorem hr_aald (X : hf_X g p s m args meth c cc n own ret) {q : Nat} {i : Int32} {kk : Nat → Option (α × hf_M)} (hq : q < 69) (hs : hf_shp q = 8) (hl : hf_len q = 8) (hd : decode cc pc = .ok (.aaload, 1)) (k : ∀ t, t < 69 → hf_shp t = 2 → hf_W g p l e d s m args below meth c n Qf M (pc + 1) L ((.ref (hf_a g t) :: st)) (kk t)) : hf_W g p l e d s m args below meth c n Qf M (pc) L ((.int i :: .ref (hf_a g q) :: st)) (hf_ldR M q i kk) := by
  intro r M' e H locs ls hP hL
  obtain ⟨hx, hb, hml, hown, hts, hr, hlk, hK, hS, h0⟩ := X
  have he := hf_w_at g M hq
  rw [hf_c8 g M hs] at he
  unfold hf_ldR hf_ix at e
  by_cases hin : i < 0 ∨ hf_len q ≤ i.toNatClampNeg
  · rw [if_pos hin] at e; cases e
  · rw [if_neg hin] at e
    refine va_aldq hx hb hK hP.1 q 2 he rfl hin hd ?_
    unfold hf_rf at e
    dsimp only at e
    cases hz : M.2.2 q i.toNatClampNeg with
    | none => rw [hz] at e; cases e
    | some t =>
      rw [hz] at e
      have h2 := hP.2.2.2 q _ t hz
      have h3 : hf_shp t = 2 := by
        rw [h2.2, hs]
        have hlt : i.toNatClampNeg < 8 := by
          rw [hl] at hin
          exact Nat.not_le.mp fun w => hin (Or.inr w)
        revert hlt
        generalize i.toNatClampNeg = w
        intro hlt
        exact (show ∀ w, w < 8 → hf_wnt 8 w = 2 by decide) w hlt
      exact k t h2.1 h3 r M' e H locs ls hP hL
theorem hr_alenI (X : hf_X g p s m args meth c cc n own ret) {q : Nat} (v : Int32) (hq : q < 69) (hs : hf_shp q = 6) (hv : Int32.ofNat (hf_len q) = v) (hd : decode cc pc = .ok (.arraylength, 1)) (k : hf_W g p l e d s m args below meth c n Qf M (pc + 1) L ((.int v :: st)) sh) : hf_W g p l e d s m args below meth c n Qf M (pc) L ((.ref (hf_a g q) :: st)) sh := by
  intro r M' e H locs ls hP hL
  obtain ⟨hx, hb, hml, hown, hts, hr, hlk, hK, hS, h0⟩ := X
  have he := hf_w_at g M hq
  rw [hf_c6 g M hs] at he
  exact va_alen hx hb hK hP.1 q 0 he (ty := .int) rfl hv hd (k r M' e H locs ls hP hL)
theorem hr_gsAB (X : hf_X g p s m args meth c cc n own ret) {z : Nat} (hw : hf_FL own z RX4 "ABOVE" "[I") (hd : decode cc pc = .ok (.getstatic z, 3)) (k : hf_W g p l e d s m args below meth c n Qf M (pc + 3) L ((.ref (hf_tA g) :: st)) sh) : hf_W g p l e d s m args below meth c n Qf M (pc) L (st) sh := by
  intro r M' e H locs ls hP hL
  obtain ⟨hx, hb, hml, hown, hts, hr, hlk, hK, hS, h0⟩ := X
  rcases hw with hw | ⟨host, hw⟩
  · exact va_gets hx hb hS.1.1 hP.2.2.1 hown (hts _ hw) (fun x h => h) hd (k r M' e H locs ls hP hL)
  · exact va_getsN hx hb hS.1.1 hP.2.2.1 hown (va_Nw.use rfl (hS.2.2.2.2.1 _ hw)) (fun x h => h) hd (k r M' e H locs ls hP hL)
theorem hr_ldAB (X : hf_X g p s m args meth c cc n own ret) {i : Int32} {kk : Int32 → Option (α × hf_M)} (hd : decode cc pc = .ok (.iaload, 1)) (k : ∀ v, v = hf_AB i.toNatClampNeg → hf_in i 7 → hf_W g p l e d s m args below meth c n Qf M (pc + 1) L ((.int v :: st)) (kk v)) : hf_W g p l e d s m args below meth c n Qf M (pc) L ((.int i :: .ref (hf_tA g) :: st)) (hf_ldAB i kk) := by
  intro r M' e H locs ls hP hL
  obtain ⟨hx, hb, hml, hown, hts, hr, hlk, hK, hS, h0⟩ := X
  unfold hf_ldAB hf_ix at e
  by_cases hin : i < 0 ∨ 7 ≤ i.toNatClampNeg
  · rw [if_pos hin] at e; cases e
  · rw [if_neg hin] at e
    exact va_ti hx hb hS.1.2 hP.2.2.1 hin rfl hd (k _ rfl hin r M' e H locs ls hP hL)
theorem hr_gsSO (X : hf_X g p s m args meth c cc n own ret) {z : Nat} (hw : hf_FL own z RX4 "SO" "[J") (hd : decode cc pc = .ok (.getstatic z, 3)) (k : hf_W g p l e d s m args below meth c n Qf M (pc + 3) L ((.ref (hf_tS g) :: st)) sh) : hf_W g p l e d s m args below meth c n Qf M (pc) L (st) sh := by
  intro r M' e H locs ls hP hL
  obtain ⟨hx, hb, hml, hown, hts, hr, hlk, hK, hS, h0⟩ := X
  rcases hw with hw | ⟨host, hw⟩
  · exact va_gets hx hb hS.2.1.1 hP.2.2.1 hown (hts _ hw) (fun x h => h) hd (k r M' e H locs ls hP hL)
  · exact va_getsN hx hb hS.2.1.1 hP.2.2.1 hown (va_Nw.use rfl (hS.2.2.2.2.1 _ hw)) (fun x h => h) hd (k r M' e H locs ls hP hL)
theorem hr_ldSO (X : hf_X g p s m args meth c cc n own ret) {i : Int32} {kk : Int64 → Option (α × hf_M)} (hd : decode cc pc = .ok (.laload, 1)) (k : ∀ v, v = hf_SO i.toNatClampNeg → hf_in i 6 → hf_W g p l e d s m args below meth c n Qf M (pc + 1) L ((.long v :: st)) (kk v)) : hf_W g p l e d s m args below meth c n Qf M (pc) L ((.int i :: .ref (hf_tS g) :: st)) (hf_ldSO i kk) := by
  intro r M' e H locs ls hP hL
  obtain ⟨hx, hb, hml, hown, hts, hr, hlk, hK, hS, h0⟩ := X
  unfold hf_ldSO hf_ix at e
  by_cases hin : i < 0 ∨ 6 ≤ i.toNatClampNeg
  · rw [if_pos hin] at e; cases e
  · rw [if_neg hin] at e
    exact va_tl hx hb hS.2.1.2 hP.2.2.1 hin rfl hd (k _ rfl hin r M' e H locs ls hP hL)
theorem hr_gsBO (X : hf_X g p s m args meth c cc n own ret) {z : Nat} (hw : hf_FL own z RX0 "BODIES" "[I") (hd : decode cc pc = .ok (.getstatic z, 3)) (k : hf_W g p l e d s m args below meth c n Qf M (pc + 3) L ((.ref (hf_tB g) :: st)) sh) : hf_W g p l e d s m args below meth c n Qf M (pc) L (st) sh := by
  intro r M' e H locs ls hP hL
  obtain ⟨hx, hb, hml, hown, hts, hr, hlk, hK, hS, h0⟩ := X
  rcases hw with hw | ⟨host, hw⟩
  · exact va_gets hx hb hS.2.2.1.1 hP.2.2.1 hown (hts _ hw) (fun x h => h) hd (k r M' e H locs ls hP hL)
  · exact va_getsN hx hb hS.2.2.1.1 hP.2.2.1 hown (va_Nw.use rfl (hS.2.2.2.2.1 _ hw)) (fun x h => h) hd (k r M' e H locs ls hP hL)
theorem hr_ldBO (X : hf_X g p s m args meth c cc n own ret) {i : Int32} {kk : Int32 → Option (α × hf_M)} (hd : decode cc pc = .ok (.iaload, 1)) (k : ∀ v, v = hf_BO i.toNatClampNeg → hf_in i 21 → hf_W g p l e d s m args below meth c n Qf M (pc + 1) L ((.int v :: st)) (kk v)) : hf_W g p l e d s m args below meth c n Qf M (pc) L ((.int i :: .ref (hf_tB g) :: st)) (hf_ldBO i kk) := by
  intro r M' e H locs ls hP hL
  obtain ⟨hx, hb, hml, hown, hts, hr, hlk, hK, hS, h0⟩ := X
  unfold hf_ldBO hf_ix at e
  by_cases hin : i < 0 ∨ 21 ≤ i.toNatClampNeg
  · rw [if_pos hin] at e; cases e
  · rw [if_neg hin] at e
    exact va_ti hx hb hS.2.2.1.2 hP.2.2.1 hin rfl hd (k _ rfl hin r M' e H locs ls hP hL)
theorem hr_glAB (X : hf_X g p s m args meth c cc n own ret) (v : Int32) (hv : v = 7) (hd : decode cc pc = .ok (.arraylength, 1)) (k : hf_W g p l e d s m args below meth c n Qf M (pc + 1) L ((.int v :: st)) sh) : hf_W g p l e d s m args below meth c n Qf M (pc) L ((.ref (hf_tA g) :: st)) sh := by
  intro r M' e H locs ls hP hL
  obtain ⟨hx, hb, hml, hown, hts, hr, hlk, hK, hS, h0⟩ := X
  exact va_tlen hx hb hS.1.2 hP.2.2.1 (by rw [hv]; rfl) hd (k r M' e H locs ls hP hL)
theorem hr_mmax (X : hf_X g p s m args meth c cc n own ret) {z : Nat} {x y : Int32} (h1 : Cond.methodLink own z Lib.Math.max.name ∈ hf_T) (h2 : Cond.static Lib.Math.max.name ∈ hf_T) (h3 : Cond.initialized "java/lang/Math" ∈ hf_T) (h4 : Cond.code Lib.Math.max.name Lib.Math.max.code 2 (some .int) ∈ hf_T) (hdd : 1 ≤ d) (hst : (st.map fun v => v.category).sum ≤ 8) (hd : decode cc pc = .ok (.invokestatic z, 3)) (k : hf_W g p l e d s m args below meth c n Qf M (pc + 3) L ((.int (hn_max x y) :: st)) sh) : hf_W g p l e d s m args below meth c n Qf M (pc) L ((.int y :: .int x :: st)) sh := by
  intro r M' e H locs ls hP hL
  obtain ⟨hx, hb, hml, hown, hts, hr, hlk, hK, hS, h0⟩ := X
  exact va_mmax hx hb (by rw [hml, hL.1]) hown (hts _ h1) (hts _ h2) (hts _ h3) (hts _ h4) hdd (by show _ ≤ 48 * d; omega) (Nat.zero_le _) (Nat.zero_le _) hd (k r M' e H locs ls hP hL)
theorem hr_mmin (X : hf_X g p s m args meth c cc n own ret) {z : Nat} {x y : Int32} (h1 : Cond.methodLink own z Lib.Math.min.name ∈ hf_T) (h2 : Cond.static Lib.Math.min.name ∈ hf_T) (h3 : Cond.initialized "java/lang/Math" ∈ hf_T) (h4 : Cond.code Lib.Math.min.name Lib.Math.min.code 2 (some .int) ∈ hf_T) (hdd : 1 ≤ d) (hst : (st.map fun v => v.category).sum ≤ 8) (hd : decode cc pc = .ok (.invokestatic z, 3)) (k : hf_W g p l e d s m args below meth c n Qf M (pc + 3) L ((.int (hn_min x y) :: st)) sh) : hf_W g p l e d s m args below meth c n Qf M (pc) L ((.int y :: .int x :: st)) sh := by
  intro r M' e H locs ls hP hL
  obtain ⟨hx, hb, hml, hown, hts, hr, hlk, hK, hS, h0⟩ := X
  exact va_mmin hx hb (by rw [hml, hL.1]) hown (hts _ h1) (hts _ h2) (hts _ h3) (hts _ h4) hdd (by show _ ≤ 48 * d; omega) (Nat.zero_le _) (Nat.zero_le _) hd (k r M' e H locs ls hP hL)
end HF
theorem hf_S_at {g : hf_G} {s t : State} {H : Heap} {locs : List Loc} (h : hf_S g s s.heap) (hS : va_S (hf_A g) s.heap H locs) (hW : s.WarmedH t.vm) (ht : t.heap = H) : hf_S g t t.heap := by
  have hk : ∀ a : Nat, a < s.heap.size → ¬ hf_A g a → t.heap[a]? = s.heap[a]? := fun a h1 h2 => by rw [ht]; exact hS.2.1 a h1 h2
  have hv := hW.alike
  exact ⟨⟨(va_Z.moved hv h.1.1).kept hk, (va_T.moved hv h.1.2).kept hk⟩, ⟨(va_Z.moved hv h.2.1.1).kept hk, (va_T.moved hv h.2.1.2).kept hk⟩, ⟨(va_Z.moved hv h.2.2.1.1).kept hk, (va_T.moved hv h.2.2.1.2).kept hk⟩,
    ⟨(va_Z.moved hv h.2.2.2.1.1).kept hk, (vk_S.moved hv h.2.2.2.1.2.1).kept hk, fun i hi => vk_R.warm hW (h.2.2.2.1.2.2 i hi)⟩, fun q hq => va_Nw.warmF hW (h.2.2.2.2.1 q hq), fun q hq => va_Nw.warmM hW (h.2.2.2.2.2 q hq)⟩
def hf_Pic (g : hf_G) (M : hf_M) (U : State) : Prop := hf_s0 g ≤ U.heap.size ∧ va_P (hf_D g) vwCl (hf_w g M) U.heap ∧ va_D (hf_A g) (hf_w g M) ∧ va_K (hf_D g) vwCl (hf_ty g) U ∧ hf_RT M ∧ hf_S g U U.heap
theorem hf_Pic_at {g : hf_G} {M : hf_M} {s t : State} {H : Heap} {locs : List Loc} (hK : va_K (hf_D g) vwCl (hf_ty g) s) (hS : hf_S g s s.heap) (h0 : hf_s0 g ≤ s.heap.size) (hP : hf_P g M s H locs) (ht : t.heap = H) (hW : s.WarmedH t.vm) : hf_Pic g M t :=
  ⟨by rw [ht]; exact Nat.le_trans h0 hP.2.2.1.1, by rw [ht]; exact hP.1, hP.2.1, va_K.moved hW.alike hK, hP.2.2.2, hf_S_at hS hP.2.2.1 hW ht⟩
theorem hf_S_blind {g : hf_G} {U : State} {f : JFrame} {mk : MethodId} {a : Array Value} (h : hf_S g U U.heap) : hf_S g (U.calling f mk a) (U.calling f mk a).heap := by
  have hv := Vm.Alike.refl U.vm
  exact ⟨⟨va_Z.moved (U := U.calling f mk a) hv h.1.1, va_T.moved (U := U.calling f mk a) hv h.1.2⟩, ⟨va_Z.moved (U := U.calling f mk a) hv h.2.1.1, va_T.moved (U := U.calling f mk a) hv h.2.1.2⟩, ⟨va_Z.moved (U := U.calling f mk a) hv h.2.2.1.1, va_T.moved (U := U.calling f mk a) hv h.2.2.1.2⟩,
    ⟨va_Z.moved (U := U.calling f mk a) hv h.2.2.2.1.1, vk_S.moved (U := U.calling f mk a) hv h.2.2.2.1.2.1, fun i hi => vk_R.same (U := U.calling f mk a) rfl (h.2.2.2.1.2.2 i hi)⟩, fun q hq => va_Nw.same (U := U.calling f mk a) rfl rfl (h.2.2.2.2.1 q hq), fun q hq => va_Nw.same (U := U.calling f mk a) rfl rfl (h.2.2.2.2.2 q hq)⟩
theorem hf_blind (g : hf_G) (M : hf_M) (av : List Value) : FrameBlind (va_Pc av (hf_Pic g M)) := fun a U f mk h =>
  ⟨h.1, h.2.1, h.2.2.1, h.2.2.2.1, va_K.moved (u := U) (U := U.calling f mk a) (Vm.Alike.refl U.vm) h.2.2.2.2.1, h.2.2.2.2.2.1, hf_S_blind h.2.2.2.2.2.2⟩
/-- the contracts: of a method that gives an int (or a boolean), a long, nothing -/
def hf_CI (y : MethodName) (cd : ByteArray) (maxL : Nat) (ret : Option FieldType) (d : Nat) (av : hf_G → List Value) (M : hf_M) (sh : Option (Int32 × hf_M)) : Prop :=
  ∀ (l : Launch) (g : hf_G) (r : Int32) (M' : hf_M), sh = some (r, M') → Met l y (.code y cd maxL ret :: hf_T) (hf_R d) (va_Pc (av g) (hf_Pic g M)) (va_Qi (fun x (_ : Unit) => x = r) (fun _ t => hf_Pic g M' t) (hf_A g)) 0 0 (hf_A g)
def hf_CJ (y : MethodName) (cd : ByteArray) (maxL : Nat) (ret : Option FieldType) (d : Nat) (av : hf_G → List Value) (M : hf_M) (sh : Option (Int64 × hf_M)) : Prop :=
  ∀ (l : Launch) (g : hf_G) (r : Int64) (M' : hf_M), sh = some (r, M') → Met l y (.code y cd maxL ret :: hf_T) (hf_R d) (va_Pc (av g) (hf_Pic g M)) (va_Ql (fun x (_ : Unit) => x = r) (fun _ t => hf_Pic g M' t) (hf_A g)) 0 0 (hf_A g)
def hf_CV (y : MethodName) (cd : ByteArray) (maxL : Nat) (ret : Option FieldType) (d : Nat) (av : hf_G → List Value) (M : hf_M) (sh : Option (Unit × hf_M)) : Prop :=
  ∀ (l : Launch) (g : hf_G) (r : Unit) (M' : hf_M), sh = some (r, M') → Met l y (.code y cd maxL ret :: hf_T) (hf_R d) (va_Pc (av g) (hf_Pic g M)) (va_Qv (fun (_ : Unit) => True) (fun _ t => hf_Pic g M' t) (hf_A g)) 0 0 (hf_A g)
def hf_QI (g : hf_G) (below : List Frame) (args : Array Value) (s : State) : Int32 → hf_M → State → Prop := fun r M' => MQ below (va_Qi (fun x (_ : Unit) => x = r) (fun _ t => hf_Pic g M' t) (hf_A g)) args s 0 0 (hf_A g)
def hf_QJ (g : hf_G) (below : List Frame) (args : Array Value) (s : State) : Int64 → hf_M → State → Prop := fun r M' => MQ below (va_Ql (fun x (_ : Unit) => x = r) (fun _ t => hf_Pic g M' t) (hf_A g)) args s 0 0 (hf_A g)
def hf_QV (g : hf_G) (below : List Frame) (args : Array Value) (s : State) : Unit → hf_M → State → Prop := fun _ M' => MQ below (va_Qv (fun (_ : Unit) => True) (fun _ t => hf_Pic g M' t) (hf_A g)) args s 0 0 (hf_A g)
/-- a link of a call -/
def hf_kv (own : String) (z : Nat) (y : MethodName) (cd : ByteArray) (maxL : Nat) (ret : Option FieldType) (C : String) (k : Nat) : Prop :=
  (GoodIn hf_T (wsV own z C y (.code y cd maxL ret :: hf_T)) ∧ maxL ≤ 29) ∧ (y.cls = C ∧ y.cls ≠ "java/lang/invoke/MethodHandle" ∧ y.cls ≠ "java/lang/invoke/VarHandle" ∧ (parseMethodDescriptor y.desc).map (fun d => d.parameters.length) = some k)
def hf_ks (own : String) (z : Nat) (y : MethodName) (cd : ByteArray) (maxL : Nat) (ret : Option FieldType) (k : Nat) : Prop :=
  ((Cond.methodLink own z y ∈ hf_T ∨ ∃ host, (own, z, y, host) ∈ hf_NM) ∧ Cond.static y ∈ hf_T ∧ Cond.initialized y.cls ∈ hf_T ∧ Cond.code y cd maxL ret ∈ hf_T ∧ maxL ≤ 29) ∧ (y.cls ≠ "java/lang/invoke/MethodHandle" ∧ y.cls ≠ "java/lang/invoke/VarHandle" ∧ (parseMethodDescriptor y.desc).map (fun d => d.parameters.length) = some k)
theorem hf_kv_of {own : String} {z : Nat} {y : MethodName} {cd : ByteArray} {maxL : Nat} {ret : Option FieldType} {C : String} {k : Nat} (h1 : Cond.methodLink own z y ∈ hf_T) (h2 : Cond.instanceMethod y ∈ hf_T) (h3 : Cond.selects C y y ∈ hf_T) (h4 : Cond.initialized C ∈ hf_T) (h5 : Cond.code y cd maxL ret ∈ hf_T) (hm : maxL ≤ 29)
    (hd : y.cls = C ∧ y.cls ≠ "java/lang/invoke/MethodHandle" ∧ y.cls ≠ "java/lang/invoke/VarHandle" ∧ (parseMethodDescriptor y.desc).map (fun d => d.parameters.length) = some k) : hf_kv own z y cd maxL ret C k := by
  refine ⟨⟨fun w hw => ?_, hm⟩, hd⟩
  simp only [wsV, List.mem_append, List.mem_cons, List.not_mem_nil, or_false] at hw
  rcases hw with (rfl | rfl | rfl | rfl) | rfl | hw
  · exact hf_good h1
  · exact hf_good h2
  · exact hf_good h3
  · exact hf_good h4
  · exact hf_good h5
  · exact hf_good hw
/-- locals at a method's entry -/
def hf_L0 (vs : List Value) (n : Nat) : List (Option Value) := let q := vs.flatMap (fun v => if v.category = 2 then [some v, none] else [some v]); q ++ List.replicate (n - q.length) none
theorem hf_L0_in : ∀ (vs : List Value) (n i j : Nat) (v : Value), (vs.flatMap (fun v => if v.category = 2 then [some v, none] else [some v]) ++ List.replicate n none)[j]? = some (some v) → (i + j, v) ∈ lv_args i vs
  | [], n, i, j, v, h => by
    simp [List.getElem?_replicate] at h
  | w :: vs, n, i, j, v, h => by
    rw [List.flatMap_cons] at h
    rcases lv_cat w with hc | hc
    · rw [if_neg (by omega)] at h
      unfold lv_args
      cases j with
      | zero => simp at h; subst h; simp
      | succ j =>
        simp only [List.cons_append, List.nil_append, List.getElem?_cons_succ] at h
        have := hf_L0_in vs n (i + 1) j v h
        rw [show i + (j + 1) = i + 1 + j by omega]
        simp [hc]
        exact Or.inr this
    · rw [if_pos hc] at h
      unfold lv_args
      cases j with
      | zero => simp at h; subst h; simp
      | succ j =>
        cases j with
        | zero => simp at h
        | succ j =>
          simp only [List.cons_append, List.nil_append, List.getElem?_cons_succ] at h
          have := hf_L0_in vs n (i + 2) j v h
          rw [show i + (j + 1 + 1) = i + 2 + j by omega]
          simp [hc]
          exact Or.inr this

theorem hf_metI {y : MethodName} {cd : ByteArray} {maxL : Nat} {ret : Option FieldType} {d : Nat} {av : hf_G → List Value} {M : hf_M} {sh : Option (Int32 × hf_M)} (hy : plainName y.cls = true) (hml : ∀ g, (lg_sl (av g)).length ≤ maxL)
    (body : ∀ (g : hf_G) (p : Program) (l : Launch) (e : Env) (s : State) (m : MethodId) (args : Array Value) (below : List Frame) (meth : Method) (c : Code), hf_X g p s m args meth c cd maxL y.cls ret → hf_W g p l e d s m args below meth c maxL (hf_QI g below args s) M 0 (hf_L0 (av g) maxL) [] sh) : hf_CI y cd maxL ret d av M sh := by
  intro l g r M' hsh
  refine Met.ofW (cc := cd) (maxL := maxL) (ret := ret) hy rfl ?_
  intro p e s m args below meth c s₁ B hmx hv
  obtain ⟨ha, h0, hP, hD, hK, hRT, hS⟩ := hv
  have hts := atoms_spec (ws := Cond.code y cd maxL ret :: hf_T) B.pre
  have X : hf_X g p s m args meth c cd maxL y.cls ret := ⟨B.exec, B.bytes, hmx, findClass_of_methodNamed B.named, fun w hw => hts w (List.mem_cons_of_mem _ hw), B.returns, B.notSynchronized, hK, hS, h0⟩
  have hl := lv_entry (av g) (n := maxL) (hml g)
  rw [ha, lg_entry_eq, ← ha]
  have hl2 : hf_L ((lg_sl (av g) ++ List.replicate (maxL - (lg_sl (av g)).length) Slot.unset).toArray) maxL (hf_L0 (av g) maxL) := ⟨hl.1, hl.2.1, fun i v h => hl.2.2 (i, v) (by have := hf_L0_in (av g) _ 0 i v h; simpa using this)⟩
  exact body g p l e s m args below meth c X r M' hsh s.heap [] _ ⟨hP, hD, va_S.rf, hRT⟩ hl2
theorem hf_metJ {y : MethodName} {cd : ByteArray} {maxL : Nat} {ret : Option FieldType} {d : Nat} {av : hf_G → List Value} {M : hf_M} {sh : Option (Int64 × hf_M)} (hy : plainName y.cls = true) (hml : ∀ g, (lg_sl (av g)).length ≤ maxL)
    (body : ∀ (g : hf_G) (p : Program) (l : Launch) (e : Env) (s : State) (m : MethodId) (args : Array Value) (below : List Frame) (meth : Method) (c : Code), hf_X g p s m args meth c cd maxL y.cls ret → hf_W g p l e d s m args below meth c maxL (hf_QJ g below args s) M 0 (hf_L0 (av g) maxL) [] sh) : hf_CJ y cd maxL ret d av M sh := by
  intro l g r M' hsh
  refine Met.ofW (cc := cd) (maxL := maxL) (ret := ret) hy rfl ?_
  intro p e s m args below meth c s₁ B hmx hv
  obtain ⟨ha, h0, hP, hD, hK, hRT, hS⟩ := hv
  have hts := atoms_spec (ws := Cond.code y cd maxL ret :: hf_T) B.pre
  have X : hf_X g p s m args meth c cd maxL y.cls ret := ⟨B.exec, B.bytes, hmx, findClass_of_methodNamed B.named, fun w hw => hts w (List.mem_cons_of_mem _ hw), B.returns, B.notSynchronized, hK, hS, h0⟩
  have hl := lv_entry (av g) (n := maxL) (hml g)
  rw [ha, lg_entry_eq, ← ha]
  have hl2 : hf_L ((lg_sl (av g) ++ List.replicate (maxL - (lg_sl (av g)).length) Slot.unset).toArray) maxL (hf_L0 (av g) maxL) := ⟨hl.1, hl.2.1, fun i v h => hl.2.2 (i, v) (by have := hf_L0_in (av g) _ 0 i v h; simpa using this)⟩
  exact body g p l e s m args below meth c X r M' hsh s.heap [] _ ⟨hP, hD, va_S.rf, hRT⟩ hl2
theorem hf_metV {y : MethodName} {cd : ByteArray} {maxL : Nat} {ret : Option FieldType} {d : Nat} {av : hf_G → List Value} {M : hf_M} {sh : Option (Unit × hf_M)} (hy : plainName y.cls = true) (hml : ∀ g, (lg_sl (av g)).length ≤ maxL)
    (body : ∀ (g : hf_G) (p : Program) (l : Launch) (e : Env) (s : State) (m : MethodId) (args : Array Value) (below : List Frame) (meth : Method) (c : Code), hf_X g p s m args meth c cd maxL y.cls ret → hf_W g p l e d s m args below meth c maxL (hf_QV g below args s) M 0 (hf_L0 (av g) maxL) [] sh) : hf_CV y cd maxL ret d av M sh := by
  intro l g r M' hsh
  refine Met.ofW (cc := cd) (maxL := maxL) (ret := ret) hy rfl ?_
  intro p e s m args below meth c s₁ B hmx hv
  obtain ⟨ha, h0, hP, hD, hK, hRT, hS⟩ := hv
  have hts := atoms_spec (ws := Cond.code y cd maxL ret :: hf_T) B.pre
  have X : hf_X g p s m args meth c cd maxL y.cls ret := ⟨B.exec, B.bytes, hmx, findClass_of_methodNamed B.named, fun w hw => hts w (List.mem_cons_of_mem _ hw), B.returns, B.notSynchronized, hK, hS, h0⟩
  have hl := lv_entry (av g) (n := maxL) (hml g)
  rw [ha, lg_entry_eq, ← ha]
  have hl2 : hf_L ((lg_sl (av g) ++ List.replicate (maxL - (lg_sl (av g)).length) Slot.unset).toArray) maxL (hf_L0 (av g) maxL) := ⟨hl.1, hl.2.1, fun i v h => hl.2.2 (i, v) (by have := hf_L0_in (av g) _ 0 i v h; simpa using this)⟩
  exact body g p l e s m args below meth c X r M' hsh s.heap [] _ ⟨hP, hD, va_S.rf, hRT⟩ hl2
section HG
variable {α β : Type} {g : hf_G} {p : Program} {l : Launch} {ev : Env} {d : Nat} {s : State} {m : MethodId} {args : Array Value} {below : List Frame} {meth : Method} {c : Code} {n : Nat} {Qf : α → hf_M → State → Prop} {M : hf_M} {pc : Nat} {L : List (Option Value)} {st : List Value} {sh : Option (α × hf_M)} {cc : ByteArray} {own : String} {ret : Option FieldType}
theorem hr_iret (X : hf_X g p s m args meth c cc n own (some .int)) {v : Int32} (hd : decode cc pc = .ok (.ireturn, 1)) : hf_W g p l ev d s m args below meth c n (hf_QI g below args s) M pc L [.int v] (some (v, M)) := by
  intro r M' e H locs ls hP hL
  cases e
  obtain ⟨hx, hb, hml, hown, hts, hr, hlk, hK, hS, h0⟩ := X
  exact W.iret hx hb hr (fun t ht hW => ⟨⟨v, (), rfl, rfl, hf_Pic_at hK hS h0 hP ht hW⟩, hP.2.2.1.F ht⟩) hP.2.2.1.2.2 hd hlk
theorem hr_lret (X : hf_X g p s m args meth c cc n own (some .long)) {v : Int64} (hd : decode cc pc = .ok (.lreturn, 1)) : hf_W g p l ev d s m args below meth c n (hf_QJ g below args s) M pc L [.long v] (some (v, M)) := by
  intro r M' e H locs ls hP hL
  cases e
  obtain ⟨hx, hb, hml, hown, hts, hr, hlk, hK, hS, h0⟩ := X
  exact W.lret hx hb hr (fun t ht hW => ⟨⟨v, (), rfl, rfl, hf_Pic_at hK hS h0 hP ht hW⟩, hP.2.2.1.F ht⟩) hP.2.2.1.2.2 hd hlk
theorem hr_vret (X : hf_X g p s m args meth c cc n own none) (hd : decode cc pc = .ok (.return_, 1)) : hf_W g p l ev d s m args below meth c n (hf_QV g below args s) M pc L [] (some ((), M)) := by
  intro r M' e H locs ls hP hL
  cases e
  obtain ⟨hx, hb, hml, hown, hts, hr, hlk, hK, hS, h0⟩ := X
  exact W.vret hx hb hr (fun t ht hW => ⟨⟨(), rfl, trivial, hf_Pic_at hK hS h0 hP ht hW⟩, hP.2.2.1.F ht⟩) hP.2.2.1.2.2 hd hlk
/-- a boolean's end: 0 or 1 -/
def hf_bz {β : Type} (v : Int32) (k : Option β) : Option β := if v = 0 ∨ v = 1 then k else none
theorem hr_zret (X : hf_X g p s m args meth c cc n own (some .boolean)) {v : Int32} (hd : decode cc pc = .ok (.ireturn, 1)) : hf_W g p l ev d s m args below meth c n (hf_QI g below args s) M pc L [.int v] (hf_bz v (some (v, M))) := by
  intro r M' e H locs ls hP hL
  unfold hf_bz at e
  by_cases hv : v = 0 ∨ v = 1
  · rw [if_pos hv] at e
    cases e
    obtain ⟨hx, hb, hml, hown, hts, hr, hlk, hK, hS, h0⟩ := X
    exact W.zret hx hb hr (by rcases hv with rfl | rfl <;> rfl) (fun t ht hW => ⟨⟨v, (), rfl, rfl, hf_Pic_at hK hS h0 hP ht hW⟩, hP.2.2.1.F ht⟩) hP.2.2.1.2.2 hd hlk
  · rw [if_neg hv] at e
    cases e
theorem hr_zretC (X : hf_X g p s m args meth c cc n own (some .boolean)) {v : Int32} (hv : v = 0 ∨ v = 1) (hd : decode cc pc = .ok (.ireturn, 1)) : hf_W g p l ev d s m args below meth c n (hf_QI g below args s) M pc L [.int v] (some (v, M)) := by
  intro r M' e H locs ls hP hL
  cases e
  obtain ⟨hx, hb, hml, hown, hts, hr, hlk, hK, hS, h0⟩ := X
  exact W.zret hx hb hr (by rcases hv with rfl | rfl <;> rfl) (fun t ht hW => ⟨⟨v, (), rfl, rfl, hf_Pic_at hK hS h0 hP ht hW⟩, hP.2.2.1.F ht⟩) hP.2.2.1.2.2 hd hlk
theorem hr_cvI (X : hf_X g p s m args meth c cc n own ret) {z d' maxL' k t ci N : Nat} {y : MethodName} {cd : ByteArray} {ret' : Option FieldType} {C : String} {T : u_T} {av : hf_G → List Value} {sh' : Option (Int32 × hf_M)} {kk : Int32 → hf_M → Option (α × hf_M)} (As rest : List Value) (hM : hf_CI y cd maxL' ret' d' av M sh') (hl : hf_kv own z y cd maxL' ret' C k) (hav : av g = .ref (hf_a g t) :: As) (hst : st = As.reverse ++ .ref (hf_a g t) :: rest) (hk : As.length = k)
    (ht : t < 69) (hs : hf_shp t = ci) (hci : ci < 6 ∧ vwCl[ci]? = some (C, T, N)) (hd' : d' + 1 ≤ d) (hrest : (rest.map fun v => v.category).sum ≤ 8) (hd : decode cc pc = .ok (.invokevirtual z, 3))
    (kc : ∀ (r : Int32) (M1 : hf_M), sh' = some (r, M1) → hf_W g p l ev d s m args below meth c n Qf M1 (pc + 3) L (.int r :: rest) (kk r M1)) : hf_W g p l ev d s m args below meth c n Qf M (pc) L (st) (hf_bd sh' kk) := by
  intro r M' e H locs ls hP hL
  unfold hf_bd at e
  cases hsh : sh' with
  | none => rw [hsh] at e; cases e
  | some q =>
    obtain ⟨r0, M1⟩ := q
    rw [hsh] at e
    dsimp only at e
    subst hst
    have X' := X
    obtain ⟨hx, hb, hml, hown, hts, hr, hlk, hK, hS, h0⟩ := X
    have he := hf_w_at g M ht
    rw [hf_cO g M hs hci.1] at he
    have hm := hM l g r0 M1 hsh
    rw [hav] at hm
    refine va_calli (va_runV (As := As) (rest := rest) ⟨hx, hb, hml, hown, hts⟩ hm (cwV k hts hl.1.1 rfl rfl rfl hl.2 ⟨hd', by show 8 + (maxL' + 11) + 48 * d' ≤ 48 * d; have := hl.1.2; omega⟩) ⟨hf_blind g M _, va_recv hK hP.1 (ci := ci) (q0 := t) hci.2 he, fun U hU hW => ⟨rfl, hf_Pic_at hK hS h0 hP hU hW⟩⟩ rfl hk hL.1 rfl (lv_room hrest) hd ⟨Nat.le_refl 0, Nat.le_refl 0⟩) hP.2.2.1 (fun q _ h => h) (fun q h => h) (fun r1 u t H1 locs1 ht1 hvm hr1 hB hz1 hk1 hS1 => ?_)
    subst hr1
    have hP1 := hB.2.1
    rw [ht1] at hP1
    exact kc _ M1 hsh r M' e H1 locs1 ls ⟨hP1, hB.2.2.1, hS1, hB.2.2.2.2.1⟩ hL
theorem hr_csI (X : hf_X g p s m args meth c cc n own ret) {z d' maxL' k : Nat} {y : MethodName} {cd : ByteArray} {ret' : Option FieldType} {av : hf_G → List Value} {sh' : Option (Int32 × hf_M)} {kk : Int32 → hf_M → Option (α × hf_M)} (As rest : List Value) (hM : hf_CI y cd maxL' ret' d' av M sh') (hl : hf_ks own z y cd maxL' ret' k) (hav : av g = As) (hst : st = As.reverse ++ rest) (hk : As.length = k)
    (hd' : d' + 1 ≤ d) (hrest : (rest.map fun v => v.category).sum ≤ 8) (hd : decode cc pc = .ok (.invokestatic z, 3))
    (kc : ∀ (r : Int32) (M1 : hf_M), sh' = some (r, M1) → hf_W g p l ev d s m args below meth c n Qf M1 (pc + 3) L (.int r :: rest) (kk r M1)) : hf_W g p l ev d s m args below meth c n Qf M (pc) L (st) (hf_bd sh' kk) := by
  intro r M' e H locs ls hP hL
  unfold hf_bd at e
  cases hsh : sh' with
  | none => rw [hsh] at e; cases e
  | some q =>
    obtain ⟨r0, M1⟩ := q
    rw [hsh] at e
    dsimp only at e
    subst hst
    have X' := X
    obtain ⟨hx, hb, hml, hown, hts, hr, hlk, hK, hS, h0⟩ := X
    have hm := hM l g r0 M1 hsh
    rw [hav] at hm
    have hG : GoodIn hf_T (Cond.code y cd maxL' ret' :: hf_T) := fun w hw => by
      rcases List.mem_cons.mp hw with rfl | hw
      · exact hf_good hl.1.2.2.2.1
      · exact hf_good hw
    have hrm : (hf_R d').frames + 1 ≤ (hf_R d).frames ∧ 8 + (maxL' + 11) + (hf_R d').locals ≤ (hf_R d).locals := ⟨hd', by show 8 + (maxL' + 11) + 48 * d' ≤ 48 * d; have := hl.1.2.2.2.2; omega⟩
    have hrun : va_Run p l ev (hf_R d) s m args below meth c H locs 0 0 0 0 (F0 m pc ls (As.reverse ++ rest)) rest (va_Qi (fun x (_ : Unit) => x = r0) (fun _ t => hf_Pic g M1 t) (hf_A g) As.toArray) (hf_A g) := by
      rcases hl.1.1 with hw | ⟨host, hw⟩
      · exact va_runS (As := As) (rest := rest) ⟨hx, hb, hml, hown, hts⟩ hm ⟨callB_of k hts hG rfl rfl rfl (hts _ hl.1.2.2.1) (hts _ hw) hl.2 hrm, hts _ hl.1.2.1⟩ ⟨hf_blind g M _, fun U hU hW => ⟨rfl, hf_Pic_at hK hS h0 hP hU hW⟩⟩ rfl hk hL.1 rfl (lv_room hrest) hd ⟨Nat.le_refl 0, Nat.le_refl 0⟩
      · exact va_runSN (As := As) (rest := rest) ⟨hx, hb, hml, hown, hts⟩ hm ⟨va_cnB k hts hG rfl rfl rfl (hS.2.2.2.2.2 _ hw) (hts _ hl.1.2.2.1) hl.2 hrm, hts _ hl.1.2.1, trivial⟩ ⟨hf_blind g M _, fun U hU hW => ⟨rfl, hf_Pic_at hK hS h0 hP hU hW⟩⟩ rfl hk hL.1 rfl (lv_room hrest) hd ⟨Nat.le_refl 0, Nat.le_refl 0⟩
    refine va_calli hrun hP.2.2.1 (fun q _ h => h) (fun q h => h) (fun r1 u t H1 locs1 ht1 hvm hr1 hB hz1 hk1 hS1 => ?_)
    subst hr1
    have hP1 := hB.2.1
    rw [ht1] at hP1
    exact kc _ M1 hsh r M' e H1 locs1 ls ⟨hP1, hB.2.2.1, hS1, hB.2.2.2.2.1⟩ hL
theorem hr_cvJ (X : hf_X g p s m args meth c cc n own ret) {z d' maxL' k t ci N : Nat} {y : MethodName} {cd : ByteArray} {ret' : Option FieldType} {C : String} {T : u_T} {av : hf_G → List Value} {sh' : Option (Int64 × hf_M)} {kk : Int64 → hf_M → Option (α × hf_M)} (As rest : List Value) (hM : hf_CJ y cd maxL' ret' d' av M sh') (hl : hf_kv own z y cd maxL' ret' C k) (hav : av g = .ref (hf_a g t) :: As) (hst : st = As.reverse ++ .ref (hf_a g t) :: rest) (hk : As.length = k)
    (ht : t < 69) (hs : hf_shp t = ci) (hci : ci < 6 ∧ vwCl[ci]? = some (C, T, N)) (hd' : d' + 1 ≤ d) (hrest : (rest.map fun v => v.category).sum ≤ 8) (hd : decode cc pc = .ok (.invokevirtual z, 3))
    (kc : ∀ (r : Int64) (M1 : hf_M), sh' = some (r, M1) → hf_W g p l ev d s m args below meth c n Qf M1 (pc + 3) L (.long r :: rest) (kk r M1)) : hf_W g p l ev d s m args below meth c n Qf M (pc) L (st) (hf_bd sh' kk) := by
  intro r M' e H locs ls hP hL
  unfold hf_bd at e
  cases hsh : sh' with
  | none => rw [hsh] at e; cases e
  | some q =>
    obtain ⟨r0, M1⟩ := q
    rw [hsh] at e
    dsimp only at e
    subst hst
    have X' := X
    obtain ⟨hx, hb, hml, hown, hts, hr, hlk, hK, hS, h0⟩ := X
    have he := hf_w_at g M ht
    rw [hf_cO g M hs hci.1] at he
    have hm := hM l g r0 M1 hsh
    rw [hav] at hm
    refine va_calll (va_runV (As := As) (rest := rest) ⟨hx, hb, hml, hown, hts⟩ hm (cwV k hts hl.1.1 rfl rfl rfl hl.2 ⟨hd', by show 8 + (maxL' + 11) + 48 * d' ≤ 48 * d; have := hl.1.2; omega⟩) ⟨hf_blind g M _, va_recv hK hP.1 (ci := ci) (q0 := t) hci.2 he, fun U hU hW => ⟨rfl, hf_Pic_at hK hS h0 hP hU hW⟩⟩ rfl hk hL.1 rfl (lv_room hrest) hd ⟨Nat.le_refl 0, Nat.le_refl 0⟩) hP.2.2.1 (fun q _ h => h) (fun q h => h) (fun r1 u t H1 locs1 ht1 hvm hr1 hB hz1 hk1 hS1 => ?_)
    subst hr1
    have hP1 := hB.2.1
    rw [ht1] at hP1
    exact kc _ M1 hsh r M' e H1 locs1 ls ⟨hP1, hB.2.2.1, hS1, hB.2.2.2.2.1⟩ hL
theorem hr_csJ (X : hf_X g p s m args meth c cc n own ret) {z d' maxL' k : Nat} {y : MethodName} {cd : ByteArray} {ret' : Option FieldType} {av : hf_G → List Value} {sh' : Option (Int64 × hf_M)} {kk : Int64 → hf_M → Option (α × hf_M)} (As rest : List Value) (hM : hf_CJ y cd maxL' ret' d' av M sh') (hl : hf_ks own z y cd maxL' ret' k) (hav : av g = As) (hst : st = As.reverse ++ rest) (hk : As.length = k)
    (hd' : d' + 1 ≤ d) (hrest : (rest.map fun v => v.category).sum ≤ 8) (hd : decode cc pc = .ok (.invokestatic z, 3))
    (kc : ∀ (r : Int64) (M1 : hf_M), sh' = some (r, M1) → hf_W g p l ev d s m args below meth c n Qf M1 (pc + 3) L (.long r :: rest) (kk r M1)) : hf_W g p l ev d s m args below meth c n Qf M (pc) L (st) (hf_bd sh' kk) := by
  intro r M' e H locs ls hP hL
  unfold hf_bd at e
  cases hsh : sh' with
  | none => rw [hsh] at e; cases e
  | some q =>
    obtain ⟨r0, M1⟩ := q
    rw [hsh] at e
    dsimp only at e
    subst hst
    have X' := X
    obtain ⟨hx, hb, hml, hown, hts, hr, hlk, hK, hS, h0⟩ := X
    have hm := hM l g r0 M1 hsh
    rw [hav] at hm
    have hG : GoodIn hf_T (Cond.code y cd maxL' ret' :: hf_T) := fun w hw => by
      rcases List.mem_cons.mp hw with rfl | hw
      · exact hf_good hl.1.2.2.2.1
      · exact hf_good hw
    have hrm : (hf_R d').frames + 1 ≤ (hf_R d).frames ∧ 8 + (maxL' + 11) + (hf_R d').locals ≤ (hf_R d).locals := ⟨hd', by show 8 + (maxL' + 11) + 48 * d' ≤ 48 * d; have := hl.1.2.2.2.2; omega⟩
    have hrun : va_Run p l ev (hf_R d) s m args below meth c H locs 0 0 0 0 (F0 m pc ls (As.reverse ++ rest)) rest (va_Ql (fun x (_ : Unit) => x = r0) (fun _ t => hf_Pic g M1 t) (hf_A g) As.toArray) (hf_A g) := by
      rcases hl.1.1 with hw | ⟨host, hw⟩
      · exact va_runS (As := As) (rest := rest) ⟨hx, hb, hml, hown, hts⟩ hm ⟨callB_of k hts hG rfl rfl rfl (hts _ hl.1.2.2.1) (hts _ hw) hl.2 hrm, hts _ hl.1.2.1⟩ ⟨hf_blind g M _, fun U hU hW => ⟨rfl, hf_Pic_at hK hS h0 hP hU hW⟩⟩ rfl hk hL.1 rfl (lv_room hrest) hd ⟨Nat.le_refl 0, Nat.le_refl 0⟩
      · exact va_runSN (As := As) (rest := rest) ⟨hx, hb, hml, hown, hts⟩ hm ⟨va_cnB k hts hG rfl rfl rfl (hS.2.2.2.2.2 _ hw) (hts _ hl.1.2.2.1) hl.2 hrm, hts _ hl.1.2.1, trivial⟩ ⟨hf_blind g M _, fun U hU hW => ⟨rfl, hf_Pic_at hK hS h0 hP hU hW⟩⟩ rfl hk hL.1 rfl (lv_room hrest) hd ⟨Nat.le_refl 0, Nat.le_refl 0⟩
    refine va_calll hrun hP.2.2.1 (fun q _ h => h) (fun q h => h) (fun r1 u t H1 locs1 ht1 hvm hr1 hB hz1 hk1 hS1 => ?_)
    subst hr1
    have hP1 := hB.2.1
    rw [ht1] at hP1
    exact kc _ M1 hsh r M' e H1 locs1 ls ⟨hP1, hB.2.2.1, hS1, hB.2.2.2.2.1⟩ hL
theorem hr_cvV (X : hf_X g p s m args meth c cc n own ret) {z d' maxL' k t ci N : Nat} {y : MethodName} {cd : ByteArray} {ret' : Option FieldType} {C : String} {T : u_T} {av : hf_G → List Value} {sh' : Option (Unit × hf_M)} {kk : Unit → hf_M → Option (α × hf_M)} (As rest : List Value) (hM : hf_CV y cd maxL' ret' d' av M sh') (hl : hf_kv own z y cd maxL' ret' C k) (hav : av g = .ref (hf_a g t) :: As) (hst : st = As.reverse ++ .ref (hf_a g t) :: rest) (hk : As.length = k)
    (ht : t < 69) (hs : hf_shp t = ci) (hci : ci < 6 ∧ vwCl[ci]? = some (C, T, N)) (hd' : d' + 1 ≤ d) (hrest : (rest.map fun v => v.category).sum ≤ 8) (hd : decode cc pc = .ok (.invokevirtual z, 3))
    (kc : ∀ (r : Unit) (M1 : hf_M), sh' = some (r, M1) → hf_W g p l ev d s m args below meth c n Qf M1 (pc + 3) L (rest) (kk r M1)) : hf_W g p l ev d s m args below meth c n Qf M (pc) L (st) (hf_bd sh' kk) := by
  intro r M' e H locs ls hP hL
  unfold hf_bd at e
  cases hsh : sh' with
  | none => rw [hsh] at e; cases e
  | some q =>
    obtain ⟨r0, M1⟩ := q
    rw [hsh] at e
    dsimp only at e
    subst hst
    have X' := X
    obtain ⟨hx, hb, hml, hown, hts, hr, hlk, hK, hS, h0⟩ := X
    have he := hf_w_at g M ht
    rw [hf_cO g M hs hci.1] at he
    have hm := hM l g r0 M1 hsh
    rw [hav] at hm
    refine va_callv (va_runV (As := As) (rest := rest) ⟨hx, hb, hml, hown, hts⟩ hm (cwV k hts hl.1.1 rfl rfl rfl hl.2 ⟨hd', by show 8 + (maxL' + 11) + 48 * d' ≤ 48 * d; have := hl.1.2; omega⟩) ⟨hf_blind g M _, va_recv hK hP.1 (ci := ci) (q0 := t) hci.2 he, fun U hU hW => ⟨rfl, hf_Pic_at hK hS h0 hP hU hW⟩⟩ rfl hk hL.1 rfl (lv_room hrest) hd ⟨Nat.le_refl 0, Nat.le_refl 0⟩) hP.2.2.1 (fun q _ h => h) (fun q h => h) (fun u t H1 locs1 ht1 hvm _ hB hz1 hk1 hS1 => ?_)
    cases r0
    have hP1 := hB.2.1
    rw [ht1] at hP1
    exact kc _ M1 hsh r M' e H1 locs1 ls ⟨hP1, hB.2.2.1, hS1, hB.2.2.2.2.1⟩ hL
theorem hr_csV (X : hf_X g p s m args meth c cc n own ret) {z d' maxL' k : Nat} {y : MethodName} {cd : ByteArray} {ret' : Option FieldType} {av : hf_G → List Value} {sh' : Option (Unit × hf_M)} {kk : Unit → hf_M → Option (α × hf_M)} (As rest : List Value) (hM : hf_CV y cd maxL' ret' d' av M sh') (hl : hf_ks own z y cd maxL' ret' k) (hav : av g = As) (hst : st = As.reverse ++ rest) (hk : As.length = k)
    (hd' : d' + 1 ≤ d) (hrest : (rest.map fun v => v.category).sum ≤ 8) (hd : decode cc pc = .ok (.invokestatic z, 3))
    (kc : ∀ (r : Unit) (M1 : hf_M), sh' = some (r, M1) → hf_W g p l ev d s m args below meth c n Qf M1 (pc + 3) L (rest) (kk r M1)) : hf_W g p l ev d s m args below meth c n Qf M (pc) L (st) (hf_bd sh' kk) := by
  intro r M' e H locs ls hP hL
  unfold hf_bd at e
  cases hsh : sh' with
  | none => rw [hsh] at e; cases e
  | some q =>
    obtain ⟨r0, M1⟩ := q
    rw [hsh] at e
    dsimp only at e
    subst hst
    have X' := X
    obtain ⟨hx, hb, hml, hown, hts, hr, hlk, hK, hS, h0⟩ := X
    have hm := hM l g r0 M1 hsh
    rw [hav] at hm
    have hG : GoodIn hf_T (Cond.code y cd maxL' ret' :: hf_T) := fun w hw => by
      rcases List.mem_cons.mp hw with rfl | hw
      · exact hf_good hl.1.2.2.2.1
      · exact hf_good hw
    have hrm : (hf_R d').frames + 1 ≤ (hf_R d).frames ∧ 8 + (maxL' + 11) + (hf_R d').locals ≤ (hf_R d).locals := ⟨hd', by show 8 + (maxL' + 11) + 48 * d' ≤ 48 * d; have := hl.1.2.2.2.2; omega⟩
    have hrun : va_Run p l ev (hf_R d) s m args below meth c H locs 0 0 0 0 (F0 m pc ls (As.reverse ++ rest)) rest (va_Qv (fun (_ : Unit) => True) (fun _ t => hf_Pic g M1 t) (hf_A g) As.toArray) (hf_A g) := by
      rcases hl.1.1 with hw | ⟨host, hw⟩
      · exact va_runS (As := As) (rest := rest) ⟨hx, hb, hml, hown, hts⟩ hm ⟨callB_of k hts hG rfl rfl rfl (hts _ hl.1.2.2.1) (hts _ hw) hl.2 hrm, hts _ hl.1.2.1⟩ ⟨hf_blind g M _, fun U hU hW => ⟨rfl, hf_Pic_at hK hS h0 hP hU hW⟩⟩ rfl hk hL.1 rfl (lv_room hrest) hd ⟨Nat.le_refl 0, Nat.le_refl 0⟩
      · exact va_runSN (As := As) (rest := rest) ⟨hx, hb, hml, hown, hts⟩ hm ⟨va_cnB k hts hG rfl rfl rfl (hS.2.2.2.2.2 _ hw) (hts _ hl.1.2.2.1) hl.2 hrm, hts _ hl.1.2.1, trivial⟩ ⟨hf_blind g M _, fun U hU hW => ⟨rfl, hf_Pic_at hK hS h0 hP hU hW⟩⟩ rfl hk hL.1 rfl (lv_room hrest) hd ⟨Nat.le_refl 0, Nat.le_refl 0⟩
    refine va_callv hrun hP.2.2.1 (fun q _ h => h) (fun q h => h) (fun u t H1 locs1 ht1 hvm _ hB hz1 hk1 hS1 => ?_)
    cases r0
    have hP1 := hB.2.1
    rw [ht1] at hP1
    exact kc _ M1 hsh r M' e H1 locs1 ls ⟨hP1, hB.2.2.1, hS1, hB.2.2.2.2.1⟩ hL
end HG
end
section
theorem zz_end : True := trivial
end
