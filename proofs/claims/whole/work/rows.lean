section
-- ===== PART A: goes FIRST, ahead of the names: the tables' words, and 'selects' of the private methods out of them =====
/-- a private method of a class that the tables say can be made, by its rows of tables_1 -/
def lw_okq (q : MethodName × Nat) : Prop := (q.1.cls ≠ "java/lang/invoke/MethodHandle" ∧ q.1.cls ≠ "java/lang/invoke/VarHandle") ∧ Cond.instantiable q.1.cls q.2 ∈ tables_1 ∧ Cond.privateMethod q.1 ∈ tables_1 ∧ Cond.instanceMethod q.1 ∈ tables_1
theorem lw_p0 : lw_okq (⟨"KeptColours", "remember", "()V"⟩, 8) := ⟨⟨by decide +kernel, by decide +kernel⟩, List.mem_of_getElem? (i := 16) (by decide +kernel), List.mem_of_getElem? (i := 277) (by decide +kernel), List.mem_of_getElem? (i := 278) (by decide +kernel)⟩
theorem lw_p1 : lw_okq (⟨"KeptColours$Net", "flip", "(II)V"⟩, 6) := ⟨⟨by decide +kernel, by decide +kernel⟩, List.mem_of_getElem? (i := 24) (by decide +kernel), List.mem_of_getElem? (i := 343) (by decide +kernel), List.mem_of_getElem? (i := 344) (by decide +kernel)⟩
theorem lw_p2 : lw_okq (⟨"KeptColours$Finder", "lookAt", "(LKeptColours$Net;I)V"⟩, 5) := ⟨⟨by decide +kernel, by decide +kernel⟩, List.mem_of_getElem? (i := 72) (by decide +kernel), List.mem_of_getElem? (i := 375) (by decide +kernel), List.mem_of_getElem? (i := 376) (by decide +kernel)⟩
theorem lw_p3 : lw_okq (⟨"KeptColours$Finder", "findFrom", "(III)Z"⟩, 5) := ⟨⟨by decide +kernel, by decide +kernel⟩, List.mem_of_getElem? (i := 72) (by decide +kernel), List.mem_of_getElem? (i := 393) (by decide +kernel), List.mem_of_getElem? (i := 394) (by decide +kernel)⟩
theorem lw_p4 : lw_okq (⟨"KeptColours$Finder", "isRestFree", "(I)Z"⟩, 5) := ⟨⟨by decide +kernel, by decide +kernel⟩, List.mem_of_getElem? (i := 72) (by decide +kernel), List.mem_of_getElem? (i := 397) (by decide +kernel), List.mem_of_getElem? (i := 398) (by decide +kernel)⟩
theorem lw_p5 : lw_okq (⟨"KeptColours$Finder", "takeLeast", "(II)Z"⟩, 5) := ⟨⟨by decide +kernel, by decide +kernel⟩, List.mem_of_getElem? (i := 72) (by decide +kernel), List.mem_of_getElem? (i := 401) (by decide +kernel), List.mem_of_getElem? (i := 402) (by decide +kernel)⟩
theorem lw_p6 : lw_okq (⟨"KeptColours$Finder", "candidatesAfter", "(III)I"⟩, 5) := ⟨⟨by decide +kernel, by decide +kernel⟩, List.mem_of_getElem? (i := 72) (by decide +kernel), List.mem_of_getElem? (i := 405) (by decide +kernel), List.mem_of_getElem? (i := 406) (by decide +kernel)⟩
theorem lw_p7 : lw_okq (⟨"KeptColours$Finder", "countFrom", "(III)I"⟩, 5) := ⟨⟨by decide +kernel, by decide +kernel⟩, List.mem_of_getElem? (i := 72) (by decide +kernel), List.mem_of_getElem? (i := 420) (by decide +kernel), List.mem_of_getElem? (i := 421) (by decide +kernel)⟩
theorem lw_p8 : lw_okq (⟨"KeptColours", "isListLarge", "(I)Z"⟩, 8) := ⟨⟨by decide +kernel, by decide +kernel⟩, List.mem_of_getElem? (i := 16) (by decide +kernel), List.mem_of_getElem? (i := 487) (by decide +kernel), List.mem_of_getElem? (i := 488) (by decide +kernel)⟩
theorem lw_p9 : lw_okq (⟨"KeptColours$Filling", "beginOnBoard", "()V"⟩, 8) := ⟨⟨by decide +kernel, by decide +kernel⟩, List.mem_of_getElem? (i := 109) (by decide +kernel), List.mem_of_getElem? (i := 499) (by decide +kernel), List.mem_of_getElem? (i := 500) (by decide +kernel)⟩
theorem lw_p10 : lw_okq (⟨"KeptColours$Outward", "lookAt", "(LKeptColours$Net;I)V"⟩, 2) := ⟨⟨by decide +kernel, by decide +kernel⟩, List.mem_of_getElem? (i := 96) (by decide +kernel), List.mem_of_getElem? (i := 532) (by decide +kernel), List.mem_of_getElem? (i := 533) (by decide +kernel)⟩
theorem lw_p11 : lw_okq (⟨"KeptColours$Outward", "countFrom", "(LKeptColours$Net;I)I"⟩, 2) := ⟨⟨by decide +kernel, by decide +kernel⟩, List.mem_of_getElem? (i := 96) (by decide +kernel), List.mem_of_getElem? (i := 537) (by decide +kernel), List.mem_of_getElem? (i := 538) (by decide +kernel)⟩
theorem lw_p12 : lw_okq (⟨"KeptColours$Outward", "countAllJoined", "(II)I"⟩, 2) := ⟨⟨by decide +kernel, by decide +kernel⟩, List.mem_of_getElem? (i := 96) (by decide +kernel), List.mem_of_getElem? (i := 543) (by decide +kernel), List.mem_of_getElem? (i := 544) (by decide +kernel)⟩
theorem lw_p13 : lw_okq (⟨"KeptColours$Outward", "countBetween", "(IIII)I"⟩, 2) := ⟨⟨by decide +kernel, by decide +kernel⟩, List.mem_of_getElem? (i := 96) (by decide +kernel), List.mem_of_getElem? (i := 549) (by decide +kernel), List.mem_of_getElem? (i := 550) (by decide +kernel)⟩
theorem lw_p14 : lw_okq (⟨"KeptColours$Outward", "countStars", "(II)I"⟩, 2) := ⟨⟨by decide +kernel, by decide +kernel⟩, List.mem_of_getElem? (i := 96) (by decide +kernel), List.mem_of_getElem? (i := 553) (by decide +kernel), List.mem_of_getElem? (i := 554) (by decide +kernel)⟩
theorem lw_p15 : lw_okq (⟨"KeptColours$Outward", "countBooks", "(III)I"⟩, 2) := ⟨⟨by decide +kernel, by decide +kernel⟩, List.mem_of_getElem? (i := 96) (by decide +kernel), List.mem_of_getElem? (i := 558) (by decide +kernel), List.mem_of_getElem? (i := 559) (by decide +kernel)⟩
def lw_privs_1 : List (MethodName × Nat) := [(⟨"KeptColours", "remember", "()V"⟩, 8), (⟨"KeptColours$Net", "flip", "(II)V"⟩, 6), (⟨"KeptColours$Finder", "lookAt", "(LKeptColours$Net;I)V"⟩, 5), (⟨"KeptColours$Finder", "findFrom", "(III)Z"⟩, 5), (⟨"KeptColours$Finder", "isRestFree", "(I)Z"⟩, 5), (⟨"KeptColours$Finder", "takeLeast", "(II)Z"⟩, 5), (⟨"KeptColours$Finder", "candidatesAfter", "(III)I"⟩, 5), (⟨"KeptColours$Finder", "countFrom", "(III)I"⟩, 5), (⟨"KeptColours", "isListLarge", "(I)Z"⟩, 8), (⟨"KeptColours$Filling", "beginOnBoard", "()V"⟩, 8), (⟨"KeptColours$Outward", "lookAt", "(LKeptColours$Net;I)V"⟩, 2), (⟨"KeptColours$Outward", "countFrom", "(LKeptColours$Net;I)I"⟩, 2), (⟨"KeptColours$Outward", "countAllJoined", "(II)I"⟩, 2), (⟨"KeptColours$Outward", "countBetween", "(IIII)I"⟩, 2), (⟨"KeptColours$Outward", "countStars", "(II)I"⟩, 2), (⟨"KeptColours$Outward", "countBooks", "(III)I"⟩, 2)]
theorem lw_r1 : ∀ q ∈ lw_privs_1, lw_okq q := List.forall_mem_cons.mpr ⟨lw_p0, List.forall_mem_cons.mpr ⟨lw_p1, List.forall_mem_cons.mpr ⟨lw_p2, List.forall_mem_cons.mpr ⟨lw_p3, List.forall_mem_cons.mpr ⟨lw_p4, List.forall_mem_cons.mpr ⟨lw_p5, List.forall_mem_cons.mpr ⟨lw_p6, List.forall_mem_cons.mpr ⟨lw_p7, List.forall_mem_cons.mpr ⟨lw_p8, List.forall_mem_cons.mpr ⟨lw_p9, List.forall_mem_cons.mpr ⟨lw_p10, List.forall_mem_cons.mpr ⟨lw_p11, List.forall_mem_cons.mpr ⟨lw_p12, List.forall_mem_cons.mpr ⟨lw_p13, List.forall_mem_cons.mpr ⟨lw_p14, List.forall_mem_cons.mpr ⟨lw_p15, fun _ h => absurd h List.not_mem_nil⟩⟩⟩⟩⟩⟩⟩⟩⟩⟩⟩⟩⟩⟩⟩⟩
theorem lw_p16 : lw_okq (⟨"KeptColours$Outward", "countPaths", "(III)I"⟩, 2) := ⟨⟨by decide +kernel, by decide +kernel⟩, List.mem_of_getElem? (i := 96) (by decide +kernel), List.mem_of_getElem? (i := 562) (by decide +kernel), List.mem_of_getElem? (i := 563) (by decide +kernel)⟩
theorem lw_p17 : lw_okq (⟨"KeptColours$Outward", "countArms", "(IIIII)I"⟩, 2) := ⟨⟨by decide +kernel, by decide +kernel⟩, List.mem_of_getElem? (i := 96) (by decide +kernel), List.mem_of_getElem? (i := 566) (by decide +kernel), List.mem_of_getElem? (i := 567) (by decide +kernel)⟩
theorem lw_p18 : lw_okq (⟨"KeptColours$Forms", "begin", "(LKeptColours$Net;Z)V"⟩, 8) := ⟨⟨by decide +kernel, by decide +kernel⟩, List.mem_of_getElem? (i := 146) (by decide +kernel), List.mem_of_getElem? (i := 581) (by decide +kernel), List.mem_of_getElem? (i := 582) (by decide +kernel)⟩
theorem lw_p19 : lw_okq (⟨"KeptColours$Forms", "giveNumber", "(II)V"⟩, 8) := ⟨⟨by decide +kernel, by decide +kernel⟩, List.mem_of_getElem? (i := 146) (by decide +kernel), List.mem_of_getElem? (i := 587) (by decide +kernel), List.mem_of_getElem? (i := 588) (by decide +kernel)⟩
theorem lw_p20 : lw_okq (⟨"KeptColours$Forms", "compareJoinsTo", "(I)I"⟩, 8) := ⟨⟨by decide +kernel, by decide +kernel⟩, List.mem_of_getElem? (i := 146) (by decide +kernel), List.mem_of_getElem? (i := 591) (by decide +kernel), List.mem_of_getElem? (i := 592) (by decide +kernel)⟩
theorem lw_p21 : lw_okq (⟨"KeptColours$Forms", "toneOf", "(II)I"⟩, 8) := ⟨⟨by decide +kernel, by decide +kernel⟩, List.mem_of_getElem? (i := 146) (by decide +kernel), List.mem_of_getElem? (i := 595) (by decide +kernel), List.mem_of_getElem? (i := 596) (by decide +kernel)⟩
theorem lw_p22 : lw_okq (⟨"KeptColours$Forms", "settleJoinsTo", "(I)V"⟩, 8) := ⟨⟨by decide +kernel, by decide +kernel⟩, List.mem_of_getElem? (i := 146) (by decide +kernel), List.mem_of_getElem? (i := 603) (by decide +kernel), List.mem_of_getElem? (i := 604) (by decide +kernel)⟩
theorem lw_p23 : lw_okq (⟨"KeptColours", "whyNoPut", "()I"⟩, 8) := ⟨⟨by decide +kernel, by decide +kernel⟩, List.mem_of_getElem? (i := 16) (by decide +kernel), List.mem_of_getElem? (i := 631) (by decide +kernel), List.mem_of_getElem? (i := 632) (by decide +kernel)⟩
theorem lw_p24 : lw_okq (⟨"KeptColours$Proof", "isAsTold", "(ILKeptColours$Filling;)Z"⟩, 6) := ⟨⟨by decide +kernel, by decide +kernel⟩, List.mem_of_getElem? (i := 179) (by decide +kernel), List.mem_of_getElem? (i := 711) (by decide +kernel), List.mem_of_getElem? (i := 712) (by decide +kernel)⟩
theorem lw_p25 : lw_okq (⟨"KeptColours$Walker", "seekBest", "(LKeptColours$Net;)V"⟩, 4) := ⟨⟨by decide +kernel, by decide +kernel⟩, List.mem_of_getElem? (i := 208) (by decide +kernel), List.mem_of_getElem? (i := 728) (by decide +kernel), List.mem_of_getElem? (i := 729) (by decide +kernel)⟩
theorem lw_p26 : lw_okq (⟨"KeptColoursModel", "bareAll", "()V"⟩, 48) := ⟨⟨by decide +kernel, by decide +kernel⟩, List.mem_of_getElem? (i := 747) (by decide +kernel), List.mem_of_getElem? (i := 754) (by decide +kernel), List.mem_of_getElem? (i := 755) (by decide +kernel)⟩
theorem lw_p27 : lw_okq (⟨"KeptColoursModel", "keep", "()V"⟩, 48) := ⟨⟨by decide +kernel, by decide +kernel⟩, List.mem_of_getElem? (i := 747) (by decide +kernel), List.mem_of_getElem? (i := 917) (by decide +kernel), List.mem_of_getElem? (i := 918) (by decide +kernel)⟩
theorem lw_p28 : lw_okq (⟨"KeptColoursModel", "isColour", "(I)Z"⟩, 48) := ⟨⟨by decide +kernel, by decide +kernel⟩, List.mem_of_getElem? (i := 747) (by decide +kernel), List.mem_of_getElem? (i := 928) (by decide +kernel), List.mem_of_getElem? (i := 929) (by decide +kernel)⟩
theorem lw_p29 : lw_okq (⟨"KeptColoursModel", "areTwo", "(II)Z"⟩, 48) := ⟨⟨by decide +kernel, by decide +kernel⟩, List.mem_of_getElem? (i := 747) (by decide +kernel), List.mem_of_getElem? (i := 939) (by decide +kernel), List.mem_of_getElem? (i := 940) (by decide +kernel)⟩
theorem lw_p30 : lw_okq (⟨"KeptColoursModel", "isPoint", "(I)Z"⟩, 48) := ⟨⟨by decide +kernel, by decide +kernel⟩, List.mem_of_getElem? (i := 747) (by decide +kernel), List.mem_of_getElem? (i := 943) (by decide +kernel), List.mem_of_getElem? (i := 944) (by decide +kernel)⟩
theorem lw_p31 : lw_okq (⟨"KeptColoursModel", "isClear", "()Z"⟩, 48) := ⟨⟨by decide +kernel, by decide +kernel⟩, List.mem_of_getElem? (i := 747) (by decide +kernel), List.mem_of_getElem? (i := 966) (by decide +kernel), List.mem_of_getElem? (i := 967) (by decide +kernel)⟩
def lw_privs_2 : List (MethodName × Nat) := [(⟨"KeptColours$Outward", "countPaths", "(III)I"⟩, 2), (⟨"KeptColours$Outward", "countArms", "(IIIII)I"⟩, 2), (⟨"KeptColours$Forms", "begin", "(LKeptColours$Net;Z)V"⟩, 8), (⟨"KeptColours$Forms", "giveNumber", "(II)V"⟩, 8), (⟨"KeptColours$Forms", "compareJoinsTo", "(I)I"⟩, 8), (⟨"KeptColours$Forms", "toneOf", "(II)I"⟩, 8), (⟨"KeptColours$Forms", "settleJoinsTo", "(I)V"⟩, 8), (⟨"KeptColours", "whyNoPut", "()I"⟩, 8), (⟨"KeptColours$Proof", "isAsTold", "(ILKeptColours$Filling;)Z"⟩, 6), (⟨"KeptColours$Walker", "seekBest", "(LKeptColours$Net;)V"⟩, 4), (⟨"KeptColoursModel", "bareAll", "()V"⟩, 48), (⟨"KeptColoursModel", "keep", "()V"⟩, 48), (⟨"KeptColoursModel", "isColour", "(I)Z"⟩, 48), (⟨"KeptColoursModel", "areTwo", "(II)Z"⟩, 48), (⟨"KeptColoursModel", "isPoint", "(I)Z"⟩, 48), (⟨"KeptColoursModel", "isClear", "()Z"⟩, 48)]
theorem lw_r2 : ∀ q ∈ lw_privs_2, lw_okq q := List.forall_mem_cons.mpr ⟨lw_p16, List.forall_mem_cons.mpr ⟨lw_p17, List.forall_mem_cons.mpr ⟨lw_p18, List.forall_mem_cons.mpr ⟨lw_p19, List.forall_mem_cons.mpr ⟨lw_p20, List.forall_mem_cons.mpr ⟨lw_p21, List.forall_mem_cons.mpr ⟨lw_p22, List.forall_mem_cons.mpr ⟨lw_p23, List.forall_mem_cons.mpr ⟨lw_p24, List.forall_mem_cons.mpr ⟨lw_p25, List.forall_mem_cons.mpr ⟨lw_p26, List.forall_mem_cons.mpr ⟨lw_p27, List.forall_mem_cons.mpr ⟨lw_p28, List.forall_mem_cons.mpr ⟨lw_p29, List.forall_mem_cons.mpr ⟨lw_p30, List.forall_mem_cons.mpr ⟨lw_p31, fun _ h => absurd h List.not_mem_nil⟩⟩⟩⟩⟩⟩⟩⟩⟩⟩⟩⟩⟩⟩⟩⟩
theorem lw_p32 : lw_okq (⟨"KeptColoursModel", "hasCopy", "(I)Z"⟩, 48) := ⟨⟨by decide +kernel, by decide +kernel⟩, List.mem_of_getElem? (i := 747) (by decide +kernel), List.mem_of_getElem? (i := 970) (by decide +kernel), List.mem_of_getElem? (i := 971) (by decide +kernel)⟩
theorem lw_p33 : lw_okq (⟨"KeptColoursModel", "look", "(III)V"⟩, 48) := ⟨⟨by decide +kernel, by decide +kernel⟩, List.mem_of_getElem? (i := 747) (by decide +kernel), List.mem_of_getElem? (i := 974) (by decide +kernel), List.mem_of_getElem? (i := 975) (by decide +kernel)⟩
theorem lw_p34 : lw_okq (⟨"KeptColoursModel", "go", "(III)V"⟩, 48) := ⟨⟨by decide +kernel, by decide +kernel⟩, List.mem_of_getElem? (i := 747) (by decide +kernel), List.mem_of_getElem? (i := 978) (by decide +kernel), List.mem_of_getElem? (i := 979) (by decide +kernel)⟩
theorem lw_p35 : lw_okq (⟨"KeptColoursModel", "lengthOf", "(I)I"⟩, 48) := ⟨⟨by decide +kernel, by decide +kernel⟩, List.mem_of_getElem? (i := 747) (by decide +kernel), List.mem_of_getElem? (i := 982) (by decide +kernel), List.mem_of_getElem? (i := 983) (by decide +kernel)⟩
theorem lw_p36 : lw_okq (⟨"KeptColoursModel", "take", "(I)V"⟩, 48) := ⟨⟨by decide +kernel, by decide +kernel⟩, List.mem_of_getElem? (i := 747) (by decide +kernel), List.mem_of_getElem? (i := 986) (by decide +kernel), List.mem_of_getElem? (i := 987) (by decide +kernel)⟩
theorem lw_p37 : lw_okq (⟨"KeptColoursModel", "bitsOf", "(I)I"⟩, 48) := ⟨⟨by decide +kernel, by decide +kernel⟩, List.mem_of_getElem? (i := 747) (by decide +kernel), List.mem_of_getElem? (i := 990) (by decide +kernel), List.mem_of_getElem? (i := 991) (by decide +kernel)⟩
theorem lw_p38 : lw_okq (⟨"KeptColoursModel", "addPoint", "(III)Z"⟩, 48) := ⟨⟨by decide +kernel, by decide +kernel⟩, List.mem_of_getElem? (i := 747) (by decide +kernel), List.mem_of_getElem? (i := 994) (by decide +kernel), List.mem_of_getElem? (i := 995) (by decide +kernel)⟩
theorem lw_p39 : lw_okq (⟨"KeptColoursModel", "addEdge", "(III)Z"⟩, 48) := ⟨⟨by decide +kernel, by decide +kernel⟩, List.mem_of_getElem? (i := 747) (by decide +kernel), List.mem_of_getElem? (i := 998) (by decide +kernel), List.mem_of_getElem? (i := 999) (by decide +kernel)⟩
theorem lw_p40 : lw_okq (⟨"KeptColoursModel", "copiesOf", "(I)I"⟩, 48) := ⟨⟨by decide +kernel, by decide +kernel⟩, List.mem_of_getElem? (i := 747) (by decide +kernel), List.mem_of_getElem? (i := 1006) (by decide +kernel), List.mem_of_getElem? (i := 1007) (by decide +kernel)⟩
theorem lw_p41 : lw_okq (⟨"KeptColoursModel", "layTurned", "(I)V"⟩, 48) := ⟨⟨by decide +kernel, by decide +kernel⟩, List.mem_of_getElem? (i := 747) (by decide +kernel), List.mem_of_getElem? (i := 1034) (by decide +kernel), List.mem_of_getElem? (i := 1035) (by decide +kernel)⟩
theorem lw_p42 : lw_okq (⟨"KeptColoursModel", "clashes", "()I"⟩, 48) := ⟨⟨by decide +kernel, by decide +kernel⟩, List.mem_of_getElem? (i := 747) (by decide +kernel), List.mem_of_getElem? (i := 1038) (by decide +kernel), List.mem_of_getElem? (i := 1039) (by decide +kernel)⟩
theorem lw_p43 : lw_okq (⟨"KeptColoursModel", "layAside", "()V"⟩, 48) := ⟨⟨by decide +kernel, by decide +kernel⟩, List.mem_of_getElem? (i := 747) (by decide +kernel), List.mem_of_getElem? (i := 1046) (by decide +kernel), List.mem_of_getElem? (i := 1047) (by decide +kernel)⟩
theorem lw_p44 : lw_okq (⟨"KeptColoursModel", "bring", "()V"⟩, 48) := ⟨⟨by decide +kernel, by decide +kernel⟩, List.mem_of_getElem? (i := 747) (by decide +kernel), List.mem_of_getElem? (i := 1050) (by decide +kernel), List.mem_of_getElem? (i := 1051) (by decide +kernel)⟩
theorem lw_p45 : lw_okq (⟨"KeptColoursModel", "isLong", "(I)Z"⟩, 48) := ⟨⟨by decide +kernel, by decide +kernel⟩, List.mem_of_getElem? (i := 747) (by decide +kernel), List.mem_of_getElem? (i := 1058) (by decide +kernel), List.mem_of_getElem? (i := 1059) (by decide +kernel)⟩
theorem lw_p46 : lw_okq (⟨"KeptColoursModel", "goThrough", "(IIZ)V"⟩, 48) := ⟨⟨by decide +kernel, by decide +kernel⟩, List.mem_of_getElem? (i := 747) (by decide +kernel), List.mem_of_getElem? (i := 1063) (by decide +kernel), List.mem_of_getElem? (i := 1064) (by decide +kernel)⟩
theorem lw_p47 : lw_okq (⟨"KeptColoursModel", "list", "(I)V"⟩, 48) := ⟨⟨by decide +kernel, by decide +kernel⟩, List.mem_of_getElem? (i := 747) (by decide +kernel), List.mem_of_getElem? (i := 1067) (by decide +kernel), List.mem_of_getElem? (i := 1068) (by decide +kernel)⟩
def lw_privs_3 : List (MethodName × Nat) := [(⟨"KeptColoursModel", "hasCopy", "(I)Z"⟩, 48), (⟨"KeptColoursModel", "look", "(III)V"⟩, 48), (⟨"KeptColoursModel", "go", "(III)V"⟩, 48), (⟨"KeptColoursModel", "lengthOf", "(I)I"⟩, 48), (⟨"KeptColoursModel", "take", "(I)V"⟩, 48), (⟨"KeptColoursModel", "bitsOf", "(I)I"⟩, 48), (⟨"KeptColoursModel", "addPoint", "(III)Z"⟩, 48), (⟨"KeptColoursModel", "addEdge", "(III)Z"⟩, 48), (⟨"KeptColoursModel", "copiesOf", "(I)I"⟩, 48), (⟨"KeptColoursModel", "layTurned", "(I)V"⟩, 48), (⟨"KeptColoursModel", "clashes", "()I"⟩, 48), (⟨"KeptColoursModel", "layAside", "()V"⟩, 48), (⟨"KeptColoursModel", "bring", "()V"⟩, 48), (⟨"KeptColoursModel", "isLong", "(I)Z"⟩, 48), (⟨"KeptColoursModel", "goThrough", "(IIZ)V"⟩, 48), (⟨"KeptColoursModel", "list", "(I)V"⟩, 48)]
theorem lw_r3 : ∀ q ∈ lw_privs_3, lw_okq q := List.forall_mem_cons.mpr ⟨lw_p32, List.forall_mem_cons.mpr ⟨lw_p33, List.forall_mem_cons.mpr ⟨lw_p34, List.forall_mem_cons.mpr ⟨lw_p35, List.forall_mem_cons.mpr ⟨lw_p36, List.forall_mem_cons.mpr ⟨lw_p37, List.forall_mem_cons.mpr ⟨lw_p38, List.forall_mem_cons.mpr ⟨lw_p39, List.forall_mem_cons.mpr ⟨lw_p40, List.forall_mem_cons.mpr ⟨lw_p41, List.forall_mem_cons.mpr ⟨lw_p42, List.forall_mem_cons.mpr ⟨lw_p43, List.forall_mem_cons.mpr ⟨lw_p44, List.forall_mem_cons.mpr ⟨lw_p45, List.forall_mem_cons.mpr ⟨lw_p46, List.forall_mem_cons.mpr ⟨lw_p47, fun _ h => absurd h List.not_mem_nil⟩⟩⟩⟩⟩⟩⟩⟩⟩⟩⟩⟩⟩⟩⟩⟩
theorem lw_p48 : lw_okq (⟨"KeptColoursModel", "mark", "()V"⟩, 48) := ⟨⟨by decide +kernel, by decide +kernel⟩, List.mem_of_getElem? (i := 747) (by decide +kernel), List.mem_of_getElem? (i := 1071) (by decide +kernel), List.mem_of_getElem? (i := 1072) (by decide +kernel)⟩
theorem lw_p49 : lw_okq (⟨"KeptColoursModel", "codeBy", "()I"⟩, 48) := ⟨⟨by decide +kernel, by decide +kernel⟩, List.mem_of_getElem? (i := 747) (by decide +kernel), List.mem_of_getElem? (i := 1075) (by decide +kernel), List.mem_of_getElem? (i := 1076) (by decide +kernel)⟩
theorem lw_p50 : lw_okq (⟨"KeptColoursModel", "markAll", "(II)V"⟩, 48) := ⟨⟨by decide +kernel, by decide +kernel⟩, List.mem_of_getElem? (i := 747) (by decide +kernel), List.mem_of_getElem? (i := 1079) (by decide +kernel), List.mem_of_getElem? (i := 1080) (by decide +kernel)⟩
theorem lw_p51 : lw_okq (⟨"KeptColoursModel", "findForm", "()V"⟩, 48) := ⟨⟨by decide +kernel, by decide +kernel⟩, List.mem_of_getElem? (i := 747) (by decide +kernel), List.mem_of_getElem? (i := 1091) (by decide +kernel), List.mem_of_getElem? (i := 1092) (by decide +kernel)⟩
theorem lw_p52 : lw_okq (⟨"KeptColoursModel", "goForms", "(II)V"⟩, 48) := ⟨⟨by decide +kernel, by decide +kernel⟩, List.mem_of_getElem? (i := 747) (by decide +kernel), List.mem_of_getElem? (i := 1095) (by decide +kernel), List.mem_of_getElem? (i := 1096) (by decide +kernel)⟩
theorem lw_p53 : lw_okq (⟨"KeptColoursModel", "against", "()I"⟩, 48) := ⟨⟨by decide +kernel, by decide +kernel⟩, List.mem_of_getElem? (i := 747) (by decide +kernel), List.mem_of_getElem? (i := 1099) (by decide +kernel), List.mem_of_getElem? (i := 1100) (by decide +kernel)⟩
theorem lw_p54 : lw_okq (⟨"KeptColoursModel", "findPuts", "(I)I"⟩, 48) := ⟨⟨by decide +kernel, by decide +kernel⟩, List.mem_of_getElem? (i := 747) (by decide +kernel), List.mem_of_getElem? (i := 1111) (by decide +kernel), List.mem_of_getElem? (i := 1112) (by decide +kernel)⟩
theorem lw_p55 : lw_okq (⟨"KeptColoursModel", "bare", "()I"⟩, 48) := ⟨⟨by decide +kernel, by decide +kernel⟩, List.mem_of_getElem? (i := 747) (by decide +kernel), List.mem_of_getElem? (i := 1116) (by decide +kernel), List.mem_of_getElem? (i := 1117) (by decide +kernel)⟩
theorem lw_p56 : lw_okq (⟨"KeptColoursModel", "goPut", "(I)V"⟩, 48) := ⟨⟨by decide +kernel, by decide +kernel⟩, List.mem_of_getElem? (i := 747) (by decide +kernel), List.mem_of_getElem? (i := 1120) (by decide +kernel), List.mem_of_getElem? (i := 1121) (by decide +kernel)⟩
theorem lw_p57 : lw_okq (⟨"KeptColoursModel", "fills", "(IZ)Z"⟩, 48) := ⟨⟨by decide +kernel, by decide +kernel⟩, List.mem_of_getElem? (i := 747) (by decide +kernel), List.mem_of_getElem? (i := 1136) (by decide +kernel), List.mem_of_getElem? (i := 1137) (by decide +kernel)⟩
theorem lw_p58 : lw_okq (⟨"KeptColoursModel", "fillFrom", "()Z"⟩, 48) := ⟨⟨by decide +kernel, by decide +kernel⟩, List.mem_of_getElem? (i := 747) (by decide +kernel), List.mem_of_getElem? (i := 1140) (by decide +kernel), List.mem_of_getElem? (i := 1141) (by decide +kernel)⟩
theorem lw_p59 : lw_okq (⟨"KeptColoursModel", "nextBare", "()I"⟩, 48) := ⟨⟨by decide +kernel, by decide +kernel⟩, List.mem_of_getElem? (i := 747) (by decide +kernel), List.mem_of_getElem? (i := 1144) (by decide +kernel), List.mem_of_getElem? (i := 1145) (by decide +kernel)⟩
theorem lw_p60 : lw_okq (⟨"KeptColoursModel", "firstBits", "()I"⟩, 48) := ⟨⟨by decide +kernel, by decide +kernel⟩, List.mem_of_getElem? (i := 747) (by decide +kernel), List.mem_of_getElem? (i := 1148) (by decide +kernel), List.mem_of_getElem? (i := 1149) (by decide +kernel)⟩
theorem lw_p61 : lw_okq (⟨"KeptColoursModel", "follows", "()Z"⟩, 48) := ⟨⟨by decide +kernel, by decide +kernel⟩, List.mem_of_getElem? (i := 747) (by decide +kernel), List.mem_of_getElem? (i := 1173) (by decide +kernel), List.mem_of_getElem? (i := 1174) (by decide +kernel)⟩
theorem lw_p62 : lw_okq (⟨"KeptColoursModel", "walks", "()Z"⟩, 48) := ⟨⟨by decide +kernel, by decide +kernel⟩, List.mem_of_getElem? (i := 747) (by decide +kernel), List.mem_of_getElem? (i := 1181) (by decide +kernel), List.mem_of_getElem? (i := 1182) (by decide +kernel)⟩
theorem lw_p63 : lw_okq (⟨"KeptColoursModel", "clearGained", "()V"⟩, 48) := ⟨⟨by decide +kernel, by decide +kernel⟩, List.mem_of_getElem? (i := 747) (by decide +kernel), List.mem_of_getElem? (i := 1185) (by decide +kernel), List.mem_of_getElem? (i := 1186) (by decide +kernel)⟩
def lw_privs_4 : List (MethodName × Nat) := [(⟨"KeptColoursModel", "mark", "()V"⟩, 48), (⟨"KeptColoursModel", "codeBy", "()I"⟩, 48), (⟨"KeptColoursModel", "markAll", "(II)V"⟩, 48), (⟨"KeptColoursModel", "findForm", "()V"⟩, 48), (⟨"KeptColoursModel", "goForms", "(II)V"⟩, 48), (⟨"KeptColoursModel", "against", "()I"⟩, 48), (⟨"KeptColoursModel", "findPuts", "(I)I"⟩, 48), (⟨"KeptColoursModel", "bare", "()I"⟩, 48), (⟨"KeptColoursModel", "goPut", "(I)V"⟩, 48), (⟨"KeptColoursModel", "fills", "(IZ)Z"⟩, 48), (⟨"KeptColoursModel", "fillFrom", "()Z"⟩, 48), (⟨"KeptColoursModel", "nextBare", "()I"⟩, 48), (⟨"KeptColoursModel", "firstBits", "()I"⟩, 48), (⟨"KeptColoursModel", "follows", "()Z"⟩, 48), (⟨"KeptColoursModel", "walks", "()Z"⟩, 48), (⟨"KeptColoursModel", "clearGained", "()V"⟩, 48)]
theorem lw_r4 : ∀ q ∈ lw_privs_4, lw_okq q := List.forall_mem_cons.mpr ⟨lw_p48, List.forall_mem_cons.mpr ⟨lw_p49, List.forall_mem_cons.mpr ⟨lw_p50, List.forall_mem_cons.mpr ⟨lw_p51, List.forall_mem_cons.mpr ⟨lw_p52, List.forall_mem_cons.mpr ⟨lw_p53, List.forall_mem_cons.mpr ⟨lw_p54, List.forall_mem_cons.mpr ⟨lw_p55, List.forall_mem_cons.mpr ⟨lw_p56, List.forall_mem_cons.mpr ⟨lw_p57, List.forall_mem_cons.mpr ⟨lw_p58, List.forall_mem_cons.mpr ⟨lw_p59, List.forall_mem_cons.mpr ⟨lw_p60, List.forall_mem_cons.mpr ⟨lw_p61, List.forall_mem_cons.mpr ⟨lw_p62, List.forall_mem_cons.mpr ⟨lw_p63, fun _ h => absurd h List.not_mem_nil⟩⟩⟩⟩⟩⟩⟩⟩⟩⟩⟩⟩⟩⟩⟩⟩
def lw_privs : List (MethodName × Nat) := lw_privs_1 ++ (lw_privs_2 ++ (lw_privs_3 ++ (lw_privs_4)))
def lw_tbl : List Cond := k2_sels lw_privs ++ tables_1
theorem lw_privs_ok : ∀ q ∈ lw_privs, lw_okq q := by
  show ∀ q ∈ lw_privs_1 ++ (lw_privs_2 ++ (lw_privs_3 ++ (lw_privs_4))), lw_okq q
  exact List.forall_mem_append.mpr ⟨lw_r1, List.forall_mem_append.mpr ⟨lw_r2, List.forall_mem_append.mpr ⟨lw_r3, lw_r4⟩⟩⟩
end
section
def RX0 : String := "KeptColours$Filling"
def TX0 : u_T := fun k => match k with
  | 0 => ("KeptColours$Filling", "board", "LKeptColours$Net;", true)
  | 1 => ("KeptColours$Filling", "done", "I", false)
  | 2 => ("KeptColours$Filling", "finder", "LKeptColours$Finder;", true)
  | 3 => ("KeptColours$Filling", "outward", "LKeptColours$Outward;", true)
  | 4 => ("KeptColours$Filling", "open", "[I", true)
  | 5 => ("KeptColours$Filling", "openCount", "I", false)
  | 6 => ("KeptColours$Filling", "depth", "I", false)
  | _ => ("KeptColours$Filling", "over", "Z", false)
def tyX0 : Nat → FieldType := fun k => match k with
  | 0 => .object "KeptColours$Net"
  | 1 => .int
  | 2 => .object "KeptColours$Finder"
  | 3 => .object "KeptColours$Outward"
  | 4 => .array .int
  | 5 => .int
  | 6 => .int
  | _ => .boolean
abbrev wsX00 : List Cond := u_ws RX0 TX0 8
theorem nmX0 : ∀ a, a < 8 → ∀ b, b < 8 → a ≠ b → (TX0 a).2.1 ≠ (TX0 b).2.1 := by decide +kernel
theorem tyX0_ok : ∀ k, k < 8 → parseFieldDescriptor (TX0 k).2.2.1 = some (tyX0 k) := by decide +kernel
def RX1 : String := "KeptColours$Finder"
def TX1 : u_T := fun k => match k with
  | 0 => ("KeptColours$Finder", "row", "[I", true)
  | 1 => ("KeptColours$Finder", "length", "I", false)
  | 2 => ("KeptColours$Finder", "kind", "I", false)
  | 3 => ("KeptColours$Finder", "points", "I", false)
  | _ => ("KeptColours$Finder", "near", "[I", true)
def tyX1 : Nat → FieldType := fun k => match k with
  | 0 => .array .int
  | 1 => .int
  | 2 => .int
  | 3 => .int
  | _ => .array .int
abbrev wsX10 : List Cond := u_ws RX1 TX1 5
theorem nmX1 : ∀ a, a < 5 → ∀ b, b < 5 → a ≠ b → (TX1 a).2.1 ≠ (TX1 b).2.1 := by decide +kernel
theorem tyX1_ok : ∀ k, k < 5 → parseFieldDescriptor (TX1 k).2.2.1 = some (tyX1 k) := by decide +kernel
def RX2 : String := "KeptColours$Forms"
def TX2 : u_T := fun k => match k with
  | 0 => ("KeptColours$Forms", "best", "[I", true)
  | 1 => ("KeptColours$Forms", "ways", "I", false)
  | 2 => ("KeptColours$Forms", "points", "I", false)
  | 3 => ("KeptColours$Forms", "tones", "[I", true)
  | 4 => ("KeptColours$Forms", "pointOf", "[I", true)
  | 5 => ("KeptColours$Forms", "settled", "I", false)
  | 6 => ("KeptColours$Forms", "stopsAtLess", "Z", false)
  | _ => ("KeptColours$Forms", "isLess", "Z", false)
def tyX2 : Nat → FieldType := fun k => match k with
  | 0 => .array .int
  | 1 => .int
  | 2 => .int
  | 3 => .array .int
  | 4 => .array .int
  | 5 => .int
  | 6 => .boolean
  | _ => .boolean
abbrev wsX20 : List Cond := u_ws RX2 TX2 8
theorem nmX2 : ∀ a, a < 8 → ∀ b, b < 8 → a ≠ b → (TX2 a).2.1 ≠ (TX2 b).2.1 := by decide +kernel
theorem tyX2_ok : ∀ k, k < 8 → parseFieldDescriptor (TX2 k).2.2.1 = some (tyX2 k) := by decide +kernel
def RX3 : String := "KeptColours$History"
def TX3 : u_T := fun k => match k with
  | 0 => ("KeptColours$History", "size", "I", false)
  | 1 => ("KeptColours$History", "kept", "[LKeptColours$Net;", true)
  | _ => ("KeptColours$History", "next", "I", false)
def tyX3 : Nat → FieldType := fun k => match k with
  | 0 => .int
  | 1 => .array (.object "KeptColours$Net")
  | _ => .int
abbrev wsX30 : List Cond := u_ws RX3 TX3 3
theorem nmX3 : ∀ a, a < 3 → ∀ b, b < 3 → a ≠ b → (TX3 a).2.1 ≠ (TX3 b).2.1 := by decide +kernel
theorem tyX3_ok : ∀ k, k < 3 → parseFieldDescriptor (TX3 k).2.2.1 = some (tyX3 k) := by decide +kernel
def RX4 : String := "KeptColours$Net"
def TX4 : u_T := fun k => match k with
  | 0 => ("KeptColours$Net", "points", "I", false)
  | 1 => ("KeptColours$Net", "colours", "I", false)
  | 2 => ("KeptColours$Net", "kinds", "[I", true)
  | 3 => ("KeptColours$Net", "sizes", "[I", true)
  | 4 => ("KeptColours$Net", "tones", "[I", true)
  | _ => ("KeptColours$Net", "nears", "[I", true)
def tyX4 : Nat → FieldType := fun k => match k with
  | 0 => .int
  | 1 => .int
  | 2 => .array .int
  | 3 => .array .int
  | 4 => .array .int
  | _ => .array .int
abbrev wsX40 : List Cond := u_ws RX4 TX4 6
theorem nmX4 : ∀ a, a < 6 → ∀ b, b < 6 → a ≠ b → (TX4 a).2.1 ≠ (TX4 b).2.1 := by decide +kernel
theorem tyX4_ok : ∀ k, k < 6 → parseFieldDescriptor (TX4 k).2.2.1 = some (tyX4 k) := by decide +kernel
def RX5 : String := "KeptColours$Outward"
def TX5 : u_T := fun k => match k with
  | 0 => ("KeptColours$Outward", "points", "I", false)
  | _ => ("KeptColours$Outward", "near", "[I", true)
def tyX5 : Nat → FieldType := fun k => match k with
  | 0 => .int
  | _ => .array .int
abbrev wsX50 : List Cond := u_ws RX5 TX5 2
theorem nmX5 : ∀ a, a < 2 → ∀ b, b < 2 → a ≠ b → (TX5 a).2.1 ≠ (TX5 b).2.1 := by decide +kernel
theorem tyX5_ok : ∀ k, k < 2 → parseFieldDescriptor (TX5 k).2.2.1 = some (tyX5 k) := by decide +kernel
def RX6 : String := "KeptColours$Proof"
def TX6 : u_T := fun k => match k with
  | 0 => ("KeptColours$Proof", "joins", "[I", true)
  | 1 => ("KeptColours$Proof", "tones", "[I", true)
  | 2 => ("KeptColours$Proof", "bits", "[I", true)
  | 3 => ("KeptColours$Proof", "size", "I", false)
  | 4 => ("KeptColours$Proof", "finder", "LKeptColours$Finder;", true)
  | _ => ("KeptColours$Proof", "outward", "LKeptColours$Outward;", true)
def tyX6 : Nat → FieldType := fun k => match k with
  | 0 => .array .int
  | 1 => .array .int
  | 2 => .array .int
  | 3 => .int
  | 4 => .object "KeptColours$Finder"
  | _ => .object "KeptColours$Outward"
abbrev wsX60 : List Cond := u_ws RX6 TX6 6
theorem nmX6 : ∀ a, a < 6 → ∀ b, b < 6 → a ≠ b → (TX6 a).2.1 ≠ (TX6 b).2.1 := by decide +kernel
theorem tyX6_ok : ∀ k, k < 6 → parseFieldDescriptor (TX6 k).2.2.1 = some (tyX6 k) := by decide +kernel
def RX7 : String := "KeptColours$Walker"
def TX7 : u_T := fun k => match k with
  | 0 => ("KeptColours$Walker", "outward", "LKeptColours$Outward;", true)
  | 1 => ("KeptColours$Walker", "bestJoin", "I", false)
  | 2 => ("KeptColours$Walker", "bestTone", "I", false)
  | _ => ("KeptColours$Walker", "bestGain", "I", false)
def tyX7 : Nat → FieldType := fun k => match k with
  | 0 => .object "KeptColours$Outward"
  | 1 => .int
  | 2 => .int
  | _ => .int
abbrev wsX70 : List Cond := u_ws RX7 TX7 4
theorem nmX7 : ∀ a, a < 4 → ∀ b, b < 4 → a ≠ b → (TX7 a).2.1 ≠ (TX7 b).2.1 := by decide +kernel
theorem tyX7_ok : ∀ k, k < 4 → parseFieldDescriptor (TX7 k).2.2.1 = some (tyX7 k) := by decide +kernel
def RX8 : String := "KeptColours"
def TX8 : u_T := fun k => match k with
  | 0 => ("KeptColours", "now", "LKeptColours$Net;", true)
  | 1 => ("KeptColours", "finder", "LKeptColours$Finder;", true)
  | 2 => ("KeptColours", "filling", "LKeptColours$Filling;", true)
  | 3 => ("KeptColours", "forms", "LKeptColours$Forms;", true)
  | 4 => ("KeptColours", "proof", "LKeptColours$Proof;", true)
  | 5 => ("KeptColours", "walker", "LKeptColours$Walker;", true)
  | 6 => ("KeptColours", "history", "LKeptColours$History;", true)
  | _ => ("KeptColours", "latestTries", "I", false)
def tyX8 : Nat → FieldType := fun k => match k with
  | 0 => .object "KeptColours$Net"
  | 1 => .object "KeptColours$Finder"
  | 2 => .object "KeptColours$Filling"
  | 3 => .object "KeptColours$Forms"
  | 4 => .object "KeptColours$Proof"
  | 5 => .object "KeptColours$Walker"
  | 6 => .object "KeptColours$History"
  | _ => .int
abbrev wsX80 : List Cond := u_ws RX8 TX8 8
theorem nmX8 : ∀ a, a < 8 → ∀ b, b < 8 → a ≠ b → (TX8 a).2.1 ≠ (TX8 b).2.1 := by decide +kernel
theorem tyX8_ok : ∀ k, k < 8 → parseFieldDescriptor (TX8 k).2.2.1 = some (tyX8 k) := by decide +kernel
def RX9 : String := "KeptColoursModel"
def TX9 : u_T := fun k => match k with
  | 0 => ("KeptColoursModel", "n", "I", false)
  | 1 => ("KeptColoursModel", "colours", "I", false)
  | 2 => ("KeptColoursModel", "kinds", "[I", true)
  | 3 => ("KeptColoursModel", "sizes", "[I", true)
  | 4 => ("KeptColoursModel", "col", "[I", true)
  | 5 => ("KeptColoursModel", "before", "[I", true)
  | 6 => ("KeptColoursModel", "kept", "I", false)
  | 7 => ("KeptColoursModel", "row", "[I", true)
  | 8 => ("KeptColoursModel", "edges", "[I", true)
  | 9 => ("KeptColoursModel", "edgeMany", "I", false)
  | 10 => ("KeptColoursModel", "missing", "I", false)
  | 11 => ("KeptColoursModel", "missed", "I", false)
  | 12 => ("KeptColoursModel", "mayMiss", "I", false)
  | 13 => ("KeptColoursModel", "task", "I", false)
  | 14 => ("KeptColoursModel", "total", "I", false)
  | 15 => ("KeptColoursModel", "isFound", "Z", false)
  | 16 => ("KeptColoursModel", "first", "[I", true)
  | 17 => ("KeptColoursModel", "firstSize", "I", false)
  | 18 => ("KeptColoursModel", "through", "[I", true)
  | 19 => ("KeptColoursModel", "gained", "[I", true)
  | 20 => ("KeptColoursModel", "wantBits", "I", false)
  | 21 => ("KeptColoursModel", "wantJoin", "I", false)
  | 22 => ("KeptColoursModel", "aside", "[I", true)
  | 23 => ("KeptColoursModel", "listMany", "I", false)
  | 24 => ("KeptColoursModel", "listWanted", "I", false)
  | 25 => ("KeptColoursModel", "isListed", "Z", false)
  | 26 => ("KeptColoursModel", "wanted", "[I", true)
  | 27 => ("KeptColoursModel", "marks", "Z", false)
  | 28 => ("KeptColoursModel", "seen", "[Z", true)
  | 29 => ("KeptColoursModel", "forms", "I", false)
  | 30 => ("KeptColoursModel", "numbering", "[I", true)
  | 31 => ("KeptColoursModel", "form", "[I", true)
  | 32 => ("KeptColoursModel", "anyForm", "Z", false)
  | 33 => ("KeptColoursModel", "formMany", "I", false)
  | 34 => ("KeptColoursModel", "putMany", "I", false)
  | 35 => ("KeptColoursModel", "putWanted", "I", false)
  | 36 => ("KeptColoursModel", "isPut", "Z", false)
  | 37 => ("KeptColoursModel", "putRow", "[I", true)
  | 38 => ("KeptColoursModel", "tries", "I", false)
  | 39 => ("KeptColoursModel", "fillTries", "I", false)
  | 40 => ("KeptColoursModel", "fillMost", "I", false)
  | 41 => ("KeptColoursModel", "isSpent", "Z", false)
  | 42 => ("KeptColoursModel", "proof", "[I", true)
  | 43 => ("KeptColoursModel", "rows", "I", false)
  | 44 => ("KeptColoursModel", "proves", "Z", false)
  | 45 => ("KeptColoursModel", "tryRows", "I", false)
  | 46 => ("KeptColoursModel", "used", "I", false)
  | _ => ("KeptColoursModel", "gains", "[I", true)
def tyX9 : Nat → FieldType := fun k => match k with
  | 0 => .int
  | 1 => .int
  | 2 => .array .int
  | 3 => .array .int
  | 4 => .array .int
  | 5 => .array .int
  | 6 => .int
  | 7 => .array .int
  | 8 => .array .int
  | 9 => .int
  | 10 => .int
  | 11 => .int
  | 12 => .int
  | 13 => .int
  | 14 => .int
  | 15 => .boolean
  | 16 => .array .int
  | 17 => .int
  | 18 => .array .int
  | 19 => .array .int
  | 20 => .int
  | 21 => .int
  | 22 => .array .int
  | 23 => .int
  | 24 => .int
  | 25 => .boolean
  | 26 => .array .int
  | 27 => .boolean
  | 28 => .array .boolean
  | 29 => .int
  | 30 => .array .int
  | 31 => .array .int
  | 32 => .boolean
  | 33 => .int
  | 34 => .int
  | 35 => .int
  | 36 => .boolean
  | 37 => .array .int
  | 38 => .int
  | 39 => .int
  | 40 => .int
  | 41 => .boolean
  | 42 => .array .int
  | 43 => .int
  | 44 => .boolean
  | 45 => .int
  | 46 => .int
  | _ => .array .int
abbrev wsX90 : List Cond := u_ws RX9 TX9 48
theorem nmX9 : ∀ a, a < 48 → ∀ b, b < 48 → a ≠ b → (TX9 a).2.1 ≠ (TX9 b).2.1 := by decide +kernel
theorem tyX9_ok : ∀ k, k < 48 → parseFieldDescriptor (TX9 k).2.2.1 = some (tyX9 k) := by decide +kernel
abbrev vwCl : List vw_C := [(RX0, TX0, 8), (RX1, TX1, 5), (RX2, TX2, 8), (RX3, TX3, 3), (RX4, TX4, 6), (RX5, TX5, 2), (RX6, TX6, 6), (RX7, TX7, 4), (RX8, TX8, 8), (RX9, TX9, 48)]
end
section
-- tables of links, by places in lw_tbl
def mRn (n : Nat) : String := (["KeptColours$Filling", "KeptColours$Finder", "KeptColours$Forms", "KeptColours$History", "KeptColours$Net", "KeptColours$Outward", "KeptColours$Proof", "KeptColours$Walker", "KeptColours", "KeptColoursModel", "KeptColoursLaw", "java/lang/Integer", "java/lang/Math", "java/util/Arrays", "java/lang/System"] : List String).getD n ""
abbrev mMi : Type := Nat × MethodName × ByteArray × Nat × Option FieldType × Nat × Nat × Nat × Nat × Nat × Nat
def mFl : List (Nat × Nat × Nat × Nat × Nat) := [
  (0, 12, 0, 0, 180),
  (0, 18, 0, 4, 188),
  (0, 22, 0, 2, 186),
  (0, 26, 0, 3, 187),
  (0, 37, 4, 1, 104),
  (0, 45, 4, 0, 98),
  (0, 48, 0, 5, 189),
  (0, 55, 4, 4, 119),
  (0, 58, 0, 6, 190),
  (0, 61, 0, 1, 184),
  (0, 70, 0, 7, 191),
  (1, 9, 1, 0, 141),
  (1, 15, 1, 4, 147),
  (1, 18, 4, 1, 103),
  (1, 36, 1, 2, 145),
  (1, 51, 1, 1, 143),
  (1, 54, 4, 2, 110),
  (1, 61, 4, 0, 100),
  (1, 64, 1, 3, 146),
  (2, 9, 2, 0, 215),
  (2, 15, 2, 3, 220),
  (2, 18, 2, 4, 221),
  (2, 33, 0, 0, 181),
  (2, 37, 2, 7, 224),
  (2, 41, 2, 6, 223),
  (2, 44, 2, 1, 217),
  (2, 48, 4, 0, 99),
  (2, 53, 2, 2, 219),
  (2, 54, 2, 5, 222),
  (2, 57, 4, 4, 118),
  (3, 11, 3, 1, 301),
  (3, 18, 3, 2, 302),
  (3, 26, 3, 0, 299),
  (4, 9, 4, 0, 96),
  (4, 15, 4, 1, 102),
  (4, 18, 4, 2, 107),
  (4, 22, 4, 3, 111),
  (4, 25, 4, 4, 114),
  (4, 28, 4, 5, 120),
  (5, 9, 5, 1, 166),
  (5, 15, 4, 4, 115),
  (5, 43, 4, 0, 97),
  (5, 47, 5, 0, 165),
  (5, 52, 4, 3, 113),
  (5, 55, 4, 2, 109),
  (6, 9, 6, 0, 248),
  (6, 15, 6, 1, 250),
  (6, 18, 6, 2, 252),
  (6, 21, 6, 4, 256),
  (6, 25, 6, 5, 257),
  (6, 29, 6, 3, 254),
  (6, 40, 0, 0, 182),
  (7, 7, 7, 0, 277),
  (7, 17, 7, 3, 280),
  (7, 21, 7, 1, 278),
  (7, 24, 7, 2, 279),
  (7, 37, 4, 4, 116),
  (7, 47, 4, 1, 105),
  (8, 10, 8, 0, 310),
  (8, 19, 8, 1, 311),
  (8, 31, 8, 2, 312),
  (8, 38, 8, 3, 313),
  (8, 45, 8, 4, 314),
  (8, 54, 8, 5, 315),
  (8, 61, 8, 6, 316),
  (8, 65, 8, 7, 317),
  (8, 92, 4, 2, 108),
  (8, 95, 4, 3, 112),
  (8, 109, 4, 4, 117),
  (8, 127, 1, 1, 144),
  (8, 131, 1, 0, 142),
  (8, 137, 4, 0, 101),
  (8, 157, 0, 0, 183),
  (8, 185, 2, 0, 216),
  (8, 188, 2, 1, 218),
  (8, 209, 0, 1, 185),
  (8, 219, 6, 3, 255),
  (8, 222, 6, 0, 249),
  (8, 225, 6, 1, 251),
  (8, 226, 6, 2, 253),
  (8, 238, 3, 0, 300),
  (8, 245, 4, 1, 106),
  (9, 7, 9, 0, 821),
  (9, 13, 9, 1, 822),
  (9, 16, 9, 2, 823),
  (9, 20, 9, 3, 824),
  (9, 23, 9, 4, 825),
  (9, 26, 9, 5, 826),
  (9, 29, 9, 7, 828),
  (9, 32, 9, 8, 829),
  (9, 35, 9, 16, 837),
  (9, 38, 9, 18, 839),
  (9, 41, 9, 19, 840),
  (9, 44, 9, 22, 843),
  (9, 47, 9, 26, 847),
  (9, 51, 9, 28, 849),
  (9, 55, 9, 30, 851),
  (9, 58, 9, 31, 852),
  (9, 61, 9, 37, 858),
  (9, 64, 9, 42, 863),
  (9, 67, 9, 47, 868),
  (9, 77, 9, 6, 827),
  (9, 80, 9, 43, 864),
  (9, 110, 9, 9, 830),
  (9, 113, 9, 10, 831),
  (9, 116, 9, 11, 832),
  (9, 119, 9, 12, 833),
  (9, 128, 9, 13, 834),
  (9, 131, 9, 14, 835),
  (9, 134, 9, 15, 836),
  (9, 138, 9, 17, 838),
  (9, 144, 9, 20, 841),
  (9, 147, 9, 21, 842),
  (9, 191, 9, 23, 844),
  (9, 194, 9, 24, 845),
  (9, 197, 9, 25, 846),
  (9, 200, 9, 27, 848),
  (9, 216, 9, 29, 850),
  (9, 227, 9, 32, 853),
  (9, 233, 9, 33, 854),
  (9, 242, 9, 34, 855),
  (9, 245, 9, 35, 856),
  (9, 248, 9, 36, 857),
  (9, 264, 9, 39, 860),
  (9, 267, 9, 40, 861),
  (9, 270, 9, 41, 862),
  (9, 273, 9, 44, 865),
  (9, 276, 9, 45, 866),
  (9, 290, 9, 38, 859),
  (9, 293, 9, 46, 867)]
def mSl : List (Nat × Nat × Nat × Nat × Nat) := [
  (4, 43, 102, 1, 446),
  (4, 57, 103, 1, 410),
  (4, 60, 104, 1, 412),
  (5, 28, 103, 1, 604),
  (5, 31, 104, 1, 605),
  (8, 85, 100, 0, 378),
  (8, 89, 101, 0, 380),
  (8, 140, 104, 0, 511),
  (8, 143, 103, 0, 512)]
def mKl : List (Nat × Nat × Nat × Nat × Nat) := [
  (0, 30, 4, 0, 560),
  (0, 34, 51, 0, 562),
  (0, 41, 7, 0, 561),
  (0, 51, 8, 0, 566),
  (0, 64, 22, 0, 567),
  (0, 74, 55, 0, 582),
  (0, 77, 16, 0, 586),
  (0, 81, 54, 0, 578),
  (0, 85, 56, 0, 587),
  (0, 88, 57, 0, 591),
  (0, 94, 66, 0, 633),
  (0, 98, 53, 0, 574),
  (1, 24, 23, 0, 434),
  (1, 28, 34, 0, 540),
  (1, 32, 24, 0, 438),
  (1, 39, 27, 0, 452),
  (1, 43, 28, 0, 456),
  (1, 47, 35, 0, 483),
  (1, 57, 25, 0, 442),
  (1, 65, 26, 0, 448),
  (1, 69, 29, 0, 460),
  (1, 73, 36, 1, 487),
  (1, 78, 37, 2, 493),
  (1, 82, 31, 0, 468),
  (1, 85, 30, 0, 464),
  (1, 89, 32, 2, 472),
  (2, 21, 68, 0, 644),
  (2, 27, 53, 0, 643),
  (2, 58, 8, 0, 648),
  (2, 68, 69, 0, 650),
  (2, 72, 70, 0, 654),
  (2, 75, 73, 0, 666),
  (2, 79, 71, 0, 658),
  (2, 83, 15, 2, 662),
  (2, 86, 72, 1, 663),
  (3, 22, 4, 0, 348),
  (3, 29, 5, 1, 355),
  (4, 31, 0, 1, 93),
  (4, 46, 13, 0, 390),
  (4, 50, 10, 0, 398),
  (4, 53, 17, 0, 406),
  (4, 63, 8, 0, 533),
  (4, 67, 15, 2, 720),
  (4, 71, 16, 0, 535),
  (4, 74, 44, 2, 525),
  (4, 77, 5, 1, 534),
  (5, 20, 58, 0, 595),
  (5, 24, 59, 0, 600),
  (5, 34, 36, 1, 610),
  (5, 40, 25, 0, 782),
  (5, 48, 26, 0, 599),
  (5, 58, 60, 0, 606),
  (5, 62, 61, 0, 612),
  (5, 66, 62, 0, 616),
  (5, 69, 63, 0, 621),
  (5, 73, 64, 0, 625),
  (5, 76, 32, 2, 611),
  (5, 79, 37, 2, 620),
  (5, 82, 65, 0, 629),
  (6, 33, 54, 0, 747),
  (6, 44, 55, 0, 749),
  (6, 48, 23, 0, 750),
  (6, 54, 56, 0, 751),
  (6, 57, 92, 0, 752),
  (6, 60, 66, 0, 756),
  (6, 64, 97, 0, 774),
  (6, 68, 98, 0, 778),
  (7, 13, 101, 0, 791),
  (7, 27, 16, 0, 797),
  (7, 33, 8, 0, 795),
  (7, 41, 57, 0, 796),
  (8, 70, 2, 0, 340),
  (8, 73, 7, 0, 362),
  (8, 77, 8, 0, 366),
  (8, 81, 10, 0, 374),
  (8, 98, 12, 0, 386),
  (8, 102, 14, 0, 394),
  (8, 105, 15, 1, 399),
  (8, 112, 16, 0, 402),
  (8, 115, 22, 0, 430),
  (8, 119, 34, 0, 479),
  (8, 123, 23, 0, 500),
  (8, 134, 13, 0, 506),
  (8, 146, 43, 0, 521),
  (8, 149, 45, 0, 529),
  (8, 153, 46, 0, 536),
  (8, 160, 4, 0, 545),
  (8, 164, 49, 0, 550),
  (8, 168, 50, 0, 556),
  (8, 172, 52, 0, 568),
  (8, 175, 67, 0, 637),
  (8, 179, 75, 0, 674),
  (8, 182, 77, 0, 682),
  (8, 191, 80, 0, 694),
  (8, 194, 82, 0, 704),
  (8, 198, 85, 0, 716),
  (8, 201, 87, 0, 725),
  (8, 204, 53, 0, 729),
  (8, 212, 90, 0, 739),
  (8, 216, 91, 0, 743),
  (8, 229, 96, 0, 770),
  (8, 232, 81, 0, 699),
  (8, 235, 100, 0, 787),
  (8, 239, 103, 0, 802),
  (8, 242, 6, 0, 358),
  (8, 248, 3, 0, 344),
  (8, 251, 44, 1, 554),
  (9, 70, 105, 0, 817),
  (9, 73, 108, 1, 976),
  (9, 85, 109, 0, 980),
  (9, 88, 110, 1, 984),
  (9, 92, 112, 0, 991),
  (9, 96, 113, 1, 995),
  (9, 100, 116, 0, 1006),
  (9, 103, 115, 0, 1002),
  (9, 106, 117, 1, 1010),
  (9, 122, 130, 0, 1061),
  (9, 125, 126, 0, 1045),
  (9, 141, 128, 0, 1053),
  (9, 150, 127, 0, 1049),
  (9, 154, 129, 0, 1057),
  (9, 157, 125, 0, 1041),
  (9, 161, 124, 0, 1037),
  (9, 164, 123, 0, 1033),
  (9, 167, 132, 0, 1069),
  (9, 170, 122, 0, 1029),
  (9, 175, 138, 1, 1094),
  (9, 178, 139, 0, 1097),
  (9, 181, 140, 0, 1101),
  (9, 185, 142, 0, 1109),
  (9, 188, 143, 0, 1113),
  (9, 203, 148, 0, 1134),
  (9, 206, 147, 0, 1130),
  (9, 209, 149, 0, 1138),
  (9, 212, 150, 0, 1142),
  (9, 219, 145, 0, 1121),
  (9, 223, 146, 0, 1126),
  (9, 230, 155, 0, 1162),
  (9, 236, 154, 0, 1158),
  (9, 239, 153, 0, 1154),
  (9, 251, 160, 0, 1183),
  (9, 255, 159, 0, 1179),
  (9, 258, 158, 0, 1174),
  (9, 261, 166, 0, 1207),
  (9, 279, 167, 0, 1211),
  (9, 282, 165, 0, 1203),
  (9, 285, 164, 0, 1199),
  (9, 296, 173, 0, 1236),
  (9, 299, 176, 0, 1248),
  (9, 302, 175, 0, 1244),
  (10, 13, 1, 0, 335),
  (10, 17, 107, 0, 972),
  (10, 18, 9, 0, 370),
  (10, 22, 111, 0, 987),
  (10, 23, 11, 0, 382),
  (10, 26, 114, 0, 998),
  (10, 27, 18, 0, 414),
  (10, 30, 118, 0, 1013),
  (10, 31, 19, 0, 418),
  (10, 34, 119, 0, 1017),
  (10, 35, 20, 0, 422),
  (10, 38, 120, 0, 1021),
  (10, 39, 21, 0, 426),
  (10, 43, 121, 0, 1025),
  (10, 44, 33, 0, 475),
  (10, 48, 131, 0, 1065),
  (10, 49, 38, 0, 496),
  (10, 52, 133, 0, 1073),
  (10, 53, 39, 0, 502),
  (10, 56, 134, 0, 1078),
  (10, 57, 40, 0, 507),
  (10, 60, 135, 0, 1082),
  (10, 61, 41, 0, 513),
  (10, 64, 136, 0, 1086),
  (10, 65, 42, 0, 517),
  (10, 68, 137, 0, 1090),
  (10, 69, 47, 0, 541),
  (10, 72, 141, 0, 1105),
  (10, 73, 48, 0, 546),
  (10, 76, 144, 0, 1117),
  (10, 77, 74, 0, 670),
  (10, 80, 151, 0, 1146),
  (10, 81, 76, 0, 678),
  (10, 84, 152, 0, 1150),
  (10, 85, 78, 0, 686),
  (10, 88, 156, 0, 1166),
  (10, 89, 79, 0, 690),
  (10, 92, 157, 0, 1170),
  (10, 93, 83, 0, 708),
  (10, 96, 161, 0, 1187),
  (10, 97, 84, 0, 712),
  (10, 100, 162, 0, 1191),
  (10, 101, 86, 0, 721),
  (10, 104, 163, 0, 1195),
  (10, 105, 88, 0, 731),
  (10, 108, 168, 0, 1216),
  (10, 109, 89, 0, 735),
  (10, 112, 169, 0, 1220),
  (10, 113, 93, 0, 758),
  (10, 116, 170, 0, 1224),
  (10, 117, 94, 0, 762),
  (10, 120, 171, 0, 1228),
  (10, 121, 95, 0, 766),
  (10, 124, 172, 0, 1232),
  (10, 125, 99, 0, 783),
  (10, 128, 174, 0, 1240),
  (10, 129, 102, 0, 798),
  (10, 132, 106, 0, 967),
  (10, 133, 104, 0, 806),
  (10, 136, 177, 0, 1252)]
def mAl : List (Nat × Nat × Nat) := [
  (2, 62, 649),
  (4, 37, 352)]
def mCl : List (Nat × Nat × Int × Nat) := [
  (0, 80, 1000000, 573),
  (0, 97, 60000, 572),
  (2, 25, 60000, 641),
  (2, 26, 1000000, 642),
  (6, 39, -1000000003, 748),
  (6, 63, -1000000002, 757),
  (8, 69, -1000000001, 339),
  (8, 130, -1000000005, 501),
  (8, 167, -1000000004, 555),
  (8, 197, -1000000002, 703),
  (8, 208, -1000000006, 730),
  (8, 254, 60000, 528),
  (8, 255, -1000000003, 698),
  (9, 50, 60000, 816),
  (9, 83, -1000000002, 971),
  (9, 84, -1000000001, 979),
  (9, 174, -1000000005, 1077),
  (9, 222, -1000000004, 1125),
  (9, 254, -1000000003, 1178),
  (9, 289, -1000000006, 1215),
  (11, 265, 1431655765, 490),
  (11, 266, 858993459, 491),
  (11, 267, 252645135, 492)]
def mMl_0 : List (mMi) := [
  (13, ⟨"java/util/Arrays", "fill", "([II)V"⟩, prog_15_method_103_code, 4, none, 1, 95, 94, 0, 67, 2),
  (8, ⟨"KeptColours", "net", "(II)I"⟩, prog_1_method_2_code, 3, (some .int), 0, 338, 336, 337, 65, 2),
  (8, ⟨"KeptColours", "remember", "()V"⟩, prog_1_method_32_code, 1, none, 0, 343, 342, 0, 65, 0),
  (3, ⟨"KeptColours$History", "keep", "(LKeptColours$Net;)V"⟩, prog_5_method_2_code, 2, none, 0, 347, 345, 346, 74, 1),
  (4, ⟨"KeptColours$Net", "become", "(LKeptColours$Net;)V"⟩, prog_6_method_2_code, 2, none, 0, 351, 349, 350, 66, 1),
  (12, ⟨"java/lang/Math", "min", "(II)I"⟩, prog_13_method_69_code, 2, (some .int), 1, 357, 356, 0, 77, 2),
  (6, ⟨"KeptColours$Proof", "forget", "()V"⟩, prog_8_method_2_code, 1, none, 0, 361, 359, 360, 72, 0),
  (4, ⟨"KeptColours$Net", "layOut", "(II)V"⟩, prog_6_method_3_code, 4, none, 0, 365, 363, 364, 66, 2),
  (4, ⟨"KeptColours$Net", "joinCount", "()I"⟩, prog_6_method_4_code, 1, (some .int), 0, 369, 367, 368, 66, 0),
  (8, ⟨"KeptColours", "target", "(III)I"⟩, prog_1_method_3_code, 4, (some .int), 0, 373, 371, 372, 65, 3),
  (4, ⟨"KeptColours$Net", "hasColour", "(I)Z"⟩, prog_6_method_9_code, 2, (some .boolean), 0, 377, 375, 376, 66, 1),
  (8, ⟨"KeptColours", "paint", "(III)I"⟩, prog_1_method_4_code, 6, (some .int), 0, 385, 383, 384, 65, 3),
  (4, ⟨"KeptColours$Net", "hasJoin", "(II)Z"⟩, prog_6_method_8_code, 3, (some .boolean), 0, 389, 387, 388, 66, 2),
  (4, ⟨"KeptColours$Net", "hasPoint", "(I)Z"⟩, prog_6_method_7_code, 2, (some .boolean), 0, 393, 391, 392, 66, 1),
  (4, ⟨"KeptColours$Net", "hasColourOrBare", "(I)Z"⟩, prog_6_method_10_code, 2, (some .boolean), 0, 397, 395, 396, 66, 1),
  (8, ⟨"KeptColours", "numberOf", "(II)I"⟩, prog_1_method_35_code, 2, (some .int), 1, 401, 400, 0, 65, 2),
  (4, ⟨"KeptColours$Net", "give", "(II)V"⟩, prog_6_method_12_code, 3, none, 0, 405, 403, 404, 66, 2),
  (4, ⟨"KeptColours$Net", "flip", "(II)V"⟩, prog_6_method_13_code, 3, none, 0, 409, 408, 1, 66, 2),
  (8, ⟨"KeptColours", "colour", "(II)I"⟩, prog_1_method_5_code, 3, (some .int), 0, 417, 415, 416, 65, 2),
  (8, ⟨"KeptColours", "aim", "(II)I"⟩, prog_1_method_6_code, 3, (some .int), 0, 421, 419, 420, 65, 2),
  (8, ⟨"KeptColours", "isOf", "(II)I"⟩, prog_1_method_7_code, 5, (some .int), 0, 425, 423, 424, 65, 2),
  (8, ⟨"KeptColours", "clear", "()I"⟩, prog_1_method_8_code, 1, (some .int), 0, 429, 427, 428, 65, 0),
  (1, ⟨"KeptColours$Finder", "hasAny", "(LKeptColours$Net;)Z"⟩, prog_3_method_2_code, 3, (some .boolean), 0, 433, 431, 432, 68, 1),
  (1, ⟨"KeptColours$Finder", "findFirst", "(LKeptColours$Net;I)Z"⟩, prog_3_method_4_code, 3, (some .boolean), 0, 437, 435, 436, 68, 2),
  (1, ⟨"KeptColours$Finder", "lookAt", "(LKeptColours$Net;I)V"⟩, prog_3_method_7_code, 3, none, 0, 441, 440, 2, 68, 2),
  (4, ⟨"KeptColours$Net", "copyLength", "(I)I"⟩, prog_6_method_6_code, 2, (some .int), 0, 445, 443, 444, 66, 1),
  (4, ⟨"KeptColours$Net", "copyNears", "(I[I)V"⟩, prog_6_method_11_code, 3, none, 0, 451, 449, 450, 66, 2),
  (4, ⟨"KeptColours$Net", "pointBits", "()I"⟩, prog_6_method_5_code, 1, (some .int), 0, 455, 453, 454, 66, 0),
  (1, ⟨"KeptColours$Finder", "findFrom", "(III)Z"⟩, prog_3_method_9_code, 6, (some .boolean), 0, 459, 458, 3, 68, 3),
  (1, ⟨"KeptColours$Finder", "isRestFree", "(I)Z"⟩, prog_3_method_10_code, 2, (some .boolean), 0, 463, 462, 4, 68, 1)]
def mMl_1 : List (mMi) := [
  (1, ⟨"KeptColours$Finder", "takeLeast", "(II)Z"⟩, prog_3_method_11_code, 5, (some .boolean), 0, 467, 466, 5, 68, 2),
  (1, ⟨"KeptColours$Finder", "candidatesAfter", "(III)I"⟩, prog_3_method_12_code, 7, (some .int), 0, 471, 470, 6, 68, 3),
  (8, ⟨"KeptColours", "above", "(I)I"⟩, prog_1_method_36_code, 1, (some .int), 1, 474, 473, 0, 65, 1),
  (8, ⟨"KeptColours", "copies", "(I)I"⟩, prog_1_method_9_code, 2, (some .int), 0, 478, 476, 477, 65, 1),
  (1, ⟨"KeptColours$Finder", "howMany", "(LKeptColours$Net;I)I"⟩, prog_3_method_5_code, 3, (some .int), 0, 482, 480, 481, 68, 2),
  (1, ⟨"KeptColours$Finder", "countFrom", "(III)I"⟩, prog_3_method_8_code, 7, (some .int), 0, 486, 485, 7, 68, 3),
  (11, ⟨"java/lang/Integer", "bitCount", "(I)I"⟩, prog_12_method_49_code, 1, (some .int), 1, 489, 488, 0, 78, 1),
  (8, ⟨"KeptColours", "choose", "(II)I"⟩, prog_1_method_38_code, 4, (some .int), 1, 495, 494, 0, 65, 2),
  (8, ⟨"KeptColours", "copy", "(II)I"⟩, prog_1_method_10_code, 3, (some .int), 0, 499, 497, 498, 65, 2),
  (8, ⟨"KeptColours", "degree", "(II)I"⟩, prog_1_method_11_code, 5, (some .int), 0, 505, 503, 504, 65, 2),
  (8, ⟨"KeptColours", "triangles", "()I"⟩, prog_1_method_12_code, 5, (some .int), 0, 510, 508, 509, 65, 0),
  (8, ⟨"KeptColours", "least", "(I)I"⟩, prog_1_method_13_code, 3, (some .int), 0, 516, 514, 515, 65, 1),
  (8, ⟨"KeptColours", "turned", "(I)I"⟩, prog_1_method_14_code, 2, (some .int), 0, 520, 518, 519, 65, 1),
  (4, ⟨"KeptColours$Net", "turnCount", "()I"⟩, prog_6_method_16_code, 1, (some .int), 0, 524, 522, 523, 66, 0),
  (8, ⟨"KeptColours", "power", "(II)I"⟩, prog_1_method_37_code, 4, (some .int), 1, 527, 526, 0, 65, 2),
  (4, ⟨"KeptColours$Net", "turn", "(I)V"⟩, prog_6_method_17_code, 6, none, 0, 532, 530, 531, 66, 1),
  (1, ⟨"KeptColours$Finder", "clashes", "(LKeptColours$Net;)I"⟩, prog_3_method_3_code, 4, (some .int), 0, 539, 537, 538, 68, 1),
  (8, ⟨"KeptColours", "turns", "(I)I"⟩, prog_1_method_15_code, 7, (some .int), 0, 544, 542, 543, 65, 1),
  (8, ⟨"KeptColours", "list", "(II)I"⟩, prog_1_method_16_code, 3, (some .int), 0, 549, 547, 548, 65, 2),
  (8, ⟨"KeptColours", "isListLarge", "(I)Z"⟩, prog_1_method_33_code, 2, (some .boolean), 0, 553, 552, 8, 65, 1),
  (0, ⟨"KeptColours$Filling", "beginList", "(LKeptColours$Net;I)V"⟩, prog_2_method_3_code, 3, none, 0, 559, 557, 558, 70, 2),
  (0, ⟨"KeptColours$Filling", "beginOnBoard", "()V"⟩, prog_2_method_5_code, 2, none, 0, 565, 564, 9, 70, 0),
  (0, ⟨"KeptColours$Filling", "countAll", "()I"⟩, prog_2_method_12_code, 2, (some .int), 0, 571, 569, 570, 70, 0),
  (0, ⟨"KeptColours$Filling", "goOn", "(I)I"⟩, prog_2_method_11_code, 3, (some .int), 0, 577, 575, 576, 70, 1),
  (0, ⟨"KeptColours$Filling", "nextTry", "()Z"⟩, prog_2_method_9_code, 3, (some .boolean), 0, 581, 579, 580, 70, 0),
  (0, ⟨"KeptColours$Filling", "tone", "()I"⟩, prog_2_method_8_code, 1, (some .int), 0, 585, 583, 584, 70, 0),
  (0, ⟨"KeptColours$Filling", "join", "()I"⟩, prog_2_method_7_code, 1, (some .int), 0, 590, 588, 589, 70, 0),
  (5, ⟨"KeptColours$Outward", "howMany", "(LKeptColours$Net;I)I"⟩, prog_7_method_2_code, 3, (some .int), 0, 594, 592, 593, 69, 2),
  (5, ⟨"KeptColours$Outward", "lookAt", "(LKeptColours$Net;I)V"⟩, prog_7_method_4_code, 3, none, 0, 598, 597, 10, 69, 2),
  (5, ⟨"KeptColours$Outward", "countFrom", "(LKeptColours$Net;I)I"⟩, prog_7_method_5_code, 6, (some .int), 0, 603, 602, 11, 69, 2)]
def mMl_2 : List (mMi) := [
  (5, ⟨"KeptColours$Outward", "countAllJoined", "(II)I"⟩, prog_7_method_6_code, 5, (some .int), 0, 609, 608, 12, 69, 2),
  (5, ⟨"KeptColours$Outward", "countBetween", "(IIII)I"⟩, prog_7_method_7_code, 8, (some .int), 0, 615, 614, 13, 69, 4),
  (5, ⟨"KeptColours$Outward", "countStars", "(II)I"⟩, prog_7_method_8_code, 3, (some .int), 0, 619, 618, 14, 69, 2),
  (5, ⟨"KeptColours$Outward", "countBooks", "(III)I"⟩, prog_7_method_9_code, 7, (some .int), 0, 624, 623, 15, 69, 3),
  (5, ⟨"KeptColours$Outward", "countPaths", "(III)I"⟩, prog_7_method_10_code, 6, (some .int), 0, 628, 627, 16, 69, 3),
  (5, ⟨"KeptColours$Outward", "countArms", "(IIIII)I"⟩, prog_7_method_11_code, 9, (some .int), 0, 632, 631, 17, 69, 5),
  (0, ⟨"KeptColours$Filling", "goDeeper", "()Z"⟩, prog_2_method_10_code, 1, (some .boolean), 0, 636, 634, 635, 70, 0),
  (2, ⟨"KeptColours$Forms", "countFirst", "(LKeptColours$Filling;)I"⟩, prog_4_method_3_code, 4, (some .int), 0, 640, 638, 639, 71, 1),
  (2, ⟨"KeptColours$Forms", "begin", "(LKeptColours$Net;Z)V"⟩, prog_4_method_4_code, 3, none, 0, 647, 646, 18, 71, 2),
  (2, ⟨"KeptColours$Forms", "giveNumber", "(II)V"⟩, prog_4_method_5_code, 5, none, 0, 653, 652, 19, 71, 2),
  (2, ⟨"KeptColours$Forms", "compareJoinsTo", "(I)I"⟩, prog_4_method_6_code, 4, (some .int), 0, 657, 656, 20, 71, 1),
  (2, ⟨"KeptColours$Forms", "toneOf", "(II)I"⟩, prog_4_method_8_code, 3, (some .int), 0, 661, 660, 21, 71, 2),
  (11, ⟨"java/lang/Integer", "compare", "(II)I"⟩, prog_12_method_40_code, 2, (some .int), 1, 665, 664, 0, 78, 2),
  (2, ⟨"KeptColours$Forms", "settleJoinsTo", "(I)V"⟩, prog_4_method_7_code, 3, none, 0, 669, 668, 22, 71, 1),
  (8, ⟨"KeptColours", "listed", "(II)I"⟩, prog_1_method_17_code, 3, (some .int), 0, 673, 671, 672, 65, 2),
  (0, ⟨"KeptColours$Filling", "reach", "(I)Z"⟩, prog_2_method_13_code, 3, (some .boolean), 0, 677, 675, 676, 70, 1),
  (8, ⟨"KeptColours", "form", "(I)I"⟩, prog_1_method_18_code, 2, (some .int), 0, 681, 679, 680, 65, 1),
  (2, ⟨"KeptColours$Forms", "seek", "(LKeptColours$Net;)V"⟩, prog_4_method_2_code, 2, none, 0, 685, 683, 684, 71, 1),
  (8, ⟨"KeptColours", "same", "()I"⟩, prog_1_method_19_code, 1, (some .int), 0, 689, 687, 688, 65, 0),
  (8, ⟨"KeptColours", "puts", "()I"⟩, prog_1_method_20_code, 2, (some .int), 0, 693, 691, 692, 65, 0),
  (8, ⟨"KeptColours", "whyNoPut", "()I"⟩, prog_1_method_34_code, 1, (some .int), 0, 697, 696, 23, 65, 0),
  (4, ⟨"KeptColours$Net", "bareCount", "()I"⟩, prog_6_method_14_code, 3, (some .int), 0, 702, 700, 701, 66, 0),
  (0, ⟨"KeptColours$Filling", "beginPut", "(LKeptColours$Net;)V"⟩, prog_2_method_4_code, 2, none, 0, 707, 705, 706, 70, 1),
  (8, ⟨"KeptColours", "put", "(I)I"⟩, prog_1_method_21_code, 3, (some .int), 0, 711, 709, 710, 65, 1),
  (8, ⟨"KeptColours", "drop", "()I"⟩, prog_1_method_22_code, 1, (some .int), 0, 715, 713, 714, 65, 0),
  (4, ⟨"KeptColours$Net", "loseLastPoint", "()V"⟩, prog_6_method_15_code, 2, none, 0, 719, 717, 718, 66, 0),
  (8, ⟨"KeptColours", "fill", "(I)I"⟩, prog_1_method_23_code, 3, (some .int), 0, 724, 722, 723, 65, 1),
  (0, ⟨"KeptColours$Filling", "begin", "(LKeptColours$Net;)V"⟩, prog_2_method_2_code, 2, none, 0, 728, 726, 727, 70, 1),
  (8, ⟨"KeptColours", "tries", "()I"⟩, prog_1_method_24_code, 1, (some .int), 0, 734, 732, 733, 65, 0),
  (8, ⟨"KeptColours", "prove", "()I"⟩, prog_1_method_25_code, 1, (some .int), 0, 738, 736, 737, 65, 0)]
def mMl_3 : List (mMi) := [
  (0, ⟨"KeptColours$Filling", "isOver", "()Z"⟩, prog_2_method_6_code, 1, (some .boolean), 0, 742, 740, 741, 70, 0),
  (6, ⟨"KeptColours$Proof", "make", "(LKeptColours$Filling;)I"⟩, prog_8_method_3_code, 4, (some .int), 0, 746, 744, 745, 72, 1),
  (1, ⟨"KeptColours$Finder", "rowBits", "()I"⟩, prog_3_method_6_code, 3, (some .int), 0, 755, 753, 754, 68, 0),
  (8, ⟨"KeptColours", "row", "(II)I"⟩, prog_1_method_26_code, 3, (some .int), 0, 761, 759, 760, 65, 2),
  (8, ⟨"KeptColours", "forge", "(II)I"⟩, prog_1_method_27_code, 4, (some .int), 0, 765, 763, 764, 65, 2),
  (8, ⟨"KeptColours", "check", "()I"⟩, prog_1_method_28_code, 1, (some .int), 0, 769, 767, 768, 65, 0),
  (6, ⟨"KeptColours$Proof", "firstFault", "(LKeptColours$Filling;)I"⟩, prog_8_method_4_code, 3, (some .int), 0, 773, 771, 772, 72, 1),
  (6, ⟨"KeptColours$Proof", "isAsTold", "(ILKeptColours$Filling;)Z"⟩, prog_8_method_5_code, 3, (some .boolean), 0, 777, 776, 24, 72, 2),
  (5, ⟨"KeptColours$Outward", "isCopyOfJust", "(LKeptColours$Net;II)Z"⟩, prog_7_method_3_code, 7, (some .boolean), 0, 781, 779, 780, 69, 3),
  (8, ⟨"KeptColours", "step", "(I)I"⟩, prog_1_method_29_code, 2, (some .int), 0, 786, 784, 785, 65, 1),
  (7, ⟨"KeptColours$Walker", "walk", "(LKeptColours$Net;I)I"⟩, prog_9_method_2_code, 4, (some .int), 0, 790, 788, 789, 73, 2),
  (7, ⟨"KeptColours$Walker", "seekBest", "(LKeptColours$Net;)V"⟩, prog_9_method_3_code, 7, none, 0, 794, 793, 25, 73, 1),
  (8, ⟨"KeptColours", "undo", "()I"⟩, prog_1_method_30_code, 1, (some .int), 0, 801, 799, 800, 65, 0),
  (3, ⟨"KeptColours$History", "giveBack", "(LKeptColours$Net;)V"⟩, prog_5_method_3_code, 2, none, 0, 805, 803, 804, 74, 1),
  (8, ⟨"KeptColours", "count", "(I)I"⟩, prog_1_method_31_code, 2, (some .int), 0, 809, 807, 808, 65, 1),
  (9, ⟨"KeptColoursModel", "bareAll", "()V"⟩, prog_11_method_2_code, 2, none, 0, 820, 819, 26, 75, 0),
  (9, ⟨"KeptColoursModel", "undo", "()I"⟩, prog_11_method_9_code, 3, (some .int), 0, 970, 968, 969, 75, 0),
  (9, ⟨"KeptColoursModel", "net", "(II)I"⟩, prog_11_method_10_code, 3, (some .int), 0, 975, 973, 974, 75, 2),
  (9, ⟨"KeptColoursModel", "isIn", "(III)Z"⟩, prog_11_method_3_code, 3, (some .boolean), 1, 978, 977, 0, 75, 3),
  (9, ⟨"KeptColoursModel", "keep", "()V"⟩, prog_11_method_8_code, 3, none, 0, 983, 982, 27, 75, 0),
  (9, ⟨"KeptColoursModel", "joinsOf", "(I)I"⟩, prog_11_method_5_code, 1, (some .int), 1, 986, 985, 0, 75, 1),
  (9, ⟨"KeptColoursModel", "target", "(III)I"⟩, prog_11_method_12_code, 4, (some .int), 0, 990, 988, 989, 75, 3),
  (9, ⟨"KeptColoursModel", "isColour", "(I)Z"⟩, prog_11_method_7_code, 2, (some .boolean), 0, 994, 993, 28, 75, 1),
  (9, ⟨"KeptColoursModel", "isSize", "(II)Z"⟩, prog_11_method_11_code, 2, (some .boolean), 1, 997, 996, 0, 75, 2),
  (9, ⟨"KeptColoursModel", "paint", "(III)I"⟩, prog_11_method_14_code, 5, (some .int), 0, 1001, 999, 1000, 75, 3),
  (9, ⟨"KeptColoursModel", "areTwo", "(II)Z"⟩, prog_11_method_13_code, 3, (some .boolean), 0, 1005, 1004, 29, 75, 2),
  (9, ⟨"KeptColoursModel", "isPoint", "(I)Z"⟩, prog_11_method_6_code, 2, (some .boolean), 0, 1009, 1008, 30, 75, 1),
  (9, ⟨"KeptColoursModel", "join", "(II)I"⟩, prog_11_method_4_code, 2, (some .int), 1, 1012, 1011, 0, 75, 2),
  (9, ⟨"KeptColoursModel", "colour", "(II)I"⟩, prog_11_method_15_code, 3, (some .int), 0, 1016, 1014, 1015, 75, 2),
  (9, ⟨"KeptColoursModel", "aim", "(II)I"⟩, prog_11_method_16_code, 3, (some .int), 0, 1020, 1018, 1019, 75, 2)]
def mMl_4 : List (mMi) := [
  (9, ⟨"KeptColoursModel", "isOf", "(II)I"⟩, prog_11_method_17_code, 4, (some .int), 0, 1024, 1022, 1023, 75, 2),
  (9, ⟨"KeptColoursModel", "clear", "()I"⟩, prog_11_method_30_code, 1, (some .int), 0, 1028, 1026, 1027, 75, 0),
  (9, ⟨"KeptColoursModel", "isClear", "()Z"⟩, prog_11_method_27_code, 2, (some .boolean), 0, 1032, 1031, 31, 75, 0),
  (9, ⟨"KeptColoursModel", "hasCopy", "(I)Z"⟩, prog_11_method_26_code, 2, (some .boolean), 0, 1036, 1035, 32, 75, 1),
  (9, ⟨"KeptColoursModel", "look", "(III)V"⟩, prog_11_method_24_code, 4, none, 0, 1040, 1039, 33, 75, 3),
  (9, ⟨"KeptColoursModel", "go", "(III)V"⟩, prog_11_method_23_code, 8, none, 0, 1044, 1043, 34, 75, 3),
  (9, ⟨"KeptColoursModel", "lengthOf", "(I)I"⟩, prog_11_method_18_code, 2, (some .int), 0, 1048, 1047, 35, 75, 1),
  (9, ⟨"KeptColoursModel", "take", "(I)V"⟩, prog_11_method_22_code, 3, none, 0, 1052, 1051, 36, 75, 1),
  (9, ⟨"KeptColoursModel", "bitsOf", "(I)I"⟩, prog_11_method_21_code, 4, (some .int), 0, 1056, 1055, 37, 75, 1),
  (9, ⟨"KeptColoursModel", "addPoint", "(III)Z"⟩, prog_11_method_20_code, 7, (some .boolean), 0, 1060, 1059, 38, 75, 3),
  (9, ⟨"KeptColoursModel", "addEdge", "(III)Z"⟩, prog_11_method_19_code, 5, (some .boolean), 0, 1064, 1063, 39, 75, 3),
  (9, ⟨"KeptColoursModel", "copies", "(I)I"⟩, prog_11_method_31_code, 2, (some .int), 0, 1068, 1066, 1067, 75, 1),
  (9, ⟨"KeptColoursModel", "copiesOf", "(I)I"⟩, prog_11_method_25_code, 2, (some .int), 0, 1072, 1071, 40, 75, 1),
  (9, ⟨"KeptColoursModel", "copy", "(II)I"⟩, prog_11_method_32_code, 3, (some .int), 0, 1076, 1074, 1075, 75, 2),
  (9, ⟨"KeptColoursModel", "degree", "(II)I"⟩, prog_11_method_33_code, 5, (some .int), 0, 1081, 1079, 1080, 75, 2),
  (9, ⟨"KeptColoursModel", "triangles", "()I"⟩, prog_11_method_34_code, 6, (some .int), 0, 1085, 1083, 1084, 75, 0),
  (9, ⟨"KeptColoursModel", "least", "(I)I"⟩, prog_11_method_35_code, 3, (some .int), 0, 1089, 1087, 1088, 75, 1),
  (9, ⟨"KeptColoursModel", "turned", "(I)I"⟩, prog_11_method_38_code, 2, (some .int), 0, 1093, 1091, 1092, 75, 1),
  (9, ⟨"KeptColoursModel", "power", "(II)I"⟩, prog_11_method_36_code, 4, (some .int), 1, 1096, 1095, 0, 75, 2),
  (9, ⟨"KeptColoursModel", "layTurned", "(I)V"⟩, prog_11_method_37_code, 5, none, 0, 1100, 1099, 41, 75, 1),
  (9, ⟨"KeptColoursModel", "clashes", "()I"⟩, prog_11_method_28_code, 3, (some .int), 0, 1104, 1103, 42, 75, 0),
  (9, ⟨"KeptColoursModel", "turns", "(I)I"⟩, prog_11_method_41_code, 6, (some .int), 0, 1108, 1106, 1107, 75, 1),
  (9, ⟨"KeptColoursModel", "layAside", "()V"⟩, prog_11_method_39_code, 2, none, 0, 1112, 1111, 43, 75, 0),
  (9, ⟨"KeptColoursModel", "bring", "()V"⟩, prog_11_method_40_code, 2, none, 0, 1116, 1115, 44, 75, 0),
  (9, ⟨"KeptColoursModel", "list", "(II)I"⟩, prog_11_method_48_code, 3, (some .int), 0, 1120, 1118, 1119, 75, 2),
  (9, ⟨"KeptColoursModel", "isLong", "(I)Z"⟩, prog_11_method_46_code, 2, (some .boolean), 0, 1124, 1123, 45, 75, 1),
  (9, ⟨"KeptColoursModel", "goThrough", "(IIZ)V"⟩, prog_11_method_47_code, 6, none, 0, 1129, 1128, 46, 75, 3),
  (9, ⟨"KeptColoursModel", "list", "(I)V"⟩, prog_11_method_42_code, 3, none, 0, 1133, 1132, 47, 75, 1),
  (9, ⟨"KeptColoursModel", "mark", "()V"⟩, prog_11_method_45_code, 2, none, 0, 1137, 1136, 48, 75, 0),
  (9, ⟨"KeptColoursModel", "codeBy", "()I"⟩, prog_11_method_43_code, 4, (some .int), 0, 1141, 1140, 49, 75, 0)]
def mMl_5 : List (mMi) := [
  (9, ⟨"KeptColoursModel", "markAll", "(II)V"⟩, prog_11_method_44_code, 4, none, 0, 1145, 1144, 50, 75, 2),
  (9, ⟨"KeptColoursModel", "listed", "(II)I"⟩, prog_11_method_49_code, 4, (some .int), 0, 1149, 1147, 1148, 75, 2),
  (9, ⟨"KeptColoursModel", "form", "(I)I"⟩, prog_11_method_53_code, 2, (some .int), 0, 1153, 1151, 1152, 75, 1),
  (9, ⟨"KeptColoursModel", "findForm", "()V"⟩, prog_11_method_52_code, 1, none, 0, 1157, 1156, 51, 75, 0),
  (9, ⟨"KeptColoursModel", "goForms", "(II)V"⟩, prog_11_method_51_code, 6, none, 0, 1161, 1160, 52, 75, 2),
  (9, ⟨"KeptColoursModel", "against", "()I"⟩, prog_11_method_50_code, 4, (some .int), 0, 1165, 1164, 53, 75, 0),
  (9, ⟨"KeptColoursModel", "same", "()I"⟩, prog_11_method_54_code, 1, (some .int), 0, 1169, 1167, 1168, 75, 0),
  (9, ⟨"KeptColoursModel", "puts", "()I"⟩, prog_11_method_57_code, 2, (some .int), 0, 1173, 1171, 1172, 75, 0),
  (9, ⟨"KeptColoursModel", "findPuts", "(I)I"⟩, prog_11_method_56_code, 3, (some .int), 0, 1177, 1176, 54, 75, 1),
  (9, ⟨"KeptColoursModel", "bare", "()I"⟩, prog_11_method_29_code, 3, (some .int), 0, 1182, 1181, 55, 75, 0),
  (9, ⟨"KeptColoursModel", "goPut", "(I)V"⟩, prog_11_method_55_code, 4, none, 0, 1186, 1185, 56, 75, 1),
  (9, ⟨"KeptColoursModel", "put", "(I)I"⟩, prog_11_method_58_code, 4, (some .int), 0, 1190, 1188, 1189, 75, 1),
  (9, ⟨"KeptColoursModel", "drop", "()I"⟩, prog_11_method_59_code, 2, (some .int), 0, 1194, 1192, 1193, 75, 0),
  (9, ⟨"KeptColoursModel", "fill", "(I)I"⟩, prog_11_method_64_code, 5, (some .int), 0, 1198, 1196, 1197, 75, 1),
  (9, ⟨"KeptColoursModel", "fills", "(IZ)Z"⟩, prog_11_method_63_code, 3, (some .boolean), 0, 1202, 1201, 57, 75, 2),
  (9, ⟨"KeptColoursModel", "fillFrom", "()Z"⟩, prog_11_method_62_code, 4, (some .boolean), 0, 1206, 1205, 58, 75, 0),
  (9, ⟨"KeptColoursModel", "nextBare", "()I"⟩, prog_11_method_60_code, 2, (some .int), 0, 1210, 1209, 59, 75, 0),
  (9, ⟨"KeptColoursModel", "firstBits", "()I"⟩, prog_11_method_61_code, 3, (some .int), 0, 1214, 1213, 60, 75, 0),
  (9, ⟨"KeptColoursModel", "tries", "()I"⟩, prog_11_method_65_code, 1, (some .int), 0, 1219, 1217, 1218, 75, 0),
  (9, ⟨"KeptColoursModel", "prove", "()I"⟩, prog_11_method_66_code, 3, (some .int), 0, 1223, 1221, 1222, 75, 0),
  (9, ⟨"KeptColoursModel", "row", "(II)I"⟩, prog_11_method_67_code, 3, (some .int), 0, 1227, 1225, 1226, 75, 2),
  (9, ⟨"KeptColoursModel", "forge", "(II)I"⟩, prog_11_method_68_code, 4, (some .int), 0, 1231, 1229, 1230, 75, 2),
  (9, ⟨"KeptColoursModel", "check", "()I"⟩, prog_11_method_70_code, 2, (some .int), 0, 1235, 1233, 1234, 75, 0),
  (9, ⟨"KeptColoursModel", "follows", "()Z"⟩, prog_11_method_69_code, 4, (some .boolean), 0, 1239, 1238, 61, 75, 0),
  (9, ⟨"KeptColoursModel", "step", "(I)I"⟩, prog_11_method_73_code, 3, (some .int), 0, 1243, 1241, 1242, 75, 1),
  (9, ⟨"KeptColoursModel", "walks", "()Z"⟩, prog_11_method_71_code, 7, (some .boolean), 0, 1247, 1246, 62, 75, 0),
  (9, ⟨"KeptColoursModel", "clearGained", "()V"⟩, prog_11_method_72_code, 2, none, 0, 1251, 1250, 63, 75, 0),
  (9, ⟨"KeptColoursModel", "count", "(I)I"⟩, prog_11_method_74_code, 2, (some .int), 0, 1255, 1253, 1254, 75, 1)]
def mMl : List mMi := mMl_0 ++ (mMl_1 ++ (mMl_2 ++ (mMl_3 ++ (mMl_4 ++ (mMl_5)))))
set_option maxRecDepth 20000 in
theorem mMl_code_0 : ∀ e ∈ mMl_0, lw_tbl[e.2.2.2.2.2.2.1]? = some (.code e.2.1 e.2.2.1 e.2.2.2.1 e.2.2.2.2.1) := List.forall_mem_cons.mpr ⟨rfl, List.forall_mem_cons.mpr ⟨rfl, List.forall_mem_cons.mpr ⟨rfl, List.forall_mem_cons.mpr ⟨rfl, List.forall_mem_cons.mpr ⟨rfl, List.forall_mem_cons.mpr ⟨rfl, List.forall_mem_cons.mpr ⟨rfl, List.forall_mem_cons.mpr ⟨rfl, List.forall_mem_cons.mpr ⟨rfl, List.forall_mem_cons.mpr ⟨rfl, List.forall_mem_cons.mpr ⟨rfl, List.forall_mem_cons.mpr ⟨rfl, List.forall_mem_cons.mpr ⟨rfl, List.forall_mem_cons.mpr ⟨rfl, List.forall_mem_cons.mpr ⟨rfl, List.forall_mem_cons.mpr ⟨rfl, List.forall_mem_cons.mpr ⟨rfl, List.forall_mem_cons.mpr ⟨rfl, List.forall_mem_cons.mpr ⟨rfl, List.forall_mem_cons.mpr ⟨rfl, List.forall_mem_cons.mpr ⟨rfl, List.forall_mem_cons.mpr ⟨rfl, List.forall_mem_cons.mpr ⟨rfl, List.forall_mem_cons.mpr ⟨rfl, List.forall_mem_cons.mpr ⟨rfl, List.forall_mem_cons.mpr ⟨rfl, List.forall_mem_cons.mpr ⟨rfl, List.forall_mem_cons.mpr ⟨rfl, List.forall_mem_cons.mpr ⟨rfl, List.forall_mem_cons.mpr ⟨rfl, fun _ h => absurd h List.not_mem_nil⟩⟩⟩⟩⟩⟩⟩⟩⟩⟩⟩⟩⟩⟩⟩⟩⟩⟩⟩⟩⟩⟩⟩⟩⟩⟩⟩⟩⟩⟩
set_option maxRecDepth 20000 in
theorem mMl_code_1 : ∀ e ∈ mMl_1, lw_tbl[e.2.2.2.2.2.2.1]? = some (.code e.2.1 e.2.2.1 e.2.2.2.1 e.2.2.2.2.1) := List.forall_mem_cons.mpr ⟨rfl, List.forall_mem_cons.mpr ⟨rfl, List.forall_mem_cons.mpr ⟨rfl, List.forall_mem_cons.mpr ⟨rfl, List.forall_mem_cons.mpr ⟨rfl, List.forall_mem_cons.mpr ⟨rfl, List.forall_mem_cons.mpr ⟨rfl, List.forall_mem_cons.mpr ⟨rfl, List.forall_mem_cons.mpr ⟨rfl, List.forall_mem_cons.mpr ⟨rfl, List.forall_mem_cons.mpr ⟨rfl, List.forall_mem_cons.mpr ⟨rfl, List.forall_mem_cons.mpr ⟨rfl, List.forall_mem_cons.mpr ⟨rfl, List.forall_mem_cons.mpr ⟨rfl, List.forall_mem_cons.mpr ⟨rfl, List.forall_mem_cons.mpr ⟨rfl, List.forall_mem_cons.mpr ⟨rfl, List.forall_mem_cons.mpr ⟨rfl, List.forall_mem_cons.mpr ⟨rfl, List.forall_mem_cons.mpr ⟨rfl, List.forall_mem_cons.mpr ⟨rfl, List.forall_mem_cons.mpr ⟨rfl, List.forall_mem_cons.mpr ⟨rfl, List.forall_mem_cons.mpr ⟨rfl, List.forall_mem_cons.mpr ⟨rfl, List.forall_mem_cons.mpr ⟨rfl, List.forall_mem_cons.mpr ⟨rfl, List.forall_mem_cons.mpr ⟨rfl, List.forall_mem_cons.mpr ⟨rfl, fun _ h => absurd h List.not_mem_nil⟩⟩⟩⟩⟩⟩⟩⟩⟩⟩⟩⟩⟩⟩⟩⟩⟩⟩⟩⟩⟩⟩⟩⟩⟩⟩⟩⟩⟩⟩
set_option maxRecDepth 20000 in
theorem mMl_code_2 : ∀ e ∈ mMl_2, lw_tbl[e.2.2.2.2.2.2.1]? = some (.code e.2.1 e.2.2.1 e.2.2.2.1 e.2.2.2.2.1) := List.forall_mem_cons.mpr ⟨rfl, List.forall_mem_cons.mpr ⟨rfl, List.forall_mem_cons.mpr ⟨rfl, List.forall_mem_cons.mpr ⟨rfl, List.forall_mem_cons.mpr ⟨rfl, List.forall_mem_cons.mpr ⟨rfl, List.forall_mem_cons.mpr ⟨rfl, List.forall_mem_cons.mpr ⟨rfl, List.forall_mem_cons.mpr ⟨rfl, List.forall_mem_cons.mpr ⟨rfl, List.forall_mem_cons.mpr ⟨rfl, List.forall_mem_cons.mpr ⟨rfl, List.forall_mem_cons.mpr ⟨rfl, List.forall_mem_cons.mpr ⟨rfl, List.forall_mem_cons.mpr ⟨rfl, List.forall_mem_cons.mpr ⟨rfl, List.forall_mem_cons.mpr ⟨rfl, List.forall_mem_cons.mpr ⟨rfl, List.forall_mem_cons.mpr ⟨rfl, List.forall_mem_cons.mpr ⟨rfl, List.forall_mem_cons.mpr ⟨rfl, List.forall_mem_cons.mpr ⟨rfl, List.forall_mem_cons.mpr ⟨rfl, List.forall_mem_cons.mpr ⟨rfl, List.forall_mem_cons.mpr ⟨rfl, List.forall_mem_cons.mpr ⟨rfl, List.forall_mem_cons.mpr ⟨rfl, List.forall_mem_cons.mpr ⟨rfl, List.forall_mem_cons.mpr ⟨rfl, List.forall_mem_cons.mpr ⟨rfl, fun _ h => absurd h List.not_mem_nil⟩⟩⟩⟩⟩⟩⟩⟩⟩⟩⟩⟩⟩⟩⟩⟩⟩⟩⟩⟩⟩⟩⟩⟩⟩⟩⟩⟩⟩⟩
set_option maxRecDepth 20000 in
theorem mMl_code_3 : ∀ e ∈ mMl_3, lw_tbl[e.2.2.2.2.2.2.1]? = some (.code e.2.1 e.2.2.1 e.2.2.2.1 e.2.2.2.2.1) := List.forall_mem_cons.mpr ⟨rfl, List.forall_mem_cons.mpr ⟨rfl, List.forall_mem_cons.mpr ⟨rfl, List.forall_mem_cons.mpr ⟨rfl, List.forall_mem_cons.mpr ⟨rfl, List.forall_mem_cons.mpr ⟨rfl, List.forall_mem_cons.mpr ⟨rfl, List.forall_mem_cons.mpr ⟨rfl, List.forall_mem_cons.mpr ⟨rfl, List.forall_mem_cons.mpr ⟨rfl, List.forall_mem_cons.mpr ⟨rfl, List.forall_mem_cons.mpr ⟨rfl, List.forall_mem_cons.mpr ⟨rfl, List.forall_mem_cons.mpr ⟨rfl, List.forall_mem_cons.mpr ⟨rfl, List.forall_mem_cons.mpr ⟨rfl, List.forall_mem_cons.mpr ⟨rfl, List.forall_mem_cons.mpr ⟨rfl, List.forall_mem_cons.mpr ⟨rfl, List.forall_mem_cons.mpr ⟨rfl, List.forall_mem_cons.mpr ⟨rfl, List.forall_mem_cons.mpr ⟨rfl, List.forall_mem_cons.mpr ⟨rfl, List.forall_mem_cons.mpr ⟨rfl, List.forall_mem_cons.mpr ⟨rfl, List.forall_mem_cons.mpr ⟨rfl, List.forall_mem_cons.mpr ⟨rfl, List.forall_mem_cons.mpr ⟨rfl, List.forall_mem_cons.mpr ⟨rfl, List.forall_mem_cons.mpr ⟨rfl, fun _ h => absurd h List.not_mem_nil⟩⟩⟩⟩⟩⟩⟩⟩⟩⟩⟩⟩⟩⟩⟩⟩⟩⟩⟩⟩⟩⟩⟩⟩⟩⟩⟩⟩⟩⟩
set_option maxRecDepth 20000 in
theorem mMl_code_4 : ∀ e ∈ mMl_4, lw_tbl[e.2.2.2.2.2.2.1]? = some (.code e.2.1 e.2.2.1 e.2.2.2.1 e.2.2.2.2.1) := List.forall_mem_cons.mpr ⟨rfl, List.forall_mem_cons.mpr ⟨rfl, List.forall_mem_cons.mpr ⟨rfl, List.forall_mem_cons.mpr ⟨rfl, List.forall_mem_cons.mpr ⟨rfl, List.forall_mem_cons.mpr ⟨rfl, List.forall_mem_cons.mpr ⟨rfl, List.forall_mem_cons.mpr ⟨rfl, List.forall_mem_cons.mpr ⟨rfl, List.forall_mem_cons.mpr ⟨rfl, List.forall_mem_cons.mpr ⟨rfl, List.forall_mem_cons.mpr ⟨rfl, List.forall_mem_cons.mpr ⟨rfl, List.forall_mem_cons.mpr ⟨rfl, List.forall_mem_cons.mpr ⟨rfl, List.forall_mem_cons.mpr ⟨rfl, List.forall_mem_cons.mpr ⟨rfl, List.forall_mem_cons.mpr ⟨rfl, List.forall_mem_cons.mpr ⟨rfl, List.forall_mem_cons.mpr ⟨rfl, List.forall_mem_cons.mpr ⟨rfl, List.forall_mem_cons.mpr ⟨rfl, List.forall_mem_cons.mpr ⟨rfl, List.forall_mem_cons.mpr ⟨rfl, List.forall_mem_cons.mpr ⟨rfl, List.forall_mem_cons.mpr ⟨rfl, List.forall_mem_cons.mpr ⟨rfl, List.forall_mem_cons.mpr ⟨rfl, List.forall_mem_cons.mpr ⟨rfl, List.forall_mem_cons.mpr ⟨rfl, fun _ h => absurd h List.not_mem_nil⟩⟩⟩⟩⟩⟩⟩⟩⟩⟩⟩⟩⟩⟩⟩⟩⟩⟩⟩⟩⟩⟩⟩⟩⟩⟩⟩⟩⟩⟩
set_option maxRecDepth 20000 in
theorem mMl_code_5 : ∀ e ∈ mMl_5, lw_tbl[e.2.2.2.2.2.2.1]? = some (.code e.2.1 e.2.2.1 e.2.2.2.1 e.2.2.2.2.1) := List.forall_mem_cons.mpr ⟨rfl, List.forall_mem_cons.mpr ⟨rfl, List.forall_mem_cons.mpr ⟨rfl, List.forall_mem_cons.mpr ⟨rfl, List.forall_mem_cons.mpr ⟨rfl, List.forall_mem_cons.mpr ⟨rfl, List.forall_mem_cons.mpr ⟨rfl, List.forall_mem_cons.mpr ⟨rfl, List.forall_mem_cons.mpr ⟨rfl, List.forall_mem_cons.mpr ⟨rfl, List.forall_mem_cons.mpr ⟨rfl, List.forall_mem_cons.mpr ⟨rfl, List.forall_mem_cons.mpr ⟨rfl, List.forall_mem_cons.mpr ⟨rfl, List.forall_mem_cons.mpr ⟨rfl, List.forall_mem_cons.mpr ⟨rfl, List.forall_mem_cons.mpr ⟨rfl, List.forall_mem_cons.mpr ⟨rfl, List.forall_mem_cons.mpr ⟨rfl, List.forall_mem_cons.mpr ⟨rfl, List.forall_mem_cons.mpr ⟨rfl, List.forall_mem_cons.mpr ⟨rfl, List.forall_mem_cons.mpr ⟨rfl, List.forall_mem_cons.mpr ⟨rfl, List.forall_mem_cons.mpr ⟨rfl, List.forall_mem_cons.mpr ⟨rfl, List.forall_mem_cons.mpr ⟨rfl, List.forall_mem_cons.mpr ⟨rfl, fun _ h => absurd h List.not_mem_nil⟩⟩⟩⟩⟩⟩⟩⟩⟩⟩⟩⟩⟩⟩⟩⟩⟩⟩⟩⟩⟩⟩⟩⟩⟩⟩⟩⟩
theorem mMl_code : ∀ e ∈ mMl, lw_tbl[e.2.2.2.2.2.2.1]? = some (.code e.2.1 e.2.2.1 e.2.2.2.1 e.2.2.2.2.1) := List.forall_mem_append.mpr ⟨mMl_code_0, List.forall_mem_append.mpr ⟨mMl_code_1, List.forall_mem_append.mpr ⟨mMl_code_2, List.forall_mem_append.mpr ⟨mMl_code_3, List.forall_mem_append.mpr ⟨mMl_code_4, mMl_code_5⟩⟩⟩⟩⟩
def mT (ci : Nat) : u_T := ((vwCl[ci]?).map (fun q => q.2.1)).getD TX0
def mN (ci : Nat) : Nat := ((vwCl[ci]?).map (fun q => q.2.2)).getD 0
def mTyp : Nat → Nat → FieldType := fun ci => match ci with
  | 0 => tyX0 | 1 => tyX1 | 2 => tyX2 | 3 => tyX3 | 4 => tyX4 | 5 => tyX5 | 6 => tyX6 | 7 => tyX7 | 8 => tyX8 | _ => tyX9
def mStn (t : Nat) : String := (["LEAST_SIZE", "MOST_SIZE", "POINTS_BEYOND", "LOW", "HIGH"] : List String).getD (t - 100) ""
theorem mFl_ok : ∀ e ∈ mFl, lw_tbl[e.2.2.2.2]? = some (.fieldLink (mRn e.1) e.2.1 (mT e.2.2.1 e.2.2.2.1).1 (mT e.2.2.1 e.2.2.2.1).2.1 (mT e.2.2.1 e.2.2.2.1).2.2.1) ∧ e.2.2.1 < 10 ∧ e.2.2.2.1 < mN e.2.2.1 := by decide +kernel
theorem mSl_ok : ∀ e ∈ mSl, (e.2.2.2.1 = 0 ∧ lw_tbl[e.2.2.2.2]? = some (.fieldLink (mRn e.1) e.2.1 "KeptColours" (mStn e.2.2.1) "[I")) ∨ (e.2.2.2.1 = 1 ∧ lw_tbl[e.2.2.2.2]? = some (.fieldLinkNest (mRn e.1) e.2.1 "KeptColours" (mStn e.2.2.1) "[I" "KeptColours")) := by decide +kernel
theorem mCl_ok : ∀ e ∈ mCl, lw_tbl[e.2.2.2]? = some (.constant (mRn e.1) e.2.1 (Int32.ofInt e.2.2.1)) := by decide +kernel
theorem mAl_ok : ∀ e ∈ mAl, lw_tbl[e.2.2]? = some (.methodLink (mRn e.1) e.2.1 arraycopyName) := by decide +kernel
def mMt (m : Nat) : mMi := mMl.getD m (0, ⟨"", "", ""⟩, ⟨#[]⟩, 0, none, 0, 0, 0, 0, 0, 0)
theorem mKl_ok : ∀ e ∈ mKl, (e.2.2.2.1 = 0 ∧ (mMt e.2.2.1).2.2.2.2.2.1 = 0 ∧ lw_tbl[e.2.2.2.2]? = some (.methodLink (mRn e.1) e.2.1 (mMt e.2.2.1).2.1)) ∨ (e.2.2.2.1 = 1 ∧ (mMt e.2.2.1).2.2.2.2.2.1 = 1 ∧ lw_tbl[e.2.2.2.2]? = some (.methodLink (mRn e.1) e.2.1 (mMt e.2.2.1).2.1)) ∨ (e.2.2.2.1 = 2 ∧ (mMt e.2.2.1).2.2.2.2.2.1 = 1 ∧ lw_tbl[e.2.2.2.2]? = some (.methodLinkNest (mRn e.1) e.2.1 (mMt e.2.2.1).2.1 "KeptColours")) := by decide +kernel
theorem mMl_init : ∀ e ∈ mMl, lw_tbl[e.2.2.2.2.2.2.2.2.2.1]? = some (.initialized e.2.1.cls) ∧ e.2.1.cls = mRn e.1 ∧ e.1 < 15 := by decide +kernel
theorem mMl_kind : ∀ e ∈ mMl, (e.2.2.2.2.2.1 = 0 ∧ lw_tbl[e.2.2.2.2.2.2.2.1]? = some (.instanceMethod e.2.1) ∧ lw_tbl[e.2.2.2.2.2.2.2.2.1]? = some (.selects e.2.1.cls e.2.1 e.2.1)) ∨ (e.2.2.2.2.2.1 = 1 ∧ lw_tbl[e.2.2.2.2.2.2.2.1]? = some (.static e.2.1)) := by decide +kernel
theorem mMl_desc : ∀ e ∈ mMl, (parseMethodDescriptor e.2.1.desc).map (fun d => d.parameters.length) = some e.2.2.2.2.2.2.2.2.2.2 := by decide +kernel
theorem mMl_cls : ∀ e ∈ mMl, plainFor e.2.1 = true ∧ e.2.1.cls ≠ "java/lang/invoke/MethodHandle" ∧ e.2.1.cls ≠ "java/lang/invoke/VarHandle" := by decide +kernel
theorem mInX : ∀ ci, ci < 10 → ∀ w ∈ u_ws ((vwCl[ci]?).map (fun q => q.1)).get! (mT ci) (mN ci), w ∈ lw_tbl := by decide +kernel
theorem mNmX : ∀ ci, ci < 10 → ∀ a, a < mN ci → ∀ b, b < mN ci → a ≠ b → (mT ci a).2.1 ≠ (mT ci b).2.1 := by
  intro ci h
  rcases (show ci = 0 ∨ ci = 1 ∨ ci = 2 ∨ ci = 3 ∨ ci = 4 ∨ ci = 5 ∨ ci = 6 ∨ ci = 7 ∨ ci = 8 ∨ ci = 9 by omega) with rfl | rfl | rfl | rfl | rfl | rfl | rfl | rfl | rfl | rfl
  · exact nmX0
  · exact nmX1
  · exact nmX2
  · exact nmX3
  · exact nmX4
  · exact nmX5
  · exact nmX6
  · exact nmX7
  · exact nmX8
  · exact nmX9
theorem mTyX : ∀ ci, ci < 10 → ∀ k, k < mN ci → parseFieldDescriptor (mT ci k).2.2.1 = some (mTyp ci k) := by
  intro ci h
  rcases (show ci = 0 ∨ ci = 1 ∨ ci = 2 ∨ ci = 3 ∨ ci = 4 ∨ ci = 5 ∨ ci = 6 ∨ ci = 7 ∨ ci = 8 ∨ ci = 9 by omega) with rfl | rfl | rfl | rfl | rfl | rfl | rfl | rfl | rfl | rfl
  · exact tyX0_ok
  · exact tyX1_ok
  · exact tyX2_ok
  · exact tyX3_ok
  · exact tyX4_ok
  · exact tyX5_ok
  · exact tyX6_ok
  · exact tyX7_ok
  · exact tyX8_ok
  · exact tyX9_ok
end
section
/-! the middle machine: whole numbers and cells by tag; a step's meaning as a condition -/
abbrev mRef : Type := Nat × Fin 8
abbrev mRV : Type := Int ⊕ mRef
abbrev mMem : Type := Nat → Fin 8 → Nat → Int
abbrev mIns : Type := Nat × List Nat × List Int
abbrev mCode : Type := List (Nat × mIns × Nat)
abbrev mXs : Type := List (Option mRV)
abbrev mFd : Type := Option (Nat × Option (Fin 8))
abbrev mG : Type := va_G × (ClassId × ClassId × ClassId) × (mRef → Nat)
def mIr (x : Int) : Prop := -2147483648 ≤ x ∧ x < 2147483648
def mWr (x : Int) : Int := (Int32.ofInt x).toInt
theorem mIr_to (x : Int32) : mIr x.toInt := ⟨Int32.le_toInt x, Int32.toInt_lt x⟩
theorem mWr_ir (x : Int) : mIr (mWr x) := mIr_to _
theorem mTo {x : Int} (h : mIr x) : (Int32.ofInt x).toInt = x := Int32.toInt_ofInt_of_le h.1 h.2
theorem mWr_of {x : Int} (h : mIr x) : mWr x = x := mTo h
theorem mOf_wr (x : Int) : Int32.ofInt (mWr x) = Int32.ofInt x := Int32.ofInt_toInt _
theorem mInj {x y : Int} (hx : mIr x) (hy : mIr y) : Int32.ofInt x = Int32.ofInt y ↔ x = y := by
  rw [← Int32.toInt_inj, mTo hx, mTo hy]
theorem mLt {x y : Int} (hx : mIr x) (hy : mIr y) : Int32.ofInt x < Int32.ofInt y ↔ x < y := by
  rw [Int32.lt_iff_toInt_lt, mTo hx, mTo hy]
theorem mLe {x y : Int} (hx : mIr x) (hy : mIr y) : Int32.ofInt x ≤ Int32.ofInt y ↔ x ≤ y := by
  rw [Int32.le_iff_toInt_le, mTo hx, mTo hy]
theorem mNat {x : Int} (hx : mIr x) : (Int32.ofInt x).toNatClampNeg = x.toNat := Int32.toNatClampNeg_ofInt_of_le hx.1 hx.2
theorem mIn_of {x : Int} {n : Nat} (hx : mIr x) (h0 : 0 ≤ x) (h1 : x < n) : vp_in (Int32.ofInt x) n := by
  intro h
  rw [mNat hx] at h
  rcases h with h | h
  · have h2 : Int32.ofInt x < Int32.ofInt 0 := h
    rw [mLt hx ⟨by decide, by decide⟩] at h2
    omega
  · omega
def mDiv (a b : Int) : Int := (Int32.ofInt a / Int32.ofInt b).toInt
def mRem (a b : Int) : Int := (Int32.ofInt a - Int32.ofInt a / Int32.ofInt b * Int32.ofInt b).toInt
def mAnd (a b : Int) : Int := (Int32.ofInt a &&& Int32.ofInt b).toInt
def mOr (a b : Int) : Int := (Int32.ofInt a ||| Int32.ofInt b).toInt
def mXor (a b : Int) : Int := (Int32.ofInt a ^^^ Int32.ofInt b).toInt
def mShl (a b : Int) : Int := (Int32.ofInt a <<< (Int32.ofInt b &&& 31)).toInt
def mShr (a b : Int) : Int := (Int32.ofInt a >>> (Int32.ofInt b &&& 31)).toInt
def mUsh (a b : Int) : Int := ((Int32.ofInt a).toUInt32 >>> ((Int32.ofInt b).toUInt32 &&& Int32.toUInt32 31)).toInt32.toInt
/-- the shapes: an object of a class with its fields (none: a number), or an array (0 int, 1 boolean, 2 nets, 3 a table) and its length -/
def mSh (t : Nat) : (Nat × List mFd) ⊕ (Nat × Nat) := match t with
  | 0 => .inl (0, [some (4, some 1), none, some (1, some 0), some (5, some 0), some (27, some 0), none, none, none])
  | 1 => .inl (1, [some (24, some 0), none, none, none, some (25, some 0)])
  | 2 => .inl (2, [some (28, some 0), none, none, some (29, some 0), some (30, some 0), none, none, none])
  | 3 => .inl (3, [none, some (34, some 0), none])
  | 4 => .inl (4, [none, none, some (20, none), some (21, none), some (22, none), some (23, none)])
  | 5 => .inl (5, [none, some (26, some 0)])
  | 6 => .inl (6, [some (31, some 0), some (32, some 0), some (33, some 0), none, some (1, some 0), some (5, some 0)])
  | 7 => .inl (7, [some (5, some 0), none, none, none])
  | 8 => .inl (8, [some (4, some 0), some (1, some 0), some (0, some 0), some (2, some 0), some (6, some 0), some (7, some 0), some (3, some 0), none])
  | 9 => .inl (9, [none, none, some (40, some 0), some (41, some 0), some (42, some 0), some (43, some 0), none, some (44, some 0), some (45, some 0), none, none, none, none, none, none, none, some (46, some 0), none, some (47, some 0), some (48, some 0), none, none, some (49, some 0), none, none, none, some (50, some 0), none, some (51, some 0), none, some (52, some 0), some (53, some 0), none, none, none, none, none, some (54, some 0), none, none, none, none, some (55, some 0), none, none, none, none, some (56, some 0)])
  | 20 => .inr (0, 3) | 21 => .inr (0, 3) | 22 => .inr (0, 66) | 23 => .inr (0, 36)
  | 24 => .inr (0, 7) | 25 => .inr (0, 12) | 26 => .inr (0, 12) | 27 => .inr (0, 66)
  | 28 => .inr (0, 21) | 29 => .inr (0, 21) | 30 => .inr (0, 7)
  | 31 => .inr (0, 500) | 32 => .inr (0, 500) | 33 => .inr (0, 500) | 34 => .inr (2, 6)
  | 40 => .inr (0, 3) | 41 => .inr (0, 3) | 42 => .inr (0, 66) | 43 => .inr (0, 444) | 44 => .inr (0, 8) | 45 => .inr (0, 20) | 46 => .inr (0, 8) | 47 => .inr (0, 66) | 48 => .inr (0, 66) | 49 => .inr (0, 66) | 50 => .inr (0, 66)
  | 51 => .inr (1, 60000) | 52 => .inr (0, 12) | 53 => .inr (0, 66) | 54 => .inr (0, 12) | 55 => .inr (0, 1500) | 56 => .inr (0, 198)
  | 100 => .inr (3, 6) | 101 => .inr (3, 6) | 102 => .inr (3, 6) | 103 => .inr (3, 66) | 104 => .inr (3, 66)
  | _ => .inr (9, 0)
def mTab (t : Nat) : List Int := match t with
  | 100 => [0, 2, 3, 1, 1, 2]
  | 101 => [0, 6, 5, 6, 4, 5]
  | 102 => [0, 0, 0, 1, 2, 0]
  | 103 => [0, 0, 1, 0, 1, 2, 0, 1, 2, 3, 0, 1, 2, 3, 4, 0, 1, 2, 3, 4, 5, 0, 1, 2, 3, 4, 5, 6, 0, 1, 2, 3, 4, 5, 6, 7, 0, 1, 2, 3, 4, 5, 6, 7, 8, 0, 1, 2, 3, 4, 5, 6, 7, 8, 9, 0, 1, 2, 3, 4, 5, 6, 7, 8, 9, 10]
  | _ => [1, 2, 2, 3, 3, 3, 4, 4, 4, 4, 5, 5, 5, 5, 5, 6, 6, 6, 6, 6, 6, 7, 7, 7, 7, 7, 7, 7, 8, 8, 8, 8, 8, 8, 8, 8, 9, 9, 9, 9, 9, 9, 9, 9, 9, 10, 10, 10, 10, 10, 10, 10, 10, 10, 10, 11, 11, 11, 11, 11, 11, 11, 11, 11, 11, 11]
def mL : List mRef := ([4, 20, 21, 22, 23].flatMap fun t => [(t, 0), (t, 1), (t, 2), (t, 3), (t, 4), (t, 5), (t, 6), (t, 7)]) ++ ([0, 1, 2, 3, 5, 6, 7, 8, 9, 24, 25, 26, 27, 28, 29, 30, 31, 32, 33, 34, 40, 41, 42, 43, 44, 45, 46, 47, 48, 49, 50, 51, 52, 53, 54, 55, 56].map fun t => (t, 0))
def mLq : List mRef := mL ++ ([100, 101, 102, 103, 104].map fun t => (t, 0))
theorem mL_nodup : mL.Nodup := by decide +kernel
def mCv (ad : mRef → Nat) : mRV → Value
  | .inl x => .int (Int32.ofInt x)
  | .inr r => .ref (ad r)
def mFv (g : mG) (h : mMem) (r : mRef) (f : mFd) (k : Nat) : Value := match f with
  | none => .int (Int32.ofInt (h r.1 r.2 k))
  | some (t, none) => .ref (g.2.2 (t, r.2))
  | some (t, some i) => .ref (g.2.2 (t, i))
def mFs (g : mG) (h : mMem) (r : mRef) : List mFd → Nat → List Value
  | [], _ => []
  | f :: fs, k => mFv g h r f k :: mFs g h r fs (k + 1)
theorem mFs_get (g : mG) (h : mMem) (r : mRef) : ∀ (fs : List mFd) (k j : Nat), (mFs g h r fs k)[j]? = (fs[j]?).map (fun f => mFv g h r f (k + j))
  | [], k, j => by simp [mFs]
  | f :: fs, k, 0 => by simp [mFs]
  | f :: fs, k, j + 1 => by
    simp only [mFs, List.getElem?_cons_succ]
    rw [mFs_get g h r fs (k + 1) j]
    rw [show k + 1 + j = k + (j + 1) by omega]
theorem mFs_len (g : mG) (h : mMem) (r : mRef) : ∀ (fs : List mFd) (k : Nat), (mFs g h r fs k).length = fs.length
  | [], _ => rfl
  | f :: fs, k => by simp [mFs, mFs_len g h r fs (k + 1)]
def mNi (k : Nat) : Fin 8 := Fin.ofNat 8 (k + 2)
def mElt (g : mG) (h : mMem) (r : mRef) : va_E := match mSh r.1 with
  | .inl (ci, fs) => .inr (ci, mFs g h r fs 0)
  | .inr (0, n) => .inl (g.2.1.1, n, .inl (fun k => Int32.ofInt (h r.1 r.2 k)))
  | .inr (1, n) => .inl (g.2.1.2.1, n, .inl (fun k => Int32.ofInt (h r.1 r.2 k)))
  | .inr (_, n) => .inl (g.2.1.2.2, n, .inr (.inr (.inr (.inr (fun k => some (g.2.2 (4, mNi k)))))))
def mW (g : mG) (h : mMem) : va_W := mL.map (fun r => (g.2.2 r, mElt g h r))
def mTy (g : mG) : List (ClassId × FieldType) := [(g.2.1.1, .int), (g.2.1.2.1, .boolean), (g.2.1.2.2, .object "KeptColours$Net")]
def mA (g : mG) : Nat → Prop := fun q => ∃ r ∈ mL, q = g.2.2 r
def mIsN (w : Cond) : Bool := match w with
  | .fieldLinkNest .. => true
  | .methodLinkNest .. => true
  | _ => false
def mNst (U : State) : Prop := ∀ w ∈ lw_tbl, mIsN w = true → va_Nw w U
def mZ (g : mG) (U : State) (H : Heap) : Prop := mNst U ∧ ∀ t ∈ ([100, 101, 102, 103, 104] : List Nat), va_Z "KeptColours" (mStn t) "[I" (.ref (g.2.2 (t, 0))) (mA g) U H ∧ va_T .int (g.2.2 (t, 0)) (mTab t).length (fun j => .int (Int32.ofInt ((mTab t).getD j 0))) (mA g) U H
def mRep (g : mG) (h : mMem) (U : State) (H : Heap) : Prop := va_P g.1 vwCl (mW g h) H ∧ va_K g.1 vwCl (mTy g) U ∧ va_D (mA g) (mW g h) ∧ mZ g U H
def mV (v : mRV) : Prop := match v with
  | .inl x => mIr x
  | .inr r => r ∈ mLq
def mMok (h : mMem) : Prop := ∀ t i k, mIr (h t i k)
def mOk (xs : mXs) (st : List mRV) (h : mMem) : Prop := (∀ v, some v ∈ xs → mV v) ∧ (∀ v ∈ st, mV v) ∧ mMok h
def mSet (h : mMem) (t : Nat) (i : Fin 8) (k : Nat) (v : Int) : mMem := fun t' i' k' => if t' = t ∧ i' = i ∧ k' = k then v else h t' i' k'
def mCpy (h : mMem) (rs rd : mRef) (sp dp n : Nat) : mMem := fun t i k => if t = rd.1 ∧ i = rd.2 ∧ dp ≤ k ∧ k < dp + n then h rs.1 rs.2 (sp + (k - dp)) else h t i k
def mRm (d : Nat) : Room := { frames := d, cells := 0, slots := 0, locals := 100 * d }
def mWds : List Cond := lw_tbl.filter goodWord
def mWs (mi : mMi) : List Cond := .code mi.2.1 mi.2.2.1 mi.2.2.2.1 mi.2.2.2.2.1 :: mWds
def mLs (g : mG) (ls : Array Slot) (nL : Nat) (xs : mXs) : Prop := ls.size = nL ∧ xs.length = nL ∧ lv_wf ls ∧ ∀ (k : Nat) (v : mRV), xs[k]? = some (some v) → ls[k]? = some (Slot.val (mCv g.2.2 v))
def mQ (g : mG) (K : Option mRV → mMem → Prop) : Array Value → State → Outcome → State → Prop := fun _ st o t =>
  (∃ (v : Option mRV) (h : mMem), o = .returned (v.map (mCv g.2.2)) ∧ K v h ∧ (∀ w, v = some w → mV w) ∧ mMok h ∧ mRep g h t t.heap) ∧ va_F (mA g) st t
def mCon (l : Launch) (g : mG) (m d : Nat) (as : List mRV) (h : mMem) (K : Option mRV → mMem → Prop) : Prop :=
  (∀ a ∈ as, mV a) → mMok h → Met l (mMt m).2.1 (mWs (mMt m)) (mRm d) (va_Pc (as.map (mCv g.2.2)) (fun U => mRep g h U U.heap)) (mQ g K) 0 0 (mA g)
def mCx (p : Program) (s : State) (m : MethodId) (args : Array Value) (meth : Method) (c : Code) (mi : mMi) (g : mG) : Prop :=
  p.tables.exec = Jvm.exec ∧ c.code = mi.2.2.1 ∧ c.maxLocals = mi.2.2.2.1 ∧ meth.sig.returnType = mi.2.2.2.2.1 ∧ s.vm.findClass (mRn mi.1) = some m.cls ∧ (∀ w ∈ mWs mi, w.before args s = true) ∧ meth.locks = false ∧ va_K g.1 vwCl (mTy g) s ∧ mZ g s s.heap
def mGo (l : Launch) (g : mG) (mi : mMi) (d pc : Nat) (xs : mXs) (st : List mRV) (h : mMem) (K : Option mRV → mMem → Prop) : Prop :=
  ∀ (p : Program) (e : Env) (s : State) (m : MethodId) (args : Array Value) (below : List Frame) (meth : Method) (c : Code) (H : Heap) (locs : List Loc) (ls : Array Slot),
    mCx p s m args meth c mi g → va_P g.1 vwCl (mW g h) H → va_D (mA g) (mW g h) → va_S (mA g) s.heap H locs → mLs g ls mi.2.2.2.1 xs → mOk xs st h →
    W p l e (mRm d) s m args below meth c H locs 0 0 (MQ below (mQ g K) args s 0 0 (mA g)) (F0 m pc ls (st.map (mCv g.2.2)))
def mCall (l : Launch) (g : mG) (d m : Nat) (as : List mRV) (h : mMem) (K : Option mRV → mMem → Prop) : Prop := match d with
  | 0 => False
  | d' + 1 => mCon l g m d' as h K
def mCmp (c : Int) (a b : Int) : Prop := match c with
  | 0 => a = b
  | 1 => a ≠ b
  | 2 => a < b
  | 3 => b ≤ a
  | 4 => b < a
  | _ => a ≤ b
def mSwi (jp : Nat → Prop) (x : Int) : Int → List Nat → Prop
  | _, [] => True
  | lo, t :: ts => (x = lo → jp t) ∧ mSwi jp x (lo + 1) ts
def mBr (c : Nat) (a b : Int) (P Q : Prop) : Prop := match c with
  | 0 => (a = b → P) ∧ (a ≠ b → Q)
  | 1 => (a ≠ b → P) ∧ (a = b → Q)
  | 2 => (a < b → P) ∧ (b ≤ a → Q)
  | 3 => (b ≤ a → P) ∧ (a < b → Q)
  | 4 => (b < a → P) ∧ (a ≤ b → Q)
  | _ => (a ≤ b → P) ∧ (b < a → Q)
/-- what a step asks for -/
def mSem (d : Nat) (ι : mIns) (nx : mXs → List mRV → mMem → Prop) (jp : Nat → mXs → List mRV → mMem → Prop) (cl : Nat → List mRV → mMem → (Option mRV → mMem → Prop) → Prop) (rt : Option mRV → mMem → Prop) (xs : mXs) (st : List mRV) (h : mMem) : Prop :=
  match ι with
  | (0, [], [v]) => nx xs (.inl v :: st) h
  | (1, [k], []) => match xs[k]? with
    | some (some (.inl v)) => nx xs (.inl v :: st) h
    | _ => False
  | (16, [k], []) => match xs[k]? with
    | some (some (.inr v)) => nx xs (.inr v :: st) h
    | _ => False
  | (2, [k], []) => match st with
    | .inl v :: st => (match xs[k]? with
      | some _ => nx (xs.set k (some (.inl v))) st h
      | none => False)
    | _ => False
  | (15, [k], []) => match st with
    | .inr v :: st => (match xs[k]? with
      | some _ => nx (xs.set k (some (.inr v))) st h
      | none => False)
    | _ => False
  | (3, [k], [n]) => match xs[k]? with
    | some (some (.inl v)) => nx (xs.set k (some (.inl (mWr (v + n))))) st h
    | _ => False
  | (4, [], []) => match st with
    | .inl b :: .inl a :: st => nx xs (.inl (mWr (a + b)) :: st) h
    | _ => False
  | (5, [], []) => match st with
    | .inl b :: .inl a :: st => nx xs (.inl (mWr (a - b)) :: st) h
    | _ => False
  | (6, [], []) => match st with
    | .inl b :: .inl a :: st => nx xs (.inl (mWr (a * b)) :: st) h
    | _ => False
  | (7, [], []) => match st with
    | .inl b :: .inl a :: st => b ≠ 0 ∧ nx xs (.inl (mDiv a b) :: st) h
    | _ => False
  | (8, [], []) => match st with
    | .inl b :: .inl a :: st => b ≠ 0 ∧ nx xs (.inl (mRem a b) :: st) h
    | _ => False
  | (9, [], []) => match st with
    | .inl b :: .inl a :: st => nx xs (.inl (mAnd a b) :: st) h
    | _ => False
  | (10, [], []) => match st with
    | .inl b :: .inl a :: st => nx xs (.inl (mOr a b) :: st) h
    | _ => False
  | (11, [], []) => match st with
    | .inl b :: .inl a :: st => nx xs (.inl (mXor a b) :: st) h
    | _ => False
  | (12, [], []) => match st with
    | .inl b :: .inl a :: st => nx xs (.inl (mShl a b) :: st) h
    | _ => False
  | (13, [], []) => match st with
    | .inl b :: .inl a :: st => nx xs (.inl (mShr a b) :: st) h
    | _ => False
  | (14, [], []) => match st with
    | .inl b :: .inl a :: st => nx xs (.inl (mUsh a b) :: st) h
    | _ => False
  | (20, [t], []) => jp t xs st h
  | (21, [c, t], []) => match st with
    | .inl a :: st => mBr c a 0 (jp t xs st h) (nx xs st h)
    | _ => False
  | (22, [c, t], []) => match st with
    | .inl b :: .inl a :: st => mBr c a b (jp t xs st h) (nx xs st h)
    | _ => False
  | (23, df :: ts, [lo]) => match st with
    | .inl a :: st => mSwi (fun t => jp t xs st h) a lo ts ∧ ((a < lo ∨ lo + ts.length ≤ a) → jp df xs st h)
    | _ => False
  | (30, [ci, k], []) => match st with
    | .inr (t, i) :: st => match mSh t with
      | .inl (cj, fs) => bif cj == ci then (match fs[k]? with
        | some none => nx xs (.inl (h t i k) :: st) h
        | some (some (t', none)) => nx xs (.inr (t', i) :: st) h
        | some (some (t', some i')) => nx xs (.inr (t', i') :: st) h
        | none => False) else False
      | _ => False
    | _ => False
  | (31, [ci, k, z], []) => match st with
    | .inl v :: .inr (t, i) :: st => match mSh t with
      | .inl (cj, fs) => bif cj == ci then (match fs[k]? with
        | some none => bif z == 0 then nx xs st (mSet h t i k v) else ((v = 0 ∨ v = 1) ∧ nx xs st (mSet h t i k v))
        | _ => False) else False
      | _ => False
    | _ => False
  | (32, [t], []) => nx xs (.inr (t, 0) :: st) h
  | (33, [], []) => match st with
    | .inl x :: .inr (t, i) :: st => match mSh t with
      | .inr (0, n) => (0 ≤ x ∧ x < n) ∧ nx xs (.inl (h t i x.toNat) :: st) h
      | .inr (3, n) => (0 ≤ x ∧ x < n) ∧ nx xs (.inl ((mTab t).getD x.toNat 0) :: st) h
      | _ => False
    | _ => False
  | (34, [], []) => match st with
    | .inl v :: .inl x :: .inr (t, i) :: st => match mSh t with
      | .inr (0, n) => (0 ≤ x ∧ x < n) ∧ nx xs st (mSet h t i x.toNat v)
      | _ => False
    | _ => False
  | (35, [], []) => match st with
    | .inl x :: .inr (t, i) :: st => match mSh t with
      | .inr (1, n) => (0 ≤ x ∧ x < n) ∧ nx xs (.inl (h t i x.toNat) :: st) h
      | _ => False
    | _ => False
  | (36, [], []) => match st with
    | .inl v :: .inl x :: .inr (t, i) :: st => match mSh t with
      | .inr (1, n) => (0 ≤ x ∧ x < n) ∧ (v = 0 ∨ v = 1) ∧ nx xs st (mSet h t i x.toNat v)
      | _ => False
    | _ => False
  | (37, [], []) => match st with
    | .inl x :: .inr (t, _) :: st => match mSh t with
      | .inr (2, n) => (0 ≤ x ∧ x < n) ∧ nx xs (.inr (4, mNi x.toNat) :: st) h
      | _ => False
    | _ => False
  | (38, [], []) => match st with
    | .inr (t, _) :: st => match mSh t with
      | .inr (0, n) => nx xs (.inl n :: st) h
      | _ => False
    | _ => False
  | (40, [], []) => match st with
    | v :: st => nx xs (v :: v :: st) h
    | _ => False
  | (41, [], []) => match st with
    | v :: w :: st => nx xs (v :: w :: v :: w :: st) h
    | _ => False
  | (42, [], []) => match st with
    | _ :: st => nx xs st h
    | _ => False
  | (50, [m, n], []) => bif Nat.ble n st.length && Nat.ble st.length 8 then cl m (st.take n).reverse h (fun v h' => nx xs (v.toList ++ st.drop n) h') else False
  | (51, [m, n, ci], []) => bif Nat.ble n st.length && Nat.ble st.length 8 then (match (st.take n).reverse with
    | .inr (t, i) :: as => match mSh t with
      | .inl (cj, _) => bif cj == ci then cl m (.inr (t, i) :: as) h (fun v h' => nx xs (v.toList ++ st.drop n) h') else False
      | _ => False
    | _ => False) else False
  | (60, [], []) => match st with
    | [.inl v] => rt (some (.inl v)) h
    | _ => False
  | (62, [], []) => match st with
    | [.inl v] => (v = 0 ∨ v = 1) ∧ rt (some (.inl v)) h
    | _ => False
  | (61, [], []) => match st with
    | [] => rt none h
    | _ => False
  | (70, [], []) => match st with
    | .inl n :: .inl dp :: .inr (td, id) :: .inl sp :: .inr (ts, is) :: st => match mSh ts, mSh td with
      | .inr (0, ns), .inr (0, nd) => bif Nat.ble st.length 8 && Nat.ble 1 d then (0 ≤ sp ∧ 0 ≤ dp ∧ 0 ≤ n ∧ sp + n ≤ ns ∧ dp + n ≤ nd) ∧ nx xs st (mCpy h (ts, is) (td, id) sp.toNat dp.toNat n.toNat) else False
      | _, _ => False
    | _ => False
  | _ => False
def mJ (pc : Nat) (o : Int) : Option Nat := if 0 ≤ (pc : Int) + o then some ((pc : Int) + o).toNat else none
def mCc (c : ClassFile.Cond) : Nat := match c with
  | .eq => 0
  | .ne => 1
  | .lt => 2
  | .ge => 3
  | .gt => 4
  | .le => 5
/-- an instruction of the machine, by the tables -/
def mRes (mi : mMi) (pc : Nat) (ins : Instr) : Option mIns := match ins with
  | .iconst n => if -128 ≤ n ∧ n < 128 then some (0, [], [n]) else none
  | .bipush n => if -128 ≤ n ∧ n < 128 then some (0, [], [n]) else none
  | .sipush n => if -32768 ≤ n ∧ n < 32768 then some (0, [], [n]) else none
  | .ldc i => (mCl.find? (fun e => e.1 == mi.1 && e.2.1 == i)).bind (fun e => if -2147483648 ≤ e.2.2.1 ∧ e.2.2.1 < 2147483648 then some (0, [], [e.2.2.1]) else none)
  | .ldc_w i => (mCl.find? (fun e => e.1 == mi.1 && e.2.1 == i)).bind (fun e => if -2147483648 ≤ e.2.2.1 ∧ e.2.2.1 < 2147483648 then some (0, [], [e.2.2.1]) else none)
  | .iload_n k => some (1, [k.val], [])
  | .iload k => some (1, [k], [])
  | .aload_n k => some (16, [k.val], [])
  | .aload k => some (16, [k], [])
  | .istore_n k => some (2, [k.val], [])
  | .istore k => some (2, [k], [])
  | .astore_n k => some (15, [k.val], [])
  | .astore k => some (15, [k], [])
  | .iinc k n => some (3, [k], [n])
  | .iadd => some (4, [], [])
  | .isub => some (5, [], [])
  | .imul => some (6, [], [])
  | .idiv => some (7, [], [])
  | .irem => some (8, [], [])
  | .iand => some (9, [], [])
  | .ior => some (10, [], [])
  | .ixor => some (11, [], [])
  | .ishl => some (12, [], [])
  | .ishr => some (13, [], [])
  | .iushr => some (14, [], [])
  | .goto o => (mJ pc o).map (fun (t : Nat) => (20, [t], []))
  | .ifCond c o => (mJ pc o).map (fun (t : Nat) => (21, [mCc c, t], []))
  | .if_icmp c o => (mJ pc o).map (fun (t : Nat) => (22, [mCc c, t], []))
  | .tableswitch d lo hi os => if 0 ≤ (pc : Int) + d ∧ hi = lo + os.toList.length - 1 ∧ os.toList.all (fun o => decide (0 ≤ (pc : Int) + o)) = true then some (23, ((pc : Int) + d).toNat :: os.toList.map (fun o => ((pc : Int) + o).toNat), [lo]) else none
  | .getfield i => (mFl.find? (fun e => e.1 == mi.1 && e.2.1 == i)).map (fun e => (30, [e.2.2.1, e.2.2.2.1], []))
  | .putfield i => (mFl.find? (fun e => e.1 == mi.1 && e.2.1 == i)).bind (fun e => if (mT e.2.2.1 e.2.2.2.1).2.2.2 = false ∧ (mTyp e.2.2.1 e.2.2.2.1 = .int ∨ mTyp e.2.2.1 e.2.2.2.1 = .boolean) then some (31, [e.2.2.1, e.2.2.2.1, if mTyp e.2.2.1 e.2.2.2.1 = .int then 0 else 1], []) else none)
  | .getstatic i => (mSl.find? (fun e => e.1 == mi.1 && e.2.1 == i)).bind (fun e => if e.2.2.1 ∈ ([100, 101, 102, 103, 104] : List Nat) then some (32, [e.2.2.1], []) else none)
  | .iaload => some (33, [], [])
  | .iastore => some (34, [], [])
  | .baload => some (35, [], [])
  | .bastore => some (36, [], [])
  | .aaload => some (37, [], [])
  | .arraylength => some (38, [], [])
  | .dup => some (40, [], [])
  | .dup2 => some (41, [], [])
  | .pop => some (42, [], [])
  | .invokevirtual i => (mKl.find? (fun e => e.1 == mi.1 && e.2.1 == i)).bind (fun e => if e.2.2.2.1 = 0 ∧ e.2.2.1 < mMl.length then some (51, [e.2.2.1, (mMt e.2.2.1).2.2.2.2.2.2.2.2.2.2 + 1, (mMt e.2.2.1).1], []) else none)
  | .invokestatic i => match mKl.find? (fun e => e.1 == mi.1 && e.2.1 == i) with
    | some e => if (e.2.2.2.1 = 1 ∨ e.2.2.2.1 = 2) ∧ e.2.2.1 < mMl.length then some (50, [e.2.2.1, (mMt e.2.2.1).2.2.2.2.2.2.2.2.2.2], []) else none
    | none => (mAl.find? (fun e => e.1 == mi.1 && e.2.1 == i)).map (fun _ => (70, [], []))
  | .ireturn => match mi.2.2.2.2.1 with
    | some .int => some (60, [], [])
    | some .boolean => some (62, [], [])
    | _ => none
  | .return_ => match mi.2.2.2.2.1 with
    | none => some (61, [], [])
    | _ => none
  | _ => none
def mLn (ins : Instr) (n : Nat) : Bool := match ins with
  | .bipush _ => n == 2
  | .sipush _ => n == 3
  | .ldc _ => n == 2
  | .ldc_w _ => n == 3
  | .iload _ => n == 2
  | .aload _ => n == 2
  | .istore _ => n == 2
  | .astore _ => n == 2
  | .iinc _ _ => n == 3
  | .goto _ => n == 3
  | .ifCond _ _ => n == 3
  | .if_icmp _ _ => n == 3
  | .tableswitch _ _ _ _ => true
  | .getfield _ => n == 3
  | .putfield _ => n == 3
  | .getstatic _ => n == 3
  | .invokevirtual _ => n == 3
  | .invokestatic _ => n == 3
  | _ => n == 1
/-- a method's code as a list of resolved steps, row behind row -/
def mChk (mi : mMi) : mCode → Bool
  | [] => true
  | (pc, ι, len) :: r => (match decode mi.2.2.1 pc with
      | .ok (ins, n) => n == len && mLn ins len && decide (mRes mi pc ins = some ι)
      | _ => false) && (match r with
      | [] => true
      | (pc', _, _) :: _ => pc' == pc + len) && mChk mi r
end
section
/-! rows on cells and locals -/
theorem mCat (ad : mRef → Nat) (v : mRV) : (mCv ad v).category = 1 := by cases v <;> rfl
theorem mCl_lt (ci : Nat) (h : ci < 10) : vwCl[ci]? = some (mRn ci, mT ci, mN ci) := by
  rcases (show ci = 0 ∨ ci = 1 ∨ ci = 2 ∨ ci = 3 ∨ ci = 4 ∨ ci = 5 ∨ ci = 6 ∨ ci = 7 ∨ ci = 8 ∨ ci = 9 by omega) with rfl | rfl | rfl | rfl | rfl | rfl | rfl | rfl | rfl | rfl <;> rfl
theorem mMem_w {mi : mMi} {n : Nat} {w : Cond} (h : lw_tbl[n]? = some w) (hg : goodWord w = true) : w ∈ mWs mi :=
  List.mem_cons_of_mem _ (List.mem_filter.mpr ⟨List.mem_of_getElem? h, hg⟩)
theorem mIn_w {mi : mMi} (ci : Nat) (h : ci < 10) : ∀ w ∈ u_ws (mRn ci) (mT ci) (mN ci), w ∈ mWs mi := by
  intro w hw
  have h1 := mInX ci h w (by rw [mCl_lt ci h]; exact hw)
  refine List.mem_cons_of_mem _ (List.mem_filter.mpr ⟨h1, ?_⟩)
  obtain ⟨k, -, rfl⟩ := List.mem_map.mp hw
  unfold u_lay
  split <;> rfl
theorem mGd : ∀ w ∈ mWds, goodWord w = true := fun w h => (List.mem_filter.mp h).2
theorem mMt_mem {m : Nat} (h : m < mMl.length) : mMt m ∈ mMl := by
  unfold mMt
  rw [List.getD_eq_getElem?_getD, List.getElem?_eq_getElem h]
  exact List.getElem_mem h
theorem mGoodIn {mi mj : mMi} (hj : mj ∈ mMl) : GoodIn (mWs mi) (mWs mj) := by
  intro w hw
  have key : w ∈ mWds := by
    rcases List.mem_cons.mp hw with rfl | h
    · exact List.mem_filter.mpr ⟨List.mem_of_getElem? (mMl_code mj hj), rfl⟩
    · exact h
  exact ⟨List.mem_cons_of_mem _ key, good_of_word (mGd w key)⟩
theorem mShape_ok : ∀ r ∈ mL, (match mSh r.1 with
    | .inl (ci, fs) => decide (ci < 10) && decide (fs.length = mN ci) && fs.all (fun f => match f with
      | none => true
      | some (t, none) => decide ((t, r.2) ∈ mLq)
      | some (t, some i) => decide ((t, i) ∈ mLq))
    | .inr (k, n) => decide (k < 3) && decide (n < 65536)) = true := by decide +kernel
theorem mNet_in (i : Fin 8) : ((4, i) : mRef) ∈ mLq := by
  have : ∀ i : Fin 8, ((4, i) : mRef) ∈ mLq := by decide +kernel
  exact this i
theorem mIn_L {r : mRef} (h : r ∈ mLq) (hs : ∀ n, mSh r.1 ≠ .inr (3, n)) : r ∈ mL := by
  rcases List.mem_append.mp h with h | h
  · exact h
  · obtain ⟨t, ht, rfl⟩ := List.mem_map.mp h
    rcases List.mem_cons.mp ht with rfl | ht
    · exact absurd rfl (hs 6)
    rcases List.mem_cons.mp ht with rfl | ht
    · exact absurd rfl (hs 6)
    rcases List.mem_cons.mp ht with rfl | ht
    · exact absurd rfl (hs 6)
    rcases List.mem_cons.mp ht with rfl | ht
    · exact absurd rfl (hs 66)
    rcases List.mem_cons.mp ht with rfl | ht
    · exact absurd rfl (hs 66)
    cases ht
theorem mIn_T {r : mRef} {n : Nat} (h : r ∈ mLq) (hs : mSh r.1 = .inr (3, n)) : r.1 ∈ ([100, 101, 102, 103, 104] : List Nat) ∧ r.2 = 0 ∧ n = (mTab r.1).length := by
  rcases List.mem_append.mp h with h | h
  · have h1 := mShape_ok r h
    rw [hs] at h1
    simp at h1
  · obtain ⟨t, ht, rfl⟩ := List.mem_map.mp h
    refine ⟨ht, rfl, ?_⟩
    rcases List.mem_cons.mp ht with rfl | ht
    · cases hs; rfl
    rcases List.mem_cons.mp ht with rfl | ht
    · cases hs; rfl
    rcases List.mem_cons.mp ht with rfl | ht
    · cases hs; rfl
    rcases List.mem_cons.mp ht with rfl | ht
    · cases hs; rfl
    rcases List.mem_cons.mp ht with rfl | ht
    · cases hs; rfl
    cases ht
theorem mElt_congr {g : mG} {h h' : mMem} {r : mRef} (e : ∀ k, h' r.1 r.2 k = h r.1 r.2 k) : mElt g h' r = mElt g h r := by
  have e1 : ∀ (fs : List mFd) (k : Nat), mFs g h' r fs k = mFs g h r fs k := by
    intro fs
    induction fs with
    | nil => intro k; rfl
    | cons f fs ih =>
      intro k
      simp only [mFs]
      rw [ih]
      congr 1
      unfold mFv
      split
      · rw [e]
      · rfl
      · rfl
  have e2 : (fun k => Int32.ofInt (h' r.1 r.2 k)) = (fun k => Int32.ofInt (h r.1 r.2 k)) := funext fun k => by rw [e]
  unfold mElt
  split
  · rw [e1]
  · rw [e2]
  · rw [e2]
  · rfl
theorem mW_at {g : mG} {h : mMem} {r : mRef} {q : Nat} (hq : mL[q]? = some r) : (mW g h)[q]? = some (g.2.2 r, mElt g h r) := by
  unfold mW
  rw [List.getElem?_map, hq]
  rfl
theorem mW_set {g : mG} {h h' : mMem} {r : mRef} {q : Nat} (hq : mL[q]? = some r) (e : ∀ r' : mRef, r' ≠ r → ∀ k, h' r'.1 r'.2 k = h r'.1 r'.2 k) : (mW g h).set q (g.2.2 r, mElt g h' r) = mW g h' := by
  apply List.ext_getElem?
  intro j
  by_cases hj : j = q
  · subst hj
    have hl : j < (mW g h).length := by
      have := (List.getElem?_eq_some_iff.mp hq).1
      unfold mW
      rw [List.length_map]
      exact this
    rw [List.getElem?_set_self hl, mW_at hq]
  · rw [List.getElem?_set_ne (Ne.symm hj)]
    unfold mW
    rw [List.getElem?_map, List.getElem?_map]
    cases hr : mL[j]? with
    | none => rfl
    | some r' =>
      have hne : r' ≠ r := by
        intro hh
        subst hh
        have h1 := List.getElem?_eq_some_iff.mp hr
        have h2 := List.getElem?_eq_some_iff.mp hq
        obtain ⟨l1, e1⟩ := h1
        obtain ⟨l2, e2⟩ := h2
        have hp := List.pairwise_iff_getElem.mp mL_nodup
        rcases Nat.lt_or_gt_of_ne hj with hlt | hlt
        · exact hp j q l1 l2 hlt (e1.trans e2.symm)
        · exact hp q j l2 l1 hlt (e2.trans e1.symm)
      show some (g.2.2 r', mElt g h r') = some (g.2.2 r', mElt g h' r')
      rw [mElt_congr (e r' hne)]
theorem mSet_ne {h : mMem} {r r' : mRef} {k : Nat} {v : Int} (hne : r' ≠ r) : ∀ j, mSet h r.1 r.2 k v r'.1 r'.2 j = h r'.1 r'.2 j := by
  intro j
  unfold mSet
  rw [if_neg]
  rintro ⟨a, b, -⟩
  exact hne (Prod.ext a b)
theorem mFs_set {g : mG} {h : mMem} {r : mRef} {v : Int} {k : Nat} : ∀ (fs : List mFd) (j : Nat), fs[k]? = some none → (mFs g h r fs j).set k (.int (Int32.ofInt v)) = mFs g (mSet h r.1 r.2 (j + k) v) r fs j := by
  intro fs j hk
  apply List.ext_getElem?
  intro q
  rw [mFs_get]
  by_cases hq : q = k
  · subst hq
    have hl : q < (mFs g h r fs j).length := by
      rw [mFs_len]
      exact (List.getElem?_eq_some_iff.mp hk).1
    rw [List.getElem?_set_self hl, hk]
    simp [mFv, mSet]
  · rw [List.getElem?_set_ne (Ne.symm hq), mFs_get]
    cases fs[q]? with
    | none => rfl
    | some f =>
      simp only [Option.map_some, mFv]
      cases f with
      | none =>
        simp only [mSet]
        rw [if_neg]
        rintro ⟨-, -, z⟩
        omega
      | some f =>
        obtain ⟨t, o⟩ := f
        cases o <;> rfl
theorem mMok_set {h : mMem} {t : Nat} {i : Fin 8} {k : Nat} {v : Int} (hh : mMok h) (hv : mIr v) : mMok (mSet h t i k v) := by
  intro a b c
  unfold mSet
  split
  · exact hv
  · exact hh a b c
theorem mMok_cpy {h : mMem} {rs rd : mRef} {sp dp n : Nat} (hh : mMok h) : mMok (mCpy h rs rd sp dp n) := by
  intro a b c
  unfold mCpy
  split
  · exact hh _ _ _
  · exact hh a b c
def mLv (g : mG) (xs : mXs) : List (Nat × Value) := (List.range xs.length).filterMap (fun k => match xs[k]? with
  | some (some v) => some (k, mCv g.2.2 v)
  | _ => none)
theorem mLv_mem {g : mG} {xs : mXs} {k : Nat} {v : mRV} (h : xs[k]? = some (some v)) : (k, mCv g.2.2 v) ∈ mLv g xs := by
  unfold mLv
  rw [List.mem_filterMap]
  exact ⟨k, List.mem_range.mpr (List.getElem?_eq_some_iff.mp h).1, by rw [h]⟩
theorem mLv_has {g : mG} {ls : Array Slot} {nL : Nat} {xs : mXs} (L : mLs g ls nL xs) : lv_has ls nL (mLv g xs) := by
  refine ⟨L.1, L.2.2.1, fun q hq => ?_⟩
  unfold mLv at hq
  obtain ⟨k, -, hk⟩ := List.mem_filterMap.mp hq
  split at hk
  · next v hv =>
    cases hk
    exact L.2.2.2 k v hv
  · cases hk
theorem mLs_store {g : mG} {ls' : Array Slot} {nL : Nat} {xs : mXs} {i : Nat} {v : mRV} (hlen : xs.length = nL) (h : lv_has ls' nL ((i, mCv g.2.2 v) :: (mLv g xs).filter (fun q => !(q.1 == i) && !(q.1 + 1 == i && q.2.category == 2)))) : mLs g ls' nL (xs.set i (some v)) := by
  refine ⟨h.1, by rw [List.length_set]; exact hlen, h.2.1, fun k w hk => ?_⟩
  by_cases hi : k = i
  · subst hi
    have hl : k < xs.length := by
      have := (List.getElem?_eq_some_iff.mp hk).1
      rw [List.length_set] at this
      exact this
    rw [List.getElem?_set_self hl] at hk
    cases hk
    exact h.2.2 _ List.mem_cons_self
  · rw [List.getElem?_set_ne (Ne.symm hi)] at hk
    refine h.2.2 (k, mCv g.2.2 w) (List.mem_cons_of_mem _ (List.mem_filter.mpr ⟨mLv_mem hk, ?_⟩))
    simp [hi, mCat]
theorem mOk.push {xs : mXs} {st : List mRV} {h : mMem} {v : mRV} (O : mOk xs st h) (hv : mV v) : mOk xs (v :: st) h :=
  ⟨O.1, fun w hw => (List.mem_cons.mp hw).elim (fun e => e ▸ hv) (O.2.1 w), O.2.2⟩
theorem mOk.pop {xs : mXs} {st : List mRV} {h : mMem} {v : mRV} (O : mOk xs (v :: st) h) : mOk xs st h :=
  ⟨O.1, fun w hw => O.2.1 w (List.mem_cons_of_mem _ hw), O.2.2⟩
theorem mOk.top {xs : mXs} {st : List mRV} {h : mMem} {v : mRV} (O : mOk xs (v :: st) h) : mV v := O.2.1 v List.mem_cons_self
theorem mOk.mem {xs : mXs} {st : List mRV} {h h' : mMem} (O : mOk xs st h) (hh : mMok h') : mOk xs st h' := ⟨O.1, O.2.1, hh⟩
theorem mOk.loc {xs : mXs} {st : List mRV} {h : mMem} {k : Nat} {v : mRV} (O : mOk xs st h) (hk : xs[k]? = some (some v)) : mV v := O.1 v (List.mem_of_getElem? hk)
theorem mOk.setx {xs : mXs} {st : List mRV} {h : mMem} {k : Nat} {v : mRV} (O : mOk xs st h) (hv : mV v) : mOk (xs.set k (some v)) st h := by
  refine ⟨fun w hw => ?_, O.2⟩
  rcases List.mem_or_eq_of_mem_set hw with h1 | h1
  · exact O.1 w h1
  · cases h1; exact hv
end
section
section Snd
variable {l : Launch} {g : mG} {mi : mMi} {d pc : Nat} {K : Option mRV → mMem → Prop} {xs : mXs} {st : List mRV} {h : mMem}

theorem r_iconst {v : Int} (hd : decode mi.2.2.1 pc = .ok (.iconst v, 1)) (hv : mIr v) (k : mGo l g mi d (pc + 1) xs (.inl v :: st) h K) : mGo l g mi d pc xs st h K := by
  intro p e s m args below meth c H locs ls C P D S L O
  obtain ⟨hx, hb, hml, hr, hown, hts, hlk, hK, hZ⟩ := id C
  exact lv_iconst hx hb hd rfl (k p e s m args below meth c H locs ls C P D S L (O.push hv))
theorem r_bipush {v : Int} (hd : decode mi.2.2.1 pc = .ok (.bipush v, 2)) (h8 : -128 ≤ v ∧ v < 128) (hv : mIr v) (k : mGo l g mi d (pc + 2) xs (.inl v :: st) h K) : mGo l g mi d pc xs st h K := by
  intro p e s m args below meth c H locs ls C P D S L O
  obtain ⟨hx, hb, hml, hr, hown, hts, hlk, hK, hZ⟩ := id C
  exact lv_bipush hx hb hd (Int32.toInt_inj.mp (by rw [mTo hv, Int8.toInt_toInt32, Int8.toInt_ofInt_of_le h8.1 (by omega)])) (k p e s m args below meth c H locs ls C P D S L (O.push hv))
theorem r_sipush {v : Int} (hd : decode mi.2.2.1 pc = .ok (.sipush v, 3)) (h8 : -32768 ≤ v ∧ v < 32768) (hv : mIr v) (k : mGo l g mi d (pc + 3) xs (.inl v :: st) h K) : mGo l g mi d pc xs st h K := by
  intro p e s m args below meth c H locs ls C P D S L O
  obtain ⟨hx, hb, hml, hr, hown, hts, hlk, hK, hZ⟩ := id C
  exact lv_sipush hx hb hd (Int32.toInt_inj.mp (by rw [mTo hv, Int16.toInt_toInt32, Int16.toInt_ofInt_of_le h8.1 (by omega)])) (k p e s m args below meth c H locs ls C P D S L (O.push hv))
theorem r_ldc {v : Int} {i : Nat} (hd : decode mi.2.2.1 pc = .ok (.ldc i, 2)) (hc : Cond.constant (mRn mi.1) i (Int32.ofInt v) ∈ mWs mi) (hv : mIr v) (k : mGo l g mi d (pc + 2) xs (.inl v :: st) h K) : mGo l g mi d pc xs st h K := by
  intro p e s m args below meth c H locs ls C P D S L O
  obtain ⟨hx, hb, hml, hr, hown, hts, hlk, hK, hZ⟩ := id C
  exact lv_ldc hx hb hown (hts _ hc) hd (k p e s m args below meth c H locs ls C P D S L (O.push hv))
theorem r_ldcw {v : Int} {i : Nat} (hd : decode mi.2.2.1 pc = .ok (.ldc_w i, 3)) (hc : Cond.constant (mRn mi.1) i (Int32.ofInt v) ∈ mWs mi) (hv : mIr v) (k : mGo l g mi d (pc + 3) xs (.inl v :: st) h K) : mGo l g mi d pc xs st h K := by
  intro p e s m args below meth c H locs ls C P D S L O
  obtain ⟨hx, hb, hml, hr, hown, hts, hlk, hK, hZ⟩ := id C
  exact lv_ldcw hx hb hown (hts _ hc) hd (k p e s m args below meth c H locs ls C P D S L (O.push hv))
theorem r_iload_n {k : Fin 4} {v : Int} (hd : decode mi.2.2.1 pc = .ok (.iload_n k, 1)) (hk : xs[k.val]? = some (some (.inl v))) (kk : mGo l g mi d (pc + 1) xs (.inl v :: st) h K) : mGo l g mi d pc xs st h K := by
  intro p e s m args below meth c H locs ls C P D S L O
  obtain ⟨hx, hb, hml, hr, hown, hts, hlk, hK, hZ⟩ := id C
  exact lv_iload_n hx hb hd rfl (L.2.2.2 k.val _ hk) (kk p e s m args below meth c H locs ls C P D S L (O.push (O.loc hk)))
theorem r_iload {k : Nat} {v : Int} (hd : decode mi.2.2.1 pc = .ok (.iload k, 2)) (hk : xs[k]? = some (some (.inl v))) (kk : mGo l g mi d (pc + 2) xs (.inl v :: st) h K) : mGo l g mi d pc xs st h K := by
  intro p e s m args below meth c H locs ls C P D S L O
  obtain ⟨hx, hb, hml, hr, hown, hts, hlk, hK, hZ⟩ := id C
  exact lv_iload hx hb hd (L.2.2.2 k _ hk) (kk p e s m args below meth c H locs ls C P D S L (O.push (O.loc hk)))
theorem r_aload_n {k : Fin 4} {v : mRef} (hd : decode mi.2.2.1 pc = .ok (.aload_n k, 1)) (hk : xs[k.val]? = some (some (.inr v))) (kk : mGo l g mi d (pc + 1) xs (.inr v :: st) h K) : mGo l g mi d pc xs st h K := by
  intro p e s m args below meth c H locs ls C P D S L O
  obtain ⟨hx, hb, hml, hr, hown, hts, hlk, hK, hZ⟩ := id C
  exact lv_aload_n hx hb hd rfl (L.2.2.2 k.val _ hk) (kk p e s m args below meth c H locs ls C P D S L (O.push (O.loc hk)))
theorem r_aload {k : Nat} {v : mRef} (hd : decode mi.2.2.1 pc = .ok (.aload k, 2)) (hk : xs[k]? = some (some (.inr v))) (kk : mGo l g mi d (pc + 2) xs (.inr v :: st) h K) : mGo l g mi d pc xs st h K := by
  intro p e s m args below meth c H locs ls C P D S L O
  obtain ⟨hx, hb, hml, hr, hown, hts, hlk, hK, hZ⟩ := id C
  exact lv_aload hx hb hd (L.2.2.2 k _ hk) (kk p e s m args below meth c H locs ls C P D S L (O.push (O.loc hk)))
theorem r_istore_n {k : Fin 4} {v : Int} (hd : decode mi.2.2.1 pc = .ok (.istore_n k, 1)) (hk0 : k.val < xs.length) (kk : mGo l g mi d (pc + 1) (xs.set k.val (some (.inl v))) st h K) : mGo l g mi d pc xs (.inl v :: st) h K := by
  intro p e s m args below meth c H locs ls C P D S L O
  obtain ⟨hx, hb, hml, hr, hown, hts, hlk, hK, hZ⟩ := id C
  have hk : k.val < mi.2.2.2.1 := L.2.1 ▸ hk0
  exact lv_istore_n hx hb hd rfl (mLv_has L) hk rfl (fun ls' hl' => kk p e s m args below meth c H locs ls' C P D S (mLs_store (v := .inl v) L.2.1 hl') (O.pop.setx O.top))
theorem r_istore {k : Nat} {v : Int} (hd : decode mi.2.2.1 pc = .ok (.istore k, 2)) (hk0 : k < xs.length) (kk : mGo l g mi d (pc + 2) (xs.set k (some (.inl v))) st h K) : mGo l g mi d pc xs (.inl v :: st) h K := by
  intro p e s m args below meth c H locs ls C P D S L O
  obtain ⟨hx, hb, hml, hr, hown, hts, hlk, hK, hZ⟩ := id C
  have hk : k < mi.2.2.2.1 := L.2.1 ▸ hk0
  exact lv_istore hx hb hd (mLv_has L) hk rfl (fun ls' hl' => kk p e s m args below meth c H locs ls' C P D S (mLs_store (v := .inl v) L.2.1 hl') (O.pop.setx O.top))
theorem r_astore_n {k : Fin 4} {v : mRef} (hd : decode mi.2.2.1 pc = .ok (.astore_n k, 1)) (hk0 : k.val < xs.length) (kk : mGo l g mi d (pc + 1) (xs.set k.val (some (.inr v))) st h K) : mGo l g mi d pc xs (.inr v :: st) h K := by
  intro p e s m args below meth c H locs ls C P D S L O
  obtain ⟨hx, hb, hml, hr, hown, hts, hlk, hK, hZ⟩ := id C
  have hk : k.val < mi.2.2.2.1 := L.2.1 ▸ hk0
  exact lv_astore_n hx hb hd rfl (mLv_has L) hk rfl (fun ls' hl' => kk p e s m args below meth c H locs ls' C P D S (mLs_store (v := .inr v) L.2.1 hl') (O.pop.setx O.top))
theorem r_astore {k : Nat} {v : mRef} (hd : decode mi.2.2.1 pc = .ok (.astore k, 2)) (hk0 : k < xs.length) (kk : mGo l g mi d (pc + 2) (xs.set k (some (.inr v))) st h K) : mGo l g mi d pc xs (.inr v :: st) h K := by
  intro p e s m args below meth c H locs ls C P D S L O
  obtain ⟨hx, hb, hml, hr, hown, hts, hlk, hK, hZ⟩ := id C
  have hk : k < mi.2.2.2.1 := L.2.1 ▸ hk0
  exact lv_astore hx hb hd (mLv_has L) hk rfl (fun ls' hl' => kk p e s m args below meth c H locs ls' C P D S (mLs_store (v := .inr v) L.2.1 hl') (O.pop.setx O.top))
theorem r_iinc {k : Nat} {n v : Int} (hd : decode mi.2.2.1 pc = .ok (.iinc k n, 3)) (hk : xs[k]? = some (some (.inl v))) (kk : mGo l g mi d (pc + 3) (xs.set k (some (.inl (mWr (v + n))))) st h K) : mGo l g mi d pc xs st h K := by
  intro p e s m args below meth c H locs ls C P D S L O
  obtain ⟨hx, hb, hml, hr, hown, hts, hlk, hK, hZ⟩ := id C
  have hk0 : k < mi.2.2.2.1 := L.2.1 ▸ (List.getElem?_eq_some_iff.mp hk).1
  obtain ⟨q, hq⟩ := List.getElem?_of_mem (mLv_mem (g := g) hk)
  exact lv_iinc hx hb hd (mLv_has L) hq (v := Int32.ofInt (mWr (v + n))) (by rw [mOf_wr, Int32.ofInt_add]) hk0 rfl (fun ls' hl' => kk p e s m args below meth c H locs ls' C P D S (mLs_store (v := .inl (mWr (v + n))) L.2.1 hl') (O.setx (mWr_ir _)))
theorem r_iadd {a b : Int} (hd : decode mi.2.2.1 pc = .ok (.iadd, 1)) (kk : mGo l g mi d (pc + 1) xs (.inl (mWr (a + b)) :: st) h K) : mGo l g mi d pc xs (.inl b :: .inl a :: st) h K := by
  intro p e s m args below meth c H locs ls C P D S L O
  obtain ⟨hx, hb, hml, hr, hown, hts, hlk, hK, hZ⟩ := id C
  have hW := kk p e s m args below meth c H locs ls C P D S L (O.pop.pop.push (mIr_to _))
  refine lv_iadd hx hb hd ?_
  have hv : Int32.ofInt (mWr (a + b)) = _ := (mOf_wr _).trans (Int32.ofInt_add a b)
  rw [← hv]
  exact hW
theorem r_isub {a b : Int} (hd : decode mi.2.2.1 pc = .ok (.isub, 1)) (kk : mGo l g mi d (pc + 1) xs (.inl (mWr (a - b)) :: st) h K) : mGo l g mi d pc xs (.inl b :: .inl a :: st) h K := by
  intro p e s m args below meth c H locs ls C P D S L O
  obtain ⟨hx, hb, hml, hr, hown, hts, hlk, hK, hZ⟩ := id C
  have hW := kk p e s m args below meth c H locs ls C P D S L (O.pop.pop.push (mIr_to _))
  refine lv_isub hx hb hd ?_
  have hv : Int32.ofInt (mWr (a - b)) = _ := (mOf_wr _).trans (Int32.ofInt_sub a b)
  rw [← hv]
  exact hW
theorem r_imul {a b : Int} (hd : decode mi.2.2.1 pc = .ok (.imul, 1)) (kk : mGo l g mi d (pc + 1) xs (.inl (mWr (a * b)) :: st) h K) : mGo l g mi d pc xs (.inl b :: .inl a :: st) h K := by
  intro p e s m args below meth c H locs ls C P D S L O
  obtain ⟨hx, hb, hml, hr, hown, hts, hlk, hK, hZ⟩ := id C
  have hW := kk p e s m args below meth c H locs ls C P D S L (O.pop.pop.push (mIr_to _))
  refine lv_imul hx hb hd ?_
  have hv : Int32.ofInt (mWr (a * b)) = _ := (mOf_wr _).trans (Int32.ofInt_mul a b)
  rw [← hv]
  exact hW
theorem r_iand {a b : Int} (hd : decode mi.2.2.1 pc = .ok (.iand, 1)) (kk : mGo l g mi d (pc + 1) xs (.inl (mAnd a b) :: st) h K) : mGo l g mi d pc xs (.inl b :: .inl a :: st) h K := by
  intro p e s m args below meth c H locs ls C P D S L O
  obtain ⟨hx, hb, hml, hr, hown, hts, hlk, hK, hZ⟩ := id C
  have hW := kk p e s m args below meth c H locs ls C P D S L (O.pop.pop.push (mIr_to _))
  refine lv_iand hx hb hd ?_
  have hv : Int32.ofInt (mAnd a b) = _ := Int32.ofInt_toInt _
  rw [← hv]
  exact hW
theorem r_ior {a b : Int} (hd : decode mi.2.2.1 pc = .ok (.ior, 1)) (kk : mGo l g mi d (pc + 1) xs (.inl (mOr a b) :: st) h K) : mGo l g mi d pc xs (.inl b :: .inl a :: st) h K := by
  intro p e s m args below meth c H locs ls C P D S L O
  obtain ⟨hx, hb, hml, hr, hown, hts, hlk, hK, hZ⟩ := id C
  have hW := kk p e s m args below meth c H locs ls C P D S L (O.pop.pop.push (mIr_to _))
  refine lv_ior hx hb hd ?_
  have hv : Int32.ofInt (mOr a b) = _ := Int32.ofInt_toInt _
  rw [← hv]
  exact hW
theorem r_ixor {a b : Int} (hd : decode mi.2.2.1 pc = .ok (.ixor, 1)) (kk : mGo l g mi d (pc + 1) xs (.inl (mXor a b) :: st) h K) : mGo l g mi d pc xs (.inl b :: .inl a :: st) h K := by
  intro p e s m args below meth c H locs ls C P D S L O
  obtain ⟨hx, hb, hml, hr, hown, hts, hlk, hK, hZ⟩ := id C
  have hW := kk p e s m args below meth c H locs ls C P D S L (O.pop.pop.push (mIr_to _))
  refine lv_ixor hx hb hd ?_
  have hv : Int32.ofInt (mXor a b) = _ := Int32.ofInt_toInt _
  rw [← hv]
  exact hW
theorem r_ishl {a b : Int} (hd : decode mi.2.2.1 pc = .ok (.ishl, 1)) (kk : mGo l g mi d (pc + 1) xs (.inl (mShl a b) :: st) h K) : mGo l g mi d pc xs (.inl b :: .inl a :: st) h K := by
  intro p e s m args below meth c H locs ls C P D S L O
  obtain ⟨hx, hb, hml, hr, hown, hts, hlk, hK, hZ⟩ := id C
  have hW := kk p e s m args below meth c H locs ls C P D S L (O.pop.pop.push (mIr_to _))
  refine lv_ishl hx hb hd ?_
  have hv : Int32.ofInt (mShl a b) = _ := Int32.ofInt_toInt _
  rw [← hv]
  exact hW
theorem r_ishr {a b : Int} (hd : decode mi.2.2.1 pc = .ok (.ishr, 1)) (kk : mGo l g mi d (pc + 1) xs (.inl (mShr a b) :: st) h K) : mGo l g mi d pc xs (.inl b :: .inl a :: st) h K := by
  intro p e s m args below meth c H locs ls C P D S L O
  obtain ⟨hx, hb, hml, hr, hown, hts, hlk, hK, hZ⟩ := id C
  have hW := kk p e s m args below meth c H locs ls C P D S L (O.pop.pop.push (mIr_to _))
  refine lv_ishr hx hb hd ?_
  have hv : Int32.ofInt (mShr a b) = _ := Int32.ofInt_toInt _
  rw [← hv]
  exact hW
theorem r_iushr {a b : Int} (hd : decode mi.2.2.1 pc = .ok (.iushr, 1)) (kk : mGo l g mi d (pc + 1) xs (.inl (mUsh a b) :: st) h K) : mGo l g mi d pc xs (.inl b :: .inl a :: st) h K := by
  intro p e s m args below meth c H locs ls C P D S L O
  obtain ⟨hx, hb, hml, hr, hown, hts, hlk, hK, hZ⟩ := id C
  have hW := kk p e s m args below meth c H locs ls C P D S L (O.pop.pop.push (mIr_to _))
  exact lv_iushr hx hb hd (v := Int32.ofInt (mUsh a b)) (Int32.ofInt_toInt _).symm hW
theorem r_idiv {a b : Int} (hd : decode mi.2.2.1 pc = .ok (.idiv, 1)) (hn : b ≠ 0) (kk : mGo l g mi d (pc + 1) xs (.inl (mDiv a b) :: st) h K) : mGo l g mi d pc xs (.inl b :: .inl a :: st) h K := by
  intro p e s m args below meth c H locs ls C P D S L O
  obtain ⟨hx, hb, hml, hr, hown, hts, hlk, hK, hZ⟩ := id C
  have hW := kk p e s m args below meth c H locs ls C P D S L (O.pop.pop.push (mIr_to _))
  refine lv_idiv hx hb hd (fun q => hn ((mInj O.top ⟨by decide, by decide⟩).mp q)) ?_
  have hv : Int32.ofInt (mDiv a b) = _ := Int32.ofInt_toInt _
  rw [← hv]
  exact hW
theorem r_irem {a b : Int} (hd : decode mi.2.2.1 pc = .ok (.irem, 1)) (hn : b ≠ 0) (kk : mGo l g mi d (pc + 1) xs (.inl (mRem a b) :: st) h K) : mGo l g mi d pc xs (.inl b :: .inl a :: st) h K := by
  intro p e s m args below meth c H locs ls C P D S L O
  obtain ⟨hx, hb, hml, hr, hown, hts, hlk, hK, hZ⟩ := id C
  have hW := kk p e s m args below meth c H locs ls C P D S L (O.pop.pop.push (mIr_to _))
  refine lv_irem hx hb hd (fun q => hn ((mInj O.top ⟨by decide, by decide⟩).mp q)) ?_
  have hv : Int32.ofInt (mRem a b) = _ := Int32.ofInt_toInt _
  rw [← hv]
  exact hW
theorem r_goto {o : Int} {t : Nat} (hd : decode mi.2.2.1 pc = .ok (.goto o, 3)) (ht : (pc : Int) + o = (t : Int)) (kk : mGo l g mi d t xs st h K) : mGo l g mi d pc xs st h K := by
  intro p e s m args below meth c H locs ls C P D S L O
  obtain ⟨hx, hb, hml, hr, hown, hts, hlk, hK, hZ⟩ := id C
  exact lv_goto hx hb hd ht (kk p e s m args below meth c H locs ls C P D S L O)
theorem r_if_eq {a o : Int} {t : Nat} (hd : decode mi.2.2.1 pc = .ok (.ifCond .eq o, 3)) (ht : (pc : Int) + o = (t : Int)) (k1 : mCmp 0 a 0 → mGo l g mi d t xs st h K) (k2 : ¬ mCmp 0 a 0 → mGo l g mi d (pc + 3) xs st h K) : mGo l g mi d pc xs (.inl a :: st) h K := by
  intro p e s m args below meth c H locs ls C P D S L O
  obtain ⟨hx, hb, hml, hr, hown, hts, hlk, hK, hZ⟩ := id C
  have hz : mIr 0 := ⟨by decide, by decide⟩
  have hiff := (mInj (show mIr a from O.top) hz)
  exact lv_if_eq hx hb hd ht (fun q => k1 (hiff.mp q) p e s m args below meth c H locs ls C P D S L O.pop) (fun q => k2 (fun z => q (hiff.mpr z)) p e s m args below meth c H locs ls C P D S L O.pop)
theorem r_icmp_eq {a b o : Int} {t : Nat} (hd : decode mi.2.2.1 pc = .ok (.if_icmp .eq o, 3)) (ht : (pc : Int) + o = (t : Int)) (k1 : mCmp 0 a b → mGo l g mi d t xs st h K) (k2 : ¬ mCmp 0 a b → mGo l g mi d (pc + 3) xs st h K) : mGo l g mi d pc xs (.inl b :: .inl a :: st) h K := by
  intro p e s m args below meth c H locs ls C P D S L O
  obtain ⟨hx, hb, hml, hr, hown, hts, hlk, hK, hZ⟩ := id C
  have hiff := (mInj (show mIr a from O.pop.top) (show mIr b from O.top))
  exact lv_icmp_eq hx hb hd ht (fun q => k1 (hiff.mp q) p e s m args below meth c H locs ls C P D S L O.pop.pop) (fun q => k2 (fun z => q (hiff.mpr z)) p e s m args below meth c H locs ls C P D S L O.pop.pop)
theorem r_if_ne {a o : Int} {t : Nat} (hd : decode mi.2.2.1 pc = .ok (.ifCond .ne o, 3)) (ht : (pc : Int) + o = (t : Int)) (k1 : mCmp 1 a 0 → mGo l g mi d t xs st h K) (k2 : ¬ mCmp 1 a 0 → mGo l g mi d (pc + 3) xs st h K) : mGo l g mi d pc xs (.inl a :: st) h K := by
  intro p e s m args below meth c H locs ls C P D S L O
  obtain ⟨hx, hb, hml, hr, hown, hts, hlk, hK, hZ⟩ := id C
  have hz : mIr 0 := ⟨by decide, by decide⟩
  have hiff := (not_congr (mInj (show mIr a from O.top) hz))
  exact lv_if_ne hx hb hd ht (fun q => k1 (hiff.mp q) p e s m args below meth c H locs ls C P D S L O.pop) (fun q => k2 (fun z => hiff.mpr z q) p e s m args below meth c H locs ls C P D S L O.pop)
theorem r_icmp_ne {a b o : Int} {t : Nat} (hd : decode mi.2.2.1 pc = .ok (.if_icmp .ne o, 3)) (ht : (pc : Int) + o = (t : Int)) (k1 : mCmp 1 a b → mGo l g mi d t xs st h K) (k2 : ¬ mCmp 1 a b → mGo l g mi d (pc + 3) xs st h K) : mGo l g mi d pc xs (.inl b :: .inl a :: st) h K := by
  intro p e s m args below meth c H locs ls C P D S L O
  obtain ⟨hx, hb, hml, hr, hown, hts, hlk, hK, hZ⟩ := id C
  have hiff := (not_congr (mInj (show mIr a from O.pop.top) (show mIr b from O.top)))
  exact lv_icmp_ne hx hb hd ht (fun q => k1 (hiff.mp q) p e s m args below meth c H locs ls C P D S L O.pop.pop) (fun q => k2 (fun z => hiff.mpr z q) p e s m args below meth c H locs ls C P D S L O.pop.pop)
theorem r_if_lt {a o : Int} {t : Nat} (hd : decode mi.2.2.1 pc = .ok (.ifCond .lt o, 3)) (ht : (pc : Int) + o = (t : Int)) (k1 : mCmp 2 a 0 → mGo l g mi d t xs st h K) (k2 : ¬ mCmp 2 a 0 → mGo l g mi d (pc + 3) xs st h K) : mGo l g mi d pc xs (.inl a :: st) h K := by
  intro p e s m args below meth c H locs ls C P D S L O
  obtain ⟨hx, hb, hml, hr, hown, hts, hlk, hK, hZ⟩ := id C
  have hz : mIr 0 := ⟨by decide, by decide⟩
  have hiff := (mLt (show mIr a from O.top) hz)
  exact lv_if_lt hx hb hd ht (fun q => k1 (hiff.mp q) p e s m args below meth c H locs ls C P D S L O.pop) (fun q => k2 (fun z => q (hiff.mpr z)) p e s m args below meth c H locs ls C P D S L O.pop)
theorem r_icmp_lt {a b o : Int} {t : Nat} (hd : decode mi.2.2.1 pc = .ok (.if_icmp .lt o, 3)) (ht : (pc : Int) + o = (t : Int)) (k1 : mCmp 2 a b → mGo l g mi d t xs st h K) (k2 : ¬ mCmp 2 a b → mGo l g mi d (pc + 3) xs st h K) : mGo l g mi d pc xs (.inl b :: .inl a :: st) h K := by
  intro p e s m args below meth c H locs ls C P D S L O
  obtain ⟨hx, hb, hml, hr, hown, hts, hlk, hK, hZ⟩ := id C
  have hiff := (mLt (show mIr a from O.pop.top) (show mIr b from O.top))
  exact lv_icmp_lt hx hb hd ht (fun q => k1 (hiff.mp q) p e s m args below meth c H locs ls C P D S L O.pop.pop) (fun q => k2 (fun z => q (hiff.mpr z)) p e s m args below meth c H locs ls C P D S L O.pop.pop)
theorem r_if_ge {a o : Int} {t : Nat} (hd : decode mi.2.2.1 pc = .ok (.ifCond .ge o, 3)) (ht : (pc : Int) + o = (t : Int)) (k1 : mCmp 3 a 0 → mGo l g mi d t xs st h K) (k2 : ¬ mCmp 3 a 0 → mGo l g mi d (pc + 3) xs st h K) : mGo l g mi d pc xs (.inl a :: st) h K := by
  intro p e s m args below meth c H locs ls C P D S L O
  obtain ⟨hx, hb, hml, hr, hown, hts, hlk, hK, hZ⟩ := id C
  have hz : mIr 0 := ⟨by decide, by decide⟩
  have hiff := (mLe hz (show mIr a from O.top))
  exact lv_if_ge hx hb hd ht (fun q => k1 (hiff.mp q) p e s m args below meth c H locs ls C P D S L O.pop) (fun q => k2 (fun z => q (hiff.mpr z)) p e s m args below meth c H locs ls C P D S L O.pop)
theorem r_icmp_ge {a b o : Int} {t : Nat} (hd : decode mi.2.2.1 pc = .ok (.if_icmp .ge o, 3)) (ht : (pc : Int) + o = (t : Int)) (k1 : mCmp 3 a b → mGo l g mi d t xs st h K) (k2 : ¬ mCmp 3 a b → mGo l g mi d (pc + 3) xs st h K) : mGo l g mi d pc xs (.inl b :: .inl a :: st) h K := by
  intro p e s m args below meth c H locs ls C P D S L O
  obtain ⟨hx, hb, hml, hr, hown, hts, hlk, hK, hZ⟩ := id C
  have hiff := (mLe (show mIr b from O.top) (show mIr a from O.pop.top))
  exact lv_icmp_ge hx hb hd ht (fun q => k1 (hiff.mp q) p e s m args below meth c H locs ls C P D S L O.pop.pop) (fun q => k2 (fun z => q (hiff.mpr z)) p e s m args below meth c H locs ls C P D S L O.pop.pop)
theorem r_if_gt {a o : Int} {t : Nat} (hd : decode mi.2.2.1 pc = .ok (.ifCond .gt o, 3)) (ht : (pc : Int) + o = (t : Int)) (k1 : mCmp 4 a 0 → mGo l g mi d t xs st h K) (k2 : ¬ mCmp 4 a 0 → mGo l g mi d (pc + 3) xs st h K) : mGo l g mi d pc xs (.inl a :: st) h K := by
  intro p e s m args below meth c H locs ls C P D S L O
  obtain ⟨hx, hb, hml, hr, hown, hts, hlk, hK, hZ⟩ := id C
  have hz : mIr 0 := ⟨by decide, by decide⟩
  have hiff := (mLt hz (show mIr a from O.top))
  exact lv_if_gt hx hb hd ht (fun q => k1 (hiff.mp q) p e s m args below meth c H locs ls C P D S L O.pop) (fun q => k2 (fun z => q (hiff.mpr z)) p e s m args below meth c H locs ls C P D S L O.pop)
theorem r_icmp_gt {a b o : Int} {t : Nat} (hd : decode mi.2.2.1 pc = .ok (.if_icmp .gt o, 3)) (ht : (pc : Int) + o = (t : Int)) (k1 : mCmp 4 a b → mGo l g mi d t xs st h K) (k2 : ¬ mCmp 4 a b → mGo l g mi d (pc + 3) xs st h K) : mGo l g mi d pc xs (.inl b :: .inl a :: st) h K := by
  intro p e s m args below meth c H locs ls C P D S L O
  obtain ⟨hx, hb, hml, hr, hown, hts, hlk, hK, hZ⟩ := id C
  have hiff := (mLt (show mIr b from O.top) (show mIr a from O.pop.top))
  exact lv_icmp_gt hx hb hd ht (fun q => k1 (hiff.mp q) p e s m args below meth c H locs ls C P D S L O.pop.pop) (fun q => k2 (fun z => q (hiff.mpr z)) p e s m args below meth c H locs ls C P D S L O.pop.pop)
theorem r_if_le {a o : Int} {t : Nat} (hd : decode mi.2.2.1 pc = .ok (.ifCond .le o, 3)) (ht : (pc : Int) + o = (t : Int)) (k1 : mCmp 5 a 0 → mGo l g mi d t xs st h K) (k2 : ¬ mCmp 5 a 0 → mGo l g mi d (pc + 3) xs st h K) : mGo l g mi d pc xs (.inl a :: st) h K := by
  intro p e s m args below meth c H locs ls C P D S L O
  obtain ⟨hx, hb, hml, hr, hown, hts, hlk, hK, hZ⟩ := id C
  have hz : mIr 0 := ⟨by decide, by decide⟩
  have hiff := (mLe (show mIr a from O.top) hz)
  exact lv_if_le hx hb hd ht (fun q => k1 (hiff.mp q) p e s m args below meth c H locs ls C P D S L O.pop) (fun q => k2 (fun z => q (hiff.mpr z)) p e s m args below meth c H locs ls C P D S L O.pop)
theorem r_icmp_le {a b o : Int} {t : Nat} (hd : decode mi.2.2.1 pc = .ok (.if_icmp .le o, 3)) (ht : (pc : Int) + o = (t : Int)) (k1 : mCmp 5 a b → mGo l g mi d t xs st h K) (k2 : ¬ mCmp 5 a b → mGo l g mi d (pc + 3) xs st h K) : mGo l g mi d pc xs (.inl b :: .inl a :: st) h K := by
  intro p e s m args below meth c H locs ls C P D S L O
  obtain ⟨hx, hb, hml, hr, hown, hts, hlk, hK, hZ⟩ := id C
  have hiff := (mLe (show mIr a from O.pop.top) (show mIr b from O.top))
  exact lv_icmp_le hx hb hd ht (fun q => k1 (hiff.mp q) p e s m args below meth c H locs ls C P D S L O.pop.pop) (fun q => k2 (fun z => q (hiff.mpr z)) p e s m args below meth c H locs ls C P D S L O.pop.pop)
theorem r_sw {a df lo hi : Int} {os : Array Int} {len : Nat} (hd : decode mi.2.2.1 pc = .ok (.tableswitch df lo hi os, len)) (hdf : 0 ≤ (pc : Int) + df) (hhi : hi = lo + os.toList.length - 1) (hos : ∀ o ∈ os.toList, 0 ≤ (pc : Int) + o)
    (k1 : ∀ (i : Nat) (o : Int), os.toList[i]? = some o → a = lo + i → mGo l g mi d ((pc : Int) + o).toNat xs st h K) (k2 : (a < lo ∨ lo + os.toList.length ≤ a) → mGo l g mi d ((pc : Int) + df).toNat xs st h K) : mGo l g mi d pc xs (.inl a :: st) h K := by
  intro p e s m args below meth c H locs ls C P D S L O
  obtain ⟨hx, hb, hml, hr, hown, hts, hlk, hK, hZ⟩ := id C
  have ha : mIr a := O.top
  by_cases hc : a < lo ∨ lo + os.toList.length ≤ a
  · exact lv_tableOut hx hb hd (by rw [mTo ha]; omega) (tgt := ((pc : Int) + df).toNat) (by omega) (k2 hc p e s m args below meth c H locs ls C P D S L O.pop)
  · have hl : (a - lo).toNat < os.toList.length := by omega
    have hg : os.toList[(a - lo).toNat]? = some os.toList[(a - lo).toNat] := List.getElem?_eq_getElem hl
    have h0 := hos _ (List.mem_of_getElem? hg)
    refine lv_tableIn hx hb hd (by rw [mTo ha]; omega) (by rw [mTo ha]; omega) (off := os.toList[(a - lo).toNat]) (tgt := ((pc : Int) + os.toList[(a - lo).toNat]).toNat) (by rw [mTo ha, ← Array.getElem?_toList]; exact hg) (by omega) ?_
    exact k1 (a - lo).toNat _ hg (by omega) p e s m args below meth c H locs ls C P D S L O.pop
theorem r_dup {v : mRV} (hd : decode mi.2.2.1 pc = .ok (.dup, 1)) (kk : mGo l g mi d (pc + 1) xs (v :: v :: st) h K) : mGo l g mi d pc xs (v :: st) h K := by
  intro p e s m args below meth c H locs ls C P D S L O
  obtain ⟨hx, hb, hml, hr, hown, hts, hlk, hK, hZ⟩ := id C
  exact lv_dup hx hb hd (mCat _ _) (kk p e s m args below meth c H locs ls C P D S L (O.push O.top))
theorem r_dup2 {v w : mRV} (hd : decode mi.2.2.1 pc = .ok (.dup2, 1)) (kk : mGo l g mi d (pc + 1) xs (v :: w :: v :: w :: st) h K) : mGo l g mi d pc xs (v :: w :: st) h K := by
  intro p e s m args below meth c H locs ls C P D S L O
  obtain ⟨hx, hb, hml, hr, hown, hts, hlk, hK, hZ⟩ := id C
  exact lv_dup2_11 hx hb hd (mCat _ _) (mCat _ _) (kk p e s m args below meth c H locs ls C P D S L ((O.push O.pop.top).push O.top))
theorem r_pop {v : mRV} (hd : decode mi.2.2.1 pc = .ok (.pop, 1)) (kk : mGo l g mi d (pc + 1) xs st h K) : mGo l g mi d pc xs (v :: st) h K := by
  intro p e s m args below meth c H locs ls C P D S L O
  obtain ⟨hx, hb, hml, hr, hown, hts, hlk, hK, hZ⟩ := id C
  exact lv_pop hx hb hd (mCat _ _) (kk p e s m args below meth c H locs ls C P D S L O.pop)
end Snd
end
section
section Snd
variable {l : Launch} {g : mG} {mi : mMi} {d pc : Nat} {K : Option mRV → mMem → Prop} {xs : mXs} {st : List mRV} {h : mMem}
theorem mObj {r : mRef} {ci : Nat} {fs : List mFd} (hr : r ∈ mLq) (hs : mSh r.1 = .inl (ci, fs)) : r ∈ mL ∧ ci < 10 ∧ fs.length = mN ci ∧ ∀ f ∈ fs, match f with
      | none => True
      | some (t, none) => (t, r.2) ∈ mLq
      | some (t, some i) => (t, i) ∈ mLq := by
  have h1 := mIn_L hr (fun n q => by rw [hs] at q; cases q)
  have h2 := mShape_ok r h1
  rw [hs] at h2
  simp only [Bool.and_eq_true, decide_eq_true_eq, List.all_eq_true] at h2
  refine ⟨h1, h2.1.1, h2.1.2, fun f hf => ?_⟩
  have h3 := h2.2 f hf
  match f, h3 with
  | none, _ => trivial
  | some (t, none), h3 => exact of_decide_eq_true h3
  | some (t, some i), h3 => exact of_decide_eq_true h3
theorem mElt_o {r : mRef} {ci : Nat} {fs : List mFd} (hs : mSh r.1 = .inl (ci, fs)) : mElt g h r = .inr (ci, mFs g h r fs 0) := by unfold mElt; rw [hs]
theorem mElt_i {r : mRef} {n : Nat} (hs : mSh r.1 = .inr (0, n)) : mElt g h r = .inl (g.2.1.1, n, .inl (fun k => Int32.ofInt (h r.1 r.2 k))) := by unfold mElt; rw [hs]; rfl
theorem mElt_z {r : mRef} {n : Nat} (hs : mSh r.1 = .inr (1, n)) : mElt g h r = .inl (g.2.1.2.1, n, .inl (fun k => Int32.ofInt (h r.1 r.2 k))) := by unfold mElt; rw [hs]; rfl
theorem mElt_q {r : mRef} {n : Nat} (hs : mSh r.1 = .inr (2, n)) : mElt g h r = .inl (g.2.1.2.2, n, .inr (.inr (.inr (.inr (fun k => some (g.2.2 (4, mNi k))))))) := by unfold mElt; rw [hs]; rfl
theorem r_getf {r : mRef} {ci k i : Nat} {fs : List mFd} {f : mFd} {v : mRV} (hd : decode mi.2.2.1 pc = .ok (.getfield i, 3)) (hl : ∃ n, (mi.1, i, ci, k, n) ∈ mFl) (hs : mSh r.1 = .inl (ci, fs)) (hf : fs[k]? = some f)
    (hv : mCv g.2.2 v = mFv g h r f k) (hvk : mOk xs (.inr r :: st) h → mV v) (kk : mGo l g mi d (pc + 3) xs (v :: st) h K) : mGo l g mi d pc xs (.inr r :: st) h K := by
  intro p e s m args below meth c H locs ls C P D S L O
  obtain ⟨hx, hb, hml, hr, hown, hts, hlk, hK, hZ⟩ := id C
  obtain ⟨hL, hci, hlen, -⟩ := mObj (show r ∈ mLq from O.top) hs
  obtain ⟨q, hq⟩ := List.getElem?_of_mem hL
  obtain ⟨n, hn⟩ := hl
  obtain ⟨e1, -, e3⟩ := mFl_ok _ hn
  have hW := kk p e s m args below meth c H locs ls C P D S L (O.pop.push (hvk O))
  have he : (mW g h)[q]? = some (g.2.2 r, .inr (ci, mFs g h r fs 0)) := by rw [mW_at hq, mElt_o hs]
  refine va_get hx hb hts (mIn_w ci hci) hown hK P q he (mCl_lt ci hci) k e3 (hts _ (mMem_w e1 rfl)) (fun _ z => z) (v := mCv g.2.2 v) ?_ hd hW
  rw [mFs_get, hf, hv, Nat.zero_add]
  rfl
theorem r_putf {r : mRef} {ci k i : Nat} {fs : List mFd} {v : Int} (hd : decode mi.2.2.1 pc = .ok (.putfield i, 3)) (hl : ∃ n, (mi.1, i, ci, k, n) ∈ mFl) (hfin : (mT ci k).2.2.2 = false) (hty : mTyp ci k = .int ∨ (mTyp ci k = .boolean ∧ (v = 0 ∨ v = 1))) (hs : mSh r.1 = .inl (ci, fs)) (hf : fs[k]? = some none)
    (kk : mGo l g mi d (pc + 3) xs st (mSet h r.1 r.2 k v) K) : mGo l g mi d pc xs (.inl v :: .inr r :: st) h K := by
  intro p e s m args below meth c H locs ls C P D S L O
  obtain ⟨hx, hb, hml, hr, hown, hts, hlk, hK, hZ⟩ := id C
  obtain ⟨hL, hci, hlen, -⟩ := mObj (show r ∈ mLq from O.pop.top) hs
  obtain ⟨q, hq⟩ := List.getElem?_of_mem hL
  obtain ⟨n, hn⟩ := hl
  obtain ⟨e1, -, e3⟩ := mFl_ok _ hn
  have he : (mW g h)[q]? = some (g.2.2 r, .inr (ci, mFs g h r fs 0)) := by rw [mW_at hq, mElt_o hs]
  have hnf : narrow (mTyp ci k) (.int (Int32.ofInt v)) = .int (Int32.ofInt v) ∧ fits (mTyp ci k) (.int (Int32.ofInt v)) = true := by
    rcases hty with q | ⟨q, rfl | rfl⟩ <;> rw [q] <;> exact ⟨rfl, rfl⟩
  have hset : (mW g h).set q (g.2.2 r, .inr (ci, (mFs g h r fs 0).set k (.int (Int32.ofInt v)))) = mW g (mSet h r.1 r.2 k v) := by
    rw [← mW_set hq (fun r' hne => mSet_ne (k := k) (v := v) hne), mElt_o hs, mFs_set fs 0 hf, Nat.zero_add]
  refine va_put (v := .int (Int32.ofInt v)) hx hb hts (mIn_w ci hci) (mTyp ci) (mTyX ci hci) (mNmX ci hci) hown hK P D S q he (mCl_lt ci hci) k e3 (hts _ (mMem_w e1 rfl)) (fun _ z => z) hfin (mTyX ci hci k e3) hnf.1 hnf.2 (by rw [mFs_len, hlen]; exact e3) hd (fun H1 locs1 P1 D1 S1 => ?_)
  rw [hset] at P1 D1
  exact kk p e s m args below meth c H1 locs1 ls C P1 D1 S1 L (O.pop.pop.mem (mMok_set O.2.2 O.top))
theorem r_gets {t i : Nat} (hd : decode mi.2.2.1 pc = .ok (.getstatic i, 3)) (hl : ∃ z n, (mi.1, i, t, z, n) ∈ mSl) (ht : t ∈ ([100, 101, 102, 103, 104] : List Nat)) (kk : mGo l g mi d (pc + 3) xs (.inr (t, 0) :: st) h K) : mGo l g mi d pc xs st h K := by
  intro p e s m args below meth c H locs ls C P D S L O
  obtain ⟨hx, hb, hml, hr, hown, hts, hlk, hK, hZ⟩ := id C
  have hq : ((t, 0) : mRef) ∈ mLq := List.mem_append_right _ (List.mem_map.mpr ⟨t, ht, rfl⟩)
  have hW := kk p e s m args below meth c H locs ls C P D S L (O.push hq)
  obtain ⟨z, n, hn⟩ := hl
  rcases mSl_ok _ hn with ⟨-, e1⟩ | ⟨-, e1⟩
  · exact va_gets hx hb (hZ.2 t ht).1 S hown (hts _ (mMem_w e1 rfl)) (fun _ z => z) hd hW
  · exact va_getsN hx hb (hZ.2 t ht).1 S hown (va_Nw.use rfl (hZ.1 _ (List.mem_of_getElem? e1) rfl)) (fun _ z => z) hd hW
theorem mArr {r : mRef} {k n : Nat} (hr : r ∈ mLq) (hs : mSh r.1 = .inr (k, n)) (hk : k < 3) : r ∈ mL ∧ n < 65536 := by
  have h1 := mIn_L hr (fun n q => by rw [hs] at q; cases q; omega)
  have h2 := mShape_ok r h1
  rw [hs] at h2
  simp only [Bool.and_eq_true, decide_eq_true_eq] at h2
  exact ⟨h1, h2.2⟩
theorem r_iald {r : mRef} {x : Int} {n : Nat} (hd : decode mi.2.2.1 pc = .ok (.iaload, 1)) (hs : mSh r.1 = .inr (0, n)) (hx0 : 0 ≤ x) (hx1 : x < n) (kk : mGo l g mi d (pc + 1) xs (.inl (h r.1 r.2 x.toNat) :: st) h K) : mGo l g mi d pc xs (.inl x :: .inr r :: st) h K := by
  intro p e s m args below meth c H locs ls C P D S L O
  obtain ⟨hx, hb, hml, hr, hown, hts, hlk, hK, hZ⟩ := id C
  obtain ⟨hL, -⟩ := mArr (show r ∈ mLq from O.pop.top) hs (by decide)
  obtain ⟨q, hq⟩ := List.getElem?_of_mem hL
  have hW := kk p e s m args below meth c H locs ls C P D S L (O.pop.pop.push (O.2.2 _ _ _))
  refine va_iald hx hb hK P q 0 (cA := g.2.1.1) (n := n) (f := fun k => Int32.ofInt (h r.1 r.2 k)) (by rw [mW_at hq, mElt_i hs]) rfl (mIn_of O.top hx0 hx1) hd ?_
  rw [mNat (show mIr x from O.top)]
  exact hW
theorem r_zald {r : mRef} {x : Int} {n : Nat} (hd : decode mi.2.2.1 pc = .ok (.baload, 1)) (hs : mSh r.1 = .inr (1, n)) (hx0 : 0 ≤ x) (hx1 : x < n) (kk : mGo l g mi d (pc + 1) xs (.inl (h r.1 r.2 x.toNat) :: st) h K) : mGo l g mi d pc xs (.inl x :: .inr r :: st) h K := by
  intro p e s m args below meth c H locs ls C P D S L O
  obtain ⟨hx, hb, hml, hr, hown, hts, hlk, hK, hZ⟩ := id C
  obtain ⟨hL, -⟩ := mArr (show r ∈ mLq from O.pop.top) hs (by decide)
  obtain ⟨q, hq⟩ := List.getElem?_of_mem hL
  have hW := kk p e s m args below meth c H locs ls C P D S L (O.pop.pop.push (O.2.2 _ _ _))
  refine va_zald hx hb hK P q 1 (cA := g.2.1.2.1) (n := n) (f := fun k => Int32.ofInt (h r.1 r.2 k)) (by rw [mW_at hq, mElt_z hs]) rfl (mIn_of O.top hx0 hx1) hd ?_
  rw [mNat (show mIr x from O.top)]
  exact hW
theorem r_tald {r : mRef} {x : Int} {n : Nat} (hd : decode mi.2.2.1 pc = .ok (.iaload, 1)) (hs : mSh r.1 = .inr (3, n)) (hx0 : 0 ≤ x) (hx1 : x < n) (kk : mGo l g mi d (pc + 1) xs (.inl ((mTab r.1).getD x.toNat 0) :: st) h K) : mGo l g mi d pc xs (.inl x :: .inr r :: st) h K := by
  intro p e s m args below meth c H locs ls C P D S L O
  obtain ⟨hx, hb, hml, hr, hown, hts, hlk, hK, hZ⟩ := id C
  obtain ⟨ht, h0, hn⟩ := mIn_T (show r ∈ mLq from O.pop.top) hs
  have hall : ∀ t ∈ ([100, 101, 102, 103, 104] : List Nat), ∀ v ∈ mTab t, -2147483648 ≤ v ∧ v < 2147483648 := by decide
  have hlt : x.toNat < (mTab r.1).length := by omega
  have hir : mIr ((mTab r.1).getD x.toNat 0) := by
    rw [List.getD_eq_getElem?_getD, List.getElem?_eq_getElem hlt]
    exact hall _ ht _ (List.getElem_mem hlt)
  have hW := kk p e s m args below meth c H locs ls C P D S L (O.pop.pop.push hir)
  have hr0 : r = (r.1, 0) := Prod.ext rfl h0
  have hT := (hZ.2 r.1 ht).2
  rw [← hr0] at hT
  exact va_ti hx hb hT S (mIn_of O.top hx0 (hn ▸ hx1)) (by rw [mNat (show mIr x from O.top)]; rfl) hd hW
theorem r_aald {r : mRef} {x : Int} {n : Nat} (hd : decode mi.2.2.1 pc = .ok (.aaload, 1)) (hs : mSh r.1 = .inr (2, n)) (hx0 : 0 ≤ x) (hx1 : x < n) (kk : mGo l g mi d (pc + 1) xs (.inr (4, mNi x.toNat) :: st) h K) : mGo l g mi d pc xs (.inl x :: .inr r :: st) h K := by
  intro p e s m args below meth c H locs ls C P D S L O
  obtain ⟨hx, hb, hml, hr, hown, hts, hlk, hK, hZ⟩ := id C
  obtain ⟨hL, -⟩ := mArr (show r ∈ mLq from O.pop.top) hs (by decide)
  obtain ⟨q, hq⟩ := List.getElem?_of_mem hL
  have hW := kk p e s m args below meth c H locs ls C P D S L (O.pop.pop.push (mNet_in _))
  refine va_aldq hx hb hK P q 2 (cA := g.2.1.2.2) (n := n) (f := fun k => some (g.2.2 (4, mNi k))) (by rw [mW_at hq, mElt_q hs]) rfl (mIn_of O.top hx0 hx1) hd ?_
  rw [mNat (show mIr x from O.top)]
  exact hW
theorem r_alen {r : mRef} {n : Nat} (hd : decode mi.2.2.1 pc = .ok (.arraylength, 1)) (hs : mSh r.1 = .inr (0, n)) (kk : mGo l g mi d (pc + 1) xs (.inl (n : Int) :: st) h K) : mGo l g mi d pc xs (.inr r :: st) h K := by
  intro p e s m args below meth c H locs ls C P D S L O
  obtain ⟨hx, hb, hml, hr, hown, hts, hlk, hK, hZ⟩ := id C
  obtain ⟨hL, hn⟩ := mArr (show r ∈ mLq from O.top) hs (by decide)
  obtain ⟨q, hq⟩ := List.getElem?_of_mem hL
  have hW := kk p e s m args below meth c H locs ls C P D S L (O.pop.push (show mIr (n : Int) from ⟨by omega, by omega⟩))
  exact va_alen hx hb hK P q 0 (cA := g.2.1.1) (x := (n, .inl (fun k => Int32.ofInt (h r.1 r.2 k)))) (by rw [mW_at hq, mElt_i hs]) rfl rfl hd hW
theorem mUpd {t : Nat} {i : Fin 8} {k : Nat} {v : Int} : upd (fun j => Int32.ofInt (h t i j)) k (Int32.ofInt v) = fun j => Int32.ofInt (mSet h t i k v t i j) := by
  funext j
  unfold upd mSet
  by_cases hj : j = k
  · rw [if_pos hj, if_pos ⟨rfl, rfl, hj⟩]
  · rw [if_neg hj, if_neg (fun z => hj z.2.2)]
theorem r_iast {r : mRef} {x v : Int} {n : Nat} (hd : decode mi.2.2.1 pc = .ok (.iastore, 1)) (hs : mSh r.1 = .inr (0, n)) (hx0 : 0 ≤ x) (hx1 : x < n) (kk : mGo l g mi d (pc + 1) xs st (mSet h r.1 r.2 x.toNat v) K) : mGo l g mi d pc xs (.inl v :: .inl x :: .inr r :: st) h K := by
  intro p e s m args below meth c H locs ls C P D S L O
  obtain ⟨hx, hb, hml, hr, hown, hts, hlk, hK, hZ⟩ := id C
  obtain ⟨hL, -⟩ := mArr (show r ∈ mLq from O.pop.pop.top) hs (by decide)
  obtain ⟨q, hq⟩ := List.getElem?_of_mem hL
  have hxr : mIr x := O.pop.top
  have hset : (mW g h).set q (g.2.2 r, .inl (g.2.1.1, n, .inl (upd (fun k => Int32.ofInt (h r.1 r.2 k)) (Int32.ofInt x).toNatClampNeg (Int32.ofInt v)))) = mW g (mSet h r.1 r.2 x.toNat v) := by
    rw [← mW_set hq (fun r' hne => mSet_ne (k := x.toNat) (v := v) hne), mElt_i hs, mNat hxr, mUpd]
  refine va_iast hx hb hK P D S q 0 (cA := g.2.1.1) (n := n) (f := fun k => Int32.ofInt (h r.1 r.2 k)) (by rw [mW_at hq, mElt_i hs]) rfl (mIn_of hxr hx0 hx1) hd (fun H1 locs1 P1 D1 S1 => ?_)
  rw [hset] at P1 D1
  exact kk p e s m args below meth c H1 locs1 ls C P1 D1 S1 L (O.pop.pop.pop.mem (mMok_set O.2.2 O.top))
theorem r_zast {r : mRef} {x v : Int} {n : Nat} (hd : decode mi.2.2.1 pc = .ok (.bastore, 1)) (hs : mSh r.1 = .inr (1, n)) (hx0 : 0 ≤ x) (hx1 : x < n) (hv : v = 0 ∨ v = 1) (kk : mGo l g mi d (pc + 1) xs st (mSet h r.1 r.2 x.toNat v) K) : mGo l g mi d pc xs (.inl v :: .inl x :: .inr r :: st) h K := by
  intro p e s m args below meth c H locs ls C P D S L O
  obtain ⟨hx, hb, hml, hr, hown, hts, hlk, hK, hZ⟩ := id C
  obtain ⟨hL, -⟩ := mArr (show r ∈ mLq from O.pop.pop.top) hs (by decide)
  obtain ⟨q, hq⟩ := List.getElem?_of_mem hL
  have hxr : mIr x := O.pop.top
  have hvn : vp_nar .boolean (Int32.ofInt v) = Int32.ofInt v := by rcases hv with rfl | rfl <;> rfl
  have hset : (mW g h).set q (g.2.2 r, .inl (g.2.1.2.1, n, .inl (upd (fun k => Int32.ofInt (h r.1 r.2 k)) (Int32.ofInt x).toNatClampNeg (vp_nar .boolean (Int32.ofInt v))))) = mW g (mSet h r.1 r.2 x.toNat v) := by
    rw [← mW_set hq (fun r' hne => mSet_ne (k := x.toNat) (v := v) hne), mElt_z hs, mNat hxr, hvn, mUpd]
  refine va_zast hx hb hK P D S q 1 (cA := g.2.1.2.1) (n := n) (f := fun k => Int32.ofInt (h r.1 r.2 k)) (by rw [mW_at hq, mElt_z hs]) rfl (mIn_of hxr hx0 hx1) hd (fun H1 locs1 P1 D1 S1 => ?_)
  rw [hset] at P1 D1
  exact kk p e s m args below meth c H1 locs1 ls C P1 D1 S1 L (O.pop.pop.pop.mem (mMok_set O.2.2 O.top))
theorem mCpy_ne {rs rd r' : mRef} {sp dp n : Nat} (hne : r' ≠ rd) : ∀ j, mCpy h rs rd sp dp n r'.1 r'.2 j = h r'.1 r'.2 j := by
  intro j
  unfold mCpy
  rw [if_neg]
  rintro ⟨a, b, -⟩
  exact hne (Prod.ext a b)
theorem r_copy {rs rd : mRef} {sp dp n : Int} {i ns nd : Nat} (hd : decode mi.2.2.1 pc = .ok (.invokestatic i, 3)) (hl : ∃ z, (mi.1, i, z) ∈ mAl) (hss : mSh rs.1 = .inr (0, ns)) (hsd : mSh rd.1 = .inr (0, nd)) (h1 : 0 ≤ sp) (h2 : 0 ≤ dp) (h3 : 0 ≤ n) (h4 : sp + n ≤ ns) (h5 : dp + n ≤ nd) (hst : st.length ≤ 8)
    (kk : mGo l g mi (d + 1) (pc + 3) xs st (mCpy h rs rd sp.toNat dp.toNat n.toNat) K) : mGo l g mi (d + 1) pc xs (.inl n :: .inl dp :: .inr rd :: .inl sp :: .inr rs :: st) h K := by
  intro p e s m args below meth c H locs ls C P D S L O
  obtain ⟨hx, hb, hml, hr, hown, hts, hlk, hK, hZ⟩ := id C
  obtain ⟨hLs, -⟩ := mArr (show rs ∈ mLq from O.pop.pop.pop.pop.top) hss (by decide)
  obtain ⟨hLd, -⟩ := mArr (show rd ∈ mLq from O.pop.pop.top) hsd (by decide)
  obtain ⟨qs, hqs⟩ := List.getElem?_of_mem hLs
  obtain ⟨qd, hqd⟩ := List.getElem?_of_mem hLd
  have rn : mIr n := O.top
  have rdp : mIr dp := O.pop.top
  have rsp : mIr sp := O.pop.pop.pop.top
  obtain ⟨z, hz⟩ := hl
  have nn : ∀ {x : Int}, mIr x → 0 ≤ x → ¬ Int32.ofInt x < 0 := fun hx h0 q => by
    have q2 : Int32.ofInt _ < Int32.ofInt 0 := q
    rw [mLt hx ⟨by decide, by decide⟩] at q2
    omega
  have hset : (mW g h).set qd (g.2.2 rd, .inl (g.2.1.1, nd, .inl (va_cpy (fun k => Int32.ofInt (h rs.1 rs.2 k)) (fun k => Int32.ofInt (h rd.1 rd.2 k)) (Int32.ofInt sp).toNatClampNeg (Int32.ofInt dp).toNatClampNeg (Int32.ofInt n).toNatClampNeg))) = mW g (mCpy h rs rd sp.toNat dp.toNat n.toNat) := by
    have hf : va_cpy (fun k => Int32.ofInt (h rs.1 rs.2 k)) (fun k => Int32.ofInt (h rd.1 rd.2 k)) sp.toNat dp.toNat n.toNat = fun k => Int32.ofInt (mCpy h rs rd sp.toNat dp.toNat n.toNat rd.1 rd.2 k) := by
      funext k
      unfold va_cpy mCpy
      by_cases hk : dp.toNat ≤ k ∧ k < dp.toNat + n.toNat
      · rw [if_pos hk, if_pos ⟨rfl, rfl, hk⟩]
      · rw [if_neg hk, if_neg (fun z => hk z.2.2)]
    rw [← mW_set hqd (fun r' hne => mCpy_ne hne), mElt_i hsd, mNat rsp, mNat rdp, mNat rn, hf]
  have hcat : (((st.map (mCv g.2.2)).map fun v => v.category).sum) ≤ 8 := by
    have : ∀ st : List mRV, ((st.map (mCv g.2.2)).map fun v => v.category).sum = st.length := by
      intro st
      induction st with
      | nil => rfl
      | cons v st ih => simp only [List.map_cons, List.sum_cons, mCat, ih, List.length_cons]; omega
    rw [this]; exact hst
  have hin := fun w (hw : (lw_tbl.contains w && goodWord w) = true) => hts w (List.mem_cons_of_mem _ (List.mem_filter.mpr ⟨List.contains_iff_mem.mp (Bool.and_eq_true_iff.mp hw).1, (Bool.and_eq_true_iff.mp hw).2⟩))
  refine va_copyi hx hb (hml.trans L.1.symm) hown (hts _ (mMem_w (mAl_ok _ hz) rfl)) (hin _ (by decide +kernel)) (hin _ (by decide +kernel)) (hin _ (by decide +kernel)) hK P D S qs qd 0 0 (c0 := g.2.1.1) (c1 := g.2.1.1) (n0 := ns) (n1 := nd) (f := fun k => Int32.ofInt (h rs.1 rs.2 k)) (g := fun k => Int32.ofInt (h rd.1 rd.2 k)) (ty := .int) (by rw [mW_at hqs, mElt_i hss]) (by rw [mW_at hqd, mElt_i hsd]) rfl rfl rfl (nn rsp h1) (nn rdp h2) (nn rn h3) (by rw [mNat rsp, mNat rn]; omega) (by rw [mNat rdp, mNat rn]; omega) (fun _ _ => rfl) ?_ ?_ hd (fun H1 locs1 P1 D1 S1 => ?_)
  · show 1 ≤ d + 1
    omega
  · show _ ≤ 100 * (d + 1)
    have : nativeFrameWords "java/lang/System" "arraycopy" 5 ≤ 40 := by decide +kernel
    omega
  · rw [hset] at P1 D1
    exact kk p e s m args below meth c H1 locs1 ls C P1 D1 S1 L (O.pop.pop.pop.pop.pop.mem (mMok_cpy O.2.2))
end Snd
end
section
/-! calls, returns, entry; the meaning of a step is sound -/
theorem mNst_warm {s U : State} (hW : s.WarmedH U.vm) (h : mNst s) : mNst U := by
  intro w hw hi
  have h1 := h w hw hi
  cases w <;> first | (cases hi; done) | exact va_Nw.warmF hW h1 | exact va_Nw.warmM hW h1
theorem mNst_same {s U : State} (hv : s.vm = U.vm) (h : mNst s) : mNst U := by
  intro w hw hi
  have h1 := h w hw hi
  cases w <;> first | (cases hi; done) | exact va_Nw.same rfl hv h1
theorem mZ_warm {g : mG} {s U : State} {H : Heap} (hW : s.WarmedH U.vm) (h : mZ g s H) : mZ g U H :=
  ⟨mNst_warm hW h.1, fun t ht => ⟨va_Z.moved hW.alike (h.2 t ht).1, va_T.moved hW.alike (h.2 t ht).2⟩⟩
theorem mZ_kept {g : mG} {U : State} {H H1 : Heap} (h : mZ g U H) (hq : ∀ a : Nat, a < H.size → ¬ mA g a → H1[a]? = H[a]?) : mZ g U H1 :=
  ⟨h.1, fun t ht => ⟨va_Z.kept (h.2 t ht).1 hq, va_T.kept (h.2 t ht).2 hq⟩⟩
theorem mRep_call {g : mG} {h : mMem} {U : State} {q : JFrame} {mk : MethodId} {a : Array Value} (r : mRep g h U U.heap) : mRep g h (U.calling q mk a) (U.calling q mk a).heap :=
  ⟨r.1, va_K.moved (u := U) (U := U.calling q mk a) (Vm.Alike.refl U.vm) r.2.1, r.2.2.1, mNst_same (s := U) (U := U.calling q mk a) rfl r.2.2.2.1, fun t ht => ⟨va_Z.moved (u := U) (U := U.calling q mk a) (Vm.Alike.refl U.vm) (r.2.2.2.2 t ht).1, va_T.moved (u := U) (U := U.calling q mk a) (Vm.Alike.refl U.vm) (r.2.2.2.2 t ht).2⟩⟩
theorem mCats (ad : mRef → Nat) : ∀ st : List mRV, ((st.map (mCv ad)).map fun v => v.category).sum = st.length
  | [] => rfl
  | v :: st => by simp only [List.map_cons, List.sum_cons, mCat, mCats ad st, List.length_cons]; omega
section Snd
variable {l : Launch} {g : mG} {mi : mMi} {d pc : Nat} {K : Option mRV → mMem → Prop} {xs : mXs} {st : List mRV} {h : mMem}
theorem mRep_of {p : Program} {s t : State} {m : MethodId} {args : Array Value} {meth : Method} {c : Code} {H : Heap} {locs : List Loc} (C : mCx p s m args meth c mi g) (P : va_P g.1 vwCl (mW g h) H) (D : va_D (mA g) (mW g h)) (S : va_S (mA g) s.heap H locs) (ht : t.heap = H) (hW : s.WarmedH t.vm) : mRep g h t t.heap := by
  obtain ⟨hx, hb, hml, hr, hown, hts, hlk, hK, hZ⟩ := C
  subst ht
  exact ⟨P, va_K.moved hW.alike hK, D, mZ_warm hW (mZ_kept hZ (fun a h1 h2 => S.2.1 a h1 h2))⟩
/-- behind a call -/
theorem mCall_on {p : Program} {e : Env} {s : State} {m : MethodId} {args : Array Value} {below : List Frame} {meth : Method} {c : Code} {H : Heap} {locs : List Loc} {ls : Array Slot} {Q : State → Prop} {R : Room} {Kc : Option mRV → mMem → Prop} {rest stk : List Value} {a : Array Value}
    (hr : va_Run p l e R s m args below meth c H locs 0 0 0 0 (F0 m pc ls stk) rest (mQ g Kc a) (mA g)) (S : va_S (mA g) s.heap H locs)
    (kk : ∀ (v : Option mRV) (h1 : mMem) (H1 : Heap) (locs1 : List Loc), Kc v h1 → (∀ w, v = some w → mV w) → mMok h1 → va_P g.1 vwCl (mW g h1) H1 → va_D (mA g) (mW g h1) → va_S (mA g) s.heap H1 locs1 → W p l e R s m args below meth c H1 locs1 0 0 Q (F0 m (pc + 3) ls ((v.map (mCv g.2.2)).toList ++ rest))) : W p l e R s m args below meth c H locs 0 0 Q (F0 m pc ls stk) := by
  intro T hT X
  obtain ⟨v, st₀, t, T', L, h0, X', hL, e1, e2, ⟨⟨w, h1, hv, hKc, hwv, hok, hrep⟩, hz, hk⟩, stp⟩ := hr T hT X
  cases hv
  rw [h0] at hz hk
  obtain ⟨t2, a1, b1⟩ := kk w h1 T'.heap (locs ++ L) hKc hwv hok (by rw [e1]; exact hrep.1) hrep.2.2.1
    ⟨Nat.le_trans S.1 (by rw [e1]; exact hz), fun q q1 q2 => by rw [e1, hk q (Nat.lt_of_lt_of_le q1 S.1) q2]; exact S.2.1 q q1 q2, fun q hq => by
      rcases List.mem_append.mp hq with z | z
      · exact S.2.2 q z
      · exact hL q z⟩ T' rfl X'
  exact ⟨t2, stp t2 a1, b1⟩
theorem mTake_ok {n : Nat} (O : mOk xs st h) : ∀ a ∈ (st.take n).reverse, mV a := fun a ha => O.2.1 a (List.mem_of_mem_take (List.mem_reverse.mp ha))
theorem mOk.ret {n : Nat} {v : Option mRV} {h1 : mMem} (O : mOk xs st h) (hv : ∀ w, v = some w → mV w) (hok : mMok h1) : mOk xs (v.toList ++ st.drop n) h1 := by
  refine ⟨O.1, fun w hw => ?_, hok⟩
  rcases List.mem_append.mp hw with z | z
  · exact hv w (Option.mem_toList.mp z)
  · exact O.2.1 w (List.mem_of_mem_drop z)
theorem mStk (ad : mRef → Nat) (n : Nat) (hn : n ≤ st.length) : st.map (mCv ad) = (((st.take n).reverse).map (mCv ad)).reverse ++ (st.drop n).map (mCv ad) := by
  rw [← List.map_reverse, List.reverse_reverse, ← List.map_append, List.take_append_drop]
theorem mRet_map (ad : mRef → Nat) (v : Option mRV) (n : Nat) : (v.toList ++ st.drop n).map (mCv ad) = (v.map (mCv ad)).toList ++ (st.drop n).map (mCv ad) := by
  cases v <;> simp
theorem r_static {i m' : Nat} (hd : decode mi.2.2.1 pc = .ok (.invokestatic i, 3)) (hl : ∃ k z, (k = 1 ∨ k = 2) ∧ (mi.1, i, m', k, z) ∈ mKl) (hm : m' < mMl.length) (hn : (mMt m').2.2.2.2.2.2.2.2.2.2 ≤ st.length) (hs : st.length ≤ 8)
    {Kc : Option mRV → mMem → Prop} (hkc : ∀ v h', Kc v h' → mGo l g mi d (pc + 3) xs (v.toList ++ st.drop (mMt m').2.2.2.2.2.2.2.2.2.2) h' K) (hc : mCall l g d m' (st.take (mMt m').2.2.2.2.2.2.2.2.2.2).reverse h Kc) : mGo l g mi d pc xs st h K := by
  intro p e s m args below meth c H locs ls C P D S L O
  obtain ⟨hx, hb, hml, hr, hown, hts, hlk, hK, hZ⟩ := id C
  cases d with
  | zero => exact hc.elim
  | succ d =>
    have hmem := mMt_mem hm
    have hM := hc (mTake_ok O) O.2.2
    generalize hnn : (mMt m').2.2.2.2.2.2.2.2.2.2 = n at *
    obtain ⟨k, z, hk, hz⟩ := hl
    obtain ⟨hi1, hi2, hi3⟩ := mMl_init _ hmem
    have hcls := mMl_cls _ hmem
    have hdesc := mMl_desc _ hmem
    rw [hnn] at hdesc
    have hfit : (8 : Nat) + ((mMt m').2.2.2.1 + 11) + (mRm d).locals ≤ (mRm (d + 1)).locals := by
      have : ∀ e ∈ mMl, e.2.2.2.1 ≤ 80 := by decide +kernel
      have h80 := this _ hmem
      show 8 + ((mMt m').2.2.2.1 + 11) + 100 * d ≤ 100 * (d + 1)
      omega
    have hpre : PreS s H (va_Pc (((st.take n).reverse).map (mCv g.2.2)) (fun U => mRep g h U U.heap)) (((st.take n).reverse).map (mCv g.2.2)) :=
      ⟨fun a U q mk z => ⟨z.1, mRep_call z.2⟩, fun U hU hW => ⟨rfl, mRep_of C P D S hU hW⟩⟩
    have hW8 : 2 * (F0 m pc ls (st.map (mCv g.2.2))).monitorRoom + (((st.drop n).map (mCv g.2.2)).map fun v => v.category).sum ≤ 8 := lv_room (by rw [mCats, List.length_drop]; omega)
    have hlen : (((st.take n).reverse).map (mCv g.2.2)).length = n := by rw [List.length_map, List.length_reverse, List.length_take]; omega
    have fin : va_Run p l e (mRm (d + 1)) s m args below meth c H locs 0 0 0 0 (F0 m pc ls (st.map (mCv g.2.2))) ((st.drop n).map (mCv g.2.2)) (mQ g Kc (((st.take n).reverse).map (mCv g.2.2)).toArray) (mA g) := by
      rcases mKl_ok _ hz with ⟨z1, -, -⟩ | ⟨z1, z2, z3⟩ | ⟨z1, z2, z3⟩
      · exact absurd z1 (by rcases hk with rfl | rfl <;> simp)
      · rcases mMl_kind _ hmem with ⟨y1, -⟩ | ⟨-, y2⟩
        · exact absurd (y1.symm.trans z2) (by decide)
        refine va_runS (own := mRn mi.1) (Ts := mWs mi) (nL := mi.2.2.2.1) ⟨hx, hb, hml, hown, hts⟩ hM (va_cwS (ws' := mWds) n hts ?_ rfl rfl rfl ⟨hcls.2.1, hcls.2.2, hdesc⟩ ⟨Nat.le_refl _, hfit⟩) hpre rfl hlen L.1 (mStk g.2.2 n hn) hW8 hd ⟨Nat.le_refl _, Nat.le_refl _⟩
        intro w hw
        rcases List.mem_append.mp hw with hw | hw
        · have key : w ∈ mWs mi ∧ goodWord w = true := by
            rcases List.mem_cons.mp hw with rfl | hw
            · exact ⟨mMem_w z3 rfl, rfl⟩
            rcases List.mem_cons.mp hw with rfl | hw
            · exact ⟨mMem_w y2 rfl, rfl⟩
            rcases List.mem_cons.mp hw with rfl | hw
            · exact ⟨mMem_w hi1 rfl, rfl⟩
            cases hw
          exact ⟨key.1, good_of_word key.2⟩
        · exact mGoodIn hmem w hw
      · rcases mMl_kind _ hmem with ⟨y1, -⟩ | ⟨-, y2⟩
        · exact absurd (y1.symm.trans z2) (by decide)
        exact va_runSN (own := mRn mi.1) (Ts := mWs mi) (nL := mi.2.2.2.1) ⟨hx, hb, hml, hown, hts⟩ hM ⟨va_cnB (Ts := mWs mi) (ws' := mWds) n hts (mGoodIn hmem) rfl rfl rfl (hZ.1 _ (List.mem_of_getElem? z3) rfl) (hts _ (mMem_w hi1 rfl)) ⟨hcls.2.1, hcls.2.2, hdesc⟩ ⟨Nat.le_refl _, hfit⟩, hts _ (mMem_w y2 rfl), trivial⟩ hpre rfl hlen L.1 (mStk g.2.2 n hn) hW8 hd ⟨Nat.le_refl _, Nat.le_refl _⟩
    refine mCall_on fin S (fun v h1 H1 locs1 hq hv hok P1 D1 S1 => ?_)
    have hW := hkc v h1 hq p e s m args below meth c H1 locs1 ls C P1 D1 S1 L (O.ret hv hok)
    rw [mRet_map] at hW
    exact hW
theorem r_virtual {i m' : Nat} {r : mRef} {as : List mRV} {fs : List mFd} (hd : decode mi.2.2.1 pc = .ok (.invokevirtual i, 3)) (hl : ∃ z, (mi.1, i, m', 0, z) ∈ mKl) (hm : m' < mMl.length) (hn : (mMt m').2.2.2.2.2.2.2.2.2.2 + 1 ≤ st.length) (hs : st.length ≤ 8)
    (ha : (st.take ((mMt m').2.2.2.2.2.2.2.2.2.2 + 1)).reverse = .inr r :: as) (hsh : mSh r.1 = .inl ((mMt m').1, fs))
    {Kc : Option mRV → mMem → Prop} (hkc : ∀ v h', Kc v h' → mGo l g mi d (pc + 3) xs (v.toList ++ st.drop ((mMt m').2.2.2.2.2.2.2.2.2.2 + 1)) h' K) (hc : mCall l g d m' (.inr r :: as) h Kc) : mGo l g mi d pc xs st h K := by
  intro p e s m args below meth c H locs ls C P D S L O
  obtain ⟨hx, hb, hml, hr, hown, hts, hlk, hK, hZ⟩ := id C
  cases d with
  | zero => exact hc.elim
  | succ d =>
    have hmem := mMt_mem hm
    have hok := mTake_ok (n := (mMt m').2.2.2.2.2.2.2.2.2.2 + 1) O
    rw [ha] at hok
    have hM := hc hok O.2.2
    have hstk := mStk g.2.2 ((mMt m').2.2.2.2.2.2.2.2.2.2 + 1) hn
    have hlen : as.length = (mMt m').2.2.2.2.2.2.2.2.2.2 := by
      have := congrArg List.length ha
      rw [List.length_reverse, List.length_take, List.length_cons] at this
      omega
    rw [ha] at hstk
    generalize hnn : (mMt m').2.2.2.2.2.2.2.2.2.2 = n at *
    obtain ⟨z, hz⟩ := hl
    obtain ⟨hi1, hi2, hi3⟩ := mMl_init _ hmem
    have hcls := mMl_cls _ hmem
    have hdesc := mMl_desc _ hmem
    rw [hnn] at hdesc
    have hfit : (8 : Nat) + ((mMt m').2.2.2.1 + 11) + (mRm d).locals ≤ (mRm (d + 1)).locals := by
      have : ∀ e ∈ mMl, e.2.2.2.1 ≤ 80 := by decide +kernel
      have h80 := this _ hmem
      show 8 + ((mMt m').2.2.2.1 + 11) + 100 * d ≤ 100 * (d + 1)
      omega
    obtain ⟨hL, hci, -, -⟩ := mObj (hok _ List.mem_cons_self) hsh
    obtain ⟨q, hq⟩ := List.getElem?_of_mem hL
    have hrecv := va_recv hK P (mCl_lt _ hci) (q0 := q) (a := g.2.2 r) (fs := mFs g h r fs 0) (by rw [mW_at hq, mElt_o hsh])
    have hpre : PreV s H (mMt m').2.1.cls (g.2.2 r) (va_Pc (((.inr r :: as : List mRV)).map (mCv g.2.2)) (fun U => mRep g h U U.heap)) (as.map (mCv g.2.2)) :=
      ⟨fun a U q mk z => ⟨z.1, mRep_call z.2⟩, by rw [hi2]; exact hrecv, fun U hU hW => ⟨rfl, mRep_of C P D S hU hW⟩⟩
    have hW8 : 2 * (F0 m pc ls (st.map (mCv g.2.2))).monitorRoom + (((st.drop (n + 1)).map (mCv g.2.2)).map fun v => v.category).sum ≤ 8 := lv_room (by rw [mCats, List.length_drop]; omega)
    have fin : va_Run p l e (mRm (d + 1)) s m args below meth c H locs 0 0 0 0 (F0 m pc ls (st.map (mCv g.2.2))) ((st.drop (n + 1)).map (mCv g.2.2)) (mQ g Kc (Value.ref (g.2.2 r) :: as.map (mCv g.2.2)).toArray) (mA g) := by
      rcases mKl_ok _ hz with ⟨z1, z2, z3⟩ | ⟨z1, z2, z3⟩ | ⟨z1, z2, z3⟩
      · rcases mMl_kind _ hmem with ⟨-, y2, y3⟩ | ⟨y1, -⟩
        · refine va_runV (own := mRn mi.1) (Ts := mWs mi) (nL := mi.2.2.2.1) (C := (mMt m').2.1.cls) ⟨hx, hb, hml, hown, hts⟩ hM (cwV (ws' := mWds) n hts ?_ rfl rfl rfl ⟨rfl, hcls.2.1, hcls.2.2, hdesc⟩ ⟨Nat.le_refl _, hfit⟩) hpre rfl (by rw [List.length_map]; exact hlen) L.1 ?_ hW8 hd ⟨Nat.le_refl _, Nat.le_refl _⟩
          · intro w hw
            rcases List.mem_append.mp hw with hw | hw
            · have key : w ∈ mWs mi ∧ goodWord w = true := by
                rcases List.mem_cons.mp hw with rfl | hw
                · exact ⟨mMem_w z3 rfl, rfl⟩
                rcases List.mem_cons.mp hw with rfl | hw
                · exact ⟨mMem_w y2 rfl, rfl⟩
                rcases List.mem_cons.mp hw with rfl | hw
                · exact ⟨mMem_w y3 rfl, rfl⟩
                rcases List.mem_cons.mp hw with rfl | hw
                · exact ⟨mMem_w hi1 rfl, rfl⟩
                cases hw
              exact ⟨key.1, good_of_word key.2⟩
            · exact mGoodIn hmem w hw
          · show st.map (mCv g.2.2) = _
            rw [hstk]
            simp [mCv]
        · exact absurd (z2.symm.trans y1) (by decide)
      · exact absurd (show (0 : Nat) = 1 from z1) (by decide)
      · exact absurd (show (0 : Nat) = 2 from z1) (by decide)
    refine mCall_on fin S (fun v h1 H1 locs1 hq hv hok P1 D1 S1 => ?_)
    have hW := hkc v h1 hq p e s m args below meth c H1 locs1 ls C P1 D1 S1 L (O.ret hv hok)
    rw [mRet_map] at hW
    exact hW
theorem r_iret {v : Int} (hd : decode mi.2.2.1 pc = .ok (.ireturn, 1)) (hz : mi.2.2.2.2.1 = some .int ∨ (mi.2.2.2.2.1 = some .boolean ∧ (v = 0 ∨ v = 1))) (k : K (some (.inl v)) h) : mGo l g mi d pc xs [.inl v] h K := by
  intro p e s m args below meth c H locs ls C P D S L O
  obtain ⟨hx, hb, hml, hr, hown, hts, hlk, hK, hZ⟩ := id C
  have fin : ∀ t : State, t.heap = H → s.WarmedH t.vm → mQ g K args s (.returned (some (.int (Int32.ofInt v)))) t := fun t ht hW =>
    ⟨⟨some (.inl v), h, rfl, k, fun w hw => by cases hw; exact O.top, O.2.2, mRep_of C P D S ht hW⟩, S.F ht⟩
  rcases hz with z | ⟨z, zz⟩
  · exact W.zret (ty := .int) hx hb (hr.trans z) rfl fin (fun q hq => S.2.2 q hq) hd hlk
  · exact W.zret (ty := .boolean) hx hb (hr.trans z) (by rcases zz with rfl | rfl <;> rfl) fin (fun q hq => S.2.2 q hq) hd hlk
theorem r_ret (hd : decode mi.2.2.1 pc = .ok (.return_, 1)) (hz : mi.2.2.2.2.1 = none) (k : K none h) : mGo l g mi d pc xs [] h K := by
  intro p e s m args below meth c H locs ls C P D S L O
  obtain ⟨hx, hb, hml, hr, hown, hts, hlk, hK, hZ⟩ := id C
  exact W.vret hx hb (hr.trans hz) (fun t ht hW => ⟨⟨none, h, rfl, k, fun w hw => (by cases hw), O.2.2, mRep_of C P D S ht hW⟩, S.F ht⟩) (fun q hq => S.2.2 q hq) hd hlk
end Snd
/-! the entry -/
theorem mSl_val (ad : mRef → Nat) : ∀ as : List mRV, lg_sl (as.map (mCv ad)) = as.map (fun v => Slot.val (mCv ad v))
  | [] => rfl
  | v :: as => by
    have h1 := mSl_val ad as
    unfold lg_sl at h1 ⊢
    rw [List.map_cons, List.flatMap_cons, h1, mCat]
    rfl
theorem mArgs_mem (ad : mRef → Nat) : ∀ (as : List mRV) (i k : Nat) (v : mRV), as[k]? = some v → (i + k, mCv ad v) ∈ lv_args i (as.map (mCv ad))
  | [], i, k, v, h => by simp at h
  | a :: as, i, 0, v, h => by
    simp at h
    subst h
    exact List.mem_cons_self
  | a :: as, i, k + 1, v, h => by
    simp only [List.getElem?_cons_succ] at h
    have h1 := mArgs_mem ad as (i + 1) k v h
    simp only [List.map_cons, lv_args, mCat]
    refine List.mem_cons_of_mem _ ?_
    rw [show i + (k + 1) = i + 1 + k by omega]
    exact h1
def mXs0 (as : List mRV) (n : Nat) : mXs := as.map some ++ List.replicate (n - as.length) none
theorem mCon_of {l : Launch} {g : mG} {m d : Nat} {as : List mRV} {h : mMem} {K : Option mRV → mMem → Prop} (hm : m < mMl.length) (hl : as.length ≤ (mMt m).2.2.2.1)
    (k : (∀ a ∈ as, mV a) → mMok h → mGo l g (mMt m) d 0 (mXs0 as (mMt m).2.2.2.1) [] h K) : mCon l g m d as h K := by
  intro hv hok
  have hmem := mMt_mem hm
  obtain ⟨hi1, hi2, hi3⟩ := mMl_init _ hmem
  refine va_MetF (cc := (mMt m).2.2.1) (maxL := (mMt m).2.2.2.1) (ret := (mMt m).2.2.2.2.1) (ws' := mWds) (mMl_cls _ hmem).1 rfl ?_
  intro p e s mm args below meth c s₁ B hml hP
  obtain ⟨rfl, hrep⟩ := hP
  have hts := atoms_spec (ws := mWs (mMt m)) B.pre
  have hown : s.vm.findClass (mMt m).2.1.cls = some mm.cls := findClass_of_methodNamed B.named
  rw [hi2] at hown
  have C : mCx p s mm (as.map (mCv g.2.2)).toArray meth c (mMt m) g := ⟨B.exec, B.bytes, hml, B.returns, hown, hts, B.notSynchronized, hrep.2.1, hrep.2.2.2⟩
  have hen := lv_entry (as.map (mCv g.2.2)) (n := (mMt m).2.2.2.1) (by rw [mSl_val, List.length_map]; exact hl)
  rw [lg_entry_eq]
  have L : mLs g ((lg_sl (as.map (mCv g.2.2)) ++ List.replicate ((mMt m).2.2.2.1 - (lg_sl (as.map (mCv g.2.2))).length) Slot.unset).toArray) (mMt m).2.2.2.1 (mXs0 as (mMt m).2.2.2.1) := by
    refine ⟨hen.1, ?_, hen.2.1, fun k v hk => ?_⟩
    · unfold mXs0
      rw [List.length_append, List.length_map, List.length_replicate]
      omega
    · have hk2 : as[k]? = some v := by
        unfold mXs0 at hk
        by_cases hlt : k < as.length
        · rw [List.getElem?_append_left (by rw [List.length_map]; exact hlt), List.getElem?_map] at hk
          cases hq : as[k]? with
          | none => rw [hq] at hk; cases hk
          | some w => rw [hq] at hk; cases hk; rfl
        · rw [List.getElem?_append_right (by rw [List.length_map]; omega), List.getElem?_replicate] at hk
          split at hk <;> cases hk
      have := mArgs_mem g.2.2 as 0 k v hk2
      rw [Nat.zero_add] at this
      exact hen.2.2 _ this
  have hxs : ∀ v, some v ∈ mXs0 as (mMt m).2.2.2.1 → mV v := by
    intro v hv2
    unfold mXs0 at hv2
    rcases List.mem_append.mp hv2 with z | z
    · obtain ⟨a, ha, e⟩ := List.mem_map.mp z
      have e2 := Option.some.inj e
      rw [← e2]
      exact hv a ha
    · cases (List.mem_replicate.mp z).2
  exact k hv hok p e s mm _ below meth c s.heap [] _ C hrep.1 hrep.2.2.1 va_S.rf L ⟨hxs, fun v hv2 => (by cases hv2), hok⟩
end
section
/-! the meaning of a step is sound; so is the walk -/
theorem mFind {α : Type} {l : List α} {f : α → Bool} {a : α} (h : l.find? f = some a) : a ∈ l ∧ f a = true := ⟨List.mem_of_find?_eq_some h, List.find?_some h⟩
section Snd
variable {l : Launch} {g : mG} {mi : mMi} {d pc len : Nat} {K : Option mRV → mMem → Prop} {xs : mXs} {st : List mRV} {h : mMem} {nx : mXs → List mRV → mMem → Prop} {jp : Nat → mXs → List mRV → mMem → Prop}
theorem mSwi_at {J : Nat → Prop} {x : Int} : ∀ (ts : List Nat) (lo : Int), mSwi J x lo ts → ∀ (i : Nat) (t : Nat), ts[i]? = some t → x = lo + i → J t
  | [], _, _, i, t, h1, _ => by simp at h1
  | a :: ts, lo, H, 0, t, h1, h2 => by
    simp at h1
    subst h1
    exact H.1 (by omega)
  | a :: ts, lo, H, i + 1, t, h1, h2 => by
    simp only [List.getElem?_cons_succ] at h1
    exact mSwi_at ts (lo + 1) H.2 i t h1 (by omega)
theorem s_iconst {v : Int} (hd : decode mi.2.2.1 pc = .ok (.iconst v, len)) (hln : mLn (.iconst v) len = true) {ι : mIns} (hr : mRes mi pc (.iconst v) = some ι) (hn : ∀ xs st h, nx xs st h → mGo l g mi d (pc + len) xs st h K) (hj : ∀ t xs st h, jp t xs st h → mGo l g mi d t xs st h K) (H : mSem d ι nx jp (mCall l g d) K xs st h) : mGo l g mi d pc xs st h K := by
  obtain rfl : len = 1 := by simpa [mLn] using hln
  by_cases h8 : -128 ≤ v ∧ v < 128
  · rw [show mRes mi pc (.iconst v) = some (0, [], [v]) from if_pos h8] at hr
    cases hr
    exact r_iconst hd ⟨by omega, by omega⟩ (hn _ _ _ H)
  · rw [show mRes mi pc (.iconst v) = none from if_neg h8] at hr
    cases hr
theorem s_bipush {v : Int} (hd : decode mi.2.2.1 pc = .ok (.bipush v, len)) (hln : mLn (.bipush v) len = true) {ι : mIns} (hr : mRes mi pc (.bipush v) = some ι) (hn : ∀ xs st h, nx xs st h → mGo l g mi d (pc + len) xs st h K) (hj : ∀ t xs st h, jp t xs st h → mGo l g mi d t xs st h K) (H : mSem d ι nx jp (mCall l g d) K xs st h) : mGo l g mi d pc xs st h K := by
  obtain rfl : len = 2 := by simpa [mLn] using hln
  by_cases h8 : -128 ≤ v ∧ v < 128
  · rw [show mRes mi pc (.bipush v) = some (0, [], [v]) from if_pos h8] at hr
    cases hr
    exact r_bipush hd h8 ⟨by omega, by omega⟩ (hn _ _ _ H)
  · rw [show mRes mi pc (.bipush v) = none from if_neg h8] at hr
    cases hr
theorem s_sipush {v : Int} (hd : decode mi.2.2.1 pc = .ok (.sipush v, len)) (hln : mLn (.sipush v) len = true) {ι : mIns} (hr : mRes mi pc (.sipush v) = some ι) (hn : ∀ xs st h, nx xs st h → mGo l g mi d (pc + len) xs st h K) (hj : ∀ t xs st h, jp t xs st h → mGo l g mi d t xs st h K) (H : mSem d ι nx jp (mCall l g d) K xs st h) : mGo l g mi d pc xs st h K := by
  obtain rfl : len = 3 := by simpa [mLn] using hln
  by_cases h8 : -32768 ≤ v ∧ v < 32768
  · rw [show mRes mi pc (.sipush v) = some (0, [], [v]) from if_pos h8] at hr
    cases hr
    exact r_sipush hd h8 ⟨by omega, by omega⟩ (hn _ _ _ H)
  · rw [show mRes mi pc (.sipush v) = none from if_neg h8] at hr
    cases hr
theorem s_ldc {i : Nat} (hd : decode mi.2.2.1 pc = .ok (.ldc i, len)) (hln : mLn (.ldc i) len = true) {ι : mIns} (hr : mRes mi pc (.ldc i) = some ι) (hn : ∀ xs st h, nx xs st h → mGo l g mi d (pc + len) xs st h K) (hj : ∀ t xs st h, jp t xs st h → mGo l g mi d t xs st h K) (H : mSem d ι nx jp (mCall l g d) K xs st h) : mGo l g mi d pc xs st h K := by
  obtain rfl : len = 2 := by simpa [mLn] using hln
  obtain ⟨e, he, hr⟩ := Option.bind_eq_some_iff.mp (show Option.bind _ _ = some ι from hr)
  obtain ⟨hm, hf⟩ := mFind he
  split at hr
  · next hi =>
    cases hr
    simp only [Bool.and_eq_true, beq_iff_eq] at hf
    have hc := mCl_ok e hm
    rw [hf.1, hf.2] at hc
    exact r_ldc hd (mMem_w hc rfl) hi (hn _ _ _ H)
  · cases hr
theorem s_ldc_w {i : Nat} (hd : decode mi.2.2.1 pc = .ok (.ldc_w i, len)) (hln : mLn (.ldc_w i) len = true) {ι : mIns} (hr : mRes mi pc (.ldc_w i) = some ι) (hn : ∀ xs st h, nx xs st h → mGo l g mi d (pc + len) xs st h K) (hj : ∀ t xs st h, jp t xs st h → mGo l g mi d t xs st h K) (H : mSem d ι nx jp (mCall l g d) K xs st h) : mGo l g mi d pc xs st h K := by
  obtain rfl : len = 3 := by simpa [mLn] using hln
  obtain ⟨e, he, hr⟩ := Option.bind_eq_some_iff.mp (show Option.bind _ _ = some ι from hr)
  obtain ⟨hm, hf⟩ := mFind he
  split at hr
  · next hi =>
    cases hr
    simp only [Bool.and_eq_true, beq_iff_eq] at hf
    have hc := mCl_ok e hm
    rw [hf.1, hf.2] at hc
    exact r_ldcw hd (mMem_w hc rfl) hi (hn _ _ _ H)
  · cases hr
theorem s_iload_n {k : Fin 4} (hd : decode mi.2.2.1 pc = .ok (.iload_n k, len)) (hln : mLn (.iload_n k) len = true) {ι : mIns} (hr : mRes mi pc (.iload_n k) = some ι) (hn : ∀ xs st h, nx xs st h → mGo l g mi d (pc + len) xs st h K) (hj : ∀ t xs st h, jp t xs st h → mGo l g mi d t xs st h K) (H : mSem d ι nx jp (mCall l g d) K xs st h) : mGo l g mi d pc xs st h K := by
  obtain rfl : len = 1 := by simpa [mLn] using hln
  cases hr
  have H : (match xs[k.val]? with | some (some (.inl v)) => nx xs (.inl v :: st) h | _ => False) := H
  split at H
  · next v hv => exact r_iload_n hd hv (hn _ _ _ H)
  · exact H.elim
theorem s_iload {k : Nat} (hd : decode mi.2.2.1 pc = .ok (.iload k, len)) (hln : mLn (.iload k) len = true) {ι : mIns} (hr : mRes mi pc (.iload k) = some ι) (hn : ∀ xs st h, nx xs st h → mGo l g mi d (pc + len) xs st h K) (hj : ∀ t xs st h, jp t xs st h → mGo l g mi d t xs st h K) (H : mSem d ι nx jp (mCall l g d) K xs st h) : mGo l g mi d pc xs st h K := by
  obtain rfl : len = 2 := by simpa [mLn] using hln
  cases hr
  have H : (match xs[k]? with | some (some (.inl v)) => nx xs (.inl v :: st) h | _ => False) := H
  split at H
  · next v hv => exact r_iload hd hv (hn _ _ _ H)
  · exact H.elim
theorem s_aload_n {k : Fin 4} (hd : decode mi.2.2.1 pc = .ok (.aload_n k, len)) (hln : mLn (.aload_n k) len = true) {ι : mIns} (hr : mRes mi pc (.aload_n k) = some ι) (hn : ∀ xs st h, nx xs st h → mGo l g mi d (pc + len) xs st h K) (hj : ∀ t xs st h, jp t xs st h → mGo l g mi d t xs st h K) (H : mSem d ι nx jp (mCall l g d) K xs st h) : mGo l g mi d pc xs st h K := by
  obtain rfl : len = 1 := by simpa [mLn] using hln
  cases hr
  have H : (match xs[k.val]? with | some (some (.inr v)) => nx xs (.inr v :: st) h | _ => False) := H
  split at H
  · next v hv => exact r_aload_n hd hv (hn _ _ _ H)
  · exact H.elim
theorem s_aload {k : Nat} (hd : decode mi.2.2.1 pc = .ok (.aload k, len)) (hln : mLn (.aload k) len = true) {ι : mIns} (hr : mRes mi pc (.aload k) = some ι) (hn : ∀ xs st h, nx xs st h → mGo l g mi d (pc + len) xs st h K) (hj : ∀ t xs st h, jp t xs st h → mGo l g mi d t xs st h K) (H : mSem d ι nx jp (mCall l g d) K xs st h) : mGo l g mi d pc xs st h K := by
  obtain rfl : len = 2 := by simpa [mLn] using hln
  cases hr
  have H : (match xs[k]? with | some (some (.inr v)) => nx xs (.inr v :: st) h | _ => False) := H
  split at H
  · next v hv => exact r_aload hd hv (hn _ _ _ H)
  · exact H.elim
theorem s_istore_n {k : Fin 4} (hd : decode mi.2.2.1 pc = .ok (.istore_n k, len)) (hln : mLn (.istore_n k) len = true) {ι : mIns} (hr : mRes mi pc (.istore_n k) = some ι) (hn : ∀ xs st h, nx xs st h → mGo l g mi d (pc + len) xs st h K) (hj : ∀ t xs st h, jp t xs st h → mGo l g mi d t xs st h K) (H : mSem d ι nx jp (mCall l g d) K xs st h) : mGo l g mi d pc xs st h K := by
  obtain rfl : len = 1 := by simpa [mLn] using hln
  cases hr
  rcases st with _ | ⟨v | v, st⟩ <;> first | exact False.elim H | skip
  cases hv : xs[k.val]? with
  | none =>
    have H : (match xs[k.val]? with | some _ => nx (xs.set k.val (some (.inl v))) st h | none => False) := H
    rw [hv] at H
    exact H.elim
  | some w =>
    have H : (match xs[k.val]? with | some _ => nx (xs.set k.val (some (.inl v))) st h | none => False) := H
    rw [hv] at H
    exact r_istore_n hd (List.getElem?_eq_some_iff.mp hv).1 (hn _ _ _ H)
theorem s_istore {k : Nat} (hd : decode mi.2.2.1 pc = .ok (.istore k, len)) (hln : mLn (.istore k) len = true) {ι : mIns} (hr : mRes mi pc (.istore k) = some ι) (hn : ∀ xs st h, nx xs st h → mGo l g mi d (pc + len) xs st h K) (hj : ∀ t xs st h, jp t xs st h → mGo l g mi d t xs st h K) (H : mSem d ι nx jp (mCall l g d) K xs st h) : mGo l g mi d pc xs st h K := by
  obtain rfl : len = 2 := by simpa [mLn] using hln
  cases hr
  rcases st with _ | ⟨v | v, st⟩ <;> first | exact False.elim H | skip
  cases hv : xs[k]? with
  | none =>
    have H : (match xs[k]? with | some _ => nx (xs.set k (some (.inl v))) st h | none => False) := H
    rw [hv] at H
    exact H.elim
  | some w =>
    have H : (match xs[k]? with | some _ => nx (xs.set k (some (.inl v))) st h | none => False) := H
    rw [hv] at H
    exact r_istore hd (List.getElem?_eq_some_iff.mp hv).1 (hn _ _ _ H)
theorem s_astore_n {k : Fin 4} (hd : decode mi.2.2.1 pc = .ok (.astore_n k, len)) (hln : mLn (.astore_n k) len = true) {ι : mIns} (hr : mRes mi pc (.astore_n k) = some ι) (hn : ∀ xs st h, nx xs st h → mGo l g mi d (pc + len) xs st h K) (hj : ∀ t xs st h, jp t xs st h → mGo l g mi d t xs st h K) (H : mSem d ι nx jp (mCall l g d) K xs st h) : mGo l g mi d pc xs st h K := by
  obtain rfl : len = 1 := by simpa [mLn] using hln
  cases hr
  rcases st with _ | ⟨v | v, st⟩ <;> first | exact False.elim H | skip
  cases hv : xs[k.val]? with
  | none =>
    have H : (match xs[k.val]? with | some _ => nx (xs.set k.val (some (.inr v))) st h | none => False) := H
    rw [hv] at H
    exact H.elim
  | some w =>
    have H : (match xs[k.val]? with | some _ => nx (xs.set k.val (some (.inr v))) st h | none => False) := H
    rw [hv] at H
    exact r_astore_n hd (List.getElem?_eq_some_iff.mp hv).1 (hn _ _ _ H)
theorem s_astore {k : Nat} (hd : decode mi.2.2.1 pc = .ok (.astore k, len)) (hln : mLn (.astore k) len = true) {ι : mIns} (hr : mRes mi pc (.astore k) = some ι) (hn : ∀ xs st h, nx xs st h → mGo l g mi d (pc + len) xs st h K) (hj : ∀ t xs st h, jp t xs st h → mGo l g mi d t xs st h K) (H : mSem d ι nx jp (mCall l g d) K xs st h) : mGo l g mi d pc xs st h K := by
  obtain rfl : len = 2 := by simpa [mLn] using hln
  cases hr
  rcases st with _ | ⟨v | v, st⟩ <;> first | exact False.elim H | skip
  cases hv : xs[k]? with
  | none =>
    have H : (match xs[k]? with | some _ => nx (xs.set k (some (.inr v))) st h | none => False) := H
    rw [hv] at H
    exact H.elim
  | some w =>
    have H : (match xs[k]? with | some _ => nx (xs.set k (some (.inr v))) st h | none => False) := H
    rw [hv] at H
    exact r_astore hd (List.getElem?_eq_some_iff.mp hv).1 (hn _ _ _ H)
theorem s_iinc {k : Nat} {n : Int} (hd : decode mi.2.2.1 pc = .ok (.iinc k n, len)) (hln : mLn (.iinc k n) len = true) {ι : mIns} (hr : mRes mi pc (.iinc k n) = some ι) (hn : ∀ xs st h, nx xs st h → mGo l g mi d (pc + len) xs st h K) (hj : ∀ t xs st h, jp t xs st h → mGo l g mi d t xs st h K) (H : mSem d ι nx jp (mCall l g d) K xs st h) : mGo l g mi d pc xs st h K := by
  obtain rfl : len = 3 := by simpa [mLn] using hln
  cases hr
  have H : (match xs[k]? with | some (some (.inl v)) => nx (xs.set k (some (.inl (mWr (v + n))))) st h | _ => False) := H
  split at H
  · next v hv => exact r_iinc hd hv (hn _ _ _ H)
  · exact H.elim
theorem s_iadd (hd : decode mi.2.2.1 pc = .ok (.iadd, len)) (hln : mLn (.iadd) len = true) {ι : mIns} (hr : mRes mi pc (.iadd) = some ι) (hn : ∀ xs st h, nx xs st h → mGo l g mi d (pc + len) xs st h K) (hj : ∀ t xs st h, jp t xs st h → mGo l g mi d t xs st h K) (H : mSem d ι nx jp (mCall l g d) K xs st h) : mGo l g mi d pc xs st h K := by
  obtain rfl : len = 1 := by simpa [mLn] using hln
  cases hr
  rcases st with _ | ⟨b | b, _ | ⟨a | a, st⟩⟩ <;> first | exact False.elim H | exact r_iadd hd (hn _ _ _ H)
theorem s_isub (hd : decode mi.2.2.1 pc = .ok (.isub, len)) (hln : mLn (.isub) len = true) {ι : mIns} (hr : mRes mi pc (.isub) = some ι) (hn : ∀ xs st h, nx xs st h → mGo l g mi d (pc + len) xs st h K) (hj : ∀ t xs st h, jp t xs st h → mGo l g mi d t xs st h K) (H : mSem d ι nx jp (mCall l g d) K xs st h) : mGo l g mi d pc xs st h K := by
  obtain rfl : len = 1 := by simpa [mLn] using hln
  cases hr
  rcases st with _ | ⟨b | b, _ | ⟨a | a, st⟩⟩ <;> first | exact False.elim H | exact r_isub hd (hn _ _ _ H)
theorem s_imul (hd : decode mi.2.2.1 pc = .ok (.imul, len)) (hln : mLn (.imul) len = true) {ι : mIns} (hr : mRes mi pc (.imul) = some ι) (hn : ∀ xs st h, nx xs st h → mGo l g mi d (pc + len) xs st h K) (hj : ∀ t xs st h, jp t xs st h → mGo l g mi d t xs st h K) (H : mSem d ι nx jp (mCall l g d) K xs st h) : mGo l g mi d pc xs st h K := by
  obtain rfl : len = 1 := by simpa [mLn] using hln
  cases hr
  rcases st with _ | ⟨b | b, _ | ⟨a | a, st⟩⟩ <;> first | exact False.elim H | exact r_imul hd (hn _ _ _ H)
theorem s_iand (hd : decode mi.2.2.1 pc = .ok (.iand, len)) (hln : mLn (.iand) len = true) {ι : mIns} (hr : mRes mi pc (.iand) = some ι) (hn : ∀ xs st h, nx xs st h → mGo l g mi d (pc + len) xs st h K) (hj : ∀ t xs st h, jp t xs st h → mGo l g mi d t xs st h K) (H : mSem d ι nx jp (mCall l g d) K xs st h) : mGo l g mi d pc xs st h K := by
  obtain rfl : len = 1 := by simpa [mLn] using hln
  cases hr
  rcases st with _ | ⟨b | b, _ | ⟨a | a, st⟩⟩ <;> first | exact False.elim H | exact r_iand hd (hn _ _ _ H)
theorem s_ior (hd : decode mi.2.2.1 pc = .ok (.ior, len)) (hln : mLn (.ior) len = true) {ι : mIns} (hr : mRes mi pc (.ior) = some ι) (hn : ∀ xs st h, nx xs st h → mGo l g mi d (pc + len) xs st h K) (hj : ∀ t xs st h, jp t xs st h → mGo l g mi d t xs st h K) (H : mSem d ι nx jp (mCall l g d) K xs st h) : mGo l g mi d pc xs st h K := by
  obtain rfl : len = 1 := by simpa [mLn] using hln
  cases hr
  rcases st with _ | ⟨b | b, _ | ⟨a | a, st⟩⟩ <;> first | exact False.elim H | exact r_ior hd (hn _ _ _ H)
theorem s_ixor (hd : decode mi.2.2.1 pc = .ok (.ixor, len)) (hln : mLn (.ixor) len = true) {ι : mIns} (hr : mRes mi pc (.ixor) = some ι) (hn : ∀ xs st h, nx xs st h → mGo l g mi d (pc + len) xs st h K) (hj : ∀ t xs st h, jp t xs st h → mGo l g mi d t xs st h K) (H : mSem d ι nx jp (mCall l g d) K xs st h) : mGo l g mi d pc xs st h K := by
  obtain rfl : len = 1 := by simpa [mLn] using hln
  cases hr
  rcases st with _ | ⟨b | b, _ | ⟨a | a, st⟩⟩ <;> first | exact False.elim H | exact r_ixor hd (hn _ _ _ H)
theorem s_ishl (hd : decode mi.2.2.1 pc = .ok (.ishl, len)) (hln : mLn (.ishl) len = true) {ι : mIns} (hr : mRes mi pc (.ishl) = some ι) (hn : ∀ xs st h, nx xs st h → mGo l g mi d (pc + len) xs st h K) (hj : ∀ t xs st h, jp t xs st h → mGo l g mi d t xs st h K) (H : mSem d ι nx jp (mCall l g d) K xs st h) : mGo l g mi d pc xs st h K := by
  obtain rfl : len = 1 := by simpa [mLn] using hln
  cases hr
  rcases st with _ | ⟨b | b, _ | ⟨a | a, st⟩⟩ <;> first | exact False.elim H | exact r_ishl hd (hn _ _ _ H)
theorem s_ishr (hd : decode mi.2.2.1 pc = .ok (.ishr, len)) (hln : mLn (.ishr) len = true) {ι : mIns} (hr : mRes mi pc (.ishr) = some ι) (hn : ∀ xs st h, nx xs st h → mGo l g mi d (pc + len) xs st h K) (hj : ∀ t xs st h, jp t xs st h → mGo l g mi d t xs st h K) (H : mSem d ι nx jp (mCall l g d) K xs st h) : mGo l g mi d pc xs st h K := by
  obtain rfl : len = 1 := by simpa [mLn] using hln
  cases hr
  rcases st with _ | ⟨b | b, _ | ⟨a | a, st⟩⟩ <;> first | exact False.elim H | exact r_ishr hd (hn _ _ _ H)
theorem s_iushr (hd : decode mi.2.2.1 pc = .ok (.iushr, len)) (hln : mLn (.iushr) len = true) {ι : mIns} (hr : mRes mi pc (.iushr) = some ι) (hn : ∀ xs st h, nx xs st h → mGo l g mi d (pc + len) xs st h K) (hj : ∀ t xs st h, jp t xs st h → mGo l g mi d t xs st h K) (H : mSem d ι nx jp (mCall l g d) K xs st h) : mGo l g mi d pc xs st h K := by
  obtain rfl : len = 1 := by simpa [mLn] using hln
  cases hr
  rcases st with _ | ⟨b | b, _ | ⟨a | a, st⟩⟩ <;> first | exact False.elim H | exact r_iushr hd (hn _ _ _ H)
theorem s_idiv (hd : decode mi.2.2.1 pc = .ok (.idiv, len)) (hln : mLn (.idiv) len = true) {ι : mIns} (hr : mRes mi pc (.idiv) = some ι) (hn : ∀ xs st h, nx xs st h → mGo l g mi d (pc + len) xs st h K) (hj : ∀ t xs st h, jp t xs st h → mGo l g mi d t xs st h K) (H : mSem d ι nx jp (mCall l g d) K xs st h) : mGo l g mi d pc xs st h K := by
  obtain rfl : len = 1 := by simpa [mLn] using hln
  cases hr
  rcases st with _ | ⟨b | b, _ | ⟨a | a, st⟩⟩ <;> first | exact False.elim H | exact r_idiv hd H.1 (hn _ _ _ H.2)
theorem s_irem (hd : decode mi.2.2.1 pc = .ok (.irem, len)) (hln : mLn (.irem) len = true) {ι : mIns} (hr : mRes mi pc (.irem) = some ι) (hn : ∀ xs st h, nx xs st h → mGo l g mi d (pc + len) xs st h K) (hj : ∀ t xs st h, jp t xs st h → mGo l g mi d t xs st h K) (H : mSem d ι nx jp (mCall l g d) K xs st h) : mGo l g mi d pc xs st h K := by
  obtain rfl : len = 1 := by simpa [mLn] using hln
  cases hr
  rcases st with _ | ⟨b | b, _ | ⟨a | a, st⟩⟩ <;> first | exact False.elim H | exact r_irem hd H.1 (hn _ _ _ H.2)
theorem s_goto {o : Int} (hd : decode mi.2.2.1 pc = .ok (.goto o, len)) (hln : mLn (.goto o) len = true) {ι : mIns} (hr : mRes mi pc (.goto o) = some ι) (hn : ∀ xs st h, nx xs st h → mGo l g mi d (pc + len) xs st h K) (hj : ∀ t xs st h, jp t xs st h → mGo l g mi d t xs st h K) (H : mSem d ι nx jp (mCall l g d) K xs st h) : mGo l g mi d pc xs st h K := by
  obtain rfl : len = 3 := by simpa [mLn] using hln
  obtain ⟨t, ht, hr⟩ := Option.map_eq_some_iff.mp (show Option.map _ _ = some ι from hr)
  cases hr
  unfold mJ at ht
  split at ht
  · cases ht
    exact r_goto hd (by omega) (hj _ _ _ _ H)
  · cases ht
theorem s_ifCond {c : ClassFile.Cond} {o : Int} (hd : decode mi.2.2.1 pc = .ok (.ifCond c o, len)) (hln : mLn (.ifCond c o) len = true) {ι : mIns} (hr : mRes mi pc (.ifCond c o) = some ι) (hn : ∀ xs st h, nx xs st h → mGo l g mi d (pc + len) xs st h K) (hj : ∀ t xs st h, jp t xs st h → mGo l g mi d t xs st h K) (H : mSem d ι nx jp (mCall l g d) K xs st h) : mGo l g mi d pc xs st h K := by
  obtain rfl : len = 3 := by simpa [mLn] using hln
  have hr2 : (mJ pc o).map (fun (t : Nat) => ((21, [mCc c, t], []) : mIns)) = some ι := hr
  obtain ⟨t, ht, hr3⟩ := Option.map_eq_some_iff.mp hr2
  subst hr3
  have hto : (pc : Int) + o = (t : Int) := by
    unfold mJ at ht
    split at ht
    · cases ht
      omega
    · cases ht
  rcases st with _ | ⟨a | a, st⟩ <;> first | exact False.elim H | skip
  cases c
  case eq => exact r_if_eq hd hto (fun q => hj _ _ _ _ (H.1 q)) (fun q => hn _ _ _ (H.2 q))
  case ne => exact r_if_ne hd hto (fun q => hj _ _ _ _ (H.1 q)) (fun q => hn _ _ _ (H.2 (Classical.not_not.mp q)))
  case lt => exact r_if_lt hd hto (fun q => hj _ _ _ _ (H.1 q)) (fun q => hn _ _ _ (H.2 (Int.not_lt.mp q)))
  case ge => exact r_if_ge hd hto (fun q => hj _ _ _ _ (H.1 q)) (fun q => hn _ _ _ (H.2 (Int.not_le.mp q)))
  case gt => exact r_if_gt hd hto (fun q => hj _ _ _ _ (H.1 q)) (fun q => hn _ _ _ (H.2 (Int.not_lt.mp q)))
  case le => exact r_if_le hd hto (fun q => hj _ _ _ _ (H.1 q)) (fun q => hn _ _ _ (H.2 (Int.not_le.mp q)))
theorem s_if_icmp {c : ClassFile.Cond} {o : Int} (hd : decode mi.2.2.1 pc = .ok (.if_icmp c o, len)) (hln : mLn (.if_icmp c o) len = true) {ι : mIns} (hr : mRes mi pc (.if_icmp c o) = some ι) (hn : ∀ xs st h, nx xs st h → mGo l g mi d (pc + len) xs st h K) (hj : ∀ t xs st h, jp t xs st h → mGo l g mi d t xs st h K) (H : mSem d ι nx jp (mCall l g d) K xs st h) : mGo l g mi d pc xs st h K := by
  obtain rfl : len = 3 := by simpa [mLn] using hln
  have hr2 : (mJ pc o).map (fun (t : Nat) => ((22, [mCc c, t], []) : mIns)) = some ι := hr
  obtain ⟨t, ht, hr3⟩ := Option.map_eq_some_iff.mp hr2
  subst hr3
  have hto : (pc : Int) + o = (t : Int) := by
    unfold mJ at ht
    split at ht
    · cases ht
      omega
    · cases ht
  rcases st with _ | ⟨b | b, _ | ⟨a | a, st⟩⟩ <;> first | exact False.elim H | skip
  cases c
  case eq => exact r_icmp_eq hd hto (fun q => hj _ _ _ _ (H.1 q)) (fun q => hn _ _ _ (H.2 q))
  case ne => exact r_icmp_ne hd hto (fun q => hj _ _ _ _ (H.1 q)) (fun q => hn _ _ _ (H.2 (Classical.not_not.mp q)))
  case lt => exact r_icmp_lt hd hto (fun q => hj _ _ _ _ (H.1 q)) (fun q => hn _ _ _ (H.2 (Int.not_lt.mp q)))
  case ge => exact r_icmp_ge hd hto (fun q => hj _ _ _ _ (H.1 q)) (fun q => hn _ _ _ (H.2 (Int.not_le.mp q)))
  case gt => exact r_icmp_gt hd hto (fun q => hj _ _ _ _ (H.1 q)) (fun q => hn _ _ _ (H.2 (Int.not_lt.mp q)))
  case le => exact r_icmp_le hd hto (fun q => hj _ _ _ _ (H.1 q)) (fun q => hn _ _ _ (H.2 (Int.not_le.mp q)))
theorem s_tableswitch {df : Int} {lo : Int} {hi : Int} {os : Array Int} (hd : decode mi.2.2.1 pc = .ok (.tableswitch df lo hi os, len)) (hln : mLn (.tableswitch df lo hi os) len = true) {ι : mIns} (hr : mRes mi pc (.tableswitch df lo hi os) = some ι) (hn : ∀ xs st h, nx xs st h → mGo l g mi d (pc + len) xs st h K) (hj : ∀ t xs st h, jp t xs st h → mGo l g mi d t xs st h K) (H : mSem d ι nx jp (mCall l g d) K xs st h) : mGo l g mi d pc xs st h K := by
  by_cases hc : 0 ≤ (pc : Int) + df ∧ hi = lo + os.toList.length - 1 ∧ os.toList.all (fun o => decide (0 ≤ (pc : Int) + o)) = true
  · rw [show mRes mi pc (.tableswitch df lo hi os) = some (23, ((pc : Int) + df).toNat :: os.toList.map (fun o => ((pc : Int) + o).toNat), [lo]) from if_pos hc] at hr
    cases hr
    rcases st with _ | ⟨a | a, st⟩ <;> first | exact False.elim H | skip
    obtain ⟨H1, H2⟩ := H
    refine r_sw hd hc.1 hc.2.1 (fun o ho => of_decide_eq_true (List.all_eq_true.mp hc.2.2 o ho)) (fun i o hi ha => ?_) (fun q => hj _ _ _ _ (H2 (by rw [List.length_map]; exact q)))
    exact hj _ _ _ _ (mSwi_at _ _ H1 i ((pc : Int) + o).toNat (by rw [List.getElem?_map, hi]; rfl) ha)
  · rw [show mRes mi pc (.tableswitch df lo hi os) = none from if_neg hc] at hr
    cases hr
theorem s_getfield {i : Nat} (hd : decode mi.2.2.1 pc = .ok (.getfield i, len)) (hln : mLn (.getfield i) len = true) {ι : mIns} (hr : mRes mi pc (.getfield i) = some ι) (hn : ∀ xs st h, nx xs st h → mGo l g mi d (pc + len) xs st h K) (hj : ∀ t xs st h, jp t xs st h → mGo l g mi d t xs st h K) (H : mSem d ι nx jp (mCall l g d) K xs st h) : mGo l g mi d pc xs st h K := by
  obtain rfl : len = 3 := by simpa [mLn] using hln
  obtain ⟨e, he, hr⟩ := Option.map_eq_some_iff.mp (show Option.map _ _ = some ι from hr)
  cases hr
  obtain ⟨hm, hf⟩ := mFind he
  obtain ⟨ow, ix, ci, k, z⟩ := e
  simp only [Bool.and_eq_true, beq_iff_eq] at hf
  obtain ⟨rfl, rfl⟩ := hf
  rcases st with _ | ⟨r | ⟨rt, ri⟩, st⟩ <;> first | exact False.elim H | skip
  have H : (match mSh rt with
        | .inl (cj, fs) => bif cj == ci then (match fs[k]? with
          | some none => nx xs (.inl (h rt ri k) :: st) h
          | some (some (t, none)) => nx xs (.inr (t, ri) :: st) h
          | some (some (t, some i)) => nx xs (.inr (t, i) :: st) h
          | none => False) else False
        | _ => False) := H
  split at H
  · next cj fs hs =>
    by_cases hc : cj = ci
    · subst hc
      rw [beq_self_eq_true, cond_true] at H
      split at H
      · next hk => exact r_getf (r := (rt, ri)) (v := .inl (h rt ri k)) hd ⟨z, hm⟩ hs hk rfl (fun O => O.2.2 _ _ _) (hn _ _ _ H)
      · next t hk => exact r_getf (r := (rt, ri)) (v := .inr (t, ri)) hd ⟨z, hm⟩ hs hk rfl (fun O => (mObj (show ((rt, ri) : mRef) ∈ mLq from O.top) hs).2.2.2 _ (List.mem_of_getElem? hk)) (hn _ _ _ H)
      · next t i hk => exact r_getf (r := (rt, ri)) (v := .inr (t, i)) hd ⟨z, hm⟩ hs hk rfl (fun O => (mObj (show ((rt, ri) : mRef) ∈ mLq from O.top) hs).2.2.2 _ (List.mem_of_getElem? hk)) (hn _ _ _ H)
      · exact H.elim
    · rw [beq_eq_false_iff_ne.mpr hc, cond_false] at H
      exact H.elim
  · exact H.elim
theorem s_putfield {i : Nat} (hd : decode mi.2.2.1 pc = .ok (.putfield i, len)) (hln : mLn (.putfield i) len = true) {ι : mIns} (hr : mRes mi pc (.putfield i) = some ι) (hn : ∀ xs st h, nx xs st h → mGo l g mi d (pc + len) xs st h K) (hj : ∀ t xs st h, jp t xs st h → mGo l g mi d t xs st h K) (H : mSem d ι nx jp (mCall l g d) K xs st h) : mGo l g mi d pc xs st h K := by
  obtain rfl : len = 3 := by simpa [mLn] using hln
  obtain ⟨e, he, hr2⟩ := Option.bind_eq_some_iff.mp (show Option.bind _ _ = some ι from hr)
  clear hr
  obtain ⟨hm, hf⟩ := mFind he
  obtain ⟨ow, ix, ci, k, z⟩ := e
  simp only [Bool.and_eq_true, beq_iff_eq] at hf
  obtain ⟨rfl, rfl⟩ := hf
  dsimp only at hr2
  by_cases hc0 : (mT ci k).2.2.2 = false ∧ (mTyp ci k = .int ∨ mTyp ci k = .boolean)
  · rw [if_pos hc0] at hr2
    have hι := Option.some.inj hr2
    rcases st with _ | ⟨v | v, _ | ⟨r | ⟨rt, ri⟩, st⟩⟩ <;> (subst hι) <;> first | exact False.elim H | skip
    have H : (match mSh rt with
        | .inl (cj, fs) => bif cj == ci then (match fs[k]? with
          | some none => bif (if mTyp ci k = .int then 0 else 1) == 0 then nx xs st (mSet h rt ri k v) else ((v = 0 ∨ v = 1) ∧ nx xs st (mSet h rt ri k v))
          | _ => False) else False
        | _ => False) := H
    split at H
    · next cj fs hs =>
      by_cases hc : cj = ci
      · subst hc
        rw [beq_self_eq_true, cond_true] at H
        split at H
        · next hk =>
          rcases hc0.2 with ht | ht
          · rw [if_pos ht] at H
            exact r_putf (r := (rt, ri)) hd ⟨z, hm⟩ hc0.1 (Or.inl ht) hs hk (hn _ _ _ H)
          · rw [if_neg (by rw [ht]; exact fun q => by cases q)] at H
            exact r_putf (r := (rt, ri)) hd ⟨z, hm⟩ hc0.1 (Or.inr ⟨ht, H.1⟩) hs hk (hn _ _ _ H.2)
        · exact H.elim
      · rw [beq_eq_false_iff_ne.mpr hc, cond_false] at H
        exact H.elim
    · exact H.elim
  · rw [if_neg hc0] at hr2
    cases hr2
theorem s_getstatic {i : Nat} (hd : decode mi.2.2.1 pc = .ok (.getstatic i, len)) (hln : mLn (.getstatic i) len = true) {ι : mIns} (hr : mRes mi pc (.getstatic i) = some ι) (hn : ∀ xs st h, nx xs st h → mGo l g mi d (pc + len) xs st h K) (hj : ∀ t xs st h, jp t xs st h → mGo l g mi d t xs st h K) (H : mSem d ι nx jp (mCall l g d) K xs st h) : mGo l g mi d pc xs st h K := by
  obtain rfl : len = 3 := by simpa [mLn] using hln
  obtain ⟨e, he, hr2⟩ := Option.bind_eq_some_iff.mp (show Option.bind _ _ = some ι from hr)
  clear hr
  obtain ⟨hm, hf⟩ := mFind he
  obtain ⟨ow, ix, t, k, z⟩ := e
  simp only [Bool.and_eq_true, beq_iff_eq] at hf
  obtain ⟨rfl, rfl⟩ := hf
  dsimp only at hr2
  by_cases hc : t ∈ ([100, 101, 102, 103, 104] : List Nat)
  · rw [if_pos hc] at hr2
    cases hr2
    exact r_gets hd ⟨k, z, hm⟩ hc (hn _ _ _ H)
  · rw [if_neg hc] at hr2
    cases hr2
theorem s_iaload (hd : decode mi.2.2.1 pc = .ok (.iaload, len)) (hln : mLn (.iaload) len = true) {ι : mIns} (hr : mRes mi pc (.iaload) = some ι) (hn : ∀ xs st h, nx xs st h → mGo l g mi d (pc + len) xs st h K) (hj : ∀ t xs st h, jp t xs st h → mGo l g mi d t xs st h K) (H : mSem d ι nx jp (mCall l g d) K xs st h) : mGo l g mi d pc xs st h K := by
  obtain rfl : len = 1 := by simpa [mLn] using hln
  cases hr
  rcases st with _ | ⟨x | x, _ | ⟨r | ⟨rt, ri⟩, st⟩⟩ <;> first | exact False.elim H | skip
  have H : (match mSh rt with
        | .inr (0, n) => (0 ≤ x ∧ x < n) ∧ nx xs (.inl (h rt ri x.toNat) :: st) h
        | .inr (3, n) => (0 ≤ x ∧ x < n) ∧ nx xs (.inl ((mTab rt).getD x.toNat 0) :: st) h
        | _ => False) := H
  split at H
  · next n hs => exact r_iald (r := (rt, ri)) hd hs H.1.1 H.1.2 (hn _ _ _ H.2)
  · next n hs => exact r_tald (r := (rt, ri)) hd hs H.1.1 H.1.2 (hn _ _ _ H.2)
  · exact H.elim
theorem s_baload (hd : decode mi.2.2.1 pc = .ok (.baload, len)) (hln : mLn (.baload) len = true) {ι : mIns} (hr : mRes mi pc (.baload) = some ι) (hn : ∀ xs st h, nx xs st h → mGo l g mi d (pc + len) xs st h K) (hj : ∀ t xs st h, jp t xs st h → mGo l g mi d t xs st h K) (H : mSem d ι nx jp (mCall l g d) K xs st h) : mGo l g mi d pc xs st h K := by
  obtain rfl : len = 1 := by simpa [mLn] using hln
  cases hr
  rcases st with _ | ⟨x | x, _ | ⟨r | ⟨rt, ri⟩, st⟩⟩ <;> first | exact False.elim H | skip
  have H : (match mSh rt with
        | .inr (1, n) => (0 ≤ x ∧ x < n) ∧ nx xs (.inl (h rt ri x.toNat) :: st) h
        | _ => False) := H
  split at H
  · next n hs => exact r_zald (r := (rt, ri)) hd hs H.1.1 H.1.2 (hn _ _ _ H.2)
  · exact H.elim
theorem s_aaload (hd : decode mi.2.2.1 pc = .ok (.aaload, len)) (hln : mLn (.aaload) len = true) {ι : mIns} (hr : mRes mi pc (.aaload) = some ι) (hn : ∀ xs st h, nx xs st h → mGo l g mi d (pc + len) xs st h K) (hj : ∀ t xs st h, jp t xs st h → mGo l g mi d t xs st h K) (H : mSem d ι nx jp (mCall l g d) K xs st h) : mGo l g mi d pc xs st h K := by
  obtain rfl : len = 1 := by simpa [mLn] using hln
  cases hr
  rcases st with _ | ⟨x | x, _ | ⟨r | ⟨rt, ri⟩, st⟩⟩ <;> first | exact False.elim H | skip
  have H : (match mSh rt with
        | .inr (2, n) => (0 ≤ x ∧ x < n) ∧ nx xs (.inr (4, mNi x.toNat) :: st) h
        | _ => False) := H
  split at H
  · next n hs => exact r_aald (r := (rt, ri)) hd hs H.1.1 H.1.2 (hn _ _ _ H.2)
  · exact H.elim
theorem s_arraylength (hd : decode mi.2.2.1 pc = .ok (.arraylength, len)) (hln : mLn (.arraylength) len = true) {ι : mIns} (hr : mRes mi pc (.arraylength) = some ι) (hn : ∀ xs st h, nx xs st h → mGo l g mi d (pc + len) xs st h K) (hj : ∀ t xs st h, jp t xs st h → mGo l g mi d t xs st h K) (H : mSem d ι nx jp (mCall l g d) K xs st h) : mGo l g mi d pc xs st h K := by
  obtain rfl : len = 1 := by simpa [mLn] using hln
  cases hr
  rcases st with _ | ⟨r | ⟨rt, ri⟩, st⟩ <;> first | exact False.elim H | skip
  have H : (match mSh rt with
        | .inr (0, n) => nx xs (.inl n :: st) h
        | _ => False) := H
  split at H
  · next n hs => exact r_alen (r := (rt, ri)) hd hs (hn _ _ _ H)
  · exact H.elim
theorem s_iastore (hd : decode mi.2.2.1 pc = .ok (.iastore, len)) (hln : mLn (.iastore) len = true) {ι : mIns} (hr : mRes mi pc (.iastore) = some ι) (hn : ∀ xs st h, nx xs st h → mGo l g mi d (pc + len) xs st h K) (hj : ∀ t xs st h, jp t xs st h → mGo l g mi d t xs st h K) (H : mSem d ι nx jp (mCall l g d) K xs st h) : mGo l g mi d pc xs st h K := by
  obtain rfl : len = 1 := by simpa [mLn] using hln
  cases hr
  rcases st with _ | ⟨v | v, _ | ⟨x | x, _ | ⟨r | ⟨rt, ri⟩, st⟩⟩⟩ <;> first | exact False.elim H | skip
  have H : (match mSh rt with
        | .inr (0, n) => (0 ≤ x ∧ x < n) ∧ nx xs st (mSet h rt ri x.toNat v)
        | _ => False) := H
  split at H
  · next n hs => exact r_iast (r := (rt, ri)) hd hs H.1.1 H.1.2 (hn _ _ _ H.2)
  · exact H.elim
theorem s_bastore (hd : decode mi.2.2.1 pc = .ok (.bastore, len)) (hln : mLn (.bastore) len = true) {ι : mIns} (hr : mRes mi pc (.bastore) = some ι) (hn : ∀ xs st h, nx xs st h → mGo l g mi d (pc + len) xs st h K) (hj : ∀ t xs st h, jp t xs st h → mGo l g mi d t xs st h K) (H : mSem d ι nx jp (mCall l g d) K xs st h) : mGo l g mi d pc xs st h K := by
  obtain rfl : len = 1 := by simpa [mLn] using hln
  cases hr
  rcases st with _ | ⟨v | v, _ | ⟨x | x, _ | ⟨r | ⟨rt, ri⟩, st⟩⟩⟩ <;> first | exact False.elim H | skip
  have H : (match mSh rt with
        | .inr (1, n) => (0 ≤ x ∧ x < n) ∧ (v = 0 ∨ v = 1) ∧ nx xs st (mSet h rt ri x.toNat v)
        | _ => False) := H
  split at H
  · next n hs => exact r_zast (r := (rt, ri)) hd hs H.1.1 H.1.2 H.2.1 (hn _ _ _ H.2.2)
  · exact H.elim
theorem s_dup (hd : decode mi.2.2.1 pc = .ok (.dup, len)) (hln : mLn (.dup) len = true) {ι : mIns} (hr : mRes mi pc (.dup) = some ι) (hn : ∀ xs st h, nx xs st h → mGo l g mi d (pc + len) xs st h K) (hj : ∀ t xs st h, jp t xs st h → mGo l g mi d t xs st h K) (H : mSem d ι nx jp (mCall l g d) K xs st h) : mGo l g mi d pc xs st h K := by
  obtain rfl : len = 1 := by simpa [mLn] using hln
  cases hr
  rcases st with _ | ⟨v, st⟩
  · exact False.elim H
  · exact r_dup hd (hn _ _ _ H)
theorem s_dup2 (hd : decode mi.2.2.1 pc = .ok (.dup2, len)) (hln : mLn (.dup2) len = true) {ι : mIns} (hr : mRes mi pc (.dup2) = some ι) (hn : ∀ xs st h, nx xs st h → mGo l g mi d (pc + len) xs st h K) (hj : ∀ t xs st h, jp t xs st h → mGo l g mi d t xs st h K) (H : mSem d ι nx jp (mCall l g d) K xs st h) : mGo l g mi d pc xs st h K := by
  obtain rfl : len = 1 := by simpa [mLn] using hln
  cases hr
  rcases st with _ | ⟨v, _ | ⟨w, st⟩⟩
  · exact False.elim H
  · exact False.elim H
  · exact r_dup2 hd (hn _ _ _ H)
theorem s_pop (hd : decode mi.2.2.1 pc = .ok (.pop, len)) (hln : mLn (.pop) len = true) {ι : mIns} (hr : mRes mi pc (.pop) = some ι) (hn : ∀ xs st h, nx xs st h → mGo l g mi d (pc + len) xs st h K) (hj : ∀ t xs st h, jp t xs st h → mGo l g mi d t xs st h K) (H : mSem d ι nx jp (mCall l g d) K xs st h) : mGo l g mi d pc xs st h K := by
  obtain rfl : len = 1 := by simpa [mLn] using hln
  cases hr
  rcases st with _ | ⟨v, st⟩
  · exact False.elim H
  · exact r_pop hd (hn _ _ _ H)
theorem s_invokevirtual {i : Nat} (hd : decode mi.2.2.1 pc = .ok (.invokevirtual i, len)) (hln : mLn (.invokevirtual i) len = true) {ι : mIns} (hr : mRes mi pc (.invokevirtual i) = some ι) (hn : ∀ xs st h, nx xs st h → mGo l g mi d (pc + len) xs st h K) (hj : ∀ t xs st h, jp t xs st h → mGo l g mi d t xs st h K) (H : mSem d ι nx jp (mCall l g d) K xs st h) : mGo l g mi d pc xs st h K := by
  obtain rfl : len = 3 := by simpa [mLn] using hln
  obtain ⟨e, he, hr2⟩ := Option.bind_eq_some_iff.mp (show Option.bind _ _ = some ι from hr)
  clear hr
  obtain ⟨hm, hf⟩ := mFind he
  obtain ⟨ow, ix, m', k, z⟩ := e
  simp only [Bool.and_eq_true, beq_iff_eq] at hf
  obtain ⟨rfl, rfl⟩ := hf
  dsimp only at hr2
  by_cases hc : k = 0 ∧ m' < mMl.length
  · rw [if_pos hc] at hr2
    obtain ⟨rfl, hlt⟩ := hc
    have hι := Option.some.inj hr2
    subst hι
    generalize hnn : (mMt m').2.2.2.2.2.2.2.2.2.2 = n at *
    have H : (bif Nat.ble (n + 1) st.length && Nat.ble st.length 8 then (match (st.take (n + 1)).reverse with
      | .inr (rt, ri) :: as => match mSh rt with
        | .inl (cj, _) => bif cj == (mMt m').1 then mCall l g d m' (.inr (rt, ri) :: as) h (fun v h' => nx xs (v.toList ++ st.drop (n + 1)) h') else False
        | _ => False
      | _ => False) else False) := H
    by_cases hb : Nat.ble (n + 1) st.length && Nat.ble st.length 8
    · rw [hb, cond_true] at H
      simp only [Bool.and_eq_true, Nat.ble_eq] at hb
      split at H
      · next rt ri as ha =>
        split at H
        · next cj fs hs =>
          by_cases hcj : cj = (mMt m').1
          · subst hcj
            rw [beq_self_eq_true, cond_true] at H
            subst hnn
            exact r_virtual (r := (rt, ri)) hd ⟨z, hm⟩ hlt hb.1 hb.2 ha hs (fun v h' q => hn _ _ _ q) H
          · rw [beq_eq_false_iff_ne.mpr hcj, cond_false] at H
            exact H.elim
        · exact H.elim
      · exact H.elim
    · rw [Bool.not_eq_true] at hb
      rw [hb, cond_false] at H
      exact H.elim
  · rw [if_neg hc] at hr2
    cases hr2
theorem s_invokestatic {i : Nat} (hd : decode mi.2.2.1 pc = .ok (.invokestatic i, len)) (hln : mLn (.invokestatic i) len = true) {ι : mIns} (hr : mRes mi pc (.invokestatic i) = some ι) (hn : ∀ xs st h, nx xs st h → mGo l g mi d (pc + len) xs st h K) (hj : ∀ t xs st h, jp t xs st h → mGo l g mi d t xs st h K) (H : mSem d ι nx jp (mCall l g d) K xs st h) : mGo l g mi d pc xs st h K := by
  obtain rfl : len = 3 := by simpa [mLn] using hln
  have hr2 : (match mKl.find? (fun e => e.1 == mi.1 && e.2.1 == i) with
      | some e => if (e.2.2.2.1 = 1 ∨ e.2.2.2.1 = 2) ∧ e.2.2.1 < mMl.length then some (50, [e.2.2.1, (mMt e.2.2.1).2.2.2.2.2.2.2.2.2.2], []) else none
      | none => (mAl.find? (fun e => e.1 == mi.1 && e.2.1 == i)).map (fun _ => (70, [], []))) = some ι := hr
  clear hr
  split at hr2
  · next e he =>
    obtain ⟨hm, hf⟩ := mFind he
    obtain ⟨ow, ix, m', k, z⟩ := e
    simp only [Bool.and_eq_true, beq_iff_eq] at hf
    obtain ⟨rfl, rfl⟩ := hf
    dsimp only at hr2
    by_cases hc : (k = 1 ∨ k = 2) ∧ m' < mMl.length
    · rw [if_pos hc] at hr2
      have hι := Option.some.inj hr2
      subst hι
      generalize hnn : (mMt m').2.2.2.2.2.2.2.2.2.2 = n at *
      have H : (bif Nat.ble n st.length && Nat.ble st.length 8 then mCall l g d m' (st.take n).reverse h (fun v h' => nx xs (v.toList ++ st.drop n) h') else False) := H
      by_cases hb : Nat.ble n st.length && Nat.ble st.length 8
      · rw [hb, cond_true] at H
        simp only [Bool.and_eq_true, Nat.ble_eq] at hb
        subst hnn
        exact r_static hd ⟨k, z, hc.1, hm⟩ hc.2 hb.1 hb.2 (fun v h' q => hn _ _ _ q) H
      · rw [Bool.not_eq_true] at hb
        rw [hb, cond_false] at H
        exact H.elim
    · rw [if_neg hc] at hr2
      cases hr2
  · obtain ⟨e, he, hr3⟩ := Option.map_eq_some_iff.mp hr2
    subst hr3
    obtain ⟨hm, hf⟩ := mFind he
    obtain ⟨ow, ix, z⟩ := e
    simp only [Bool.and_eq_true, beq_iff_eq] at hf
    obtain ⟨rfl, rfl⟩ := hf
    rcases st with _ | ⟨n | n, _ | ⟨dp | dp, _ | ⟨rd | ⟨rdt, rdi⟩, _ | ⟨sp | sp, _ | ⟨rs | ⟨rst, rsi⟩, st⟩⟩⟩⟩⟩ <;> first | exact False.elim H | skip
    have H : (match mSh rst, mSh rdt with
        | .inr (0, ns), .inr (0, nd) => bif Nat.ble st.length 8 && Nat.ble 1 d then (0 ≤ sp ∧ 0 ≤ dp ∧ 0 ≤ n ∧ sp + n ≤ ns ∧ dp + n ≤ nd) ∧ nx xs st (mCpy h (rst, rsi) (rdt, rdi) sp.toNat dp.toNat n.toNat) else False
        | _, _ => False) := H
    split at H
    · next ns nd h1 h2 =>
      by_cases hb : Nat.ble st.length 8 && Nat.ble 1 d
      · rw [hb, cond_true] at H
        simp only [Bool.and_eq_true, Nat.ble_eq] at hb
        obtain ⟨⟨a1, a2, a3, a4, a5⟩, H2⟩ := H
        obtain ⟨d', rfl⟩ : ∃ d', d = d' + 1 := ⟨d - 1, by omega⟩
        exact r_copy (rs := (rst, rsi)) (rd := (rdt, rdi)) hd ⟨z, hm⟩ h1 h2 a1 a2 a3 a4 a5 hb.1 (hn _ _ _ H2)
      · rw [Bool.not_eq_true] at hb
        rw [hb, cond_false] at H
        exact H.elim
    · exact H.elim
theorem s_ireturn (hd : decode mi.2.2.1 pc = .ok (.ireturn, len)) (hln : mLn (.ireturn) len = true) {ι : mIns} (hr : mRes mi pc (.ireturn) = some ι) (hn : ∀ xs st h, nx xs st h → mGo l g mi d (pc + len) xs st h K) (hj : ∀ t xs st h, jp t xs st h → mGo l g mi d t xs st h K) (H : mSem d ι nx jp (mCall l g d) K xs st h) : mGo l g mi d pc xs st h K := by
  obtain rfl : len = 1 := by simpa [mLn] using hln
  have hr : (match mi.2.2.2.2.1 with
      | some .int => some (60, [], [])
      | some .boolean => some (62, [], [])
      | _ => none) = some ι := hr
  split at hr
  · next hz =>
    cases hr
    rcases st with _ | ⟨v | v, _ | ⟨a, st⟩⟩ <;> first | exact False.elim H | exact r_iret hd (Or.inl hz) H
  · next hz =>
    cases hr
    rcases st with _ | ⟨v | v, _ | ⟨a, st⟩⟩ <;> first | exact False.elim H | exact r_iret hd (Or.inr ⟨hz, H.1⟩) H.2
  · cases hr
theorem s_return_ (hd : decode mi.2.2.1 pc = .ok (.return_, len)) (hln : mLn (.return_) len = true) {ι : mIns} (hr : mRes mi pc (.return_) = some ι) (hn : ∀ xs st h, nx xs st h → mGo l g mi d (pc + len) xs st h K) (hj : ∀ t xs st h, jp t xs st h → mGo l g mi d t xs st h K) (H : mSem d ι nx jp (mCall l g d) K xs st h) : mGo l g mi d pc xs st h K := by
  obtain rfl : len = 1 := by simpa [mLn] using hln
  have hr : (match mi.2.2.2.2.1 with
      | none => some (61, [], [])
      | _ => none) = some ι := hr
  split at hr
  · next hz =>
    cases hr
    rcases st with _ | ⟨v, st⟩
    · exact r_ret hd hz H
    · exact False.elim H
  · cases hr
theorem mSem_ok (ins : Instr) (hd : decode mi.2.2.1 pc = .ok (ins, len)) (hln : mLn ins len = true) {ι : mIns} (hr : mRes mi pc ins = some ι) (hn : ∀ xs st h, nx xs st h → mGo l g mi d (pc + len) xs st h K) (hj : ∀ t xs st h, jp t xs st h → mGo l g mi d t xs st h K) (H : mSem d ι nx jp (mCall l g d) K xs st h) : mGo l g mi d pc xs st h K := by
  cases ins
  case iconst v => exact s_iconst hd hln hr hn hj H
  case bipush v => exact s_bipush hd hln hr hn hj H
  case sipush v => exact s_sipush hd hln hr hn hj H
  case ldc i => exact s_ldc hd hln hr hn hj H
  case ldc_w i => exact s_ldc_w hd hln hr hn hj H
  case iload_n k => exact s_iload_n hd hln hr hn hj H
  case iload k => exact s_iload hd hln hr hn hj H
  case aload_n k => exact s_aload_n hd hln hr hn hj H
  case aload k => exact s_aload hd hln hr hn hj H
  case istore_n k => exact s_istore_n hd hln hr hn hj H
  case istore k => exact s_istore hd hln hr hn hj H
  case astore_n k => exact s_astore_n hd hln hr hn hj H
  case astore k => exact s_astore hd hln hr hn hj H
  case iinc k n => exact s_iinc hd hln hr hn hj H
  case iadd => exact s_iadd hd hln hr hn hj H
  case isub => exact s_isub hd hln hr hn hj H
  case imul => exact s_imul hd hln hr hn hj H
  case iand => exact s_iand hd hln hr hn hj H
  case ior => exact s_ior hd hln hr hn hj H
  case ixor => exact s_ixor hd hln hr hn hj H
  case ishl => exact s_ishl hd hln hr hn hj H
  case ishr => exact s_ishr hd hln hr hn hj H
  case iushr => exact s_iushr hd hln hr hn hj H
  case idiv => exact s_idiv hd hln hr hn hj H
  case irem => exact s_irem hd hln hr hn hj H
  case goto o => exact s_goto hd hln hr hn hj H
  case ifCond c o => exact s_ifCond hd hln hr hn hj H
  case if_icmp c o => exact s_if_icmp hd hln hr hn hj H
  case tableswitch df lo hi os => exact s_tableswitch hd hln hr hn hj H
  case getfield i => exact s_getfield hd hln hr hn hj H
  case putfield i => exact s_putfield hd hln hr hn hj H
  case getstatic i => exact s_getstatic hd hln hr hn hj H
  case iaload => exact s_iaload hd hln hr hn hj H
  case baload => exact s_baload hd hln hr hn hj H
  case aaload => exact s_aaload hd hln hr hn hj H
  case arraylength => exact s_arraylength hd hln hr hn hj H
  case iastore => exact s_iastore hd hln hr hn hj H
  case bastore => exact s_bastore hd hln hr hn hj H
  case dup => exact s_dup hd hln hr hn hj H
  case dup2 => exact s_dup2 hd hln hr hn hj H
  case pop => exact s_pop hd hln hr hn hj H
  case invokevirtual i => exact s_invokevirtual hd hln hr hn hj H
  case invokestatic i => exact s_invokestatic hd hln hr hn hj H
  case ireturn => exact s_ireturn hd hln hr hn hj H
  case return_ => exact s_return_ hd hln hr hn hj H
  all_goals (cases hr)
end Snd
end
section
/-! the walk through a method's code: what it asks for, from a row on, up to the cuts -/
def mDrop (t : Nat) : mCode → mCode
  | [] => []
  | e :: r => bif e.1 == t then e :: r else mDrop t r
def mWp (l : Launch) (g : mG) (mi : mMi) (d : Nat) (code : mCode) (cut : List Nat) (K : Option mRV → mMem → Prop) : Nat → mCode → mXs → List mRV → mMem → Prop
  | 0, _, _, _, _ => False
  | n + 1, r, xs, st, h => match r with
    | [] => False
    | (_, ι, _) :: r' => mSem d ι
        (fun xs st h => match r' with
          | [] => False
          | (pc', _, _) :: _ => bif cut.contains pc' then mGo l g mi d pc' xs st h K else mWp l g mi d code cut K n r' xs st h)
        (fun t xs st h => bif cut.contains t then mGo l g mi d t xs st h K else mWp l g mi d code cut K n (mDrop t code) xs st h)
        (mCall l g d) K xs st h
theorem mChk_drop {mi : mMi} (t : Nat) : ∀ code : mCode, mChk mi code = true → mChk mi (mDrop t code) = true
  | [], h => h
  | (pc, ι, len) :: r, h => by
    unfold mDrop
    cases hb : ((pc, ι, len) : Nat × mIns × Nat).1 == t with
    | true => rw [cond_true]; exact h
    | false =>
      rw [cond_false]
      refine mChk_drop t r ?_
      unfold mChk at h
      simp only [Bool.and_eq_true] at h
      exact h.2
theorem mDrop_head (t : Nat) : ∀ (code : mCode) (e : Nat × mIns × Nat) (r : mCode), mDrop t code = e :: r → e.1 = t
  | [], e, r, h => by cases h
  | a :: c, e, r, h => by
    unfold mDrop at h
    cases hb : a.1 == t with
    | true =>
      rw [hb, cond_true] at h
      cases h
      exact beq_iff_eq.mp hb
    | false =>
      rw [hb, cond_false] at h
      exact mDrop_head t c e r h
theorem mWp_ok {l : Launch} {g : mG} {mi : mMi} {d : Nat} {code : mCode} {cut : List Nat} {K : Option mRV → mMem → Prop} (hc : mChk mi code = true) : ∀ (n : Nat) (r : mCode) (xs : mXs) (st : List mRV) (h : mMem), mChk mi r = true → mWp l g mi d code cut K n r xs st h → ∃ e r', r = e :: r' ∧ mGo l g mi d e.1 xs st h K := by
  intro n
  induction n with
  | zero => intro r xs st h _ H; exact H.elim
  | succ n ih =>
    intro r xs st h hr H
    cases r with
    | nil => exact H.elim
    | cons e r' =>
      obtain ⟨pc, ι, len⟩ := e
      refine ⟨(pc, ι, len), r', rfl, ?_⟩
      have hr0 := hr
      unfold mChk at hr
      simp only [Bool.and_eq_true] at hr
      obtain ⟨⟨h1, h2⟩, h3⟩ := hr
      split at h1
      · next ins k hd =>
        simp only [Bool.and_eq_true, beq_iff_eq, decide_eq_true_eq] at h1
        obtain ⟨⟨rfl, hln⟩, hres⟩ := h1
        unfold mWp at H
        refine mSem_ok ins hd hln hres ?_ ?_ H
        · intro xs st h q
          cases r' with
          | nil => exact q.elim
          | cons e2 r2 =>
            obtain ⟨pc2, ι2, len2⟩ := e2
            have h2 : pc2 = pc + k := beq_iff_eq.mp h2
            subst h2
            have q : (bif cut.contains (pc + k) then mGo l g mi d (pc + k) xs st h K else mWp l g mi d code cut K n ((pc + k, ι2, len2) :: r2) xs st h) := q
            cases hb : cut.contains (pc + k) with
            | true => rw [hb, cond_true] at q; exact q
            | false =>
              rw [hb, cond_false] at q
              obtain ⟨e3, r3, e4, e5⟩ := ih _ xs st h h3 q
              cases e4
              exact e5
        · intro t xs st h q
          cases hb : cut.contains t with
          | true =>
            have q : (bif cut.contains t then mGo l g mi d t xs st h K else mWp l g mi d code cut K n (mDrop t code) xs st h) := q
            rw [hb, cond_true] at q
            exact q
          | false =>
            have q : (bif cut.contains t then mGo l g mi d t xs st h K else mWp l g mi d code cut K n (mDrop t code) xs st h) := q
            rw [hb, cond_false] at q
            obtain ⟨e3, r3, e4, e5⟩ := ih _ xs st h (mChk_drop t code hc) q
            have := mDrop_head t code e3 r3 e4
            rw [this] at e5
            exact e5
      · cases h1
/-- from a row of a method's code -/
theorem mGo_wp {l : Launch} {g : mG} {mi : mMi} {d pc : Nat} {code : mCode} {K : Option mRV → mMem → Prop} {xs : mXs} {st : List mRV} {h : mMem} (hc : mChk mi code = true) (n : Nat) (cut : List Nat) (H : mWp l g mi d code cut K n (mDrop pc code) xs st h) : mGo l g mi d pc xs st h K := by
  obtain ⟨e, r, e1, e2⟩ := mWp_ok hc n _ xs st h (mChk_drop pc code hc) H
  rw [mDrop_head pc code e r e1] at e2
  exact e2
/-- what is known of the state at any row -/
theorem mGo_ok {l : Launch} {g : mG} {mi : mMi} {d pc : Nat} {K : Option mRV → mMem → Prop} {xs : mXs} {st : List mRV} {h : mMem} (k : mOk xs st h → mGo l g mi d pc xs st h K) : mGo l g mi d pc xs st h K :=
  fun p e s m args below meth c H locs ls C P D S L O => k O p e s m args below meth c H locs ls C P D S L O
end
section
abbrev n_Arr_fill : Nat := 0
def k_Arr_fill : mCode := [(0, (0, [], [0]), 1), (1, (2, [2], []), 1), (2, (16, [0], []), 1), (3, (38, [], []), 1), (4, (2, [3], []), 1), (5, (1, [2], []), 1), (6, (1, [3], []), 1), (7, (22, [3, 20], []), 3), (10, (16, [0], []), 1), (11, (1, [2], []), 1), (12, (1, [1], []), 1), (13, (34, [], []), 1), (14, (3, [2], [1]), 3), (17, (20, [5], []), 3), (20, (61, [], []), 1)]
theorem t_Arr_fill : mMt n_Arr_fill = (13, ⟨"java/util/Arrays", "fill", "([II)V"⟩, prog_15_method_103_code, 4, none, 1, 95, 94, 0, 67, 2) := rfl
theorem h_Arr_fill : mChk (mMt n_Arr_fill) k_Arr_fill = true := by decide +kernel
abbrev n_Net_become : Nat := 4
def k_Net_become : mCode := [(0, (16, [0], []), 1), (1, (16, [1], []), 1), (2, (30, [4, 0], []), 3), (5, (31, [4, 0, 0], []), 3), (8, (16, [0], []), 1), (9, (16, [1], []), 1), (10, (30, [4, 1], []), 3), (13, (31, [4, 1, 0], []), 3), (16, (16, [1], []), 1), (17, (30, [4, 2], []), 3), (20, (0, [], [0]), 1), (21, (16, [0], []), 1), (22, (30, [4, 2], []), 3), (25, (0, [], [0]), 1), (26, (0, [], [3]), 1), (27, (70, [], []), 3), (30, (16, [1], []), 1), (31, (30, [4, 3], []), 3), (34, (0, [], [0]), 1), (35, (16, [0], []), 1), (36, (30, [4, 3], []), 3), (39, (0, [], [0]), 1), (40, (0, [], [3]), 1), (41, (70, [], []), 3), (44, (16, [1], []), 1), (45, (30, [4, 4], []), 3), (48, (0, [], [0]), 1), (49, (16, [0], []), 1), (50, (30, [4, 4], []), 3), (53, (0, [], [0]), 1), (54, (0, [], [66]), 2), (56, (70, [], []), 3), (59, (16, [1], []), 1), (60, (30, [4, 5], []), 3), (63, (0, [], [0]), 1), (64, (16, [0], []), 1), (65, (30, [4, 5], []), 3), (68, (0, [], [0]), 1), (69, (16, [0], []), 1), (70, (30, [4, 5], []), 3), (73, (38, [], []), 1), (74, (70, [], []), 3), (77, (61, [], []), 1)]
theorem t_Net_become : mMt n_Net_become = (4, ⟨"KeptColours$Net", "become", "(LKeptColours$Net;)V"⟩, prog_6_method_2_code, 2, none, 0, 351, 349, 350, 66, 1) := rfl
theorem h_Net_become : mChk (mMt n_Net_become) k_Net_become = true := by decide +kernel
abbrev n_Math_min : Nat := 5
def k_Math_min : mCode := [(0, (1, [0], []), 1), (1, (1, [1], []), 1), (2, (22, [4, 9], []), 3), (5, (1, [0], []), 1), (6, (20, [10], []), 3), (9, (1, [1], []), 1), (10, (60, [], []), 1)]
theorem t_Math_min : mMt n_Math_min = (12, ⟨"java/lang/Math", "min", "(II)I"⟩, prog_13_method_69_code, 2, (some .int), 1, 357, 356, 0, 77, 2) := rfl
theorem h_Math_min : mChk (mMt n_Math_min) k_Math_min = true := by decide +kernel
abbrev n_Net_layOut : Nat := 7
def k_Net_layOut : mCode := [(0, (16, [0], []), 1), (1, (1, [1], []), 1), (2, (31, [4, 0, 0], []), 3), (5, (16, [0], []), 1), (6, (1, [2], []), 1), (7, (31, [4, 1, 0], []), 3), (10, (1, [2], []), 1), (11, (2, [3], []), 1), (12, (1, [3], []), 1), (13, (0, [], [3]), 1), (14, (22, [3, 37], []), 3), (17, (16, [0], []), 1), (18, (30, [4, 2], []), 3), (21, (1, [3], []), 1), (22, (0, [], [0]), 1), (23, (34, [], []), 1), (24, (16, [0], []), 1), (25, (30, [4, 3], []), 3), (28, (1, [3], []), 1), (29, (0, [], [0]), 1), (30, (34, [], []), 1), (31, (3, [3], [1]), 3), (34, (20, [12], []), 3), (37, (16, [0], []), 1), (38, (30, [4, 4], []), 3), (41, (0, [], [-1]), 1), (42, (50, [0, 2], []), 3), (45, (16, [0], []), 1), (46, (30, [4, 5], []), 3), (49, (0, [], [0]), 1), (50, (50, [0, 2], []), 3), (53, (61, [], []), 1)]
theorem t_Net_layOut : mMt n_Net_layOut = (4, ⟨"KeptColours$Net", "layOut", "(II)V"⟩, prog_6_method_3_code, 4, none, 0, 365, 363, 364, 66, 2) := rfl
theorem h_Net_layOut : mChk (mMt n_Net_layOut) k_Net_layOut = true := by decide +kernel
abbrev n_Net_joinCount : Nat := 8
def k_Net_joinCount : mCode := [(0, (16, [0], []), 1), (1, (30, [4, 0], []), 3), (4, (16, [0], []), 1), (5, (30, [4, 0], []), 3), (8, (0, [], [1]), 1), (9, (5, [], []), 1), (10, (6, [], []), 1), (11, (0, [], [2]), 1), (12, (7, [], []), 1), (13, (60, [], []), 1)]
theorem t_Net_joinCount : mMt n_Net_joinCount = (4, ⟨"KeptColours$Net", "joinCount", "()I"⟩, prog_6_method_4_code, 1, (some .int), 0, 369, 367, 368, 66, 0) := rfl
theorem h_Net_joinCount : mChk (mMt n_Net_joinCount) k_Net_joinCount = true := by decide +kernel
abbrev n_Net_hasColour : Nat := 10
def k_Net_hasColour : mCode := [(0, (1, [1], []), 1), (1, (21, [2, 16], []), 3), (4, (1, [1], []), 1), (5, (16, [0], []), 1), (6, (30, [4, 1], []), 3), (9, (22, [3, 16], []), 3), (12, (0, [], [1]), 1), (13, (20, [17], []), 3), (16, (0, [], [0]), 1), (17, (62, [], []), 1)]
theorem t_Net_hasColour : mMt n_Net_hasColour = (4, ⟨"KeptColours$Net", "hasColour", "(I)Z"⟩, prog_6_method_9_code, 2, (some .boolean), 0, 377, 375, 376, 66, 1) := rfl
theorem h_Net_hasColour : mChk (mMt n_Net_hasColour) k_Net_hasColour = true := by decide +kernel
abbrev n_Net_hasJoin : Nat := 12
def k_Net_hasJoin : mCode := [(0, (16, [0], []), 1), (1, (1, [1], []), 1), (2, (51, [13, 2, 4], []), 3), (5, (21, [0, 25], []), 3), (8, (16, [0], []), 1), (9, (1, [2], []), 1), (10, (51, [13, 2, 4], []), 3), (13, (21, [0, 25], []), 3), (16, (1, [1], []), 1), (17, (1, [2], []), 1), (18, (22, [0, 25], []), 3), (21, (0, [], [1]), 1), (22, (20, [26], []), 3), (25, (0, [], [0]), 1), (26, (62, [], []), 1)]
theorem t_Net_hasJoin : mMt n_Net_hasJoin = (4, ⟨"KeptColours$Net", "hasJoin", "(II)Z"⟩, prog_6_method_8_code, 3, (some .boolean), 0, 389, 387, 388, 66, 2) := rfl
theorem h_Net_hasJoin : mChk (mMt n_Net_hasJoin) k_Net_hasJoin = true := by decide +kernel
abbrev n_Net_hasPoint : Nat := 13
def k_Net_hasPoint : mCode := [(0, (1, [1], []), 1), (1, (21, [2, 16], []), 3), (4, (1, [1], []), 1), (5, (16, [0], []), 1), (6, (30, [4, 0], []), 3), (9, (22, [3, 16], []), 3), (12, (0, [], [1]), 1), (13, (20, [17], []), 3), (16, (0, [], [0]), 1), (17, (62, [], []), 1)]
theorem t_Net_hasPoint : mMt n_Net_hasPoint = (4, ⟨"KeptColours$Net", "hasPoint", "(I)Z"⟩, prog_6_method_7_code, 2, (some .boolean), 0, 393, 391, 392, 66, 1) := rfl
theorem h_Net_hasPoint : mChk (mMt n_Net_hasPoint) k_Net_hasPoint = true := by decide +kernel
abbrev n_Net_hasColourOrBare : Nat := 14
def k_Net_hasColourOrBare : mCode := [(0, (1, [1], []), 1), (1, (0, [], [-1]), 1), (2, (22, [0, 13], []), 3), (5, (16, [0], []), 1), (6, (1, [1], []), 1), (7, (51, [10, 2, 4], []), 3), (10, (21, [0, 17], []), 3), (13, (0, [], [1]), 1), (14, (20, [18], []), 3), (17, (0, [], [0]), 1), (18, (62, [], []), 1)]
theorem t_Net_hasColourOrBare : mMt n_Net_hasColourOrBare = (4, ⟨"KeptColours$Net", "hasColourOrBare", "(I)Z"⟩, prog_6_method_10_code, 2, (some .boolean), 0, 397, 395, 396, 66, 1) := rfl
theorem h_Net_hasColourOrBare : mChk (mMt n_Net_hasColourOrBare) k_Net_hasColourOrBare = true := by decide +kernel
abbrev n_Net_give : Nat := 16
def k_Net_give : mCode := [(0, (16, [0], []), 1), (1, (30, [4, 4], []), 3), (4, (1, [1], []), 1), (5, (33, [], []), 1), (6, (0, [], [-1]), 1), (7, (22, [0, 21], []), 3), (10, (16, [0], []), 1), (11, (1, [1], []), 1), (12, (16, [0], []), 1), (13, (30, [4, 4], []), 3), (16, (1, [1], []), 1), (17, (33, [], []), 1), (18, (51, [17, 3, 4], []), 3), (21, (1, [2], []), 1), (22, (0, [], [-1]), 1), (23, (22, [0, 32], []), 3), (26, (16, [0], []), 1), (27, (1, [1], []), 1), (28, (1, [2], []), 1), (29, (51, [17, 3, 4], []), 3), (32, (16, [0], []), 1), (33, (30, [4, 4], []), 3), (36, (1, [1], []), 1), (37, (1, [2], []), 1), (38, (34, [], []), 1), (39, (61, [], []), 1)]
theorem t_Net_give : mMt n_Net_give = (4, ⟨"KeptColours$Net", "give", "(II)V"⟩, prog_6_method_12_code, 3, none, 0, 405, 403, 404, 66, 2) := rfl
theorem h_Net_give : mChk (mMt n_Net_give) k_Net_give = true := by decide +kernel
abbrev n_Net_flip : Nat := 17
def k_Net_flip : mCode := [(0, (16, [0], []), 1), (1, (30, [4, 5], []), 3), (4, (1, [2], []), 1), (5, (0, [], [12]), 2), (7, (6, [], []), 1), (8, (32, [103], []), 3), (11, (1, [1], []), 1), (12, (33, [], []), 1), (13, (4, [], []), 1), (14, (41, [], []), 1), (15, (33, [], []), 1), (16, (0, [], [1]), 1), (17, (32, [104], []), 3), (20, (1, [1], []), 1), (21, (33, [], []), 1), (22, (12, [], []), 1), (23, (11, [], []), 1), (24, (34, [], []), 1), (25, (16, [0], []), 1), (26, (30, [4, 5], []), 3), (29, (1, [2], []), 1), (30, (0, [], [12]), 2), (32, (6, [], []), 1), (33, (32, [104], []), 3), (36, (1, [1], []), 1), (37, (33, [], []), 1), (38, (4, [], []), 1), (39, (41, [], []), 1), (40, (33, [], []), 1), (41, (0, [], [1]), 1), (42, (32, [103], []), 3), (45, (1, [1], []), 1), (46, (33, [], []), 1), (47, (12, [], []), 1), (48, (11, [], []), 1), (49, (34, [], []), 1), (50, (61, [], []), 1)]
theorem t_Net_flip : mMt n_Net_flip = (4, ⟨"KeptColours$Net", "flip", "(II)V"⟩, prog_6_method_13_code, 3, none, 0, 409, 408, 1, 66, 2) := rfl
theorem h_Net_flip : mChk (mMt n_Net_flip) k_Net_flip = true := by decide +kernel
abbrev n_Finder_hasAny : Nat := 22
def k_Finder_hasAny : mCode := [(0, (0, [], [0]), 1), (1, (2, [2], []), 1), (2, (1, [2], []), 1), (3, (16, [1], []), 1), (4, (30, [4, 1], []), 3), (7, (22, [3, 27], []), 3), (10, (16, [0], []), 1), (11, (16, [1], []), 1), (12, (1, [2], []), 1), (13, (51, [23, 3, 1], []), 3), (16, (21, [0, 21], []), 3), (19, (0, [], [1]), 1), (20, (62, [], []), 1), (21, (3, [2], [1]), 3), (24, (20, [2], []), 3), (27, (0, [], [0]), 1), (28, (62, [], []), 1)]
theorem t_Finder_hasAny : mMt n_Finder_hasAny = (1, ⟨"KeptColours$Finder", "hasAny", "(LKeptColours$Net;)Z"⟩, prog_3_method_2_code, 3, (some .boolean), 0, 433, 431, 432, 68, 1) := rfl
theorem h_Finder_hasAny : mChk (mMt n_Finder_hasAny) k_Finder_hasAny = true := by decide +kernel
abbrev n_Finder_findFirst : Nat := 23
def k_Finder_findFirst : mCode := [(0, (16, [0], []), 1), (1, (16, [1], []), 1), (2, (1, [2], []), 1), (3, (51, [24, 3, 1], []), 3), (6, (16, [0], []), 1), (7, (30, [1, 2], []), 3), (10, (21, [0, 30], []), 3), (13, (16, [0], []), 1), (14, (0, [], [0]), 1), (15, (16, [1], []), 1), (16, (51, [27, 1, 4], []), 3), (19, (0, [], [0]), 1), (20, (51, [28, 4, 1], []), 3), (23, (21, [0, 30], []), 3), (26, (0, [], [1]), 1), (27, (20, [31], []), 3), (30, (0, [], [0]), 1), (31, (62, [], []), 1)]
theorem t_Finder_findFirst : mMt n_Finder_findFirst = (1, ⟨"KeptColours$Finder", "findFirst", "(LKeptColours$Net;I)Z"⟩, prog_3_method_4_code, 3, (some .boolean), 0, 437, 435, 436, 68, 2) := rfl
theorem h_Finder_findFirst : mChk (mMt n_Finder_findFirst) k_Finder_findFirst = true := by decide +kernel
abbrev n_Finder_lookAt : Nat := 24
def k_Finder_lookAt : mCode := [(0, (16, [0], []), 1), (1, (16, [1], []), 1), (2, (30, [4, 2], []), 3), (5, (1, [2], []), 1), (6, (33, [], []), 1), (7, (31, [1, 2, 0], []), 3), (10, (16, [0], []), 1), (11, (16, [1], []), 1), (12, (1, [2], []), 1), (13, (51, [25, 2, 4], []), 3), (16, (31, [1, 1, 0], []), 3), (19, (16, [0], []), 1), (20, (16, [1], []), 1), (21, (30, [4, 0], []), 3), (24, (31, [1, 3, 0], []), 3), (27, (16, [1], []), 1), (28, (1, [2], []), 1), (29, (16, [0], []), 1), (30, (30, [1, 4], []), 3), (33, (51, [26, 3, 4], []), 3), (36, (61, [], []), 1)]
theorem t_Finder_lookAt : mMt n_Finder_lookAt = (1, ⟨"KeptColours$Finder", "lookAt", "(LKeptColours$Net;I)V"⟩, prog_3_method_7_code, 3, none, 0, 441, 440, 2, 68, 2) := rfl
theorem h_Finder_lookAt : mChk (mMt n_Finder_lookAt) k_Finder_lookAt = true := by decide +kernel
abbrev n_Net_copyLength : Nat := 25
def k_Net_copyLength : mCode := [(0, (16, [0], []), 1), (1, (30, [4, 3], []), 3), (4, (1, [1], []), 1), (5, (33, [], []), 1), (6, (32, [102], []), 3), (9, (16, [0], []), 1), (10, (30, [4, 2], []), 3), (13, (1, [1], []), 1), (14, (33, [], []), 1), (15, (33, [], []), 1), (16, (4, [], []), 1), (17, (60, [], []), 1)]
theorem t_Net_copyLength : mMt n_Net_copyLength = (4, ⟨"KeptColours$Net", "copyLength", "(I)I"⟩, prog_6_method_6_code, 2, (some .int), 0, 445, 443, 444, 66, 1) := rfl
theorem h_Net_copyLength : mChk (mMt n_Net_copyLength) k_Net_copyLength = true := by decide +kernel
abbrev n_Net_copyNears : Nat := 26
def k_Net_copyNears : mCode := [(0, (16, [0], []), 1), (1, (30, [4, 5], []), 3), (4, (1, [1], []), 1), (5, (0, [], [12]), 2), (7, (6, [], []), 1), (8, (16, [2], []), 1), (9, (0, [], [0]), 1), (10, (0, [], [12]), 2), (12, (70, [], []), 3), (15, (61, [], []), 1)]
theorem t_Net_copyNears : mMt n_Net_copyNears = (4, ⟨"KeptColours$Net", "copyNears", "(I[I)V"⟩, prog_6_method_11_code, 3, none, 0, 451, 449, 450, 66, 2) := rfl
theorem h_Net_copyNears : mChk (mMt n_Net_copyNears) k_Net_copyNears = true := by decide +kernel
abbrev n_Net_pointBits : Nat := 27
def k_Net_pointBits : mCode := [(0, (0, [], [1]), 1), (1, (16, [0], []), 1), (2, (30, [4, 0], []), 3), (5, (12, [], []), 1), (6, (0, [], [1]), 1), (7, (5, [], []), 1), (8, (60, [], []), 1)]
theorem t_Net_pointBits : mMt n_Net_pointBits = (4, ⟨"KeptColours$Net", "pointBits", "()I"⟩, prog_6_method_5_code, 1, (some .int), 0, 455, 453, 454, 66, 0) := rfl
theorem h_Net_pointBits : mChk (mMt n_Net_pointBits) k_Net_pointBits = true := by decide +kernel
abbrev n_Finder_findFrom : Nat := 28
def k_Finder_findFrom : mCode := [(0, (16, [0], []), 1), (1, (1, [1], []), 1), (2, (51, [29, 2, 1], []), 3), (5, (21, [0, 15], []), 3), (8, (16, [0], []), 1), (9, (1, [1], []), 1), (10, (1, [2], []), 1), (11, (51, [30, 3, 1], []), 3), (14, (62, [], []), 1), (15, (0, [], [0]), 1), (16, (2, [4], []), 2), (18, (1, [4], []), 2), (20, (16, [0], []), 1), (21, (30, [1, 3], []), 3), (24, (22, [3, 81], []), 3), (27, (1, [2], []), 1), (28, (1, [4], []), 2), (30, (13, [], []), 1), (31, (0, [], [1]), 1), (32, (9, [], []), 1), (33, (0, [], [1]), 1), (34, (22, [1, 75], []), 3), (37, (16, [0], []), 1), (38, (30, [1, 0], []), 3), (41, (1, [1], []), 1), (42, (1, [4], []), 2), (44, (34, [], []), 1), (45, (1, [3], []), 1), (46, (0, [], [1]), 1), (47, (1, [4], []), 2), (49, (12, [], []), 1), (50, (10, [], []), 1), (51, (2, [5], []), 2), (53, (16, [0], []), 1), (54, (1, [1], []), 1), (55, (0, [], [1]), 1), (56, (4, [], []), 1), (57, (16, [0], []), 1), (58, (1, [1], []), 1), (59, (1, [2], []), 1), (60, (1, [5], []), 2), (62, (51, [31, 4, 1], []), 3), (65, (1, [5], []), 2), (67, (51, [28, 4, 1], []), 3), (70, (21, [0, 75], []), 3), (73, (0, [], [1]), 1), (74, (62, [], []), 1), (75, (3, [4], [1]), 3), (78, (20, [18], []), 3), (81, (0, [], [0]), 1), (82, (62, [], []), 1)]
theorem t_Finder_findFrom : mMt n_Finder_findFrom = (1, ⟨"KeptColours$Finder", "findFrom", "(III)Z"⟩, prog_3_method_9_code, 6, (some .boolean), 0, 459, 458, 3, 68, 3) := rfl
theorem h_Finder_findFrom : mChk (mMt n_Finder_findFrom) k_Finder_findFrom = true := by decide +kernel
abbrev n_Finder_isRestFree : Nat := 29
def k_Finder_isRestFree : mCode := [(0, (1, [1], []), 1), (1, (16, [0], []), 1), (2, (30, [1, 1], []), 3), (5, (0, [], [1]), 1), (6, (5, [], []), 1), (7, (22, [3, 36], []), 3), (10, (16, [0], []), 1), (11, (30, [1, 2], []), 3), (14, (0, [], [3]), 1), (15, (22, [1, 23], []), 3), (18, (1, [1], []), 1), (19, (0, [], [1]), 1), (20, (22, [3, 36], []), 3), (23, (16, [0], []), 1), (24, (30, [1, 2], []), 3), (27, (0, [], [4]), 1), (28, (22, [1, 40], []), 3), (31, (1, [1], []), 1), (32, (0, [], [2]), 1), (33, (22, [2, 40], []), 3), (36, (0, [], [1]), 1), (37, (20, [41], []), 3), (40, (0, [], [0]), 1), (41, (62, [], []), 1)]
theorem t_Finder_isRestFree : mMt n_Finder_isRestFree = (1, ⟨"KeptColours$Finder", "isRestFree", "(I)Z"⟩, prog_3_method_10_code, 2, (some .boolean), 0, 463, 462, 4, 68, 1) := rfl
theorem h_Finder_isRestFree : mChk (mMt n_Finder_isRestFree) k_Finder_isRestFree = true := by decide +kernel
abbrev n_Finder_takeLeast : Nat := 30
def k_Finder_takeLeast : mCode := [(0, (1, [1], []), 1), (1, (2, [3], []), 1), (2, (0, [], [0]), 1), (3, (2, [4], []), 2), (5, (1, [4], []), 2), (7, (16, [0], []), 1), (8, (30, [1, 3], []), 3), (11, (22, [3, 49], []), 3), (14, (1, [3], []), 1), (15, (16, [0], []), 1), (16, (30, [1, 1], []), 3), (19, (22, [3, 49], []), 3), (22, (1, [2], []), 1), (23, (1, [4], []), 2), (25, (13, [], []), 1), (26, (0, [], [1]), 1), (27, (9, [], []), 1), (28, (0, [], [1]), 1), (29, (22, [1, 43], []), 3), (32, (16, [0], []), 1), (33, (30, [1, 0], []), 3), (36, (1, [3], []), 1), (37, (1, [4], []), 2), (39, (34, [], []), 1), (40, (3, [3], [1]), 3), (43, (3, [4], [1]), 3), (46, (20, [5], []), 3), (49, (1, [3], []), 1), (50, (16, [0], []), 1), (51, (30, [1, 1], []), 3), (54, (22, [2, 61], []), 3), (57, (0, [], [1]), 1), (58, (20, [62], []), 3), (61, (0, [], [0]), 1), (62, (62, [], []), 1)]
theorem t_Finder_takeLeast : mMt n_Finder_takeLeast = (1, ⟨"KeptColours$Finder", "takeLeast", "(II)Z"⟩, prog_3_method_11_code, 5, (some .boolean), 0, 467, 466, 5, 68, 2) := rfl
theorem h_Finder_takeLeast : mChk (mMt n_Finder_takeLeast) k_Finder_takeLeast = true := by decide +kernel
abbrev n_Finder_candidatesAfter : Nat := 31
def k_Finder_candidatesAfter : mCode := [(0, (16, [0], []), 1), (1, (30, [1, 0], []), 3), (4, (1, [1], []), 1), (5, (33, [], []), 1), (6, (2, [4], []), 2), (8, (1, [1], []), 1), (9, (0, [], [1]), 1), (10, (4, [], []), 1), (11, (16, [0], []), 1), (12, (30, [1, 1], []), 3), (15, (0, [], [1]), 1), (16, (5, [], []), 1), (17, (22, [1, 24], []), 3), (20, (0, [], [1]), 1), (21, (20, [25], []), 3), (24, (0, [], [0]), 1), (25, (2, [5], []), 2), (27, (16, [0], []), 1), (28, (30, [1, 2], []), 3), (31, (23, [227, 64, 80, 138, 146, 186], [1]), 33), (64, (1, [2], []), 1), (65, (16, [0], []), 1), (66, (30, [1, 4], []), 3), (69, (1, [4], []), 2), (71, (33, [], []), 1), (72, (9, [], []), 1), (73, (1, [4], []), 2), (75, (50, [32, 1], []), 3), (78, (9, [], []), 1), (79, (60, [], []), 1), (80, (16, [0], []), 1), (81, (30, [1, 4], []), 3), (84, (1, [4], []), 2), (86, (33, [], []), 1), (87, (16, [0], []), 1), (88, (30, [1, 0], []), 3), (91, (0, [], [0]), 1), (92, (33, [], []), 1), (93, (50, [32, 1], []), 3), (96, (9, [], []), 1), (97, (1, [3], []), 1), (98, (0, [], [-1]), 1), (99, (11, [], []), 1), (100, (9, [], []), 1), (101, (2, [6], []), 2), (103, (1, [5], []), 2), (105, (21, [0, 135], []), 3), (108, (1, [6], []), 2), (110, (16, [0], []), 1), (111, (30, [1, 4], []), 3), (114, (16, [0], []), 1), (115, (30, [1, 0], []), 3), (118, (0, [], [0]), 1), (119, (33, [], []), 1), (120, (33, [], []), 1), (121, (9, [], []), 1), (122, (16, [0], []), 1), (123, (30, [1, 0], []), 3), (126, (0, [], [1]), 1), (127, (33, [], []), 1), (128, (50, [32, 1], []), 3), (131, (9, [], []), 1), (132, (20, [137], []), 3), (135, (1, [6], []), 2), (137, (60, [], []), 1), (138, (16, [0], []), 1), (139, (30, [1, 4], []), 3), (142, (1, [4], []), 2), (144, (33, [], []), 1), (145, (60, [], []), 1), (146, (1, [1], []), 1), (147, (21, [1, 166], []), 3), (150, (16, [0], []), 1), (151, (30, [1, 4], []), 3), (154, (1, [4], []), 2), (156, (33, [], []), 1), (157, (1, [4], []), 2), (159, (50, [32, 1], []), 3), (162, (9, [], []), 1), (163, (20, [185], []), 3), (166, (16, [0], []), 1), (167, (30, [1, 4], []), 3), (170, (1, [4], []), 2), (172, (33, [], []), 1), (173, (16, [0], []), 1), (174, (30, [1, 4], []), 3), (177, (16, [0], []), 1), (178, (30, [1, 0], []), 3), (181, (0, [], [0]), 1), (182, (33, [], []), 1), (183, (33, [], []), 1), (184, (9, [], []), 1), (185, (60, [], []), 1), (186, (1, [5], []), 2), (188, (21, [0, 215], []), 3), (191, (16, [0], []), 1), (192, (30, [1, 4], []), 3), (195, (1, [4], []), 2), (197, (33, [], []), 1), (198, (1, [3], []), 1), (199, (0, [], [-1]), 1), (200, (11, [], []), 1), (201, (9, [], []), 1), (202, (16, [0], []), 1), (203, (30, [1, 0], []), 3), (206, (0, [], [0]), 1), (207, (33, [], []), 1), (208, (50, [32, 1], []), 3), (211, (9, [], []), 1), (212, (20, [226], []), 3), (215, (16, [0], []), 1), (216, (30, [1, 4], []), 3), (219, (1, [4], []), 2), (221, (33, [], []), 1), (222, (1, [3], []), 1), (223, (0, [], [-1]), 1), (224, (11, [], []), 1), (225, (9, [], []), 1), (226, (60, [], []), 1), (227, (0, [], [0]), 1), (228, (60, [], []), 1)]
theorem t_Finder_candidatesAfter : mMt n_Finder_candidatesAfter = (1, ⟨"KeptColours$Finder", "candidatesAfter", "(III)I"⟩, prog_3_method_12_code, 7, (some .int), 0, 471, 470, 6, 68, 3) := rfl
theorem h_Finder_candidatesAfter : mChk (mMt n_Finder_candidatesAfter) k_Finder_candidatesAfter = true := by decide +kernel
abbrev n_Finder_howMany : Nat := 34
def k_Finder_howMany : mCode := [(0, (16, [0], []), 1), (1, (16, [1], []), 1), (2, (1, [2], []), 1), (3, (51, [24, 3, 1], []), 3), (6, (16, [0], []), 1), (7, (30, [1, 2], []), 3), (10, (21, [1, 17], []), 3), (13, (0, [], [0]), 1), (14, (20, [27], []), 3), (17, (16, [0], []), 1), (18, (0, [], [0]), 1), (19, (16, [1], []), 1), (20, (51, [27, 1, 4], []), 3), (23, (0, [], [0]), 1), (24, (51, [35, 4, 1], []), 3), (27, (60, [], []), 1)]
theorem t_Finder_howMany : mMt n_Finder_howMany = (1, ⟨"KeptColours$Finder", "howMany", "(LKeptColours$Net;I)I"⟩, prog_3_method_5_code, 3, (some .int), 0, 482, 480, 481, 68, 2) := rfl
theorem h_Finder_howMany : mChk (mMt n_Finder_howMany) k_Finder_howMany = true := by decide +kernel
abbrev n_Finder_countFrom : Nat := 35
def k_Finder_countFrom : mCode := [(0, (16, [0], []), 1), (1, (1, [1], []), 1), (2, (51, [29, 2, 1], []), 3), (5, (21, [0, 22], []), 3), (8, (1, [2], []), 1), (9, (50, [36, 1], []), 3), (12, (16, [0], []), 1), (13, (30, [1, 1], []), 3), (16, (1, [1], []), 1), (17, (5, [], []), 1), (18, (50, [37, 2], []), 3), (21, (60, [], []), 1), (22, (0, [], [0]), 1), (23, (2, [4], []), 2), (25, (0, [], [0]), 1), (26, (2, [5], []), 2), (28, (1, [5], []), 2), (30, (16, [0], []), 1), (31, (30, [1, 3], []), 3), (34, (22, [3, 91], []), 3), (37, (1, [2], []), 1), (38, (1, [5], []), 2), (40, (13, [], []), 1), (41, (0, [], [1]), 1), (42, (9, [], []), 1), (43, (0, [], [1]), 1), (44, (22, [1, 85], []), 3), (47, (16, [0], []), 1), (48, (30, [1, 0], []), 3), (51, (1, [1], []), 1), (52, (1, [5], []), 2), (54, (34, [], []), 1), (55, (1, [3], []), 1), (56, (0, [], [1]), 1), (57, (1, [5], []), 2), (59, (12, [], []), 1), (60, (10, [], []), 1), (61, (2, [6], []), 2), (63, (1, [4], []), 2), (65, (16, [0], []), 1), (66, (1, [1], []), 1), (67, (0, [], [1]), 1), (68, (4, [], []), 1), (69, (16, [0], []), 1), (70, (1, [1], []), 1), (71, (1, [2], []), 1), (72, (1, [6], []), 2), (74, (51, [31, 4, 1], []), 3), (77, (1, [6], []), 2), (79, (51, [35, 4, 1], []), 3), (82, (4, [], []), 1), (83, (2, [4], []), 2), (85, (3, [5], [1]), 3), (88, (20, [28], []), 3), (91, (1, [4], []), 2), (93, (60, [], []), 1)]
theorem t_Finder_countFrom : mMt n_Finder_countFrom = (1, ⟨"KeptColours$Finder", "countFrom", "(III)I"⟩, prog_3_method_8_code, 7, (some .int), 0, 486, 485, 7, 68, 3) := rfl
theorem h_Finder_countFrom : mChk (mMt n_Finder_countFrom) k_Finder_countFrom = true := by decide +kernel
abbrev n_Int_bitCount : Nat := 36
def k_Int_bitCount : mCode := [(0, (1, [0], []), 1), (1, (1, [0], []), 1), (2, (0, [], [1]), 1), (3, (14, [], []), 1), (4, (0, [], [1431655765]), 3), (7, (9, [], []), 1), (8, (5, [], []), 1), (9, (2, [0], []), 1), (10, (1, [0], []), 1), (11, (0, [], [858993459]), 3), (14, (9, [], []), 1), (15, (1, [0], []), 1), (16, (0, [], [2]), 1), (17, (14, [], []), 1), (18, (0, [], [858993459]), 3), (21, (9, [], []), 1), (22, (4, [], []), 1), (23, (2, [0], []), 1), (24, (1, [0], []), 1), (25, (1, [0], []), 1), (26, (0, [], [4]), 1), (27, (14, [], []), 1), (28, (4, [], []), 1), (29, (0, [], [252645135]), 3), (32, (9, [], []), 1), (33, (2, [0], []), 1), (34, (1, [0], []), 1), (35, (1, [0], []), 1), (36, (0, [], [8]), 2), (38, (14, [], []), 1), (39, (4, [], []), 1), (40, (2, [0], []), 1), (41, (1, [0], []), 1), (42, (1, [0], []), 1), (43, (0, [], [16]), 2), (45, (14, [], []), 1), (46, (4, [], []), 1), (47, (2, [0], []), 1), (48, (1, [0], []), 1), (49, (0, [], [63]), 2), (51, (9, [], []), 1), (52, (60, [], []), 1)]
theorem t_Int_bitCount : mMt n_Int_bitCount = (11, ⟨"java/lang/Integer", "bitCount", "(I)I"⟩, prog_12_method_49_code, 1, (some .int), 1, 489, 488, 0, 78, 1) := rfl
theorem h_Int_bitCount : mChk (mMt n_Int_bitCount) k_Int_bitCount = true := by decide +kernel
abbrev n_Net_turnCount : Nat := 43
def k_Net_turnCount : mCode := [(0, (16, [0], []), 1), (1, (30, [4, 1], []), 3), (4, (16, [0], []), 1), (5, (30, [4, 0], []), 3), (8, (0, [], [2]), 1), (9, (7, [], []), 1), (10, (50, [44, 2], []), 3), (13, (60, [], []), 1)]
theorem t_Net_turnCount : mMt n_Net_turnCount = (4, ⟨"KeptColours$Net", "turnCount", "()I"⟩, prog_6_method_16_code, 1, (some .int), 0, 524, 522, 523, 66, 0) := rfl
theorem h_Net_turnCount : mChk (mMt n_Net_turnCount) k_Net_turnCount = true := by decide +kernel
abbrev n_Net_turn : Nat := 45
def k_Net_turn : mCode := [(0, (1, [1], []), 1), (1, (2, [2], []), 1), (2, (0, [], [1]), 1), (3, (2, [3], []), 1), (4, (1, [3], []), 1), (5, (16, [0], []), 1), (6, (30, [4, 0], []), 3), (9, (0, [], [2]), 1), (10, (7, [], []), 1), (11, (22, [4, 88], []), 3), (14, (0, [], [0]), 1), (15, (2, [4], []), 2), (17, (1, [4], []), 2), (19, (16, [0], []), 1), (20, (51, [8, 1, 4], []), 3), (23, (22, [3, 75], []), 3), (26, (32, [104], []), 3), (29, (1, [4], []), 2), (31, (33, [], []), 1), (32, (32, [103], []), 3), (35, (1, [4], []), 2), (37, (33, [], []), 1), (38, (5, [], []), 1), (39, (2, [5], []), 2), (41, (1, [5], []), 2), (43, (16, [0], []), 1), (44, (30, [4, 0], []), 3), (47, (1, [5], []), 2), (49, (5, [], []), 1), (50, (50, [5, 2], []), 3), (53, (1, [3], []), 1), (54, (22, [1, 69], []), 3), (57, (16, [0], []), 1), (58, (1, [4], []), 2), (60, (1, [2], []), 1), (61, (16, [0], []), 1), (62, (30, [4, 1], []), 3), (65, (8, [], []), 1), (66, (51, [16, 3, 4], []), 3), (69, (3, [4], [1]), 3), (72, (20, [17], []), 3), (75, (1, [2], []), 1), (76, (16, [0], []), 1), (77, (30, [4, 1], []), 3), (80, (7, [], []), 1), (81, (2, [2], []), 1), (82, (3, [3], [1]), 3), (85, (20, [4], []), 3), (88, (61, [], []), 1)]
theorem t_Net_turn : mMt n_Net_turn = (4, ⟨"KeptColours$Net", "turn", "(I)V"⟩, prog_6_method_17_code, 6, none, 0, 532, 530, 531, 66, 1) := rfl
theorem h_Net_turn : mChk (mMt n_Net_turn) k_Net_turn = true := by decide +kernel
abbrev n_Finder_clashes : Nat := 46
def k_Finder_clashes : mCode := [(0, (0, [], [0]), 1), (1, (2, [2], []), 1), (2, (0, [], [0]), 1), (3, (2, [3], []), 1), (4, (1, [3], []), 1), (5, (16, [1], []), 1), (6, (30, [4, 1], []), 3), (9, (22, [3, 27], []), 3), (12, (1, [2], []), 1), (13, (16, [0], []), 1), (14, (16, [1], []), 1), (15, (1, [3], []), 1), (16, (51, [34, 3, 1], []), 3), (19, (4, [], []), 1), (20, (2, [2], []), 1), (21, (3, [3], [1]), 3), (24, (20, [4], []), 3), (27, (1, [2], []), 1), (28, (60, [], []), 1)]
theorem t_Finder_clashes : mMt n_Finder_clashes = (1, ⟨"KeptColours$Finder", "clashes", "(LKeptColours$Net;)I"⟩, prog_3_method_3_code, 4, (some .int), 0, 539, 537, 538, 68, 1) := rfl
theorem h_Finder_clashes : mChk (mMt n_Finder_clashes) k_Finder_clashes = true := by decide +kernel
abbrev n_Outward_howMany : Nat := 57
def k_Outward_howMany : mCode := [(0, (16, [1], []), 1), (1, (30, [4, 4], []), 3), (4, (1, [2], []), 1), (5, (33, [], []), 1), (6, (0, [], [-1]), 1), (7, (22, [1, 12], []), 3), (10, (0, [], [0]), 1), (11, (60, [], []), 1), (12, (16, [0], []), 1), (13, (16, [1], []), 1), (14, (1, [2], []), 1), (15, (51, [58, 3, 5], []), 3), (18, (16, [0], []), 1), (19, (16, [1], []), 1), (20, (1, [2], []), 1), (21, (51, [59, 3, 5], []), 3), (24, (60, [], []), 1)]
theorem t_Outward_howMany : mMt n_Outward_howMany = (5, ⟨"KeptColours$Outward", "howMany", "(LKeptColours$Net;I)I"⟩, prog_7_method_2_code, 3, (some .int), 0, 594, 592, 593, 69, 2) := rfl
theorem h_Outward_howMany : mChk (mMt n_Outward_howMany) k_Outward_howMany = true := by decide +kernel
abbrev n_Outward_lookAt : Nat := 58
def k_Outward_lookAt : mCode := [(0, (16, [0], []), 1), (1, (16, [1], []), 1), (2, (30, [4, 0], []), 3), (5, (31, [5, 0, 0], []), 3), (8, (16, [1], []), 1), (9, (16, [1], []), 1), (10, (30, [4, 4], []), 3), (13, (1, [2], []), 1), (14, (33, [], []), 1), (15, (16, [0], []), 1), (16, (30, [5, 1], []), 3), (19, (51, [26, 3, 4], []), 3), (22, (61, [], []), 1)]
theorem t_Outward_lookAt : mMt n_Outward_lookAt = (5, ⟨"KeptColours$Outward", "lookAt", "(LKeptColours$Net;I)V"⟩, prog_7_method_4_code, 3, none, 0, 598, 597, 10, 69, 2) := rfl
theorem h_Outward_lookAt : mChk (mMt n_Outward_lookAt) k_Outward_lookAt = true := by decide +kernel
abbrev n_Outward_countFrom : Nat := 59
def k_Outward_countFrom : mCode := [(0, (32, [103], []), 3), (3, (1, [2], []), 1), (4, (33, [], []), 1), (5, (2, [3], []), 1), (6, (32, [104], []), 3), (9, (1, [2], []), 1), (10, (33, [], []), 1), (11, (2, [4], []), 2), (13, (16, [1], []), 1), (14, (30, [4, 3], []), 3), (17, (16, [1], []), 1), (18, (30, [4, 4], []), 3), (21, (1, [2], []), 1), (22, (33, [], []), 1), (23, (33, [], []), 1), (24, (2, [5], []), 2), (26, (16, [1], []), 1), (27, (30, [4, 2], []), 3), (30, (16, [1], []), 1), (31, (30, [4, 4], []), 3), (34, (1, [2], []), 1), (35, (33, [], []), 1), (36, (33, [], []), 1), (37, (23, [154, 72, 95, 115, 132, 142], [1]), 35), (72, (16, [0], []), 1), (73, (16, [0], []), 1), (74, (30, [5, 1], []), 3), (77, (1, [3], []), 1), (78, (33, [], []), 1), (79, (16, [0], []), 1), (80, (30, [5, 1], []), 3), (83, (1, [4], []), 2), (85, (33, [], []), 1), (86, (9, [], []), 1), (87, (1, [5], []), 2), (89, (0, [], [2]), 1), (90, (5, [], []), 1), (91, (51, [60, 3, 5], []), 3), (94, (60, [], []), 1), (95, (16, [0], []), 1), (96, (1, [3], []), 1), (97, (1, [4], []), 2), (99, (1, [5], []), 2), (101, (0, [], [2]), 1), (102, (5, [], []), 1), (103, (0, [], [1]), 1), (104, (1, [3], []), 1), (105, (12, [], []), 1), (106, (0, [], [1]), 1), (107, (1, [4], []), 2), (109, (12, [], []), 1), (110, (10, [], []), 1), (111, (51, [61, 5, 5], []), 3), (114, (60, [], []), 1), (115, (16, [0], []), 1), (116, (1, [3], []), 1), (117, (1, [5], []), 2), (119, (51, [62, 3, 5], []), 3), (122, (16, [0], []), 1), (123, (1, [4], []), 2), (125, (1, [5], []), 2), (127, (51, [62, 3, 5], []), 3), (130, (4, [], []), 1), (131, (60, [], []), 1), (132, (16, [0], []), 1), (133, (1, [3], []), 1), (134, (1, [4], []), 2), (136, (1, [5], []), 2), (138, (51, [63, 4, 5], []), 3), (141, (60, [], []), 1), (142, (16, [0], []), 1), (143, (1, [3], []), 1), (144, (1, [4], []), 2), (146, (1, [5], []), 2), (148, (0, [], [2]), 1), (149, (5, [], []), 1), (150, (51, [64, 4, 5], []), 3), (153, (60, [], []), 1), (154, (0, [], [0]), 1), (155, (60, [], []), 1)]
theorem t_Outward_countFrom : mMt n_Outward_countFrom = (5, ⟨"KeptColours$Outward", "countFrom", "(LKeptColours$Net;I)I"⟩, prog_7_method_5_code, 6, (some .int), 0, 603, 602, 11, 69, 2) := rfl
theorem h_Outward_countFrom : mChk (mMt n_Outward_countFrom) k_Outward_countFrom = true := by decide +kernel
abbrev n_Outward_countAllJoined : Nat := 60
def k_Outward_countAllJoined : mCode := [(0, (1, [2], []), 1), (1, (0, [], [1]), 1), (2, (22, [4, 18], []), 3), (5, (1, [2], []), 1), (6, (21, [4, 13], []), 3), (9, (0, [], [1]), 1), (10, (20, [17], []), 3), (13, (1, [1], []), 1), (14, (50, [36, 1], []), 3), (17, (60, [], []), 1), (18, (0, [], [0]), 1), (19, (2, [3], []), 1), (20, (0, [], [0]), 1), (21, (2, [4], []), 2), (23, (1, [4], []), 2), (25, (16, [0], []), 1), (26, (30, [5, 0], []), 3), (29, (22, [3, 73], []), 3), (32, (1, [1], []), 1), (33, (1, [4], []), 2), (35, (13, [], []), 1), (36, (0, [], [1]), 1), (37, (9, [], []), 1), (38, (0, [], [1]), 1), (39, (22, [1, 67], []), 3), (42, (1, [3], []), 1), (43, (16, [0], []), 1), (44, (1, [1], []), 1), (45, (16, [0], []), 1), (46, (30, [5, 1], []), 3), (49, (1, [4], []), 2), (51, (33, [], []), 1), (52, (9, [], []), 1), (53, (1, [4], []), 2), (55, (50, [32, 1], []), 3), (58, (9, [], []), 1), (59, (1, [2], []), 1), (60, (0, [], [1]), 1), (61, (5, [], []), 1), (62, (51, [60, 3, 5], []), 3), (65, (4, [], []), 1), (66, (2, [3], []), 1), (67, (3, [4], [1]), 3), (70, (20, [23], []), 3), (73, (1, [3], []), 1), (74, (60, [], []), 1)]
theorem t_Outward_countAllJoined : mMt n_Outward_countAllJoined = (5, ⟨"KeptColours$Outward", "countAllJoined", "(II)I"⟩, prog_7_method_6_code, 5, (some .int), 0, 609, 608, 12, 69, 2) := rfl
theorem h_Outward_countAllJoined : mChk (mMt n_Outward_countAllJoined) k_Outward_countAllJoined = true := by decide +kernel
abbrev n_Outward_countBetween : Nat := 61
def k_Outward_countBetween : mCode := [(0, (16, [0], []), 1), (1, (30, [5, 1], []), 3), (4, (1, [1], []), 1), (5, (33, [], []), 1), (6, (1, [4], []), 2), (8, (0, [], [-1]), 1), (9, (11, [], []), 1), (10, (9, [], []), 1), (11, (2, [5], []), 2), (13, (1, [3], []), 1), (14, (0, [], [1]), 1), (15, (22, [4, 31], []), 3), (18, (1, [5], []), 2), (20, (16, [0], []), 1), (21, (30, [5, 1], []), 3), (24, (1, [2], []), 1), (25, (33, [], []), 1), (26, (9, [], []), 1), (27, (50, [36, 1], []), 3), (30, (60, [], []), 1), (31, (0, [], [0]), 1), (32, (2, [6], []), 2), (34, (0, [], [0]), 1), (35, (2, [7], []), 2), (37, (1, [7], []), 2), (39, (16, [0], []), 1), (40, (30, [5, 0], []), 3), (43, (22, [3, 85], []), 3), (46, (1, [5], []), 2), (48, (1, [7], []), 2), (50, (13, [], []), 1), (51, (0, [], [1]), 1), (52, (9, [], []), 1), (53, (0, [], [1]), 1), (54, (22, [1, 79], []), 3), (57, (1, [6], []), 2), (59, (16, [0], []), 1), (60, (1, [7], []), 2), (62, (1, [2], []), 1), (63, (1, [3], []), 1), (64, (0, [], [1]), 1), (65, (5, [], []), 1), (66, (1, [4], []), 2), (68, (0, [], [1]), 1), (69, (1, [7], []), 2), (71, (12, [], []), 1), (72, (10, [], []), 1), (73, (51, [61, 5, 5], []), 3), (76, (4, [], []), 1), (77, (2, [6], []), 2), (79, (3, [7], [1]), 3), (82, (20, [37], []), 3), (85, (1, [6], []), 2), (87, (60, [], []), 1)]
theorem t_Outward_countBetween : mMt n_Outward_countBetween = (5, ⟨"KeptColours$Outward", "countBetween", "(IIII)I"⟩, prog_7_method_7_code, 8, (some .int), 0, 615, 614, 13, 69, 4) := rfl
theorem h_Outward_countBetween : mChk (mMt n_Outward_countBetween) k_Outward_countBetween = true := by decide +kernel
abbrev n_Outward_countStars : Nat := 62
def k_Outward_countStars : mCode := [(0, (16, [0], []), 1), (1, (30, [5, 1], []), 3), (4, (1, [1], []), 1), (5, (33, [], []), 1), (6, (50, [36, 1], []), 3), (9, (0, [], [1]), 1), (10, (5, [], []), 1), (11, (1, [2], []), 1), (12, (0, [], [1]), 1), (13, (5, [], []), 1), (14, (50, [37, 2], []), 3), (17, (60, [], []), 1)]
theorem t_Outward_countStars : mMt n_Outward_countStars = (5, ⟨"KeptColours$Outward", "countStars", "(II)I"⟩, prog_7_method_8_code, 3, (some .int), 0, 619, 618, 14, 69, 2) := rfl
theorem h_Outward_countStars : mChk (mMt n_Outward_countStars) k_Outward_countStars = true := by decide +kernel
abbrev n_Outward_countBooks : Nat := 63
def k_Outward_countBooks : mCode := [(0, (16, [0], []), 1), (1, (30, [5, 1], []), 3), (4, (1, [1], []), 1), (5, (33, [], []), 1), (6, (16, [0], []), 1), (7, (30, [5, 1], []), 3), (10, (1, [2], []), 1), (11, (33, [], []), 1), (12, (9, [], []), 1), (13, (2, [4], []), 2), (15, (1, [4], []), 2), (17, (50, [36, 1], []), 3), (20, (1, [3], []), 1), (21, (50, [37, 2], []), 3), (24, (2, [5], []), 2), (26, (0, [], [0]), 1), (27, (2, [6], []), 2), (29, (1, [6], []), 2), (31, (16, [0], []), 1), (32, (30, [5, 0], []), 3), (35, (22, [3, 115], []), 3), (38, (1, [4], []), 2), (40, (1, [6], []), 2), (42, (13, [], []), 1), (43, (0, [], [1]), 1), (44, (9, [], []), 1), (45, (0, [], [1]), 1), (46, (22, [1, 109], []), 3), (49, (1, [5], []), 2), (51, (16, [0], []), 1), (52, (30, [5, 1], []), 3), (55, (1, [1], []), 1), (56, (33, [], []), 1), (57, (16, [0], []), 1), (58, (30, [5, 1], []), 3), (61, (1, [6], []), 2), (63, (33, [], []), 1), (64, (9, [], []), 1), (65, (50, [36, 1], []), 3), (68, (0, [], [1]), 1), (69, (5, [], []), 1), (70, (1, [3], []), 1), (71, (0, [], [1]), 1), (72, (5, [], []), 1), (73, (50, [37, 2], []), 3), (76, (4, [], []), 1), (77, (2, [5], []), 2), (79, (1, [5], []), 2), (81, (16, [0], []), 1), (82, (30, [5, 1], []), 3), (85, (1, [2], []), 1), (86, (33, [], []), 1), (87, (16, [0], []), 1), (88, (30, [5, 1], []), 3), (91, (1, [6], []), 2), (93, (33, [], []), 1), (94, (9, [], []), 1), (95, (50, [36, 1], []), 3), (98, (0, [], [1]), 1), (99, (5, [], []), 1), (100, (1, [3], []), 1), (101, (0, [], [1]), 1), (102, (5, [], []), 1), (103, (50, [37, 2], []), 3), (106, (4, [], []), 1), (107, (2, [5], []), 2), (109, (3, [6], [1]), 3), (112, (20, [29], []), 3), (115, (1, [5], []), 2), (117, (60, [], []), 1)]
theorem t_Outward_countBooks : mMt n_Outward_countBooks = (5, ⟨"KeptColours$Outward", "countBooks", "(III)I"⟩, prog_7_method_9_code, 7, (some .int), 0, 624, 623, 15, 69, 3) := rfl
theorem h_Outward_countBooks : mChk (mMt n_Outward_countBooks) k_Outward_countBooks = true := by decide +kernel
abbrev n_Outward_countPaths : Nat := 64
def k_Outward_countPaths : mCode := [(0, (0, [], [0]), 1), (1, (2, [4], []), 2), (3, (0, [], [0]), 1), (4, (2, [5], []), 2), (6, (1, [5], []), 2), (8, (1, [3], []), 1), (9, (22, [4, 42], []), 3), (12, (1, [4], []), 2), (14, (16, [0], []), 1), (15, (1, [1], []), 1), (16, (1, [5], []), 2), (18, (1, [2], []), 1), (19, (1, [3], []), 1), (20, (1, [5], []), 2), (22, (5, [], []), 1), (23, (0, [], [1]), 1), (24, (1, [1], []), 1), (25, (12, [], []), 1), (26, (0, [], [1]), 1), (27, (1, [2], []), 1), (28, (12, [], []), 1), (29, (10, [], []), 1), (30, (51, [65, 6, 5], []), 3), (33, (4, [], []), 1), (34, (2, [4], []), 2), (36, (3, [5], [1]), 3), (39, (20, [6], []), 3), (42, (1, [4], []), 2), (44, (60, [], []), 1)]
theorem t_Outward_countPaths : mMt n_Outward_countPaths = (5, ⟨"KeptColours$Outward", "countPaths", "(III)I"⟩, prog_7_method_10_code, 6, (some .int), 0, 628, 627, 16, 69, 3) := rfl
theorem h_Outward_countPaths : mChk (mMt n_Outward_countPaths) k_Outward_countPaths = true := by decide +kernel
abbrev n_Outward_countArms : Nat := 65
def k_Outward_countArms : mCode := [(0, (1, [2], []), 1), (1, (21, [4, 25], []), 3), (4, (1, [4], []), 2), (6, (21, [4, 13], []), 3), (9, (0, [], [1]), 1), (10, (20, [24], []), 3), (13, (16, [0], []), 1), (14, (1, [3], []), 1), (15, (1, [4], []), 2), (17, (1, [1], []), 1), (18, (0, [], [0]), 1), (19, (1, [5], []), 2), (21, (51, [65, 6, 5], []), 3), (24, (60, [], []), 1), (25, (16, [0], []), 1), (26, (30, [5, 1], []), 3), (29, (1, [1], []), 1), (30, (33, [], []), 1), (31, (1, [5], []), 2), (33, (0, [], [-1]), 1), (34, (11, [], []), 1), (35, (9, [], []), 1), (36, (2, [6], []), 2), (38, (1, [2], []), 1), (39, (0, [], [1]), 1), (40, (22, [1, 54], []), 3), (43, (1, [4], []), 2), (45, (21, [4, 54], []), 3), (48, (1, [6], []), 2), (50, (50, [36, 1], []), 3), (53, (60, [], []), 1), (54, (0, [], [0]), 1), (55, (2, [7], []), 2), (57, (0, [], [0]), 1), (58, (2, [8], []), 2), (60, (1, [8], []), 2), (62, (16, [0], []), 1), (63, (30, [5, 0], []), 3), (66, (22, [3, 110], []), 3), (69, (1, [6], []), 2), (71, (1, [8], []), 2), (73, (13, [], []), 1), (74, (0, [], [1]), 1), (75, (9, [], []), 1), (76, (0, [], [1]), 1), (77, (22, [1, 104], []), 3), (80, (1, [7], []), 2), (82, (16, [0], []), 1), (83, (1, [8], []), 2), (85, (1, [2], []), 1), (86, (0, [], [1]), 1), (87, (5, [], []), 1), (88, (1, [3], []), 1), (89, (1, [4], []), 2), (91, (1, [5], []), 2), (93, (0, [], [1]), 1), (94, (1, [8], []), 2), (96, (12, [], []), 1), (97, (10, [], []), 1), (98, (51, [65, 6, 5], []), 3), (101, (4, [], []), 1), (102, (2, [7], []), 2), (104, (3, [8], [1]), 3), (107, (20, [60], []), 3), (110, (1, [7], []), 2), (112, (60, [], []), 1)]
theorem t_Outward_countArms : mMt n_Outward_countArms = (5, ⟨"KeptColours$Outward", "countArms", "(IIIII)I"⟩, prog_7_method_11_code, 9, (some .int), 0, 632, 631, 17, 69, 5) := rfl
theorem h_Outward_countArms : mChk (mMt n_Outward_countArms) k_Outward_countArms = true := by decide +kernel
abbrev n_Int_compare : Nat := 72
def k_Int_compare : mCode := [(0, (1, [0], []), 1), (1, (1, [1], []), 1), (2, (22, [3, 9], []), 3), (5, (0, [], [-1]), 1), (6, (20, [19], []), 3), (9, (1, [0], []), 1), (10, (1, [1], []), 1), (11, (22, [1, 18], []), 3), (14, (0, [], [0]), 1), (15, (20, [19], []), 3), (18, (0, [], [1]), 1), (19, (60, [], []), 1)]
theorem t_Int_compare : mMt n_Int_compare = (11, ⟨"java/lang/Integer", "compare", "(II)I"⟩, prog_12_method_40_code, 2, (some .int), 1, 665, 664, 0, 78, 2) := rfl
theorem h_Int_compare : mChk (mMt n_Int_compare) k_Int_compare = true := by decide +kernel
abbrev n_Net_bareCount : Nat := 81
def k_Net_bareCount : mCode := [(0, (0, [], [0]), 1), (1, (2, [1], []), 1), (2, (0, [], [0]), 1), (3, (2, [2], []), 1), (4, (1, [2], []), 1), (5, (16, [0], []), 1), (6, (51, [8, 1, 4], []), 3), (9, (22, [3, 31], []), 3), (12, (16, [0], []), 1), (13, (30, [4, 4], []), 3), (16, (1, [2], []), 1), (17, (33, [], []), 1), (18, (0, [], [-1]), 1), (19, (22, [1, 25], []), 3), (22, (3, [1], [1]), 3), (25, (3, [2], [1]), 3), (28, (20, [4], []), 3), (31, (1, [1], []), 1), (32, (60, [], []), 1)]
theorem t_Net_bareCount : mMt n_Net_bareCount = (4, ⟨"KeptColours$Net", "bareCount", "()I"⟩, prog_6_method_14_code, 3, (some .int), 0, 702, 700, 701, 66, 0) := rfl
theorem h_Net_bareCount : mChk (mMt n_Net_bareCount) k_Net_bareCount = true := by decide +kernel
abbrev n_Net_loseLastPoint : Nat := 85
def k_Net_loseLastPoint : mCode := [(0, (0, [], [0]), 1), (1, (2, [1], []), 1), (2, (1, [1], []), 1), (3, (16, [0], []), 1), (4, (30, [4, 0], []), 3), (7, (0, [], [1]), 1), (8, (5, [], []), 1), (9, (22, [3, 33], []), 3), (12, (16, [0], []), 1), (13, (1, [1], []), 1), (14, (16, [0], []), 1), (15, (30, [4, 0], []), 3), (18, (0, [], [1]), 1), (19, (5, [], []), 1), (20, (50, [15, 2], []), 3), (23, (0, [], [-1]), 1), (24, (51, [16, 3, 4], []), 3), (27, (3, [1], [1]), 3), (30, (20, [2], []), 3), (33, (16, [0], []), 1), (34, (40, [], []), 1), (35, (30, [4, 0], []), 3), (38, (0, [], [1]), 1), (39, (5, [], []), 1), (40, (31, [4, 0, 0], []), 3), (43, (61, [], []), 1)]
theorem t_Net_loseLastPoint : mMt n_Net_loseLastPoint = (4, ⟨"KeptColours$Net", "loseLastPoint", "()V"⟩, prog_6_method_15_code, 2, none, 0, 719, 717, 718, 66, 0) := rfl
theorem h_Net_loseLastPoint : mChk (mMt n_Net_loseLastPoint) k_Net_loseLastPoint = true := by decide +kernel
abbrev n_Finder_rowBits : Nat := 92
def k_Finder_rowBits : mCode := [(0, (0, [], [0]), 1), (1, (2, [1], []), 1), (2, (0, [], [0]), 1), (3, (2, [2], []), 1), (4, (1, [2], []), 1), (5, (16, [0], []), 1), (6, (30, [1, 1], []), 3), (9, (22, [3, 29], []), 3), (12, (1, [1], []), 1), (13, (0, [], [1]), 1), (14, (16, [0], []), 1), (15, (30, [1, 0], []), 3), (18, (1, [2], []), 1), (19, (33, [], []), 1), (20, (12, [], []), 1), (21, (10, [], []), 1), (22, (2, [1], []), 1), (23, (3, [2], [1]), 3), (26, (20, [4], []), 3), (29, (1, [1], []), 1), (30, (60, [], []), 1)]
theorem t_Finder_rowBits : mMt n_Finder_rowBits = (1, ⟨"KeptColours$Finder", "rowBits", "()I"⟩, prog_3_method_6_code, 3, (some .int), 0, 755, 753, 754, 68, 0) := rfl
theorem h_Finder_rowBits : mChk (mMt n_Finder_rowBits) k_Finder_rowBits = true := by decide +kernel
abbrev n_Outward_isCopyOfJust : Nat := 98
def k_Outward_isCopyOfJust : mCode := [(0, (16, [1], []), 1), (1, (30, [4, 4], []), 3), (4, (1, [2], []), 1), (5, (33, [], []), 1), (6, (2, [4], []), 2), (8, (0, [], [1]), 1), (9, (32, [103], []), 3), (12, (1, [2], []), 1), (13, (33, [], []), 1), (14, (12, [], []), 1), (15, (0, [], [1]), 1), (16, (32, [104], []), 3), (19, (1, [2], []), 1), (20, (33, [], []), 1), (21, (12, [], []), 1), (22, (10, [], []), 1), (23, (2, [5], []), 2), (25, (1, [4], []), 2), (27, (0, [], [-1]), 1), (28, (22, [0, 53], []), 3), (31, (1, [3], []), 1), (32, (1, [5], []), 2), (34, (9, [], []), 1), (35, (1, [5], []), 2), (37, (22, [1, 53], []), 3), (40, (1, [3], []), 1), (41, (50, [36, 1], []), 3), (44, (16, [1], []), 1), (45, (1, [4], []), 2), (47, (51, [25, 2, 4], []), 3), (50, (22, [0, 55], []), 3), (53, (0, [], [0]), 1), (54, (62, [], []), 1), (55, (16, [0], []), 1), (56, (16, [1], []), 1), (57, (1, [2], []), 1), (58, (51, [58, 3, 5], []), 3), (61, (0, [], [0]), 1), (62, (2, [6], []), 2), (64, (1, [6], []), 2), (66, (0, [], [12]), 2), (68, (22, [3, 88], []), 3), (71, (16, [0], []), 1), (72, (30, [5, 1], []), 3), (75, (1, [6], []), 2), (77, (41, [], []), 1), (78, (33, [], []), 1), (79, (1, [3], []), 1), (80, (9, [], []), 1), (81, (34, [], []), 1), (82, (3, [6], [1]), 3), (85, (20, [64], []), 3), (88, (16, [0], []), 1), (89, (16, [1], []), 1), (90, (1, [2], []), 1), (91, (51, [59, 3, 5], []), 3), (94, (21, [5, 101], []), 3), (97, (0, [], [1]), 1), (98, (20, [102], []), 3), (101, (0, [], [0]), 1), (102, (62, [], []), 1)]
theorem t_Outward_isCopyOfJust : mMt n_Outward_isCopyOfJust = (5, ⟨"KeptColours$Outward", "isCopyOfJust", "(LKeptColours$Net;II)Z"⟩, prog_7_method_3_code, 7, (some .boolean), 0, 781, 779, 780, 69, 3) := rfl
theorem h_Outward_isCopyOfJust : mChk (mMt n_Outward_isCopyOfJust) k_Outward_isCopyOfJust = true := by decide +kernel
end
section
abbrev n_K_net : Nat := 1
def k_K_net : mCode := [(0, (1, [1], []), 1), (1, (0, [], [1]), 1), (2, (22, [2, 21], []), 3), (5, (1, [1], []), 1), (6, (0, [], [12]), 2), (8, (22, [4, 21], []), 3), (11, (1, [2], []), 1), (12, (0, [], [2]), 1), (13, (22, [2, 21], []), 3), (16, (1, [2], []), 1), (17, (0, [], [3]), 1), (18, (22, [5, 24], []), 3), (21, (0, [], [-1000000001]), 2), (23, (60, [], []), 1), (24, (16, [0], []), 1), (25, (51, [2, 1, 8], []), 3), (28, (16, [0], []), 1), (29, (30, [8, 0], []), 3), (32, (1, [1], []), 1), (33, (1, [2], []), 1), (34, (51, [7, 3, 4], []), 3), (37, (16, [0], []), 1), (38, (30, [8, 0], []), 3), (41, (51, [8, 1, 4], []), 3), (44, (60, [], []), 1)]
theorem t_K_net : mMt n_K_net = (8, ⟨"KeptColours", "net", "(II)I"⟩, prog_1_method_2_code, 3, (some .int), 0, 338, 336, 337, 65, 2) := rfl
theorem h_K_net : mChk (mMt n_K_net) k_K_net = true := by decide +kernel
abbrev n_K_remember : Nat := 2
def k_K_remember : mCode := [(0, (16, [0], []), 1), (1, (30, [8, 6], []), 3), (4, (16, [0], []), 1), (5, (30, [8, 0], []), 3), (8, (51, [3, 2, 3], []), 3), (11, (16, [0], []), 1), (12, (30, [8, 4], []), 3), (15, (51, [6, 1, 6], []), 3), (18, (61, [], []), 1)]
theorem t_K_remember : mMt n_K_remember = (8, ⟨"KeptColours", "remember", "()V"⟩, prog_1_method_32_code, 1, none, 0, 343, 342, 0, 65, 0) := rfl
theorem h_K_remember : mChk (mMt n_K_remember) k_K_remember = true := by decide +kernel
abbrev n_History_keep : Nat := 3
def k_History_keep : mCode := [(0, (16, [0], []), 1), (1, (30, [3, 1], []), 3), (4, (16, [0], []), 1), (5, (30, [3, 2], []), 3), (8, (37, [], []), 1), (9, (16, [1], []), 1), (10, (51, [4, 2, 4], []), 3), (13, (16, [0], []), 1), (14, (16, [0], []), 1), (15, (30, [3, 2], []), 3), (18, (0, [], [1]), 1), (19, (4, [], []), 1), (20, (0, [], [6]), 2), (22, (8, [], []), 1), (23, (31, [3, 2, 0], []), 3), (26, (16, [0], []), 1), (27, (16, [0], []), 1), (28, (30, [3, 0], []), 3), (31, (0, [], [1]), 1), (32, (4, [], []), 1), (33, (0, [], [6]), 2), (35, (50, [5, 2], []), 3), (38, (31, [3, 0, 0], []), 3), (41, (61, [], []), 1)]
theorem t_History_keep : mMt n_History_keep = (3, ⟨"KeptColours$History", "keep", "(LKeptColours$Net;)V"⟩, prog_5_method_2_code, 2, none, 0, 347, 345, 346, 74, 1) := rfl
theorem h_History_keep : mChk (mMt n_History_keep) k_History_keep = true := by decide +kernel
abbrev n_Proof_forget : Nat := 6
def k_Proof_forget : mCode := [(0, (16, [0], []), 1), (1, (0, [], [0]), 1), (2, (31, [6, 3, 0], []), 3), (5, (61, [], []), 1)]
theorem t_Proof_forget : mMt n_Proof_forget = (6, ⟨"KeptColours$Proof", "forget", "()V"⟩, prog_8_method_2_code, 1, none, 0, 361, 359, 360, 72, 0) := rfl
theorem h_Proof_forget : mChk (mMt n_Proof_forget) k_Proof_forget = true := by decide +kernel
abbrev n_K_target : Nat := 9
def k_K_target : mCode := [(0, (16, [0], []), 1), (1, (30, [8, 0], []), 3), (4, (1, [1], []), 1), (5, (51, [10, 2, 4], []), 3), (8, (21, [0, 20], []), 3), (11, (1, [2], []), 1), (12, (21, [2, 20], []), 3), (15, (1, [2], []), 1), (16, (0, [], [5]), 1), (17, (22, [5, 23], []), 3), (20, (0, [], [-1000000001]), 2), (22, (60, [], []), 1), (23, (1, [3], []), 1), (24, (32, [100], []), 3), (27, (1, [2], []), 1), (28, (33, [], []), 1), (29, (22, [2, 41], []), 3), (32, (1, [3], []), 1), (33, (32, [101], []), 3), (36, (1, [2], []), 1), (37, (33, [], []), 1), (38, (22, [5, 44], []), 3), (41, (0, [], [-1000000001]), 2), (43, (60, [], []), 1), (44, (16, [0], []), 1), (45, (51, [2, 1, 8], []), 3), (48, (16, [0], []), 1), (49, (30, [8, 0], []), 3), (52, (30, [4, 2], []), 3), (55, (1, [1], []), 1), (56, (1, [2], []), 1), (57, (34, [], []), 1), (58, (16, [0], []), 1), (59, (30, [8, 0], []), 3), (62, (30, [4, 3], []), 3), (65, (1, [1], []), 1), (66, (1, [3], []), 1), (67, (34, [], []), 1), (68, (0, [], [0]), 1), (69, (60, [], []), 1)]
theorem t_K_target : mMt n_K_target = (8, ⟨"KeptColours", "target", "(III)I"⟩, prog_1_method_3_code, 4, (some .int), 0, 373, 371, 372, 65, 3) := rfl
theorem h_K_target : mChk (mMt n_K_target) k_K_target = true := by decide +kernel
abbrev n_K_paint : Nat := 11
def k_K_paint : mCode := [(0, (16, [0], []), 1), (1, (30, [8, 0], []), 3), (4, (1, [1], []), 1), (5, (1, [2], []), 1), (6, (51, [12, 3, 4], []), 3), (9, (21, [0, 23], []), 3), (12, (16, [0], []), 1), (13, (30, [8, 0], []), 3), (16, (1, [3], []), 1), (17, (51, [14, 2, 4], []), 3), (20, (21, [1, 26], []), 3), (23, (0, [], [-1000000001]), 2), (25, (60, [], []), 1), (26, (16, [0], []), 1), (27, (51, [2, 1, 8], []), 3), (30, (1, [1], []), 1), (31, (1, [2], []), 1), (32, (50, [15, 2], []), 3), (35, (2, [4], []), 2), (37, (16, [0], []), 1), (38, (30, [8, 0], []), 3), (41, (30, [4, 4], []), 3), (44, (1, [4], []), 2), (46, (33, [], []), 1), (47, (2, [5], []), 2), (49, (16, [0], []), 1), (50, (30, [8, 0], []), 3), (53, (1, [4], []), 2), (55, (1, [3], []), 1), (56, (51, [16, 3, 4], []), 3), (59, (1, [5], []), 2), (61, (60, [], []), 1)]
theorem t_K_paint : mMt n_K_paint = (8, ⟨"KeptColours", "paint", "(III)I"⟩, prog_1_method_4_code, 6, (some .int), 0, 385, 383, 384, 65, 3) := rfl
theorem h_K_paint : mChk (mMt n_K_paint) k_K_paint = true := by decide +kernel
abbrev n_K_numberOf : Nat := 15
def k_K_numberOf : mCode := [(0, (1, [0], []), 1), (1, (1, [1], []), 1), (2, (22, [3, 17], []), 3), (5, (1, [1], []), 1), (6, (1, [1], []), 1), (7, (0, [], [1]), 1), (8, (5, [], []), 1), (9, (6, [], []), 1), (10, (0, [], [2]), 1), (11, (7, [], []), 1), (12, (1, [0], []), 1), (13, (4, [], []), 1), (14, (20, [26], []), 3), (17, (1, [0], []), 1), (18, (1, [0], []), 1), (19, (0, [], [1]), 1), (20, (5, [], []), 1), (21, (6, [], []), 1), (22, (0, [], [2]), 1), (23, (7, [], []), 1), (24, (1, [1], []), 1), (25, (4, [], []), 1), (26, (60, [], []), 1)]
theorem t_K_numberOf : mMt n_K_numberOf = (8, ⟨"KeptColours", "numberOf", "(II)I"⟩, prog_1_method_35_code, 2, (some .int), 1, 401, 400, 0, 65, 2) := rfl
theorem h_K_numberOf : mChk (mMt n_K_numberOf) k_K_numberOf = true := by decide +kernel
abbrev n_K_colour : Nat := 18
def k_K_colour : mCode := [(0, (16, [0], []), 1), (1, (30, [8, 0], []), 3), (4, (1, [1], []), 1), (5, (1, [2], []), 1), (6, (51, [12, 3, 4], []), 3), (9, (21, [0, 28], []), 3), (12, (16, [0], []), 1), (13, (30, [8, 0], []), 3), (16, (30, [4, 4], []), 3), (19, (1, [1], []), 1), (20, (1, [2], []), 1), (21, (50, [15, 2], []), 3), (24, (33, [], []), 1), (25, (20, [30], []), 3), (28, (0, [], [-1000000001]), 2), (30, (60, [], []), 1)]
theorem t_K_colour : mMt n_K_colour = (8, ⟨"KeptColours", "colour", "(II)I"⟩, prog_1_method_5_code, 3, (some .int), 0, 417, 415, 416, 65, 2) := rfl
theorem h_K_colour : mChk (mMt n_K_colour) k_K_colour = true := by decide +kernel
abbrev n_K_aim : Nat := 19
def k_K_aim : mCode := [(0, (16, [0], []), 1), (1, (30, [8, 0], []), 3), (4, (1, [1], []), 1), (5, (51, [10, 2, 4], []), 3), (8, (21, [0, 20], []), 3), (11, (1, [2], []), 1), (12, (21, [2, 20], []), 3), (15, (1, [2], []), 1), (16, (0, [], [1]), 1), (17, (22, [5, 23], []), 3), (20, (0, [], [-1000000001]), 2), (22, (60, [], []), 1), (23, (1, [2], []), 1), (24, (21, [1, 39], []), 3), (27, (16, [0], []), 1), (28, (30, [8, 0], []), 3), (31, (30, [4, 2], []), 3), (34, (1, [1], []), 1), (35, (33, [], []), 1), (36, (20, [48], []), 3), (39, (16, [0], []), 1), (40, (30, [8, 0], []), 3), (43, (30, [4, 3], []), 3), (46, (1, [1], []), 1), (47, (33, [], []), 1), (48, (60, [], []), 1)]
theorem t_K_aim : mMt n_K_aim = (8, ⟨"KeptColours", "aim", "(II)I"⟩, prog_1_method_6_code, 3, (some .int), 0, 421, 419, 420, 65, 2) := rfl
theorem h_K_aim : mChk (mMt n_K_aim) k_K_aim = true := by decide +kernel
abbrev n_K_isOf : Nat := 20
def k_K_isOf : mCode := [(0, (16, [0], []), 1), (1, (30, [8, 0], []), 3), (4, (1, [1], []), 1), (5, (51, [10, 2, 4], []), 3), (8, (21, [0, 21], []), 3), (11, (1, [2], []), 1), (12, (21, [2, 21], []), 3), (15, (1, [2], []), 1), (16, (0, [], [6]), 2), (18, (22, [5, 24], []), 3), (21, (0, [], [-1000000001]), 2), (23, (60, [], []), 1), (24, (16, [0], []), 1), (25, (30, [8, 0], []), 3), (28, (30, [4, 2], []), 3), (31, (1, [1], []), 1), (32, (33, [], []), 1), (33, (2, [3], []), 1), (34, (1, [2], []), 1), (35, (0, [], [6]), 2), (37, (22, [1, 58], []), 3), (40, (1, [3], []), 1), (41, (0, [], [2]), 1), (42, (22, [0, 50], []), 3), (45, (1, [3], []), 1), (46, (0, [], [5]), 1), (47, (22, [1, 54], []), 3), (50, (0, [], [1]), 1), (51, (20, [68], []), 3), (54, (0, [], [0]), 1), (55, (20, [68], []), 3), (58, (1, [3], []), 1), (59, (1, [2], []), 1), (60, (22, [1, 67], []), 3), (63, (0, [], [1]), 1), (64, (20, [68], []), 3), (67, (0, [], [0]), 1), (68, (2, [4], []), 2), (70, (1, [4], []), 2), (72, (21, [0, 79], []), 3), (75, (0, [], [1]), 1), (76, (20, [80], []), 3), (79, (0, [], [0]), 1), (80, (60, [], []), 1)]
theorem t_K_isOf : mMt n_K_isOf = (8, ⟨"KeptColours", "isOf", "(II)I"⟩, prog_1_method_7_code, 5, (some .int), 0, 425, 423, 424, 65, 2) := rfl
theorem h_K_isOf : mChk (mMt n_K_isOf) k_K_isOf = true := by decide +kernel
abbrev n_K_clear : Nat := 21
def k_K_clear : mCode := [(0, (16, [0], []), 1), (1, (30, [8, 1], []), 3), (4, (16, [0], []), 1), (5, (30, [8, 0], []), 3), (8, (51, [22, 2, 1], []), 3), (11, (21, [0, 18], []), 3), (14, (0, [], [0]), 1), (15, (20, [19], []), 3), (18, (0, [], [1]), 1), (19, (60, [], []), 1)]
theorem t_K_clear : mMt n_K_clear = (8, ⟨"KeptColours", "clear", "()I"⟩, prog_1_method_8_code, 1, (some .int), 0, 429, 427, 428, 65, 0) := rfl
theorem h_K_clear : mChk (mMt n_K_clear) k_K_clear = true := by decide +kernel
abbrev n_K_above : Nat := 32
def k_K_above : mCode := [(0, (0, [], [-2]), 2), (2, (1, [0], []), 1), (3, (12, [], []), 1), (4, (60, [], []), 1)]
theorem t_K_above : mMt n_K_above = (8, ⟨"KeptColours", "above", "(I)I"⟩, prog_1_method_36_code, 1, (some .int), 1, 474, 473, 0, 65, 1) := rfl
theorem h_K_above : mChk (mMt n_K_above) k_K_above = true := by decide +kernel
abbrev n_K_copies : Nat := 33
def k_K_copies : mCode := [(0, (16, [0], []), 1), (1, (30, [8, 0], []), 3), (4, (1, [1], []), 1), (5, (51, [10, 2, 4], []), 3), (8, (21, [0, 26], []), 3), (11, (16, [0], []), 1), (12, (30, [8, 1], []), 3), (15, (16, [0], []), 1), (16, (30, [8, 0], []), 3), (19, (1, [1], []), 1), (20, (51, [34, 3, 1], []), 3), (23, (20, [28], []), 3), (26, (0, [], [-1000000001]), 2), (28, (60, [], []), 1)]
theorem t_K_copies : mMt n_K_copies = (8, ⟨"KeptColours", "copies", "(I)I"⟩, prog_1_method_9_code, 2, (some .int), 0, 478, 476, 477, 65, 1) := rfl
theorem h_K_copies : mChk (mMt n_K_copies) k_K_copies = true := by decide +kernel
abbrev n_K_choose : Nat := 37
def k_K_choose : mCode := [(0, (0, [], [1]), 1), (1, (2, [2], []), 1), (2, (0, [], [0]), 1), (3, (2, [3], []), 1), (4, (1, [3], []), 1), (5, (1, [1], []), 1), (6, (22, [3, 25], []), 3), (9, (1, [2], []), 1), (10, (1, [0], []), 1), (11, (1, [3], []), 1), (12, (5, [], []), 1), (13, (6, [], []), 1), (14, (1, [3], []), 1), (15, (0, [], [1]), 1), (16, (4, [], []), 1), (17, (7, [], []), 1), (18, (2, [2], []), 1), (19, (3, [3], [1]), 3), (22, (20, [4], []), 3), (25, (1, [2], []), 1), (26, (60, [], []), 1)]
theorem t_K_choose : mMt n_K_choose = (8, ⟨"KeptColours", "choose", "(II)I"⟩, prog_1_method_38_code, 4, (some .int), 1, 495, 494, 0, 65, 2) := rfl
theorem h_K_choose : mChk (mMt n_K_choose) k_K_choose = true := by decide +kernel
abbrev n_K_copy : Nat := 38
def k_K_copy : mCode := [(0, (16, [0], []), 1), (1, (30, [8, 0], []), 3), (4, (1, [1], []), 1), (5, (51, [10, 2, 4], []), 3), (8, (21, [0, 15], []), 3), (11, (1, [2], []), 1), (12, (21, [3, 18], []), 3), (15, (0, [], [-1000000001]), 2), (17, (60, [], []), 1), (18, (16, [0], []), 1), (19, (30, [8, 1], []), 3), (22, (16, [0], []), 1), (23, (30, [8, 0], []), 3), (26, (1, [1], []), 1), (27, (51, [23, 3, 1], []), 3), (30, (21, [0, 44], []), 3), (33, (1, [2], []), 1), (34, (16, [0], []), 1), (35, (30, [8, 1], []), 3), (38, (30, [1, 1], []), 3), (41, (22, [2, 47], []), 3), (44, (0, [], [-1000000005]), 2), (46, (60, [], []), 1), (47, (16, [0], []), 1), (48, (30, [8, 1], []), 3), (51, (30, [1, 0], []), 3), (54, (1, [2], []), 1), (55, (33, [], []), 1), (56, (60, [], []), 1)]
theorem t_K_copy : mMt n_K_copy = (8, ⟨"KeptColours", "copy", "(II)I"⟩, prog_1_method_10_code, 3, (some .int), 0, 499, 497, 498, 65, 2) := rfl
theorem h_K_copy : mChk (mMt n_K_copy) k_K_copy = true := by decide +kernel
abbrev n_K_degree : Nat := 39
def k_K_degree : mCode := [(0, (16, [0], []), 1), (1, (30, [8, 0], []), 3), (4, (1, [1], []), 1), (5, (51, [13, 2, 4], []), 3), (8, (21, [0, 22], []), 3), (11, (16, [0], []), 1), (12, (30, [8, 0], []), 3), (15, (1, [2], []), 1), (16, (51, [14, 2, 4], []), 3), (19, (21, [1, 25], []), 3), (22, (0, [], [-1000000001]), 2), (24, (60, [], []), 1), (25, (0, [], [0]), 1), (26, (2, [3], []), 1), (27, (0, [], [0]), 1), (28, (2, [4], []), 2), (30, (1, [4], []), 2), (32, (16, [0], []), 1), (33, (30, [8, 0], []), 3), (36, (30, [4, 0], []), 3), (39, (22, [3, 75], []), 3), (42, (1, [4], []), 2), (44, (1, [1], []), 1), (45, (22, [0, 69], []), 3), (48, (16, [0], []), 1), (49, (30, [8, 0], []), 3), (52, (30, [4, 4], []), 3), (55, (1, [1], []), 1), (56, (1, [4], []), 2), (58, (50, [15, 2], []), 3), (61, (33, [], []), 1), (62, (1, [2], []), 1), (63, (22, [1, 69], []), 3), (66, (3, [3], [1]), 3), (69, (3, [4], [1]), 3), (72, (20, [30], []), 3), (75, (1, [3], []), 1), (76, (60, [], []), 1)]
theorem t_K_degree : mMt n_K_degree = (8, ⟨"KeptColours", "degree", "(II)I"⟩, prog_1_method_11_code, 5, (some .int), 0, 505, 503, 504, 65, 2) := rfl
theorem h_K_degree : mChk (mMt n_K_degree) k_K_degree = true := by decide +kernel
abbrev n_K_triangles : Nat := 40
def k_K_triangles : mCode := [(0, (0, [], [0]), 1), (1, (2, [1], []), 1), (2, (0, [], [0]), 1), (3, (2, [2], []), 1), (4, (1, [2], []), 1), (5, (16, [0], []), 1), (6, (30, [8, 0], []), 3), (9, (51, [8, 1, 4], []), 3), (12, (22, [3, 110], []), 3), (15, (16, [0], []), 1), (16, (30, [8, 0], []), 3), (19, (30, [4, 4], []), 3), (22, (1, [2], []), 1), (23, (33, [], []), 1), (24, (2, [3], []), 1), (25, (32, [104], []), 3), (28, (1, [2], []), 1), (29, (33, [], []), 1), (30, (0, [], [1]), 1), (31, (4, [], []), 1), (32, (2, [4], []), 2), (34, (1, [4], []), 2), (36, (16, [0], []), 1), (37, (30, [8, 0], []), 3), (40, (30, [4, 0], []), 3), (43, (22, [3, 104], []), 3), (46, (1, [3], []), 1), (47, (0, [], [-1]), 1), (48, (22, [0, 104], []), 3), (51, (16, [0], []), 1), (52, (30, [8, 0], []), 3), (55, (30, [4, 4], []), 3), (58, (32, [103], []), 3), (61, (1, [2], []), 1), (62, (33, [], []), 1), (63, (1, [4], []), 2), (65, (50, [15, 2], []), 3), (68, (33, [], []), 1), (69, (1, [3], []), 1), (70, (22, [1, 98], []), 3), (73, (16, [0], []), 1), (74, (30, [8, 0], []), 3), (77, (30, [4, 4], []), 3), (80, (32, [104], []), 3), (83, (1, [2], []), 1), (84, (33, [], []), 1), (85, (1, [4], []), 2), (87, (50, [15, 2], []), 3), (90, (33, [], []), 1), (91, (1, [3], []), 1), (92, (22, [1, 98], []), 3), (95, (3, [1], [1]), 3), (98, (3, [4], [1]), 3), (101, (20, [34], []), 3), (104, (3, [2], [1]), 3), (107, (20, [4], []), 3), (110, (1, [1], []), 1), (111, (60, [], []), 1)]
theorem t_K_triangles : mMt n_K_triangles = (8, ⟨"KeptColours", "triangles", "()I"⟩, prog_1_method_12_code, 5, (some .int), 0, 510, 508, 509, 65, 0) := rfl
theorem h_K_triangles : mChk (mMt n_K_triangles) k_K_triangles = true := by decide +kernel
abbrev n_K_least : Nat := 41
def k_K_least : mCode := [(0, (1, [1], []), 1), (1, (0, [], [1]), 1), (2, (22, [2, 11], []), 3), (5, (1, [1], []), 1), (6, (0, [], [12]), 2), (8, (22, [5, 14], []), 3), (11, (0, [], [-1000000001]), 2), (13, (60, [], []), 1), (14, (1, [1], []), 1), (15, (0, [], [1]), 1), (16, (5, [], []), 1), (17, (0, [], [2]), 1), (18, (7, [], []), 1), (19, (2, [2], []), 1), (20, (1, [1], []), 1), (21, (1, [1], []), 1), (22, (0, [], [1]), 1), (23, (5, [], []), 1), (24, (6, [], []), 1), (25, (1, [1], []), 1), (26, (0, [], [2]), 1), (27, (5, [], []), 1), (28, (6, [], []), 1), (29, (0, [], [6]), 2), (31, (7, [], []), 1), (32, (1, [1], []), 1), (33, (1, [2], []), 1), (34, (6, [], []), 1), (35, (1, [1], []), 1), (36, (0, [], [1]), 1), (37, (5, [], []), 1), (38, (1, [2], []), 1), (39, (5, [], []), 1), (40, (6, [], []), 1), (41, (0, [], [2]), 1), (42, (7, [], []), 1), (43, (5, [], []), 1), (44, (60, [], []), 1)]
theorem t_K_least : mMt n_K_least = (8, ⟨"KeptColours", "least", "(I)I"⟩, prog_1_method_13_code, 3, (some .int), 0, 516, 514, 515, 65, 1) := rfl
theorem h_K_least : mChk (mMt n_K_least) k_K_least = true := by decide +kernel
abbrev n_K_turned : Nat := 42
def k_K_turned : mCode := [(0, (1, [1], []), 1), (1, (21, [2, 15], []), 3), (4, (1, [1], []), 1), (5, (16, [0], []), 1), (6, (30, [8, 0], []), 3), (9, (51, [43, 1, 4], []), 3), (12, (22, [2, 18], []), 3), (15, (0, [], [-1000000001]), 2), (17, (60, [], []), 1), (18, (16, [0], []), 1), (19, (51, [2, 1, 8], []), 3), (22, (16, [0], []), 1), (23, (30, [8, 0], []), 3), (26, (1, [1], []), 1), (27, (51, [45, 2, 4], []), 3), (30, (16, [0], []), 1), (31, (30, [8, 1], []), 3), (34, (16, [0], []), 1), (35, (30, [8, 0], []), 3), (38, (51, [46, 2, 1], []), 3), (41, (60, [], []), 1)]
theorem t_K_turned : mMt n_K_turned = (8, ⟨"KeptColours", "turned", "(I)I"⟩, prog_1_method_14_code, 2, (some .int), 0, 520, 518, 519, 65, 1) := rfl
theorem h_K_turned : mChk (mMt n_K_turned) k_K_turned = true := by decide +kernel
abbrev n_K_power : Nat := 44
def k_K_power : mCode := [(0, (0, [], [1]), 1), (1, (2, [2], []), 1), (2, (0, [], [0]), 1), (3, (2, [3], []), 1), (4, (1, [3], []), 1), (5, (1, [1], []), 1), (6, (22, [3, 25], []), 3), (9, (1, [2], []), 1), (10, (0, [], [60000]), 2), (12, (22, [4, 25], []), 3), (15, (1, [2], []), 1), (16, (1, [0], []), 1), (17, (6, [], []), 1), (18, (2, [2], []), 1), (19, (3, [3], [1]), 3), (22, (20, [4], []), 3), (25, (1, [2], []), 1), (26, (60, [], []), 1)]
theorem t_K_power : mMt n_K_power = (8, ⟨"KeptColours", "power", "(II)I"⟩, prog_1_method_37_code, 4, (some .int), 1, 527, 526, 0, 65, 2) := rfl
theorem h_K_power : mChk (mMt n_K_power) k_K_power = true := by decide +kernel
abbrev n_K_turns : Nat := 47
def k_K_turns : mCode := [(0, (1, [1], []), 1), (1, (21, [2, 9], []), 3), (4, (1, [1], []), 1), (5, (0, [], [2]), 1), (6, (22, [5, 12], []), 3), (9, (0, [], [-1000000001]), 2), (11, (60, [], []), 1), (12, (16, [0], []), 1), (13, (30, [8, 2], []), 3), (16, (30, [0, 0], []), 3), (19, (15, [2], []), 1), (20, (16, [2], []), 1), (21, (16, [0], []), 1), (22, (30, [8, 0], []), 3), (25, (51, [4, 2, 4], []), 3), (28, (0, [], [0]), 1), (29, (2, [3], []), 1), (30, (0, [], [-1000000005]), 2), (32, (2, [4], []), 2), (34, (0, [], [-1000000005]), 2), (36, (2, [5], []), 2), (38, (0, [], [0]), 1), (39, (2, [6], []), 2), (41, (1, [6], []), 2), (43, (16, [0], []), 1), (44, (30, [8, 0], []), 3), (47, (51, [43, 1, 4], []), 3), (50, (22, [3, 97], []), 3), (53, (16, [2], []), 1), (54, (1, [6], []), 2), (56, (51, [45, 2, 4], []), 3), (59, (16, [0], []), 1), (60, (30, [8, 1], []), 3), (63, (16, [2], []), 1), (64, (51, [22, 2, 1], []), 3), (67, (21, [1, 91], []), 3), (70, (3, [3], [1]), 3), (73, (1, [3], []), 1), (74, (0, [], [1]), 1), (75, (22, [1, 83], []), 3), (78, (1, [6], []), 2), (80, (20, [85], []), 3), (83, (1, [4], []), 2), (85, (2, [4], []), 2), (87, (1, [6], []), 2), (89, (2, [5], []), 2), (91, (3, [6], [1]), 3), (94, (20, [41], []), 3), (97, (1, [1], []), 1), (98, (21, [1, 105], []), 3), (101, (1, [3], []), 1), (102, (20, [117], []), 3), (105, (1, [1], []), 1), (106, (0, [], [1]), 1), (107, (22, [1, 115], []), 3), (110, (1, [4], []), 2), (112, (20, [117], []), 3), (115, (1, [5], []), 2), (117, (60, [], []), 1)]
theorem t_K_turns : mMt n_K_turns = (8, ⟨"KeptColours", "turns", "(I)I"⟩, prog_1_method_15_code, 7, (some .int), 0, 544, 542, 543, 65, 1) := rfl
theorem h_K_turns : mChk (mMt n_K_turns) k_K_turns = true := by decide +kernel
abbrev n_K_list : Nat := 48
def k_K_list : mCode := [(0, (1, [1], []), 1), (1, (0, [], [1]), 1), (2, (22, [2, 20], []), 3), (5, (1, [1], []), 1), (6, (0, [], [12]), 2), (8, (22, [4, 20], []), 3), (11, (1, [2], []), 1), (12, (21, [2, 20], []), 3), (15, (1, [2], []), 1), (16, (0, [], [1]), 1), (17, (22, [5, 23], []), 3), (20, (0, [], [-1000000001]), 2), (22, (60, [], []), 1), (23, (16, [0], []), 1), (24, (1, [1], []), 1), (25, (51, [49, 2, 8], []), 3), (28, (21, [0, 34], []), 3), (31, (0, [], [-1000000004]), 2), (33, (60, [], []), 1), (34, (16, [0], []), 1), (35, (30, [8, 2], []), 3), (38, (16, [0], []), 1), (39, (30, [8, 0], []), 3), (42, (1, [1], []), 1), (43, (51, [50, 3, 0], []), 3), (46, (1, [2], []), 1), (47, (21, [1, 60], []), 3), (50, (16, [0], []), 1), (51, (30, [8, 2], []), 3), (54, (51, [52, 1, 0], []), 3), (57, (20, [71], []), 3), (60, (16, [0], []), 1), (61, (30, [8, 3], []), 3), (64, (16, [0], []), 1), (65, (30, [8, 2], []), 3), (68, (51, [67, 2, 2], []), 3), (71, (60, [], []), 1)]
theorem t_K_list : mMt n_K_list = (8, ⟨"KeptColours", "list", "(II)I"⟩, prog_1_method_16_code, 3, (some .int), 0, 549, 547, 548, 65, 2) := rfl
theorem h_K_list : mChk (mMt n_K_list) k_K_list = true := by decide +kernel
abbrev n_K_isListLarge : Nat := 49
def k_K_isListLarge : mCode := [(0, (16, [0], []), 1), (1, (30, [8, 0], []), 3), (4, (30, [4, 1], []), 3), (7, (1, [1], []), 1), (8, (1, [1], []), 1), (9, (0, [], [1]), 1), (10, (5, [], []), 1), (11, (6, [], []), 1), (12, (0, [], [2]), 1), (13, (7, [], []), 1), (14, (50, [44, 2], []), 3), (17, (0, [], [60000]), 2), (19, (22, [5, 26], []), 3), (22, (0, [], [1]), 1), (23, (20, [27], []), 3), (26, (0, [], [0]), 1), (27, (62, [], []), 1)]
theorem t_K_isListLarge : mMt n_K_isListLarge = (8, ⟨"KeptColours", "isListLarge", "(I)Z"⟩, prog_1_method_33_code, 2, (some .boolean), 0, 553, 552, 8, 65, 1) := rfl
theorem h_K_isListLarge : mChk (mMt n_K_isListLarge) k_K_isListLarge = true := by decide +kernel
abbrev n_Filling_beginList : Nat := 50
def k_Filling_beginList : mCode := [(0, (16, [0], []), 1), (1, (30, [0, 0], []), 3), (4, (16, [1], []), 1), (5, (51, [4, 2, 4], []), 3), (8, (16, [0], []), 1), (9, (30, [0, 0], []), 3), (12, (1, [2], []), 1), (13, (16, [1], []), 1), (14, (30, [4, 1], []), 3), (17, (51, [7, 3, 4], []), 3), (20, (16, [0], []), 1), (21, (51, [51, 1, 0], []), 3), (24, (61, [], []), 1)]
theorem t_Filling_beginList : mMt n_Filling_beginList = (0, ⟨"KeptColours$Filling", "beginList", "(LKeptColours$Net;I)V"⟩, prog_2_method_3_code, 3, none, 0, 559, 557, 558, 70, 2) := rfl
theorem h_Filling_beginList : mChk (mMt n_Filling_beginList) k_Filling_beginList = true := by decide +kernel
abbrev n_Filling_beginOnBoard : Nat := 51
def k_Filling_beginOnBoard : mCode := [(0, (16, [0], []), 1), (1, (0, [], [0]), 1), (2, (31, [0, 5, 0], []), 3), (5, (0, [], [0]), 1), (6, (2, [1], []), 1), (7, (1, [1], []), 1), (8, (16, [0], []), 1), (9, (30, [0, 0], []), 3), (12, (51, [8, 1, 4], []), 3), (15, (22, [3, 57], []), 3), (18, (16, [0], []), 1), (19, (30, [0, 0], []), 3), (22, (30, [4, 4], []), 3), (25, (1, [1], []), 1), (26, (33, [], []), 1), (27, (0, [], [-1]), 1), (28, (22, [1, 51], []), 3), (31, (16, [0], []), 1), (32, (30, [0, 4], []), 3), (35, (16, [0], []), 1), (36, (30, [0, 5], []), 3), (39, (1, [1], []), 1), (40, (34, [], []), 1), (41, (16, [0], []), 1), (42, (40, [], []), 1), (43, (30, [0, 5], []), 3), (46, (0, [], [1]), 1), (47, (4, [], []), 1), (48, (31, [0, 5, 0], []), 3), (51, (3, [1], [1]), 3), (54, (20, [7], []), 3), (57, (16, [0], []), 1), (58, (0, [], [0]), 1), (59, (31, [0, 6, 0], []), 3), (62, (16, [0], []), 1), (63, (0, [], [0]), 1), (64, (31, [0, 1, 0], []), 3), (67, (16, [0], []), 1), (68, (16, [0], []), 1), (69, (30, [0, 2], []), 3), (72, (16, [0], []), 1), (73, (30, [0, 0], []), 3), (76, (51, [22, 2, 1], []), 3), (79, (31, [0, 7, 1], []), 3), (82, (61, [], []), 1)]
theorem t_Filling_beginOnBoard : mMt n_Filling_beginOnBoard = (0, ⟨"KeptColours$Filling", "beginOnBoard", "()V"⟩, prog_2_method_5_code, 2, none, 0, 565, 564, 9, 70, 0) := rfl
theorem h_Filling_beginOnBoard : mChk (mMt n_Filling_beginOnBoard) k_Filling_beginOnBoard = true := by decide +kernel
abbrev n_Filling_countAll : Nat := 52
def k_Filling_countAll : mCode := [(0, (0, [], [0]), 1), (1, (2, [1], []), 1), (2, (1, [1], []), 1), (3, (0, [], [60000]), 2), (5, (22, [3, 24], []), 3), (8, (16, [0], []), 1), (9, (0, [], [1000000]), 2), (11, (51, [53, 2, 0], []), 3), (14, (0, [], [1]), 1), (15, (22, [1, 24], []), 3), (18, (3, [1], [1]), 3), (21, (20, [2], []), 3), (24, (1, [1], []), 1), (25, (60, [], []), 1)]
theorem t_Filling_countAll : mMt n_Filling_countAll = (0, ⟨"KeptColours$Filling", "countAll", "()I"⟩, prog_2_method_12_code, 2, (some .int), 0, 571, 569, 570, 70, 0) := rfl
theorem h_Filling_countAll : mChk (mMt n_Filling_countAll) k_Filling_countAll = true := by decide +kernel
abbrev n_Filling_goOn : Nat := 53
def k_Filling_goOn : mCode := [(0, (16, [0], []), 1), (1, (30, [0, 7], []), 3), (4, (21, [0, 9], []), 3), (7, (0, [], [0]), 1), (8, (60, [], []), 1), (9, (16, [0], []), 1), (10, (30, [0, 5], []), 3), (13, (21, [1, 23], []), 3), (16, (16, [0], []), 1), (17, (0, [], [1]), 1), (18, (31, [0, 7, 1], []), 3), (21, (0, [], [1]), 1), (22, (60, [], []), 1), (23, (0, [], [0]), 1), (24, (2, [2], []), 1), (25, (1, [2], []), 1), (26, (0, [], [1000000]), 2), (28, (22, [4, 98], []), 3), (31, (16, [0], []), 1), (32, (51, [54, 1, 0], []), 3), (35, (21, [1, 45], []), 3), (38, (16, [0], []), 1), (39, (0, [], [1]), 1), (40, (31, [0, 7, 1], []), 3), (43, (0, [], [0]), 1), (44, (60, [], []), 1), (45, (16, [0], []), 1), (46, (30, [0, 1], []), 3), (49, (1, [1], []), 1), (50, (22, [2, 55], []), 3), (53, (0, [], [-1]), 1), (54, (60, [], []), 1), (55, (16, [0], []), 1), (56, (40, [], []), 1), (57, (30, [0, 1], []), 3), (60, (0, [], [1]), 1), (61, (4, [], []), 1), (62, (31, [0, 1, 0], []), 3), (65, (16, [0], []), 1), (66, (30, [0, 3], []), 3), (69, (16, [0], []), 1), (70, (30, [0, 0], []), 3), (73, (16, [0], []), 1), (74, (51, [56, 1, 0], []), 3), (77, (51, [57, 3, 5], []), 3), (80, (21, [1, 92], []), 3), (83, (16, [0], []), 1), (84, (51, [66, 1, 0], []), 3), (87, (21, [1, 92], []), 3), (90, (0, [], [1]), 1), (91, (60, [], []), 1), (92, (3, [2], [1]), 3), (95, (20, [25], []), 3), (98, (0, [], [-1]), 1), (99, (60, [], []), 1)]
theorem t_Filling_goOn : mMt n_Filling_goOn = (0, ⟨"KeptColours$Filling", "goOn", "(I)I"⟩, prog_2_method_11_code, 3, (some .int), 0, 577, 575, 576, 70, 1) := rfl
theorem h_Filling_goOn : mChk (mMt n_Filling_goOn) k_Filling_goOn = true := by decide +kernel
abbrev n_Filling_nextTry : Nat := 54
def k_Filling_nextTry : mCode := [(0, (0, [], [0]), 1), (1, (2, [1], []), 1), (2, (1, [1], []), 1), (3, (16, [0], []), 1), (4, (30, [0, 5], []), 3), (7, (22, [4, 100], []), 3), (10, (16, [0], []), 1), (11, (30, [0, 6], []), 3), (14, (21, [2, 28], []), 3), (17, (16, [0], []), 1), (18, (30, [0, 6], []), 3), (21, (16, [0], []), 1), (22, (30, [0, 5], []), 3), (25, (22, [2, 30], []), 3), (28, (0, [], [0]), 1), (29, (62, [], []), 1), (30, (16, [0], []), 1), (31, (51, [55, 1, 0], []), 3), (34, (0, [], [1]), 1), (35, (4, [], []), 1), (36, (2, [2], []), 1), (37, (1, [2], []), 1), (38, (16, [0], []), 1), (39, (30, [0, 0], []), 3), (42, (30, [4, 1], []), 3), (45, (22, [3, 67], []), 3), (48, (16, [0], []), 1), (49, (30, [0, 0], []), 3), (52, (16, [0], []), 1), (53, (30, [0, 4], []), 3), (56, (16, [0], []), 1), (57, (30, [0, 6], []), 3), (60, (33, [], []), 1), (61, (1, [2], []), 1), (62, (51, [16, 3, 4], []), 3), (65, (0, [], [1]), 1), (66, (62, [], []), 1), (67, (16, [0], []), 1), (68, (30, [0, 0], []), 3), (71, (16, [0], []), 1), (72, (30, [0, 4], []), 3), (75, (16, [0], []), 1), (76, (30, [0, 6], []), 3), (79, (33, [], []), 1), (80, (0, [], [-1]), 1), (81, (51, [16, 3, 4], []), 3), (84, (16, [0], []), 1), (85, (40, [], []), 1), (86, (30, [0, 6], []), 3), (89, (0, [], [1]), 1), (90, (5, [], []), 1), (91, (31, [0, 6, 0], []), 3), (94, (3, [1], [1]), 3), (97, (20, [2], []), 3), (100, (0, [], [0]), 1), (101, (62, [], []), 1)]
theorem t_Filling_nextTry : mMt n_Filling_nextTry = (0, ⟨"KeptColours$Filling", "nextTry", "()Z"⟩, prog_2_method_9_code, 3, (some .boolean), 0, 581, 579, 580, 70, 0) := rfl
theorem h_Filling_nextTry : mChk (mMt n_Filling_nextTry) k_Filling_nextTry = true := by decide +kernel
abbrev n_Filling_tone : Nat := 55
def k_Filling_tone : mCode := [(0, (16, [0], []), 1), (1, (30, [0, 0], []), 3), (4, (30, [4, 4], []), 3), (7, (16, [0], []), 1), (8, (30, [0, 4], []), 3), (11, (16, [0], []), 1), (12, (30, [0, 6], []), 3), (15, (33, [], []), 1), (16, (33, [], []), 1), (17, (60, [], []), 1)]
theorem t_Filling_tone : mMt n_Filling_tone = (0, ⟨"KeptColours$Filling", "tone", "()I"⟩, prog_2_method_8_code, 1, (some .int), 0, 585, 583, 584, 70, 0) := rfl
theorem h_Filling_tone : mChk (mMt n_Filling_tone) k_Filling_tone = true := by decide +kernel
abbrev n_Filling_join : Nat := 56
def k_Filling_join : mCode := [(0, (16, [0], []), 1), (1, (30, [0, 4], []), 3), (4, (16, [0], []), 1), (5, (30, [0, 6], []), 3), (8, (33, [], []), 1), (9, (60, [], []), 1)]
theorem t_Filling_join : mMt n_Filling_join = (0, ⟨"KeptColours$Filling", "join", "()I"⟩, prog_2_method_7_code, 1, (some .int), 0, 590, 588, 589, 70, 0) := rfl
theorem h_Filling_join : mChk (mMt n_Filling_join) k_Filling_join = true := by decide +kernel
abbrev n_Filling_goDeeper : Nat := 66
def k_Filling_goDeeper : mCode := [(0, (16, [0], []), 1), (1, (30, [0, 6], []), 3), (4, (0, [], [1]), 1), (5, (4, [], []), 1), (6, (16, [0], []), 1), (7, (30, [0, 5], []), 3), (10, (22, [2, 15], []), 3), (13, (0, [], [0]), 1), (14, (62, [], []), 1), (15, (16, [0], []), 1), (16, (40, [], []), 1), (17, (30, [0, 6], []), 3), (20, (0, [], [1]), 1), (21, (4, [], []), 1), (22, (31, [0, 6, 0], []), 3), (25, (0, [], [1]), 1), (26, (62, [], []), 1)]
theorem t_Filling_goDeeper : mMt n_Filling_goDeeper = (0, ⟨"KeptColours$Filling", "goDeeper", "()Z"⟩, prog_2_method_10_code, 1, (some .boolean), 0, 636, 634, 635, 70, 0) := rfl
theorem h_Filling_goDeeper : mChk (mMt n_Filling_goDeeper) k_Filling_goDeeper = true := by decide +kernel
abbrev n_Forms_countFirst : Nat := 67
def k_Forms_countFirst : mCode := [(0, (0, [], [0]), 1), (1, (2, [2], []), 1), (2, (0, [], [0]), 1), (3, (2, [3], []), 1), (4, (1, [3], []), 1), (5, (0, [], [60000]), 2), (7, (22, [3, 52], []), 3), (10, (16, [1], []), 1), (11, (0, [], [1000000]), 2), (13, (51, [53, 2, 0], []), 3), (16, (0, [], [1]), 1), (17, (22, [0, 22], []), 3), (20, (1, [2], []), 1), (21, (60, [], []), 1), (22, (16, [0], []), 1), (23, (16, [1], []), 1), (24, (30, [0, 0], []), 3), (27, (0, [], [1]), 1), (28, (51, [68, 3, 2], []), 3), (31, (1, [2], []), 1), (32, (16, [0], []), 1), (33, (30, [2, 7], []), 3), (36, (21, [0, 43], []), 3), (39, (0, [], [0]), 1), (40, (20, [44], []), 3), (43, (0, [], [1]), 1), (44, (4, [], []), 1), (45, (2, [2], []), 1), (46, (3, [3], [1]), 3), (49, (20, [4], []), 3), (52, (1, [2], []), 1), (53, (60, [], []), 1)]
theorem t_Forms_countFirst : mMt n_Forms_countFirst = (2, ⟨"KeptColours$Forms", "countFirst", "(LKeptColours$Filling;)I"⟩, prog_4_method_3_code, 4, (some .int), 0, 640, 638, 639, 71, 1) := rfl
theorem h_Forms_countFirst : mChk (mMt n_Forms_countFirst) k_Forms_countFirst = true := by decide +kernel
abbrev n_Forms_begin : Nat := 68
def k_Forms_begin : mCode := [(0, (16, [0], []), 1), (1, (1, [2], []), 1), (2, (31, [2, 6, 1], []), 3), (5, (16, [0], []), 1), (6, (0, [], [0]), 1), (7, (31, [2, 7, 1], []), 3), (10, (16, [0], []), 1), (11, (0, [], [0]), 1), (12, (31, [2, 1, 0], []), 3), (15, (16, [1], []), 1), (16, (30, [4, 0], []), 3), (19, (0, [], [7]), 2), (21, (22, [5, 25], []), 3), (24, (61, [], []), 1), (25, (16, [0], []), 1), (26, (16, [1], []), 1), (27, (30, [4, 0], []), 3), (30, (31, [2, 2, 0], []), 3), (33, (16, [0], []), 1), (34, (16, [0], []), 1), (35, (30, [2, 2], []), 3), (38, (0, [], [1]), 1), (39, (5, [], []), 1), (40, (31, [2, 5, 0], []), 3), (43, (16, [1], []), 1), (44, (30, [4, 4], []), 3), (47, (0, [], [0]), 1), (48, (16, [0], []), 1), (49, (30, [2, 3], []), 3), (52, (0, [], [0]), 1), (53, (16, [1], []), 1), (54, (51, [8, 1, 4], []), 3), (57, (70, [], []), 3), (60, (16, [1], []), 1), (61, (30, [4, 4], []), 3), (64, (0, [], [0]), 1), (65, (16, [0], []), 1), (66, (30, [2, 0], []), 3), (69, (0, [], [0]), 1), (70, (16, [1], []), 1), (71, (51, [8, 1, 4], []), 3), (74, (70, [], []), 3), (77, (16, [0], []), 1), (78, (0, [], [0]), 1), (79, (0, [], [0]), 1), (80, (51, [69, 3, 2], []), 3), (83, (61, [], []), 1)]
theorem t_Forms_begin : mMt n_Forms_begin = (2, ⟨"KeptColours$Forms", "begin", "(LKeptColours$Net;Z)V"⟩, prog_4_method_4_code, 3, none, 0, 647, 646, 18, 71, 2) := rfl
theorem h_Forms_begin : mChk (mMt n_Forms_begin) k_Forms_begin = true := by decide +kernel
abbrev n_Forms_giveNumber : Nat := 69
def k_Forms_giveNumber : mCode := [(0, (1, [1], []), 1), (1, (16, [0], []), 1), (2, (30, [2, 2], []), 3), (5, (22, [2, 19], []), 3), (8, (16, [0], []), 1), (9, (40, [], []), 1), (10, (30, [2, 1], []), 3), (13, (0, [], [1]), 1), (14, (4, [], []), 1), (15, (31, [2, 1, 0], []), 3), (18, (61, [], []), 1), (19, (0, [], [0]), 1), (20, (2, [3], []), 1), (21, (1, [3], []), 1), (22, (16, [0], []), 1), (23, (30, [2, 2], []), 3), (26, (22, [3, 104], []), 3), (29, (1, [2], []), 1), (30, (1, [3], []), 1), (31, (13, [], []), 1), (32, (0, [], [1]), 1), (33, (9, [], []), 1), (34, (21, [1, 98], []), 3), (37, (16, [0], []), 1), (38, (30, [2, 4], []), 3), (41, (1, [1], []), 1), (42, (1, [3], []), 1), (43, (34, [], []), 1), (44, (16, [0], []), 1), (45, (1, [1], []), 1), (46, (51, [70, 2, 2], []), 3), (49, (2, [4], []), 2), (51, (1, [4], []), 2), (53, (21, [3, 66], []), 3), (56, (16, [0], []), 1), (57, (0, [], [1]), 1), (58, (31, [2, 7, 1], []), 3), (61, (16, [0], []), 1), (62, (1, [1], []), 1), (63, (51, [73, 2, 2], []), 3), (66, (16, [0], []), 1), (67, (30, [2, 7], []), 3), (70, (21, [0, 81], []), 3), (73, (16, [0], []), 1), (74, (30, [2, 6], []), 3), (77, (21, [0, 81], []), 3), (80, (61, [], []), 1), (81, (1, [4], []), 2), (83, (21, [4, 98], []), 3), (86, (16, [0], []), 1), (87, (1, [1], []), 1), (88, (0, [], [1]), 1), (89, (4, [], []), 1), (90, (1, [2], []), 1), (91, (0, [], [1]), 1), (92, (1, [3], []), 1), (93, (12, [], []), 1), (94, (10, [], []), 1), (95, (51, [69, 3, 2], []), 3), (98, (3, [3], [1]), 3), (101, (20, [21], []), 3), (104, (61, [], []), 1)]
theorem t_Forms_giveNumber : mMt n_Forms_giveNumber = (2, ⟨"KeptColours$Forms", "giveNumber", "(II)V"⟩, prog_4_method_5_code, 5, none, 0, 653, 652, 19, 71, 2) := rfl
theorem h_Forms_giveNumber : mChk (mMt n_Forms_giveNumber) k_Forms_giveNumber = true := by decide +kernel
abbrev n_Forms_compareJoinsTo : Nat := 70
def k_Forms_compareJoinsTo : mCode := [(0, (1, [1], []), 1), (1, (16, [0], []), 1), (2, (30, [2, 5], []), 3), (5, (22, [5, 10], []), 3), (8, (0, [], [-1]), 1), (9, (60, [], []), 1), (10, (0, [], [0]), 1), (11, (2, [2], []), 1), (12, (1, [2], []), 1), (13, (1, [1], []), 1), (14, (22, [3, 49], []), 3), (17, (16, [0], []), 1), (18, (1, [2], []), 1), (19, (1, [1], []), 1), (20, (51, [71, 3, 2], []), 3), (23, (16, [0], []), 1), (24, (30, [2, 0], []), 3), (27, (1, [2], []), 1), (28, (1, [1], []), 1), (29, (50, [15, 2], []), 3), (32, (33, [], []), 1), (33, (50, [72, 2], []), 3), (36, (2, [3], []), 1), (37, (1, [3], []), 1), (38, (21, [0, 43], []), 3), (41, (1, [3], []), 1), (42, (60, [], []), 1), (43, (3, [2], [1]), 3), (46, (20, [12], []), 3), (49, (0, [], [0]), 1), (50, (60, [], []), 1)]
theorem t_Forms_compareJoinsTo : mMt n_Forms_compareJoinsTo = (2, ⟨"KeptColours$Forms", "compareJoinsTo", "(I)I"⟩, prog_4_method_6_code, 4, (some .int), 0, 657, 656, 20, 71, 1) := rfl
theorem h_Forms_compareJoinsTo : mChk (mMt n_Forms_compareJoinsTo) k_Forms_compareJoinsTo = true := by decide +kernel
abbrev n_Forms_toneOf : Nat := 71
def k_Forms_toneOf : mCode := [(0, (16, [0], []), 1), (1, (30, [2, 3], []), 3), (4, (16, [0], []), 1), (5, (30, [2, 4], []), 3), (8, (1, [1], []), 1), (9, (33, [], []), 1), (10, (16, [0], []), 1), (11, (30, [2, 4], []), 3), (14, (1, [2], []), 1), (15, (33, [], []), 1), (16, (50, [15, 2], []), 3), (19, (33, [], []), 1), (20, (60, [], []), 1)]
theorem t_Forms_toneOf : mMt n_Forms_toneOf = (2, ⟨"KeptColours$Forms", "toneOf", "(II)I"⟩, prog_4_method_8_code, 3, (some .int), 0, 661, 660, 21, 71, 2) := rfl
theorem h_Forms_toneOf : mChk (mMt n_Forms_toneOf) k_Forms_toneOf = true := by decide +kernel
abbrev n_Forms_settleJoinsTo : Nat := 73
def k_Forms_settleJoinsTo : mCode := [(0, (0, [], [0]), 1), (1, (2, [2], []), 1), (2, (1, [2], []), 1), (3, (1, [1], []), 1), (4, (22, [3, 29], []), 3), (7, (16, [0], []), 1), (8, (30, [2, 0], []), 3), (11, (1, [2], []), 1), (12, (1, [1], []), 1), (13, (50, [15, 2], []), 3), (16, (16, [0], []), 1), (17, (1, [2], []), 1), (18, (1, [1], []), 1), (19, (51, [71, 3, 2], []), 3), (22, (34, [], []), 1), (23, (3, [2], [1]), 3), (26, (20, [2], []), 3), (29, (16, [0], []), 1), (30, (1, [1], []), 1), (31, (31, [2, 5, 0], []), 3), (34, (16, [0], []), 1), (35, (0, [], [0]), 1), (36, (31, [2, 1, 0], []), 3), (39, (61, [], []), 1)]
theorem t_Forms_settleJoinsTo : mMt n_Forms_settleJoinsTo = (2, ⟨"KeptColours$Forms", "settleJoinsTo", "(I)V"⟩, prog_4_method_7_code, 3, none, 0, 669, 668, 22, 71, 1) := rfl
theorem h_Forms_settleJoinsTo : mChk (mMt n_Forms_settleJoinsTo) k_Forms_settleJoinsTo = true := by decide +kernel
abbrev n_K_listed : Nat := 74
def k_K_listed : mCode := [(0, (1, [1], []), 1), (1, (0, [], [1]), 1), (2, (22, [2, 15], []), 3), (5, (1, [1], []), 1), (6, (0, [], [12]), 2), (8, (22, [4, 15], []), 3), (11, (1, [2], []), 1), (12, (21, [3, 18], []), 3), (15, (0, [], [-1000000001]), 2), (17, (60, [], []), 1), (18, (16, [0], []), 1), (19, (1, [1], []), 1), (20, (51, [49, 2, 8], []), 3), (23, (21, [0, 29], []), 3), (26, (0, [], [-1000000004]), 2), (28, (60, [], []), 1), (29, (16, [0], []), 1), (30, (30, [8, 2], []), 3), (33, (16, [0], []), 1), (34, (30, [8, 0], []), 3), (37, (1, [1], []), 1), (38, (51, [50, 3, 0], []), 3), (41, (16, [0], []), 1), (42, (30, [8, 2], []), 3), (45, (1, [2], []), 1), (46, (51, [75, 2, 0], []), 3), (49, (21, [1, 55], []), 3), (52, (0, [], [-1000000005]), 2), (54, (60, [], []), 1), (55, (16, [0], []), 1), (56, (51, [2, 1, 8], []), 3), (59, (16, [0], []), 1), (60, (30, [8, 0], []), 3), (63, (16, [0], []), 1), (64, (30, [8, 2], []), 3), (67, (30, [0, 0], []), 3), (70, (51, [4, 2, 4], []), 3), (73, (16, [0], []), 1), (74, (30, [8, 0], []), 3), (77, (51, [8, 1, 4], []), 3), (80, (60, [], []), 1)]
theorem t_K_listed : mMt n_K_listed = (8, ⟨"KeptColours", "listed", "(II)I"⟩, prog_1_method_17_code, 3, (some .int), 0, 673, 671, 672, 65, 2) := rfl
theorem h_K_listed : mChk (mMt n_K_listed) k_K_listed = true := by decide +kernel
abbrev n_Filling_reach : Nat := 75
def k_Filling_reach : mCode := [(0, (1, [1], []), 1), (1, (0, [], [60000]), 2), (3, (22, [2, 8], []), 3), (6, (0, [], [0]), 1), (7, (62, [], []), 1), (8, (0, [], [0]), 1), (9, (2, [2], []), 1), (10, (1, [2], []), 1), (11, (1, [1], []), 1), (12, (22, [4, 33], []), 3), (15, (16, [0], []), 1), (16, (0, [], [1000000]), 2), (18, (51, [53, 2, 0], []), 3), (21, (0, [], [1]), 1), (22, (22, [0, 27], []), 3), (25, (0, [], [0]), 1), (26, (62, [], []), 1), (27, (3, [2], [1]), 3), (30, (20, [10], []), 3), (33, (0, [], [1]), 1), (34, (62, [], []), 1)]
theorem t_Filling_reach : mMt n_Filling_reach = (0, ⟨"KeptColours$Filling", "reach", "(I)Z"⟩, prog_2_method_13_code, 3, (some .boolean), 0, 677, 675, 676, 70, 1) := rfl
theorem h_Filling_reach : mChk (mMt n_Filling_reach) k_Filling_reach = true := by decide +kernel
abbrev n_K_form : Nat := 76
def k_K_form : mCode := [(0, (1, [1], []), 1), (1, (21, [2, 15], []), 3), (4, (1, [1], []), 1), (5, (16, [0], []), 1), (6, (30, [8, 0], []), 3), (9, (51, [8, 1, 4], []), 3), (12, (22, [2, 18], []), 3), (15, (0, [], [-1000000001]), 2), (17, (60, [], []), 1), (18, (16, [0], []), 1), (19, (30, [8, 0], []), 3), (22, (30, [4, 0], []), 3), (25, (0, [], [7]), 2), (27, (22, [5, 33], []), 3), (30, (0, [], [-1000000004]), 2), (32, (60, [], []), 1), (33, (16, [0], []), 1), (34, (30, [8, 3], []), 3), (37, (16, [0], []), 1), (38, (30, [8, 0], []), 3), (41, (51, [77, 2, 2], []), 3), (44, (16, [0], []), 1), (45, (30, [8, 3], []), 3), (48, (30, [2, 0], []), 3), (51, (1, [1], []), 1), (52, (33, [], []), 1), (53, (60, [], []), 1)]
theorem t_K_form : mMt n_K_form = (8, ⟨"KeptColours", "form", "(I)I"⟩, prog_1_method_18_code, 2, (some .int), 0, 681, 679, 680, 65, 1) := rfl
theorem h_K_form : mChk (mMt n_K_form) k_K_form = true := by decide +kernel
abbrev n_Forms_seek : Nat := 77
def k_Forms_seek : mCode := [(0, (16, [0], []), 1), (1, (16, [1], []), 1), (2, (0, [], [0]), 1), (3, (51, [68, 3, 2], []), 3), (6, (61, [], []), 1)]
theorem t_Forms_seek : mMt n_Forms_seek = (2, ⟨"KeptColours$Forms", "seek", "(LKeptColours$Net;)V"⟩, prog_4_method_2_code, 2, none, 0, 685, 683, 684, 71, 1) := rfl
theorem h_Forms_seek : mChk (mMt n_Forms_seek) k_Forms_seek = true := by decide +kernel
abbrev n_K_same : Nat := 78
def k_K_same : mCode := [(0, (16, [0], []), 1), (1, (30, [8, 0], []), 3), (4, (30, [4, 0], []), 3), (7, (0, [], [7]), 2), (9, (22, [5, 15], []), 3), (12, (0, [], [-1000000004]), 2), (14, (60, [], []), 1), (15, (16, [0], []), 1), (16, (30, [8, 3], []), 3), (19, (16, [0], []), 1), (20, (30, [8, 0], []), 3), (23, (51, [77, 2, 2], []), 3), (26, (16, [0], []), 1), (27, (30, [8, 3], []), 3), (30, (30, [2, 1], []), 3), (33, (60, [], []), 1)]
theorem t_K_same : mMt n_K_same = (8, ⟨"KeptColours", "same", "()I"⟩, prog_1_method_19_code, 1, (some .int), 0, 689, 687, 688, 65, 0) := rfl
theorem h_K_same : mChk (mMt n_K_same) k_K_same = true := by decide +kernel
abbrev n_K_puts : Nat := 79
def k_K_puts : mCode := [(0, (16, [0], []), 1), (1, (51, [80, 1, 8], []), 3), (4, (2, [1], []), 1), (5, (1, [1], []), 1), (6, (21, [0, 11], []), 3), (9, (1, [1], []), 1), (10, (60, [], []), 1), (11, (16, [0], []), 1), (12, (30, [8, 2], []), 3), (15, (16, [0], []), 1), (16, (30, [8, 0], []), 3), (19, (51, [82, 2, 0], []), 3), (22, (16, [0], []), 1), (23, (30, [8, 2], []), 3), (26, (51, [52, 1, 0], []), 3), (29, (60, [], []), 1)]
theorem t_K_puts : mMt n_K_puts = (8, ⟨"KeptColours", "puts", "()I"⟩, prog_1_method_20_code, 2, (some .int), 0, 693, 691, 692, 65, 0) := rfl
theorem h_K_puts : mChk (mMt n_K_puts) k_K_puts = true := by decide +kernel
abbrev n_K_whyNoPut : Nat := 80
def k_K_whyNoPut : mCode := [(0, (16, [0], []), 1), (1, (30, [8, 0], []), 3), (4, (30, [4, 0], []), 3), (7, (0, [], [12]), 2), (9, (22, [2, 15], []), 3), (12, (0, [], [-1000000003]), 2), (14, (60, [], []), 1), (15, (16, [0], []), 1), (16, (30, [8, 0], []), 3), (19, (30, [4, 1], []), 3), (22, (16, [0], []), 1), (23, (30, [8, 0], []), 3), (26, (30, [4, 0], []), 3), (29, (50, [44, 2], []), 3), (32, (0, [], [60000]), 2), (34, (22, [5, 40], []), 3), (37, (0, [], [-1000000004]), 2), (39, (60, [], []), 1), (40, (16, [0], []), 1), (41, (30, [8, 0], []), 3), (44, (51, [81, 1, 4], []), 3), (47, (21, [1, 64], []), 3), (50, (16, [0], []), 1), (51, (30, [8, 1], []), 3), (54, (16, [0], []), 1), (55, (30, [8, 0], []), 3), (58, (51, [22, 2, 1], []), 3), (61, (21, [0, 69], []), 3), (64, (0, [], [-1000000002]), 2), (66, (20, [70], []), 3), (69, (0, [], [0]), 1), (70, (60, [], []), 1)]
theorem t_K_whyNoPut : mMt n_K_whyNoPut = (8, ⟨"KeptColours", "whyNoPut", "()I"⟩, prog_1_method_34_code, 1, (some .int), 0, 697, 696, 23, 65, 0) := rfl
theorem h_K_whyNoPut : mChk (mMt n_K_whyNoPut) k_K_whyNoPut = true := by decide +kernel
abbrev n_Filling_beginPut : Nat := 82
def k_Filling_beginPut : mCode := [(0, (16, [0], []), 1), (1, (30, [0, 0], []), 3), (4, (16, [1], []), 1), (5, (51, [4, 2, 4], []), 3), (8, (16, [0], []), 1), (9, (30, [0, 0], []), 3), (12, (40, [], []), 1), (13, (30, [4, 0], []), 3), (16, (0, [], [1]), 1), (17, (4, [], []), 1), (18, (31, [4, 0, 0], []), 3), (21, (16, [0], []), 1), (22, (51, [51, 1, 0], []), 3), (25, (61, [], []), 1)]
theorem t_Filling_beginPut : mMt n_Filling_beginPut = (0, ⟨"KeptColours$Filling", "beginPut", "(LKeptColours$Net;)V"⟩, prog_2_method_4_code, 2, none, 0, 707, 705, 706, 70, 1) := rfl
theorem h_Filling_beginPut : mChk (mMt n_Filling_beginPut) k_Filling_beginPut = true := by decide +kernel
abbrev n_K_put : Nat := 83
def k_K_put : mCode := [(0, (16, [0], []), 1), (1, (51, [80, 1, 8], []), 3), (4, (2, [2], []), 1), (5, (1, [2], []), 1), (6, (21, [0, 11], []), 3), (9, (1, [2], []), 1), (10, (60, [], []), 1), (11, (1, [1], []), 1), (12, (21, [3, 18], []), 3), (15, (0, [], [-1000000001]), 2), (17, (60, [], []), 1), (18, (16, [0], []), 1), (19, (30, [8, 2], []), 3), (22, (16, [0], []), 1), (23, (30, [8, 0], []), 3), (26, (51, [82, 2, 0], []), 3), (29, (16, [0], []), 1), (30, (30, [8, 2], []), 3), (33, (1, [1], []), 1), (34, (51, [75, 2, 0], []), 3), (37, (21, [1, 43], []), 3), (40, (0, [], [-1000000005]), 2), (42, (60, [], []), 1), (43, (16, [0], []), 1), (44, (51, [2, 1, 8], []), 3), (47, (16, [0], []), 1), (48, (30, [8, 0], []), 3), (51, (16, [0], []), 1), (52, (30, [8, 2], []), 3), (55, (30, [0, 0], []), 3), (58, (51, [4, 2, 4], []), 3), (61, (16, [0], []), 1), (62, (30, [8, 0], []), 3), (65, (30, [4, 0], []), 3), (68, (60, [], []), 1)]
theorem t_K_put : mMt n_K_put = (8, ⟨"KeptColours", "put", "(I)I"⟩, prog_1_method_21_code, 3, (some .int), 0, 711, 709, 710, 65, 1) := rfl
theorem h_K_put : mChk (mMt n_K_put) k_K_put = true := by decide +kernel
abbrev n_K_drop : Nat := 84
def k_K_drop : mCode := [(0, (16, [0], []), 1), (1, (30, [8, 0], []), 3), (4, (30, [4, 0], []), 3), (7, (0, [], [1]), 1), (8, (22, [1, 14], []), 3), (11, (0, [], [-1000000002]), 2), (13, (60, [], []), 1), (14, (16, [0], []), 1), (15, (51, [2, 1, 8], []), 3), (18, (16, [0], []), 1), (19, (30, [8, 0], []), 3), (22, (51, [85, 1, 4], []), 3), (25, (16, [0], []), 1), (26, (30, [8, 0], []), 3), (29, (30, [4, 0], []), 3), (32, (60, [], []), 1)]
theorem t_K_drop : mMt n_K_drop = (8, ⟨"KeptColours", "drop", "()I"⟩, prog_1_method_22_code, 1, (some .int), 0, 715, 713, 714, 65, 0) := rfl
theorem h_K_drop : mChk (mMt n_K_drop) k_K_drop = true := by decide +kernel
abbrev n_K_fill : Nat := 86
def k_K_fill : mCode := [(0, (1, [1], []), 1), (1, (0, [], [1]), 1), (2, (22, [2, 12], []), 3), (5, (1, [1], []), 1), (6, (0, [], [20000]), 3), (9, (22, [5, 15], []), 3), (12, (0, [], [-1000000001]), 2), (14, (60, [], []), 1), (15, (16, [0], []), 1), (16, (30, [8, 2], []), 3), (19, (16, [0], []), 1), (20, (30, [8, 0], []), 3), (23, (51, [87, 2, 0], []), 3), (26, (16, [0], []), 1), (27, (30, [8, 2], []), 3), (30, (1, [1], []), 1), (31, (51, [53, 2, 0], []), 3), (34, (2, [2], []), 1), (35, (1, [2], []), 1), (36, (0, [], [-1]), 1), (37, (22, [1, 43], []), 3), (40, (0, [], [-1000000006]), 2), (42, (60, [], []), 1), (43, (16, [0], []), 1), (44, (16, [0], []), 1), (45, (30, [8, 2], []), 3), (48, (30, [0, 1], []), 3), (51, (31, [8, 7, 0], []), 3), (54, (1, [2], []), 1), (55, (21, [1, 60], []), 3), (58, (0, [], [0]), 1), (59, (60, [], []), 1), (60, (16, [0], []), 1), (61, (51, [2, 1, 8], []), 3), (64, (16, [0], []), 1), (65, (30, [8, 0], []), 3), (68, (16, [0], []), 1), (69, (30, [8, 2], []), 3), (72, (30, [0, 0], []), 3), (75, (51, [4, 2, 4], []), 3), (78, (0, [], [1]), 1), (79, (60, [], []), 1)]
theorem t_K_fill : mMt n_K_fill = (8, ⟨"KeptColours", "fill", "(I)I"⟩, prog_1_method_23_code, 3, (some .int), 0, 724, 722, 723, 65, 1) := rfl
theorem h_K_fill : mChk (mMt n_K_fill) k_K_fill = true := by decide +kernel
abbrev n_Filling_begin : Nat := 87
def k_Filling_begin : mCode := [(0, (16, [0], []), 1), (1, (30, [0, 0], []), 3), (4, (16, [1], []), 1), (5, (51, [4, 2, 4], []), 3), (8, (16, [0], []), 1), (9, (51, [51, 1, 0], []), 3), (12, (61, [], []), 1)]
theorem t_Filling_begin : mMt n_Filling_begin = (0, ⟨"KeptColours$Filling", "begin", "(LKeptColours$Net;)V"⟩, prog_2_method_2_code, 2, none, 0, 728, 726, 727, 70, 1) := rfl
theorem h_Filling_begin : mChk (mMt n_Filling_begin) k_Filling_begin = true := by decide +kernel
abbrev n_K_tries : Nat := 88
def k_K_tries : mCode := [(0, (16, [0], []), 1), (1, (30, [8, 7], []), 3), (4, (60, [], []), 1)]
theorem t_K_tries : mMt n_K_tries = (8, ⟨"KeptColours", "tries", "()I"⟩, prog_1_method_24_code, 1, (some .int), 0, 734, 732, 733, 65, 0) := rfl
theorem h_K_tries : mChk (mMt n_K_tries) k_K_tries = true := by decide +kernel
abbrev n_K_prove : Nat := 89
def k_K_prove : mCode := [(0, (16, [0], []), 1), (1, (30, [8, 2], []), 3), (4, (16, [0], []), 1), (5, (30, [8, 0], []), 3), (8, (51, [87, 2, 0], []), 3), (11, (16, [0], []), 1), (12, (30, [8, 2], []), 3), (15, (51, [90, 1, 0], []), 3), (18, (21, [0, 26], []), 3), (21, (0, [], [-1000000002]), 2), (23, (20, [37], []), 3), (26, (16, [0], []), 1), (27, (30, [8, 4], []), 3), (30, (16, [0], []), 1), (31, (30, [8, 2], []), 3), (34, (51, [91, 2, 6], []), 3), (37, (60, [], []), 1)]
theorem t_K_prove : mMt n_K_prove = (8, ⟨"KeptColours", "prove", "()I"⟩, prog_1_method_25_code, 1, (some .int), 0, 738, 736, 737, 65, 0) := rfl
theorem h_K_prove : mChk (mMt n_K_prove) k_K_prove = true := by decide +kernel
abbrev n_Filling_isOver : Nat := 90
def k_Filling_isOver : mCode := [(0, (16, [0], []), 1), (1, (30, [0, 7], []), 3), (4, (21, [1, 14], []), 3), (7, (16, [0], []), 1), (8, (30, [0, 5], []), 3), (11, (21, [1, 18], []), 3), (14, (0, [], [1]), 1), (15, (20, [19], []), 3), (18, (0, [], [0]), 1), (19, (62, [], []), 1)]
theorem t_Filling_isOver : mMt n_Filling_isOver = (0, ⟨"KeptColours$Filling", "isOver", "()Z"⟩, prog_2_method_6_code, 1, (some .boolean), 0, 742, 740, 741, 70, 0) := rfl
theorem h_Filling_isOver : mChk (mMt n_Filling_isOver) k_Filling_isOver = true := by decide +kernel
abbrev n_Proof_make : Nat := 91
def k_Proof_make : mCode := [(0, (0, [], [0]), 1), (1, (2, [2], []), 1), (2, (1, [2], []), 1), (3, (0, [], [500]), 3), (6, (22, [4, 110], []), 3), (9, (16, [1], []), 1), (10, (51, [54, 1, 0], []), 3), (13, (21, [1, 23], []), 3), (16, (16, [0], []), 1), (17, (1, [2], []), 1), (18, (31, [6, 3, 0], []), 3), (21, (1, [2], []), 1), (22, (60, [], []), 1), (23, (1, [2], []), 1), (24, (0, [], [500]), 3), (27, (22, [1, 33], []), 3), (30, (0, [], [-1000000003]), 2), (32, (60, [], []), 1), (33, (16, [0], []), 1), (34, (30, [6, 4], []), 3), (37, (16, [1], []), 1), (38, (30, [0, 0], []), 3), (41, (16, [1], []), 1), (42, (51, [55, 1, 0], []), 3), (45, (51, [23, 3, 1], []), 3), (48, (2, [3], []), 1), (49, (16, [0], []), 1), (50, (30, [6, 0], []), 3), (53, (1, [2], []), 1), (54, (16, [1], []), 1), (55, (51, [56, 1, 0], []), 3), (58, (34, [], []), 1), (59, (16, [0], []), 1), (60, (30, [6, 1], []), 3), (63, (1, [2], []), 1), (64, (16, [1], []), 1), (65, (51, [55, 1, 0], []), 3), (68, (34, [], []), 1), (69, (16, [0], []), 1), (70, (30, [6, 2], []), 3), (73, (1, [2], []), 1), (74, (1, [3], []), 1), (75, (21, [0, 88], []), 3), (78, (16, [0], []), 1), (79, (30, [6, 4], []), 3), (82, (51, [92, 1, 1], []), 3), (85, (20, [89], []), 3), (88, (0, [], [0]), 1), (89, (34, [], []), 1), (90, (1, [3], []), 1), (91, (21, [1, 104], []), 3), (94, (16, [1], []), 1), (95, (51, [66, 1, 0], []), 3), (98, (21, [1, 104], []), 3), (101, (0, [], [-1000000002]), 2), (103, (60, [], []), 1), (104, (3, [2], [1]), 3), (107, (20, [2], []), 3), (110, (0, [], [-1000000003]), 2), (112, (60, [], []), 1)]
theorem t_Proof_make : mMt n_Proof_make = (6, ⟨"KeptColours$Proof", "make", "(LKeptColours$Filling;)I"⟩, prog_8_method_3_code, 4, (some .int), 0, 746, 744, 745, 72, 1) := rfl
theorem h_Proof_make : mChk (mMt n_Proof_make) k_Proof_make = true := by decide +kernel
abbrev n_K_row : Nat := 93
def k_K_row : mCode := [(0, (16, [0], []), 1), (1, (30, [8, 4], []), 3), (4, (30, [6, 3], []), 3), (7, (21, [1, 13], []), 3), (10, (0, [], [-1000000002]), 2), (12, (60, [], []), 1), (13, (1, [1], []), 1), (14, (21, [2, 37], []), 3), (17, (1, [1], []), 1), (18, (16, [0], []), 1), (19, (30, [8, 4], []), 3), (22, (30, [6, 3], []), 3), (25, (22, [3, 37], []), 3), (28, (1, [2], []), 1), (29, (21, [2, 37], []), 3), (32, (1, [2], []), 1), (33, (0, [], [2]), 1), (34, (22, [5, 40], []), 3), (37, (0, [], [-1000000001]), 2), (39, (60, [], []), 1), (40, (1, [2], []), 1), (41, (21, [1, 56], []), 3), (44, (16, [0], []), 1), (45, (30, [8, 4], []), 3), (48, (30, [6, 0], []), 3), (51, (1, [1], []), 1), (52, (33, [], []), 1), (53, (20, [82], []), 3), (56, (1, [2], []), 1), (57, (0, [], [1]), 1), (58, (22, [1, 73], []), 3), (61, (16, [0], []), 1), (62, (30, [8, 4], []), 3), (65, (30, [6, 1], []), 3), (68, (1, [1], []), 1), (69, (33, [], []), 1), (70, (20, [82], []), 3), (73, (16, [0], []), 1), (74, (30, [8, 4], []), 3), (77, (30, [6, 2], []), 3), (80, (1, [1], []), 1), (81, (33, [], []), 1), (82, (60, [], []), 1)]
theorem t_K_row : mMt n_K_row = (8, ⟨"KeptColours", "row", "(II)I"⟩, prog_1_method_26_code, 3, (some .int), 0, 761, 759, 760, 65, 2) := rfl
theorem h_K_row : mChk (mMt n_K_row) k_K_row = true := by decide +kernel
abbrev n_K_forge : Nat := 94
def k_K_forge : mCode := [(0, (16, [0], []), 1), (1, (30, [8, 4], []), 3), (4, (30, [6, 3], []), 3), (7, (21, [1, 13], []), 3), (10, (0, [], [-1000000002]), 2), (12, (60, [], []), 1), (13, (1, [1], []), 1), (14, (21, [2, 39], []), 3), (17, (1, [1], []), 1), (18, (16, [0], []), 1), (19, (30, [8, 4], []), 3), (22, (30, [6, 3], []), 3), (25, (22, [3, 39], []), 3), (28, (1, [2], []), 1), (29, (21, [2, 39], []), 3), (32, (1, [2], []), 1), (33, (0, [], [4095]), 3), (36, (22, [5, 42], []), 3), (39, (0, [], [-1000000001]), 2), (41, (60, [], []), 1), (42, (16, [0], []), 1), (43, (30, [8, 4], []), 3), (46, (30, [6, 2], []), 3), (49, (1, [1], []), 1), (50, (33, [], []), 1), (51, (2, [3], []), 1), (52, (16, [0], []), 1), (53, (30, [8, 4], []), 3), (56, (30, [6, 2], []), 3), (59, (1, [1], []), 1), (60, (1, [2], []), 1), (61, (34, [], []), 1), (62, (1, [3], []), 1), (63, (60, [], []), 1)]
theorem t_K_forge : mMt n_K_forge = (8, ⟨"KeptColours", "forge", "(II)I"⟩, prog_1_method_27_code, 4, (some .int), 0, 765, 763, 764, 65, 2) := rfl
theorem h_K_forge : mChk (mMt n_K_forge) k_K_forge = true := by decide +kernel
abbrev n_K_check : Nat := 95
def k_K_check : mCode := [(0, (16, [0], []), 1), (1, (30, [8, 4], []), 3), (4, (30, [6, 3], []), 3), (7, (21, [1, 13], []), 3), (10, (0, [], [-1000000002]), 2), (12, (60, [], []), 1), (13, (16, [0], []), 1), (14, (30, [8, 2], []), 3), (17, (16, [0], []), 1), (18, (30, [8, 0], []), 3), (21, (51, [87, 2, 0], []), 3), (24, (16, [0], []), 1), (25, (30, [8, 4], []), 3), (28, (16, [0], []), 1), (29, (30, [8, 2], []), 3), (32, (51, [96, 2, 6], []), 3), (35, (60, [], []), 1)]
theorem t_K_check : mMt n_K_check = (8, ⟨"KeptColours", "check", "()I"⟩, prog_1_method_28_code, 1, (some .int), 0, 769, 767, 768, 65, 0) := rfl
theorem h_K_check : mChk (mMt n_K_check) k_K_check = true := by decide +kernel
abbrev n_Proof_firstFault : Nat := 96
def k_Proof_firstFault : mCode := [(0, (0, [], [0]), 1), (1, (2, [2], []), 1), (2, (1, [2], []), 1), (3, (16, [0], []), 1), (4, (30, [6, 3], []), 3), (7, (22, [3, 36], []), 3), (10, (16, [1], []), 1), (11, (51, [54, 1, 0], []), 3), (14, (21, [0, 26], []), 3), (17, (16, [0], []), 1), (18, (1, [2], []), 1), (19, (16, [1], []), 1), (20, (51, [97, 3, 6], []), 3), (23, (21, [1, 30], []), 3), (26, (0, [], [1]), 1), (27, (1, [2], []), 1), (28, (4, [], []), 1), (29, (60, [], []), 1), (30, (3, [2], [1]), 3), (33, (20, [2], []), 3), (36, (16, [1], []), 1), (37, (51, [54, 1, 0], []), 3), (40, (21, [0, 52], []), 3), (43, (0, [], [1]), 1), (44, (16, [0], []), 1), (45, (30, [6, 3], []), 3), (48, (4, [], []), 1), (49, (20, [53], []), 3), (52, (0, [], [0]), 1), (53, (60, [], []), 1)]
theorem t_Proof_firstFault : mMt n_Proof_firstFault = (6, ⟨"KeptColours$Proof", "firstFault", "(LKeptColours$Filling;)I"⟩, prog_8_method_4_code, 3, (some .int), 0, 773, 771, 772, 72, 1) := rfl
theorem h_Proof_firstFault : mChk (mMt n_Proof_firstFault) k_Proof_firstFault = true := by decide +kernel
abbrev n_Proof_isAsTold : Nat := 97
def k_Proof_isAsTold : mCode := [(0, (16, [0], []), 1), (1, (30, [6, 0], []), 3), (4, (1, [1], []), 1), (5, (33, [], []), 1), (6, (16, [2], []), 1), (7, (51, [56, 1, 0], []), 3), (10, (22, [1, 26], []), 3), (13, (16, [0], []), 1), (14, (30, [6, 1], []), 3), (17, (1, [1], []), 1), (18, (33, [], []), 1), (19, (16, [2], []), 1), (20, (51, [55, 1, 0], []), 3), (23, (22, [0, 28], []), 3), (26, (0, [], [0]), 1), (27, (62, [], []), 1), (28, (16, [0], []), 1), (29, (30, [6, 2], []), 3), (32, (1, [1], []), 1), (33, (33, [], []), 1), (34, (21, [1, 42], []), 3), (37, (16, [2], []), 1), (38, (51, [66, 1, 0], []), 3), (41, (62, [], []), 1), (42, (16, [0], []), 1), (43, (30, [6, 5], []), 3), (46, (16, [2], []), 1), (47, (30, [0, 0], []), 3), (50, (16, [0], []), 1), (51, (30, [6, 0], []), 3), (54, (1, [1], []), 1), (55, (33, [], []), 1), (56, (16, [0], []), 1), (57, (30, [6, 2], []), 3), (60, (1, [1], []), 1), (61, (33, [], []), 1), (62, (51, [98, 4, 5], []), 3), (65, (62, [], []), 1)]
theorem t_Proof_isAsTold : mMt n_Proof_isAsTold = (6, ⟨"KeptColours$Proof", "isAsTold", "(ILKeptColours$Filling;)Z"⟩, prog_8_method_5_code, 3, (some .boolean), 0, 777, 776, 24, 72, 2) := rfl
theorem h_Proof_isAsTold : mChk (mMt n_Proof_isAsTold) k_Proof_isAsTold = true := by decide +kernel
abbrev n_K_step : Nat := 99
def k_K_step : mCode := [(0, (1, [1], []), 1), (1, (0, [], [1]), 1), (2, (22, [2, 11], []), 3), (5, (1, [1], []), 1), (6, (0, [], [30]), 2), (8, (22, [5, 14], []), 3), (11, (0, [], [-1000000001]), 2), (13, (60, [], []), 1), (14, (16, [0], []), 1), (15, (30, [8, 0], []), 3), (18, (51, [81, 1, 4], []), 3), (21, (21, [0, 27], []), 3), (24, (0, [], [-1000000002]), 2), (26, (60, [], []), 1), (27, (16, [0], []), 1), (28, (51, [2, 1, 8], []), 3), (31, (16, [0], []), 1), (32, (30, [8, 5], []), 3), (35, (16, [0], []), 1), (36, (30, [8, 0], []), 3), (39, (1, [1], []), 1), (40, (51, [100, 3, 7], []), 3), (43, (60, [], []), 1)]
theorem t_K_step : mMt n_K_step = (8, ⟨"KeptColours", "step", "(I)I"⟩, prog_1_method_29_code, 2, (some .int), 0, 786, 784, 785, 65, 1) := rfl
theorem h_K_step : mChk (mMt n_K_step) k_K_step = true := by decide +kernel
abbrev n_Walker_walk : Nat := 100
def k_Walker_walk : mCode := [(0, (0, [], [0]), 1), (1, (2, [3], []), 1), (2, (1, [3], []), 1), (3, (1, [2], []), 1), (4, (22, [3, 39], []), 3), (7, (16, [0], []), 1), (8, (16, [1], []), 1), (9, (51, [101, 2, 7], []), 3), (12, (16, [0], []), 1), (13, (30, [7, 3], []), 3), (16, (21, [1, 21], []), 3), (19, (1, [3], []), 1), (20, (60, [], []), 1), (21, (16, [1], []), 1), (22, (16, [0], []), 1), (23, (30, [7, 1], []), 3), (26, (16, [0], []), 1), (27, (30, [7, 2], []), 3), (30, (51, [16, 3, 4], []), 3), (33, (3, [3], [1]), 3), (36, (20, [2], []), 3), (39, (1, [2], []), 1), (40, (60, [], []), 1)]
theorem t_Walker_walk : mMt n_Walker_walk = (7, ⟨"KeptColours$Walker", "walk", "(LKeptColours$Net;I)I"⟩, prog_9_method_2_code, 4, (some .int), 0, 790, 788, 789, 73, 2) := rfl
theorem h_Walker_walk : mChk (mMt n_Walker_walk) k_Walker_walk = true := by decide +kernel
abbrev n_Walker_seekBest : Nat := 101
def k_Walker_seekBest : mCode := [(0, (16, [0], []), 1), (1, (0, [], [0]), 1), (2, (31, [7, 3, 0], []), 3), (5, (0, [], [0]), 1), (6, (2, [2], []), 1), (7, (1, [2], []), 1), (8, (16, [1], []), 1), (9, (51, [8, 1, 4], []), 3), (12, (22, [3, 110], []), 3), (15, (16, [1], []), 1), (16, (30, [4, 4], []), 3), (19, (1, [2], []), 1), (20, (33, [], []), 1), (21, (2, [3], []), 1), (22, (16, [0], []), 1), (23, (30, [7, 0], []), 3), (26, (16, [1], []), 1), (27, (1, [2], []), 1), (28, (51, [57, 3, 5], []), 3), (31, (2, [4], []), 2), (33, (0, [], [0]), 1), (34, (2, [5], []), 2), (36, (1, [5], []), 2), (38, (16, [1], []), 1), (39, (30, [4, 1], []), 3), (42, (22, [3, 98], []), 3), (45, (16, [1], []), 1), (46, (1, [2], []), 1), (47, (1, [5], []), 2), (49, (51, [16, 3, 4], []), 3), (52, (1, [4], []), 2), (54, (16, [0], []), 1), (55, (30, [7, 0], []), 3), (58, (16, [1], []), 1), (59, (1, [2], []), 1), (60, (51, [57, 3, 5], []), 3), (63, (5, [], []), 1), (64, (2, [6], []), 2), (66, (1, [6], []), 2), (68, (16, [0], []), 1), (69, (30, [7, 3], []), 3), (72, (22, [5, 92], []), 3), (75, (16, [0], []), 1), (76, (1, [2], []), 1), (77, (31, [7, 1, 0], []), 3), (80, (16, [0], []), 1), (81, (1, [5], []), 2), (83, (31, [7, 2, 0], []), 3), (86, (16, [0], []), 1), (87, (1, [6], []), 2), (89, (31, [7, 3, 0], []), 3), (92, (3, [5], [1]), 3), (95, (20, [36], []), 3), (98, (16, [1], []), 1), (99, (1, [2], []), 1), (100, (1, [3], []), 1), (101, (51, [16, 3, 4], []), 3), (104, (3, [2], [1]), 3), (107, (20, [7], []), 3), (110, (61, [], []), 1)]
theorem t_Walker_seekBest : mMt n_Walker_seekBest = (7, ⟨"KeptColours$Walker", "seekBest", "(LKeptColours$Net;)V"⟩, prog_9_method_3_code, 7, none, 0, 794, 793, 25, 73, 1) := rfl
theorem h_Walker_seekBest : mChk (mMt n_Walker_seekBest) k_Walker_seekBest = true := by decide +kernel
abbrev n_K_undo : Nat := 102
def k_K_undo : mCode := [(0, (16, [0], []), 1), (1, (30, [8, 6], []), 3), (4, (30, [3, 0], []), 3), (7, (21, [1, 13], []), 3), (10, (0, [], [-1000000002]), 2), (12, (60, [], []), 1), (13, (16, [0], []), 1), (14, (30, [8, 6], []), 3), (17, (16, [0], []), 1), (18, (30, [8, 0], []), 3), (21, (51, [103, 2, 3], []), 3), (24, (16, [0], []), 1), (25, (30, [8, 4], []), 3), (28, (51, [6, 1, 6], []), 3), (31, (16, [0], []), 1), (32, (30, [8, 6], []), 3), (35, (30, [3, 0], []), 3), (38, (60, [], []), 1)]
theorem t_K_undo : mMt n_K_undo = (8, ⟨"KeptColours", "undo", "()I"⟩, prog_1_method_30_code, 1, (some .int), 0, 801, 799, 800, 65, 0) := rfl
theorem h_K_undo : mChk (mMt n_K_undo) k_K_undo = true := by decide +kernel
abbrev n_History_giveBack : Nat := 103
def k_History_giveBack : mCode := [(0, (16, [0], []), 1), (1, (30, [3, 0], []), 3), (4, (21, [5, 46], []), 3), (7, (16, [0], []), 1), (8, (16, [0], []), 1), (9, (30, [3, 2], []), 3), (12, (0, [], [6]), 2), (14, (4, [], []), 1), (15, (0, [], [1]), 1), (16, (5, [], []), 1), (17, (0, [], [6]), 2), (19, (8, [], []), 1), (20, (31, [3, 2, 0], []), 3), (23, (16, [1], []), 1), (24, (16, [0], []), 1), (25, (30, [3, 1], []), 3), (28, (16, [0], []), 1), (29, (30, [3, 2], []), 3), (32, (37, [], []), 1), (33, (51, [4, 2, 4], []), 3), (36, (16, [0], []), 1), (37, (40, [], []), 1), (38, (30, [3, 0], []), 3), (41, (0, [], [1]), 1), (42, (5, [], []), 1), (43, (31, [3, 0, 0], []), 3), (46, (61, [], []), 1)]
theorem t_History_giveBack : mMt n_History_giveBack = (3, ⟨"KeptColours$History", "giveBack", "(LKeptColours$Net;)V"⟩, prog_5_method_3_code, 2, none, 0, 805, 803, 804, 74, 1) := rfl
theorem h_History_giveBack : mChk (mMt n_History_giveBack) k_History_giveBack = true := by decide +kernel
abbrev n_K_count : Nat := 104
def k_K_count : mCode := [(0, (1, [1], []), 1), (1, (23, [92, 40, 48, 56, 64, 76, 84], [0]), 39), (40, (16, [0], []), 1), (41, (30, [8, 0], []), 3), (44, (30, [4, 0], []), 3), (47, (60, [], []), 1), (48, (16, [0], []), 1), (49, (30, [8, 0], []), 3), (52, (30, [4, 1], []), 3), (55, (60, [], []), 1), (56, (16, [0], []), 1), (57, (30, [8, 0], []), 3), (60, (51, [81, 1, 4], []), 3), (63, (60, [], []), 1), (64, (16, [0], []), 1), (65, (30, [8, 1], []), 3), (68, (16, [0], []), 1), (69, (30, [8, 0], []), 3), (72, (51, [46, 2, 1], []), 3), (75, (60, [], []), 1), (76, (16, [0], []), 1), (77, (30, [8, 6], []), 3), (80, (30, [3, 0], []), 3), (83, (60, [], []), 1), (84, (16, [0], []), 1), (85, (30, [8, 4], []), 3), (88, (30, [6, 3], []), 3), (91, (60, [], []), 1), (92, (0, [], [-1000000001]), 2), (94, (60, [], []), 1)]
theorem t_K_count : mMt n_K_count = (8, ⟨"KeptColours", "count", "(I)I"⟩, prog_1_method_31_code, 2, (some .int), 0, 809, 807, 808, 65, 1) := rfl
theorem h_K_count : mChk (mMt n_K_count) k_K_count = true := by decide +kernel
end
section
abbrev n_M_bareAll : Nat := 105
def k_M_bareAll : mCode := [(0, (0, [], [0]), 1), (1, (2, [1], []), 1), (2, (1, [1], []), 1), (3, (0, [], [66]), 2), (5, (22, [3, 21], []), 3), (8, (16, [0], []), 1), (9, (30, [9, 4], []), 3), (12, (1, [1], []), 1), (13, (0, [], [-1]), 1), (14, (34, [], []), 1), (15, (3, [1], [1]), 3), (18, (20, [2], []), 3), (21, (61, [], []), 1)]
theorem t_M_bareAll : mMt n_M_bareAll = (9, ⟨"KeptColoursModel", "bareAll", "()V"⟩, prog_11_method_2_code, 2, none, 0, 820, 819, 26, 75, 0) := rfl
theorem h_M_bareAll : mChk (mMt n_M_bareAll) k_M_bareAll = true := by decide +kernel
abbrev n_M_undo : Nat := 106
def k_M_undo : mCode := [(0, (16, [0], []), 1), (1, (30, [9, 6], []), 3), (4, (21, [1, 10], []), 3), (7, (0, [], [-1000000002]), 2), (9, (60, [], []), 1), (10, (16, [0], []), 1), (11, (40, [], []), 1), (12, (30, [9, 6], []), 3), (15, (0, [], [1]), 1), (16, (5, [], []), 1), (17, (31, [9, 6, 0], []), 3), (20, (0, [], [74]), 2), (22, (16, [0], []), 1), (23, (30, [9, 6], []), 3), (26, (6, [], []), 1), (27, (2, [1], []), 1), (28, (16, [0], []), 1), (29, (16, [0], []), 1), (30, (30, [9, 5], []), 3), (33, (1, [1], []), 1), (34, (33, [], []), 1), (35, (31, [9, 0, 0], []), 3), (38, (16, [0], []), 1), (39, (16, [0], []), 1), (40, (30, [9, 5], []), 3), (43, (1, [1], []), 1), (44, (0, [], [1]), 1), (45, (4, [], []), 1), (46, (33, [], []), 1), (47, (31, [9, 1, 0], []), 3), (50, (0, [], [0]), 1), (51, (2, [2], []), 1), (52, (1, [2], []), 1), (53, (0, [], [3]), 1), (54, (22, [3, 95], []), 3), (57, (16, [0], []), 1), (58, (30, [9, 2], []), 3), (61, (1, [2], []), 1), (62, (16, [0], []), 1), (63, (30, [9, 5], []), 3), (66, (1, [1], []), 1), (67, (0, [], [2]), 1), (68, (4, [], []), 1), (69, (1, [2], []), 1), (70, (4, [], []), 1), (71, (33, [], []), 1), (72, (34, [], []), 1), (73, (16, [0], []), 1), (74, (30, [9, 3], []), 3), (77, (1, [2], []), 1), (78, (16, [0], []), 1), (79, (30, [9, 5], []), 3), (82, (1, [1], []), 1), (83, (0, [], [5]), 1), (84, (4, [], []), 1), (85, (1, [2], []), 1), (86, (4, [], []), 1), (87, (33, [], []), 1), (88, (34, [], []), 1), (89, (3, [2], [1]), 3), (92, (20, [52], []), 3), (95, (0, [], [0]), 1), (96, (2, [2], []), 1), (97, (1, [2], []), 1), (98, (0, [], [66]), 2), (100, (22, [3, 126], []), 3), (103, (16, [0], []), 1), (104, (30, [9, 4], []), 3), (107, (1, [2], []), 1), (108, (16, [0], []), 1), (109, (30, [9, 5], []), 3), (112, (1, [1], []), 1), (113, (0, [], [8]), 2), (115, (4, [], []), 1), (116, (1, [2], []), 1), (117, (4, [], []), 1), (118, (33, [], []), 1), (119, (34, [], []), 1), (120, (3, [2], [1]), 3), (123, (20, [97], []), 3), (126, (16, [0], []), 1), (127, (0, [], [0]), 1), (128, (31, [9, 43, 0], []), 3), (131, (16, [0], []), 1), (132, (30, [9, 6], []), 3), (135, (60, [], []), 1)]
theorem t_M_undo : mMt n_M_undo = (9, ⟨"KeptColoursModel", "undo", "()I"⟩, prog_11_method_9_code, 3, (some .int), 0, 970, 968, 969, 75, 0) := rfl
theorem h_M_undo : mChk (mMt n_M_undo) k_M_undo = true := by decide +kernel
abbrev n_M_net : Nat := 107
def k_M_net : mCode := [(0, (1, [1], []), 1), (1, (0, [], [1]), 1), (2, (0, [], [12]), 2), (4, (50, [108, 3], []), 3), (7, (21, [0, 19], []), 3), (10, (1, [2], []), 1), (11, (0, [], [2]), 1), (12, (0, [], [3]), 1), (13, (50, [108, 3], []), 3), (16, (21, [1, 22], []), 3), (19, (0, [], [-1000000001]), 2), (21, (60, [], []), 1), (22, (16, [0], []), 1), (23, (51, [109, 1, 9], []), 3), (26, (16, [0], []), 1), (27, (1, [1], []), 1), (28, (31, [9, 0, 0], []), 3), (31, (16, [0], []), 1), (32, (1, [2], []), 1), (33, (31, [9, 1, 0], []), 3), (36, (1, [2], []), 1), (37, (0, [], [3]), 1), (38, (22, [3, 55], []), 3), (41, (16, [0], []), 1), (42, (30, [9, 2], []), 3), (45, (0, [], [2]), 1), (46, (0, [], [0]), 1), (47, (34, [], []), 1), (48, (16, [0], []), 1), (49, (30, [9, 3], []), 3), (52, (0, [], [2]), 1), (53, (0, [], [0]), 1), (54, (34, [], []), 1), (55, (16, [0], []), 1), (56, (51, [105, 1, 9], []), 3), (59, (16, [0], []), 1), (60, (30, [9, 0], []), 3), (63, (50, [110, 1], []), 3), (66, (60, [], []), 1)]
theorem t_M_net : mMt n_M_net = (9, ⟨"KeptColoursModel", "net", "(II)I"⟩, prog_11_method_10_code, 3, (some .int), 0, 975, 973, 974, 75, 2) := rfl
theorem h_M_net : mChk (mMt n_M_net) k_M_net = true := by decide +kernel
abbrev n_M_isIn : Nat := 108
def k_M_isIn : mCode := [(0, (1, [0], []), 1), (1, (1, [1], []), 1), (2, (22, [2, 14], []), 3), (5, (1, [0], []), 1), (6, (1, [2], []), 1), (7, (22, [4, 14], []), 3), (10, (0, [], [1]), 1), (11, (20, [15], []), 3), (14, (0, [], [0]), 1), (15, (62, [], []), 1)]
theorem t_M_isIn : mMt n_M_isIn = (9, ⟨"KeptColoursModel", "isIn", "(III)Z"⟩, prog_11_method_3_code, 3, (some .boolean), 1, 978, 977, 0, 75, 3) := rfl
theorem h_M_isIn : mChk (mMt n_M_isIn) k_M_isIn = true := by decide +kernel
abbrev n_M_keep : Nat := 109
def k_M_keep : mCode := [(0, (16, [0], []), 1), (1, (30, [9, 6], []), 3), (4, (0, [], [6]), 2), (6, (22, [1, 49], []), 3), (9, (0, [], [0]), 1), (10, (2, [1], []), 1), (11, (1, [1], []), 1), (12, (0, [], [370]), 3), (15, (22, [3, 39], []), 3), (18, (16, [0], []), 1), (19, (30, [9, 5], []), 3), (22, (1, [1], []), 1), (23, (16, [0], []), 1), (24, (30, [9, 5], []), 3), (27, (1, [1], []), 1), (28, (0, [], [74]), 2), (30, (4, [], []), 1), (31, (33, [], []), 1), (32, (34, [], []), 1), (33, (3, [1], [1]), 3), (36, (20, [11], []), 3), (39, (16, [0], []), 1), (40, (40, [], []), 1), (41, (30, [9, 6], []), 3), (44, (0, [], [1]), 1), (45, (5, [], []), 1), (46, (31, [9, 6, 0], []), 3), (49, (0, [], [74]), 2), (51, (16, [0], []), 1), (52, (30, [9, 6], []), 3), (55, (6, [], []), 1), (56, (2, [1], []), 1), (57, (16, [0], []), 1), (58, (30, [9, 5], []), 3), (61, (1, [1], []), 1), (62, (16, [0], []), 1), (63, (30, [9, 0], []), 3), (66, (34, [], []), 1), (67, (16, [0], []), 1), (68, (30, [9, 5], []), 3), (71, (1, [1], []), 1), (72, (0, [], [1]), 1), (73, (4, [], []), 1), (74, (16, [0], []), 1), (75, (30, [9, 1], []), 3), (78, (34, [], []), 1), (79, (0, [], [0]), 1), (80, (2, [2], []), 1), (81, (1, [2], []), 1), (82, (0, [], [3]), 1), (83, (22, [3, 124], []), 3), (86, (16, [0], []), 1), (87, (30, [9, 5], []), 3), (90, (1, [1], []), 1), (91, (0, [], [2]), 1), (92, (4, [], []), 1), (93, (1, [2], []), 1), (94, (4, [], []), 1), (95, (16, [0], []), 1), (96, (30, [9, 2], []), 3), (99, (1, [2], []), 1), (100, (33, [], []), 1), (101, (34, [], []), 1), (102, (16, [0], []), 1), (103, (30, [9, 5], []), 3), (106, (1, [1], []), 1), (107, (0, [], [5]), 1), (108, (4, [], []), 1), (109, (1, [2], []), 1), (110, (4, [], []), 1), (111, (16, [0], []), 1), (112, (30, [9, 3], []), 3), (115, (1, [2], []), 1), (116, (33, [], []), 1), (117, (34, [], []), 1), (118, (3, [2], [1]), 3), (121, (20, [81], []), 3), (124, (0, [], [0]), 1), (125, (2, [2], []), 1), (126, (1, [2], []), 1), (127, (0, [], [66]), 2), (129, (22, [3, 155], []), 3), (132, (16, [0], []), 1), (133, (30, [9, 5], []), 3), (136, (1, [1], []), 1), (137, (0, [], [8]), 2), (139, (4, [], []), 1), (140, (1, [2], []), 1), (141, (4, [], []), 1), (142, (16, [0], []), 1), (143, (30, [9, 4], []), 3), (146, (1, [2], []), 1), (147, (33, [], []), 1), (148, (34, [], []), 1), (149, (3, [2], [1]), 3), (152, (20, [126], []), 3), (155, (16, [0], []), 1), (156, (40, [], []), 1), (157, (30, [9, 6], []), 3), (160, (0, [], [1]), 1), (161, (4, [], []), 1), (162, (31, [9, 6, 0], []), 3), (165, (16, [0], []), 1), (166, (0, [], [0]), 1), (167, (31, [9, 43, 0], []), 3), (170, (61, [], []), 1)]
theorem t_M_keep : mMt n_M_keep = (9, ⟨"KeptColoursModel", "keep", "()V"⟩, prog_11_method_8_code, 3, none, 0, 983, 982, 27, 75, 0) := rfl
theorem h_M_keep : mChk (mMt n_M_keep) k_M_keep = true := by decide +kernel
abbrev n_M_joinsOf : Nat := 110
def k_M_joinsOf : mCode := [(0, (1, [0], []), 1), (1, (1, [0], []), 1), (2, (0, [], [1]), 1), (3, (5, [], []), 1), (4, (6, [], []), 1), (5, (0, [], [2]), 1), (6, (7, [], []), 1), (7, (60, [], []), 1)]
theorem t_M_joinsOf : mMt n_M_joinsOf = (9, ⟨"KeptColoursModel", "joinsOf", "(I)I"⟩, prog_11_method_5_code, 1, (some .int), 1, 986, 985, 0, 75, 1) := rfl
theorem h_M_joinsOf : mChk (mMt n_M_joinsOf) k_M_joinsOf = true := by decide +kernel
abbrev n_M_target : Nat := 111
def k_M_target : mCode := [(0, (16, [0], []), 1), (1, (1, [1], []), 1), (2, (51, [112, 2, 9], []), 3), (5, (21, [0, 25], []), 3), (8, (1, [2], []), 1), (9, (0, [], [0]), 1), (10, (0, [], [5]), 1), (11, (50, [108, 3], []), 3), (14, (21, [0, 25], []), 3), (17, (1, [2], []), 1), (18, (1, [3], []), 1), (19, (50, [113, 2], []), 3), (22, (21, [1, 28], []), 3), (25, (0, [], [-1000000001]), 2), (27, (60, [], []), 1), (28, (16, [0], []), 1), (29, (51, [109, 1, 9], []), 3), (32, (16, [0], []), 1), (33, (30, [9, 2], []), 3), (36, (1, [1], []), 1), (37, (1, [2], []), 1), (38, (34, [], []), 1), (39, (16, [0], []), 1), (40, (30, [9, 3], []), 3), (43, (1, [1], []), 1), (44, (1, [3], []), 1), (45, (34, [], []), 1), (46, (0, [], [0]), 1), (47, (60, [], []), 1)]
theorem t_M_target : mMt n_M_target = (9, ⟨"KeptColoursModel", "target", "(III)I"⟩, prog_11_method_12_code, 4, (some .int), 0, 990, 988, 989, 75, 3) := rfl
theorem h_M_target : mChk (mMt n_M_target) k_M_target = true := by decide +kernel
abbrev n_M_isColour : Nat := 112
def k_M_isColour : mCode := [(0, (1, [1], []), 1), (1, (0, [], [0]), 1), (2, (16, [0], []), 1), (3, (30, [9, 1], []), 3), (6, (0, [], [1]), 1), (7, (5, [], []), 1), (8, (50, [108, 3], []), 3), (11, (62, [], []), 1)]
theorem t_M_isColour : mMt n_M_isColour = (9, ⟨"KeptColoursModel", "isColour", "(I)Z"⟩, prog_11_method_7_code, 2, (some .boolean), 0, 994, 993, 28, 75, 1) := rfl
theorem h_M_isColour : mChk (mMt n_M_isColour) k_M_isColour = true := by decide +kernel
abbrev n_M_isSize : Nat := 113
def k_M_isSize : mCode := [(0, (1, [0], []), 1), (1, (23, [76, 36, 46, 54, 61, 69], [0]), 35), (36, (1, [1], []), 1), (37, (21, [1, 44], []), 3), (40, (0, [], [1]), 1), (41, (20, [45], []), 3), (44, (0, [], [0]), 1), (45, (62, [], []), 1), (46, (1, [1], []), 1), (47, (0, [], [2]), 1), (48, (0, [], [6]), 2), (50, (50, [108, 3], []), 3), (53, (62, [], []), 1), (54, (1, [1], []), 1), (55, (0, [], [3]), 1), (56, (0, [], [5]), 1), (57, (50, [108, 3], []), 3), (60, (62, [], []), 1), (61, (1, [1], []), 1), (62, (0, [], [1]), 1), (63, (0, [], [6]), 2), (65, (50, [108, 3], []), 3), (68, (62, [], []), 1), (69, (1, [1], []), 1), (70, (0, [], [1]), 1), (71, (0, [], [4]), 1), (72, (50, [108, 3], []), 3), (75, (62, [], []), 1), (76, (1, [1], []), 1), (77, (0, [], [2]), 1), (78, (0, [], [5]), 1), (79, (50, [108, 3], []), 3), (82, (62, [], []), 1)]
theorem t_M_isSize : mMt n_M_isSize = (9, ⟨"KeptColoursModel", "isSize", "(II)Z"⟩, prog_11_method_11_code, 2, (some .boolean), 1, 997, 996, 0, 75, 2) := rfl
theorem h_M_isSize : mChk (mMt n_M_isSize) k_M_isSize = true := by decide +kernel
abbrev n_M_paint : Nat := 114
def k_M_paint : mCode := [(0, (16, [0], []), 1), (1, (1, [1], []), 1), (2, (1, [2], []), 1), (3, (51, [115, 3, 9], []), 3), (6, (21, [0, 23], []), 3), (9, (1, [3], []), 1), (10, (0, [], [-1]), 1), (11, (16, [0], []), 1), (12, (30, [9, 1], []), 3), (15, (0, [], [1]), 1), (16, (5, [], []), 1), (17, (50, [108, 3], []), 3), (20, (21, [1, 26], []), 3), (23, (0, [], [-1000000001]), 2), (25, (60, [], []), 1), (26, (16, [0], []), 1), (27, (51, [109, 1, 9], []), 3), (30, (16, [0], []), 1), (31, (30, [9, 4], []), 3), (34, (1, [1], []), 1), (35, (1, [2], []), 1), (36, (50, [117, 2], []), 3), (39, (33, [], []), 1), (40, (2, [4], []), 2), (42, (16, [0], []), 1), (43, (30, [9, 4], []), 3), (46, (1, [1], []), 1), (47, (1, [2], []), 1), (48, (50, [117, 2], []), 3), (51, (1, [3], []), 1), (52, (34, [], []), 1), (53, (1, [4], []), 2), (55, (60, [], []), 1)]
theorem t_M_paint : mMt n_M_paint = (9, ⟨"KeptColoursModel", "paint", "(III)I"⟩, prog_11_method_14_code, 5, (some .int), 0, 1001, 999, 1000, 75, 3) := rfl
theorem h_M_paint : mChk (mMt n_M_paint) k_M_paint = true := by decide +kernel
abbrev n_M_areTwo : Nat := 115
def k_M_areTwo : mCode := [(0, (16, [0], []), 1), (1, (1, [1], []), 1), (2, (51, [116, 2, 9], []), 3), (5, (21, [0, 25], []), 3), (8, (16, [0], []), 1), (9, (1, [2], []), 1), (10, (51, [116, 2, 9], []), 3), (13, (21, [0, 25], []), 3), (16, (1, [1], []), 1), (17, (1, [2], []), 1), (18, (22, [0, 25], []), 3), (21, (0, [], [1]), 1), (22, (20, [26], []), 3), (25, (0, [], [0]), 1), (26, (62, [], []), 1)]
theorem t_M_areTwo : mMt n_M_areTwo = (9, ⟨"KeptColoursModel", "areTwo", "(II)Z"⟩, prog_11_method_13_code, 3, (some .boolean), 0, 1005, 1004, 29, 75, 2) := rfl
theorem h_M_areTwo : mChk (mMt n_M_areTwo) k_M_areTwo = true := by decide +kernel
abbrev n_M_isPoint : Nat := 116
def k_M_isPoint : mCode := [(0, (1, [1], []), 1), (1, (0, [], [0]), 1), (2, (16, [0], []), 1), (3, (30, [9, 0], []), 3), (6, (0, [], [1]), 1), (7, (5, [], []), 1), (8, (50, [108, 3], []), 3), (11, (62, [], []), 1)]
theorem t_M_isPoint : mMt n_M_isPoint = (9, ⟨"KeptColoursModel", "isPoint", "(I)Z"⟩, prog_11_method_6_code, 2, (some .boolean), 0, 1009, 1008, 30, 75, 1) := rfl
theorem h_M_isPoint : mChk (mMt n_M_isPoint) k_M_isPoint = true := by decide +kernel
abbrev n_M_join : Nat := 117
def k_M_join : mCode := [(0, (1, [0], []), 1), (1, (1, [1], []), 1), (2, (22, [3, 17], []), 3), (5, (1, [1], []), 1), (6, (1, [1], []), 1), (7, (0, [], [1]), 1), (8, (5, [], []), 1), (9, (6, [], []), 1), (10, (0, [], [2]), 1), (11, (7, [], []), 1), (12, (1, [0], []), 1), (13, (4, [], []), 1), (14, (20, [26], []), 3), (17, (1, [0], []), 1), (18, (1, [0], []), 1), (19, (0, [], [1]), 1), (20, (5, [], []), 1), (21, (6, [], []), 1), (22, (0, [], [2]), 1), (23, (7, [], []), 1), (24, (1, [1], []), 1), (25, (4, [], []), 1), (26, (60, [], []), 1)]
theorem t_M_join : mMt n_M_join = (9, ⟨"KeptColoursModel", "join", "(II)I"⟩, prog_11_method_4_code, 2, (some .int), 1, 1012, 1011, 0, 75, 2) := rfl
theorem h_M_join : mChk (mMt n_M_join) k_M_join = true := by decide +kernel
abbrev n_M_colour : Nat := 118
def k_M_colour : mCode := [(0, (16, [0], []), 1), (1, (1, [1], []), 1), (2, (1, [2], []), 1), (3, (51, [115, 3, 9], []), 3), (6, (21, [0, 22], []), 3), (9, (16, [0], []), 1), (10, (30, [9, 4], []), 3), (13, (1, [1], []), 1), (14, (1, [2], []), 1), (15, (50, [117, 2], []), 3), (18, (33, [], []), 1), (19, (20, [24], []), 3), (22, (0, [], [-1000000001]), 2), (24, (60, [], []), 1)]
theorem t_M_colour : mMt n_M_colour = (9, ⟨"KeptColoursModel", "colour", "(II)I"⟩, prog_11_method_15_code, 3, (some .int), 0, 1016, 1014, 1015, 75, 2) := rfl
theorem h_M_colour : mChk (mMt n_M_colour) k_M_colour = true := by decide +kernel
abbrev n_M_aim : Nat := 119
def k_M_aim : mCode := [(0, (16, [0], []), 1), (1, (1, [1], []), 1), (2, (51, [112, 2, 9], []), 3), (5, (21, [0, 17], []), 3), (8, (1, [2], []), 1), (9, (0, [], [0]), 1), (10, (0, [], [1]), 1), (11, (50, [108, 3], []), 3), (14, (21, [1, 20], []), 3), (17, (0, [], [-1000000001]), 2), (19, (60, [], []), 1), (20, (1, [2], []), 1), (21, (21, [1, 33], []), 3), (24, (16, [0], []), 1), (25, (30, [9, 2], []), 3), (28, (1, [1], []), 1), (29, (33, [], []), 1), (30, (20, [39], []), 3), (33, (16, [0], []), 1), (34, (30, [9, 3], []), 3), (37, (1, [1], []), 1), (38, (33, [], []), 1), (39, (60, [], []), 1)]
theorem t_M_aim : mMt n_M_aim = (9, ⟨"KeptColoursModel", "aim", "(II)I"⟩, prog_11_method_16_code, 3, (some .int), 0, 1020, 1018, 1019, 75, 2) := rfl
theorem h_M_aim : mChk (mMt n_M_aim) k_M_aim = true := by decide +kernel
abbrev n_M_isOf : Nat := 120
def k_M_isOf : mCode := [(0, (16, [0], []), 1), (1, (1, [1], []), 1), (2, (51, [112, 2, 9], []), 3), (5, (21, [0, 18], []), 3), (8, (1, [2], []), 1), (9, (0, [], [0]), 1), (10, (0, [], [6]), 2), (12, (50, [108, 3], []), 3), (15, (21, [1, 21], []), 3), (18, (0, [], [-1000000001]), 2), (20, (60, [], []), 1), (21, (16, [0], []), 1), (22, (30, [9, 2], []), 3), (25, (1, [1], []), 1), (26, (33, [], []), 1), (27, (2, [3], []), 1), (28, (1, [3], []), 1), (29, (1, [2], []), 1), (30, (22, [0, 49], []), 3), (33, (1, [2], []), 1), (34, (0, [], [6]), 2), (36, (22, [1, 53], []), 3), (39, (1, [3], []), 1), (40, (0, [], [2]), 1), (41, (22, [0, 49], []), 3), (44, (1, [3], []), 1), (45, (0, [], [5]), 1), (46, (22, [1, 53], []), 3), (49, (0, [], [1]), 1), (50, (20, [54], []), 3), (53, (0, [], [0]), 1), (54, (60, [], []), 1)]
theorem t_M_isOf : mMt n_M_isOf = (9, ⟨"KeptColoursModel", "isOf", "(II)I"⟩, prog_11_method_17_code, 4, (some .int), 0, 1024, 1022, 1023, 75, 2) := rfl
theorem h_M_isOf : mChk (mMt n_M_isOf) k_M_isOf = true := by decide +kernel
abbrev n_M_clear : Nat := 121
def k_M_clear : mCode := [(0, (16, [0], []), 1), (1, (51, [122, 1, 9], []), 3), (4, (21, [0, 11], []), 3), (7, (0, [], [1]), 1), (8, (20, [12], []), 3), (11, (0, [], [0]), 1), (12, (60, [], []), 1)]
theorem t_M_clear : mMt n_M_clear = (9, ⟨"KeptColoursModel", "clear", "()I"⟩, prog_11_method_30_code, 1, (some .int), 0, 1028, 1026, 1027, 75, 0) := rfl
theorem h_M_clear : mChk (mMt n_M_clear) k_M_clear = true := by decide +kernel
abbrev n_M_isClear : Nat := 122
def k_M_isClear : mCode := [(0, (0, [], [0]), 1), (1, (2, [1], []), 1), (2, (1, [1], []), 1), (3, (16, [0], []), 1), (4, (30, [9, 1], []), 3), (7, (22, [3, 26], []), 3), (10, (16, [0], []), 1), (11, (1, [1], []), 1), (12, (51, [123, 2, 9], []), 3), (15, (21, [0, 20], []), 3), (18, (0, [], [0]), 1), (19, (62, [], []), 1), (20, (3, [1], [1]), 3), (23, (20, [2], []), 3), (26, (0, [], [1]), 1), (27, (62, [], []), 1)]
theorem t_M_isClear : mMt n_M_isClear = (9, ⟨"KeptColoursModel", "isClear", "()Z"⟩, prog_11_method_27_code, 2, (some .boolean), 0, 1032, 1031, 31, 75, 0) := rfl
theorem h_M_isClear : mChk (mMt n_M_isClear) k_M_isClear = true := by decide +kernel
abbrev n_M_hasCopy : Nat := 123
def k_M_hasCopy : mCode := [(0, (16, [0], []), 1), (1, (1, [1], []), 1), (2, (0, [], [1]), 1), (3, (0, [], [0]), 1), (4, (51, [124, 4, 9], []), 3), (7, (16, [0], []), 1), (8, (30, [9, 15], []), 3), (11, (62, [], []), 1)]
theorem t_M_hasCopy : mMt n_M_hasCopy = (9, ⟨"KeptColoursModel", "hasCopy", "(I)Z"⟩, prog_11_method_26_code, 2, (some .boolean), 0, 1036, 1035, 32, 75, 1) := rfl
theorem h_M_hasCopy : mChk (mMt n_M_hasCopy) k_M_hasCopy = true := by decide +kernel
abbrev n_M_look : Nat := 124
def k_M_look : mCode := [(0, (16, [0], []), 1), (1, (1, [2], []), 1), (2, (31, [9, 13, 0], []), 3), (5, (16, [0], []), 1), (6, (1, [3], []), 1), (7, (31, [9, 12, 0], []), 3), (10, (16, [0], []), 1), (11, (0, [], [0]), 1), (12, (31, [9, 14, 0], []), 3), (15, (16, [0], []), 1), (16, (0, [], [0]), 1), (17, (31, [9, 15, 1], []), 3), (20, (16, [0], []), 1), (21, (0, [], [0]), 1), (22, (31, [9, 9, 0], []), 3), (25, (16, [0], []), 1), (26, (0, [], [0]), 1), (27, (31, [9, 10, 0], []), 3), (30, (16, [0], []), 1), (31, (30, [9, 2], []), 3), (34, (1, [1], []), 1), (35, (33, [], []), 1), (36, (21, [0, 46], []), 3), (39, (16, [0], []), 1), (40, (1, [1], []), 1), (41, (0, [], [0]), 1), (42, (0, [], [0]), 1), (43, (51, [125, 4, 9], []), 3), (46, (61, [], []), 1)]
theorem t_M_look : mMt n_M_look = (9, ⟨"KeptColoursModel", "look", "(III)V"⟩, prog_11_method_24_code, 4, none, 0, 1040, 1039, 33, 75, 3) := rfl
theorem h_M_look : mChk (mMt n_M_look) k_M_look = true := by decide +kernel
abbrev n_M_go : Nat := 125
def k_M_go : mCode := [(0, (1, [2], []), 1), (1, (16, [0], []), 1), (2, (1, [1], []), 1), (3, (51, [126, 2, 9], []), 3), (6, (22, [1, 15], []), 3), (9, (16, [0], []), 1), (10, (1, [2], []), 1), (11, (51, [127, 2, 9], []), 3), (14, (61, [], []), 1), (15, (0, [], [0]), 1), (16, (2, [4], []), 2), (18, (1, [4], []), 2), (20, (16, [0], []), 1), (21, (30, [9, 0], []), 3), (24, (22, [3, 118], []), 3), (27, (16, [0], []), 1), (28, (30, [9, 15], []), 3), (31, (21, [1, 118], []), 3), (34, (1, [3], []), 1), (35, (1, [4], []), 2), (37, (13, [], []), 1), (38, (0, [], [1]), 1), (39, (9, [], []), 1), (40, (21, [1, 112], []), 3), (43, (16, [0], []), 1), (44, (30, [9, 9], []), 3), (47, (2, [5], []), 2), (49, (16, [0], []), 1), (50, (30, [9, 10], []), 3), (53, (2, [6], []), 2), (55, (16, [0], []), 1), (56, (30, [9, 11], []), 3), (59, (2, [7], []), 2), (61, (16, [0], []), 1), (62, (1, [1], []), 1), (63, (1, [2], []), 1), (64, (1, [4], []), 2), (66, (51, [129, 4, 9], []), 3), (69, (21, [0, 94], []), 3), (72, (16, [0], []), 1), (73, (30, [9, 7], []), 3), (76, (1, [2], []), 1), (77, (1, [4], []), 2), (79, (34, [], []), 1), (80, (16, [0], []), 1), (81, (1, [1], []), 1), (82, (1, [2], []), 1), (83, (0, [], [1]), 1), (84, (4, [], []), 1), (85, (1, [3], []), 1), (86, (0, [], [1]), 1), (87, (1, [4], []), 2), (89, (12, [], []), 1), (90, (10, [], []), 1), (91, (51, [125, 4, 9], []), 3), (94, (16, [0], []), 1), (95, (1, [5], []), 2), (97, (31, [9, 9, 0], []), 3), (100, (16, [0], []), 1), (101, (1, [6], []), 2), (103, (31, [9, 10, 0], []), 3), (106, (16, [0], []), 1), (107, (1, [7], []), 2), (109, (31, [9, 11, 0], []), 3), (112, (3, [4], [1]), 3), (115, (20, [18], []), 3), (118, (61, [], []), 1)]
theorem t_M_go : mMt n_M_go = (9, ⟨"KeptColoursModel", "go", "(III)V"⟩, prog_11_method_23_code, 8, none, 0, 1044, 1043, 34, 75, 3) := rfl
theorem h_M_go : mChk (mMt n_M_go) k_M_go = true := by decide +kernel
abbrev n_M_lengthOf : Nat := 126
def k_M_lengthOf : mCode := [(0, (16, [0], []), 1), (1, (30, [9, 2], []), 3), (4, (1, [1], []), 1), (5, (33, [], []), 1), (6, (0, [], [3]), 1), (7, (22, [1, 21], []), 3), (10, (16, [0], []), 1), (11, (30, [9, 3], []), 3), (14, (1, [1], []), 1), (15, (33, [], []), 1), (16, (0, [], [1]), 1), (17, (4, [], []), 1), (18, (20, [48], []), 3), (21, (16, [0], []), 1), (22, (30, [9, 2], []), 3), (25, (1, [1], []), 1), (26, (33, [], []), 1), (27, (0, [], [4]), 1), (28, (22, [1, 42], []), 3), (31, (16, [0], []), 1), (32, (30, [9, 3], []), 3), (35, (1, [1], []), 1), (36, (33, [], []), 1), (37, (0, [], [2]), 1), (38, (4, [], []), 1), (39, (20, [48], []), 3), (42, (16, [0], []), 1), (43, (30, [9, 3], []), 3), (46, (1, [1], []), 1), (47, (33, [], []), 1), (48, (60, [], []), 1)]
theorem t_M_lengthOf : mMt n_M_lengthOf = (9, ⟨"KeptColoursModel", "lengthOf", "(I)I"⟩, prog_11_method_18_code, 2, (some .int), 0, 1048, 1047, 35, 75, 1) := rfl
theorem h_M_lengthOf : mChk (mMt n_M_lengthOf) k_M_lengthOf = true := by decide +kernel
abbrev n_M_take : Nat := 127
def k_M_take : mCode := [(0, (16, [0], []), 1), (1, (30, [9, 13], []), 3), (4, (0, [], [2]), 1), (5, (22, [1, 74], []), 3), (8, (16, [0], []), 1), (9, (30, [9, 10], []), 3), (12, (0, [], [1]), 1), (13, (22, [1, 32], []), 3), (16, (16, [0], []), 1), (17, (30, [9, 19], []), 3), (20, (16, [0], []), 1), (21, (30, [9, 11], []), 3), (24, (41, [], []), 1), (25, (33, [], []), 1), (26, (0, [], [1]), 1), (27, (4, [], []), 1), (28, (34, [], []), 1), (29, (20, [73], []), 3), (32, (16, [0], []), 1), (33, (40, [], []), 1), (34, (30, [9, 14], []), 3), (37, (0, [], [1]), 1), (38, (4, [], []), 1), (39, (31, [9, 14, 0], []), 3), (42, (0, [], [0]), 1), (43, (2, [2], []), 1), (44, (1, [2], []), 1), (45, (16, [0], []), 1), (46, (30, [9, 9], []), 3), (49, (22, [3, 73], []), 3), (52, (16, [0], []), 1), (53, (30, [9, 18], []), 3), (56, (16, [0], []), 1), (57, (30, [9, 8], []), 3), (60, (1, [2], []), 1), (61, (33, [], []), 1), (62, (41, [], []), 1), (63, (33, [], []), 1), (64, (0, [], [1]), 1), (65, (4, [], []), 1), (66, (34, [], []), 1), (67, (3, [2], [1]), 3), (70, (20, [44], []), 3), (73, (61, [], []), 1), (74, (16, [0], []), 1), (75, (40, [], []), 1), (76, (30, [9, 14], []), 3), (79, (0, [], [1]), 1), (80, (4, [], []), 1), (81, (31, [9, 14, 0], []), 3), (84, (16, [0], []), 1), (85, (30, [9, 13], []), 3), (88, (0, [], [1]), 1), (89, (22, [1, 127], []), 3), (92, (16, [0], []), 1), (93, (0, [], [1]), 1), (94, (31, [9, 15, 1], []), 3), (97, (16, [0], []), 1), (98, (1, [1], []), 1), (99, (31, [9, 17, 0], []), 3), (102, (0, [], [0]), 1), (103, (2, [2], []), 1), (104, (1, [2], []), 1), (105, (1, [1], []), 1), (106, (22, [3, 127], []), 3), (109, (16, [0], []), 1), (110, (30, [9, 16], []), 3), (113, (1, [2], []), 1), (114, (16, [0], []), 1), (115, (30, [9, 7], []), 3), (118, (1, [2], []), 1), (119, (33, [], []), 1), (120, (34, [], []), 1), (121, (3, [2], [1]), 3), (124, (20, [104], []), 3), (127, (16, [0], []), 1), (128, (30, [9, 13], []), 3), (131, (0, [], [3]), 1), (132, (22, [1, 192], []), 3), (135, (16, [0], []), 1), (136, (1, [1], []), 1), (137, (51, [128, 2, 9], []), 3), (140, (16, [0], []), 1), (141, (30, [9, 20], []), 3), (144, (22, [1, 192], []), 3), (147, (0, [], [0]), 1), (148, (2, [2], []), 1), (149, (1, [2], []), 1), (150, (16, [0], []), 1), (151, (30, [9, 9], []), 3), (154, (22, [3, 192], []), 3), (157, (16, [0], []), 1), (158, (16, [0], []), 1), (159, (30, [9, 15], []), 3), (162, (21, [1, 178], []), 3), (165, (16, [0], []), 1), (166, (30, [9, 8], []), 3), (169, (1, [2], []), 1), (170, (33, [], []), 1), (171, (16, [0], []), 1), (172, (30, [9, 21], []), 3), (175, (22, [1, 182], []), 3), (178, (0, [], [1]), 1), (179, (20, [183], []), 3), (182, (0, [], [0]), 1), (183, (31, [9, 15, 1], []), 3), (186, (3, [2], [1]), 3), (189, (20, [149], []), 3), (192, (61, [], []), 1)]
theorem t_M_take : mMt n_M_take = (9, ⟨"KeptColoursModel", "take", "(I)V"⟩, prog_11_method_22_code, 3, none, 0, 1052, 1051, 36, 75, 1) := rfl
theorem h_M_take : mChk (mMt n_M_take) k_M_take = true := by decide +kernel
abbrev n_M_bitsOf : Nat := 128
def k_M_bitsOf : mCode := [(0, (0, [], [0]), 1), (1, (2, [2], []), 1), (2, (0, [], [0]), 1), (3, (2, [3], []), 1), (4, (1, [3], []), 1), (5, (1, [1], []), 1), (6, (22, [3, 26], []), 3), (9, (1, [2], []), 1), (10, (0, [], [1]), 1), (11, (16, [0], []), 1), (12, (30, [9, 7], []), 3), (15, (1, [3], []), 1), (16, (33, [], []), 1), (17, (12, [], []), 1), (18, (10, [], []), 1), (19, (2, [2], []), 1), (20, (3, [3], [1]), 3), (23, (20, [4], []), 3), (26, (1, [2], []), 1), (27, (60, [], []), 1)]
theorem t_M_bitsOf : mMt n_M_bitsOf = (9, ⟨"KeptColoursModel", "bitsOf", "(I)I"⟩, prog_11_method_21_code, 4, (some .int), 0, 1056, 1055, 37, 75, 1) := rfl
theorem h_M_bitsOf : mChk (mMt n_M_bitsOf) k_M_bitsOf = true := by decide +kernel
abbrev n_M_addPoint : Nat := 129
def k_M_addPoint : mCode := [(0, (16, [0], []), 1), (1, (30, [9, 2], []), 3), (4, (1, [1], []), 1), (5, (33, [], []), 1), (6, (2, [4], []), 2), (8, (1, [4], []), 2), (10, (0, [], [1]), 1), (11, (22, [1, 75], []), 3), (14, (1, [2], []), 1), (15, (21, [0, 30], []), 3), (18, (1, [3], []), 1), (19, (16, [0], []), 1), (20, (30, [9, 7], []), 3), (23, (1, [2], []), 1), (24, (0, [], [1]), 1), (25, (5, [], []), 1), (26, (33, [], []), 1), (27, (22, [5, 34], []), 3), (30, (0, [], [1]), 1), (31, (20, [35], []), 3), (34, (0, [], [0]), 1), (35, (2, [5], []), 2), (37, (0, [], [0]), 1), (38, (2, [6], []), 2), (40, (1, [6], []), 2), (42, (1, [2], []), 1), (43, (22, [3, 72], []), 3), (46, (1, [5], []), 2), (48, (21, [0, 72], []), 3), (51, (16, [0], []), 1), (52, (1, [1], []), 1), (53, (16, [0], []), 1), (54, (30, [9, 7], []), 3), (57, (1, [6], []), 2), (59, (33, [], []), 1), (60, (1, [3], []), 1), (61, (51, [130, 4, 9], []), 3), (64, (2, [5], []), 2), (66, (3, [6], [1]), 3), (69, (20, [40], []), 3), (72, (1, [5], []), 2), (74, (62, [], []), 1), (75, (1, [4], []), 2), (77, (0, [], [3]), 1), (78, (22, [1, 123], []), 3), (81, (1, [2], []), 1), (82, (21, [0, 117], []), 3), (85, (1, [2], []), 1), (86, (0, [], [1]), 1), (87, (22, [0, 102], []), 3), (90, (1, [3], []), 1), (91, (16, [0], []), 1), (92, (30, [9, 7], []), 3), (95, (1, [2], []), 1), (96, (0, [], [1]), 1), (97, (5, [], []), 1), (98, (33, [], []), 1), (99, (22, [5, 121], []), 3), (102, (16, [0], []), 1), (103, (1, [1], []), 1), (104, (16, [0], []), 1), (105, (30, [9, 7], []), 3), (108, (0, [], [0]), 1), (109, (33, [], []), 1), (110, (1, [3], []), 1), (111, (51, [130, 4, 9], []), 3), (114, (21, [0, 121], []), 3), (117, (0, [], [1]), 1), (118, (20, [122], []), 3), (121, (0, [], [0]), 1), (122, (62, [], []), 1), (123, (1, [4], []), 2), (125, (0, [], [4]), 1), (126, (22, [1, 224], []), 3), (129, (1, [2], []), 1), (130, (21, [1, 135], []), 3), (133, (0, [], [1]), 1), (134, (62, [], []), 1), (135, (1, [2], []), 1), (136, (0, [], [1]), 1), (137, (22, [1, 171], []), 3), (140, (1, [3], []), 1), (141, (16, [0], []), 1), (142, (30, [9, 7], []), 3), (145, (0, [], [0]), 1), (146, (33, [], []), 1), (147, (22, [5, 169], []), 3), (150, (16, [0], []), 1), (151, (1, [1], []), 1), (152, (16, [0], []), 1), (153, (30, [9, 7], []), 3), (156, (0, [], [0]), 1), (157, (33, [], []), 1), (158, (1, [3], []), 1), (159, (51, [130, 4, 9], []), 3), (162, (21, [0, 169], []), 3), (165, (0, [], [1]), 1), (166, (20, [170], []), 3), (169, (0, [], [0]), 1), (170, (62, [], []), 1), (171, (1, [2], []), 1), (172, (0, [], [2]), 1), (173, (22, [0, 188], []), 3), (176, (1, [3], []), 1), (177, (16, [0], []), 1), (178, (30, [9, 7], []), 3), (181, (1, [2], []), 1), (182, (0, [], [1]), 1), (183, (5, [], []), 1), (184, (33, [], []), 1), (185, (22, [5, 222], []), 3), (188, (16, [0], []), 1), (189, (1, [1], []), 1), (190, (16, [0], []), 1), (191, (30, [9, 7], []), 3), (194, (0, [], [0]), 1), (195, (33, [], []), 1), (196, (1, [3], []), 1), (197, (51, [130, 4, 9], []), 3), (200, (21, [0, 222], []), 3), (203, (16, [0], []), 1), (204, (1, [1], []), 1), (205, (16, [0], []), 1), (206, (30, [9, 7], []), 3), (209, (0, [], [1]), 1), (210, (33, [], []), 1), (211, (1, [3], []), 1), (212, (51, [130, 4, 9], []), 3), (215, (21, [0, 222], []), 3), (218, (0, [], [1]), 1), (219, (20, [223], []), 3), (222, (0, [], [0]), 1), (223, (62, [], []), 1), (224, (1, [2], []), 1), (225, (21, [1, 230], []), 3), (228, (0, [], [1]), 1), (229, (62, [], []), 1), (230, (1, [2], []), 1), (231, (16, [0], []), 1), (232, (1, [1], []), 1), (233, (51, [126, 2, 9], []), 3), (236, (0, [], [1]), 1), (237, (5, [], []), 1), (238, (22, [1, 245], []), 3), (241, (0, [], [1]), 1), (242, (20, [246], []), 3), (245, (0, [], [0]), 1), (246, (2, [5], []), 2), (248, (1, [4], []), 2), (250, (0, [], [5]), 1), (251, (22, [1, 292], []), 3), (254, (1, [5], []), 2), (256, (21, [0, 269], []), 3), (259, (16, [0], []), 1), (260, (30, [9, 7], []), 3), (263, (0, [], [0]), 1), (264, (33, [], []), 1), (265, (1, [3], []), 1), (266, (22, [3, 290], []), 3), (269, (16, [0], []), 1), (270, (1, [1], []), 1), (271, (16, [0], []), 1), (272, (30, [9, 7], []), 3), (275, (1, [2], []), 1), (276, (0, [], [1]), 1), (277, (5, [], []), 1), (278, (33, [], []), 1), (279, (1, [3], []), 1), (280, (51, [130, 4, 9], []), 3), (283, (21, [0, 290], []), 3), (286, (0, [], [1]), 1), (287, (20, [291], []), 3), (290, (0, [], [0]), 1), (291, (62, [], []), 1), (292, (1, [3], []), 1), (293, (16, [0], []), 1), (294, (30, [9, 7], []), 3), (297, (0, [], [0]), 1), (298, (33, [], []), 1), (299, (22, [5, 358], []), 3), (302, (1, [5], []), 2), (304, (21, [0, 317], []), 3), (307, (16, [0], []), 1), (308, (30, [9, 7], []), 3), (311, (0, [], [1]), 1), (312, (33, [], []), 1), (313, (1, [3], []), 1), (314, (22, [3, 358], []), 3), (317, (16, [0], []), 1), (318, (1, [1], []), 1), (319, (16, [0], []), 1), (320, (30, [9, 7], []), 3), (323, (1, [2], []), 1), (324, (0, [], [1]), 1), (325, (5, [], []), 1), (326, (33, [], []), 1), (327, (1, [3], []), 1), (328, (51, [130, 4, 9], []), 3), (331, (21, [0, 358], []), 3), (334, (1, [5], []), 2), (336, (21, [0, 354], []), 3), (339, (16, [0], []), 1), (340, (1, [1], []), 1), (341, (1, [3], []), 1), (342, (16, [0], []), 1), (343, (30, [9, 7], []), 3), (346, (0, [], [0]), 1), (347, (33, [], []), 1), (348, (51, [130, 4, 9], []), 3), (351, (21, [0, 358], []), 3), (354, (0, [], [1]), 1), (355, (20, [359], []), 3), (358, (0, [], [0]), 1), (359, (62, [], []), 1)]
theorem t_M_addPoint : mMt n_M_addPoint = (9, ⟨"KeptColoursModel", "addPoint", "(III)Z"⟩, prog_11_method_20_code, 7, (some .boolean), 0, 1060, 1059, 38, 75, 3) := rfl
theorem h_M_addPoint : mChk (mMt n_M_addPoint) k_M_addPoint = true := by decide +kernel
abbrev n_M_addEdge : Nat := 130
def k_M_addEdge : mCode := [(0, (1, [2], []), 1), (1, (1, [3], []), 1), (2, (50, [117, 2], []), 3), (5, (2, [4], []), 2), (7, (16, [0], []), 1), (8, (30, [9, 8], []), 3), (11, (16, [0], []), 1), (12, (30, [9, 9], []), 3), (15, (1, [4], []), 2), (17, (34, [], []), 1), (18, (16, [0], []), 1), (19, (40, [], []), 1), (20, (30, [9, 9], []), 3), (23, (0, [], [1]), 1), (24, (4, [], []), 1), (25, (31, [9, 9, 0], []), 3), (28, (16, [0], []), 1), (29, (30, [9, 4], []), 3), (32, (1, [4], []), 2), (34, (33, [], []), 1), (35, (1, [1], []), 1), (36, (22, [0, 55], []), 3), (39, (16, [0], []), 1), (40, (40, [], []), 1), (41, (30, [9, 10], []), 3), (44, (0, [], [1]), 1), (45, (4, [], []), 1), (46, (31, [9, 10, 0], []), 3), (49, (16, [0], []), 1), (50, (1, [4], []), 2), (52, (31, [9, 11, 0], []), 3), (55, (16, [0], []), 1), (56, (30, [9, 10], []), 3), (59, (16, [0], []), 1), (60, (30, [9, 12], []), 3), (63, (22, [4, 70], []), 3), (66, (0, [], [1]), 1), (67, (20, [71], []), 3), (70, (0, [], [0]), 1), (71, (62, [], []), 1)]
theorem t_M_addEdge : mMt n_M_addEdge = (9, ⟨"KeptColoursModel", "addEdge", "(III)Z"⟩, prog_11_method_19_code, 5, (some .boolean), 0, 1064, 1063, 39, 75, 3) := rfl
theorem h_M_addEdge : mChk (mMt n_M_addEdge) k_M_addEdge = true := by decide +kernel
abbrev n_M_copies : Nat := 131
def k_M_copies : mCode := [(0, (16, [0], []), 1), (1, (1, [1], []), 1), (2, (51, [112, 2, 9], []), 3), (5, (21, [0, 16], []), 3), (8, (16, [0], []), 1), (9, (1, [1], []), 1), (10, (51, [132, 2, 9], []), 3), (13, (20, [18], []), 3), (16, (0, [], [-1000000001]), 2), (18, (60, [], []), 1)]
theorem t_M_copies : mMt n_M_copies = (9, ⟨"KeptColoursModel", "copies", "(I)I"⟩, prog_11_method_31_code, 2, (some .int), 0, 1068, 1066, 1067, 75, 1) := rfl
theorem h_M_copies : mChk (mMt n_M_copies) k_M_copies = true := by decide +kernel
abbrev n_M_copiesOf : Nat := 132
def k_M_copiesOf : mCode := [(0, (16, [0], []), 1), (1, (1, [1], []), 1), (2, (0, [], [0]), 1), (3, (0, [], [0]), 1), (4, (51, [124, 4, 9], []), 3), (7, (16, [0], []), 1), (8, (30, [9, 14], []), 3), (11, (60, [], []), 1)]
theorem t_M_copiesOf : mMt n_M_copiesOf = (9, ⟨"KeptColoursModel", "copiesOf", "(I)I"⟩, prog_11_method_25_code, 2, (some .int), 0, 1072, 1071, 40, 75, 1) := rfl
theorem h_M_copiesOf : mChk (mMt n_M_copiesOf) k_M_copiesOf = true := by decide +kernel
abbrev n_M_copy : Nat := 133
def k_M_copy : mCode := [(0, (16, [0], []), 1), (1, (1, [1], []), 1), (2, (51, [112, 2, 9], []), 3), (5, (21, [0, 12], []), 3), (8, (1, [2], []), 1), (9, (21, [3, 15], []), 3), (12, (0, [], [-1000000001]), 2), (14, (60, [], []), 1), (15, (16, [0], []), 1), (16, (1, [1], []), 1), (17, (51, [123, 2, 9], []), 3), (20, (21, [0, 40], []), 3), (23, (1, [2], []), 1), (24, (16, [0], []), 1), (25, (30, [9, 17], []), 3), (28, (22, [3, 40], []), 3), (31, (16, [0], []), 1), (32, (30, [9, 16], []), 3), (35, (1, [2], []), 1), (36, (33, [], []), 1), (37, (20, [42], []), 3), (40, (0, [], [-1000000005]), 2), (42, (60, [], []), 1)]
theorem t_M_copy : mMt n_M_copy = (9, ⟨"KeptColoursModel", "copy", "(II)I"⟩, prog_11_method_32_code, 3, (some .int), 0, 1076, 1074, 1075, 75, 2) := rfl
theorem h_M_copy : mChk (mMt n_M_copy) k_M_copy = true := by decide +kernel
abbrev n_M_degree : Nat := 134
def k_M_degree : mCode := [(0, (16, [0], []), 1), (1, (1, [1], []), 1), (2, (51, [116, 2, 9], []), 3), (5, (21, [0, 22], []), 3), (8, (1, [2], []), 1), (9, (0, [], [-1]), 1), (10, (16, [0], []), 1), (11, (30, [9, 1], []), 3), (14, (0, [], [1]), 1), (15, (5, [], []), 1), (16, (50, [108, 3], []), 3), (19, (21, [1, 25], []), 3), (22, (0, [], [-1000000001]), 2), (24, (60, [], []), 1), (25, (0, [], [0]), 1), (26, (2, [3], []), 1), (27, (0, [], [0]), 1), (28, (2, [4], []), 2), (30, (1, [4], []), 2), (32, (16, [0], []), 1), (33, (30, [9, 0], []), 3), (36, (22, [3, 74], []), 3), (39, (1, [3], []), 1), (40, (1, [4], []), 2), (42, (1, [1], []), 1), (43, (22, [0, 65], []), 3), (46, (16, [0], []), 1), (47, (30, [9, 4], []), 3), (50, (1, [4], []), 2), (52, (1, [1], []), 1), (53, (50, [117, 2], []), 3), (56, (33, [], []), 1), (57, (1, [2], []), 1), (58, (22, [1, 65], []), 3), (61, (0, [], [1]), 1), (62, (20, [66], []), 3), (65, (0, [], [0]), 1), (66, (4, [], []), 1), (67, (2, [3], []), 1), (68, (3, [4], [1]), 3), (71, (20, [30], []), 3), (74, (1, [3], []), 1), (75, (60, [], []), 1)]
theorem t_M_degree : mMt n_M_degree = (9, ⟨"KeptColoursModel", "degree", "(II)I"⟩, prog_11_method_33_code, 5, (some .int), 0, 1081, 1079, 1080, 75, 2) := rfl
theorem h_M_degree : mChk (mMt n_M_degree) k_M_degree = true := by decide +kernel
abbrev n_M_triangles : Nat := 135
def k_M_triangles : mCode := [(0, (0, [], [0]), 1), (1, (2, [1], []), 1), (2, (0, [], [0]), 1), (3, (2, [2], []), 1), (4, (1, [2], []), 1), (5, (16, [0], []), 1), (6, (30, [9, 0], []), 3), (9, (22, [3, 113], []), 3), (12, (1, [2], []), 1), (13, (0, [], [1]), 1), (14, (4, [], []), 1), (15, (2, [3], []), 1), (16, (1, [3], []), 1), (17, (16, [0], []), 1), (18, (30, [9, 0], []), 3), (21, (22, [3, 107], []), 3), (24, (1, [3], []), 1), (25, (0, [], [1]), 1), (26, (4, [], []), 1), (27, (2, [4], []), 2), (29, (1, [4], []), 2), (31, (16, [0], []), 1), (32, (30, [9, 0], []), 3), (35, (22, [3, 101], []), 3), (38, (16, [0], []), 1), (39, (30, [9, 4], []), 3), (42, (1, [2], []), 1), (43, (1, [3], []), 1), (44, (50, [117, 2], []), 3), (47, (33, [], []), 1), (48, (2, [5], []), 2), (50, (1, [1], []), 1), (51, (1, [5], []), 2), (53, (21, [2, 92], []), 3), (56, (16, [0], []), 1), (57, (30, [9, 4], []), 3), (60, (1, [2], []), 1), (61, (1, [4], []), 2), (63, (50, [117, 2], []), 3), (66, (33, [], []), 1), (67, (1, [5], []), 2), (69, (22, [1, 92], []), 3), (72, (16, [0], []), 1), (73, (30, [9, 4], []), 3), (76, (1, [3], []), 1), (77, (1, [4], []), 2), (79, (50, [117, 2], []), 3), (82, (33, [], []), 1), (83, (1, [5], []), 2), (85, (22, [1, 92], []), 3), (88, (0, [], [1]), 1), (89, (20, [93], []), 3), (92, (0, [], [0]), 1), (93, (4, [], []), 1), (94, (2, [1], []), 1), (95, (3, [4], [1]), 3), (98, (20, [29], []), 3), (101, (3, [3], [1]), 3), (104, (20, [16], []), 3), (107, (3, [2], [1]), 3), (110, (20, [4], []), 3), (113, (1, [1], []), 1), (114, (60, [], []), 1)]
theorem t_M_triangles : mMt n_M_triangles = (9, ⟨"KeptColoursModel", "triangles", "()I"⟩, prog_11_method_34_code, 6, (some .int), 0, 1085, 1083, 1084, 75, 0) := rfl
theorem h_M_triangles : mChk (mMt n_M_triangles) k_M_triangles = true := by decide +kernel
abbrev n_M_least : Nat := 136
def k_M_least : mCode := [(0, (1, [1], []), 1), (1, (0, [], [1]), 1), (2, (0, [], [12]), 2), (4, (50, [108, 3], []), 3), (7, (21, [1, 13], []), 3), (10, (0, [], [-1000000001]), 2), (12, (60, [], []), 1), (13, (1, [1], []), 1), (14, (0, [], [1]), 1), (15, (5, [], []), 1), (16, (0, [], [2]), 1), (17, (7, [], []), 1), (18, (2, [2], []), 1), (19, (1, [1], []), 1), (20, (1, [1], []), 1), (21, (0, [], [1]), 1), (22, (5, [], []), 1), (23, (6, [], []), 1), (24, (1, [1], []), 1), (25, (0, [], [2]), 1), (26, (5, [], []), 1), (27, (6, [], []), 1), (28, (0, [], [6]), 2), (30, (7, [], []), 1), (31, (1, [1], []), 1), (32, (1, [2], []), 1), (33, (6, [], []), 1), (34, (1, [1], []), 1), (35, (0, [], [1]), 1), (36, (5, [], []), 1), (37, (1, [2], []), 1), (38, (5, [], []), 1), (39, (6, [], []), 1), (40, (0, [], [2]), 1), (41, (7, [], []), 1), (42, (5, [], []), 1), (43, (60, [], []), 1)]
theorem t_M_least : mMt n_M_least = (9, ⟨"KeptColoursModel", "least", "(I)I"⟩, prog_11_method_35_code, 3, (some .int), 0, 1089, 1087, 1088, 75, 1) := rfl
theorem h_M_least : mChk (mMt n_M_least) k_M_least = true := by decide +kernel
abbrev n_M_turned : Nat := 137
def k_M_turned : mCode := [(0, (1, [1], []), 1), (1, (0, [], [0]), 1), (2, (16, [0], []), 1), (3, (30, [9, 1], []), 3), (6, (16, [0], []), 1), (7, (30, [9, 0], []), 3), (10, (0, [], [2]), 1), (11, (7, [], []), 1), (12, (50, [138, 2], []), 3), (15, (0, [], [1]), 1), (16, (5, [], []), 1), (17, (50, [108, 3], []), 3), (20, (21, [1, 26], []), 3), (23, (0, [], [-1000000001]), 2), (25, (60, [], []), 1), (26, (16, [0], []), 1), (27, (51, [109, 1, 9], []), 3), (30, (16, [0], []), 1), (31, (1, [1], []), 1), (32, (51, [139, 2, 9], []), 3), (35, (16, [0], []), 1), (36, (51, [140, 1, 9], []), 3), (39, (60, [], []), 1)]
theorem t_M_turned : mMt n_M_turned = (9, ⟨"KeptColoursModel", "turned", "(I)I"⟩, prog_11_method_38_code, 2, (some .int), 0, 1093, 1091, 1092, 75, 1) := rfl
theorem h_M_turned : mChk (mMt n_M_turned) k_M_turned = true := by decide +kernel
abbrev n_M_power : Nat := 138
def k_M_power : mCode := [(0, (0, [], [1]), 1), (1, (2, [2], []), 1), (2, (0, [], [0]), 1), (3, (2, [3], []), 1), (4, (1, [3], []), 1), (5, (1, [1], []), 1), (6, (22, [3, 25], []), 3), (9, (1, [2], []), 1), (10, (0, [], [60000]), 2), (12, (22, [4, 25], []), 3), (15, (1, [2], []), 1), (16, (1, [0], []), 1), (17, (6, [], []), 1), (18, (2, [2], []), 1), (19, (3, [3], [1]), 3), (22, (20, [4], []), 3), (25, (1, [2], []), 1), (26, (60, [], []), 1)]
theorem t_M_power : mMt n_M_power = (9, ⟨"KeptColoursModel", "power", "(II)I"⟩, prog_11_method_36_code, 4, (some .int), 1, 1096, 1095, 0, 75, 2) := rfl
theorem h_M_power : mChk (mMt n_M_power) k_M_power = true := by decide +kernel
abbrev n_M_layTurned : Nat := 139
def k_M_layTurned : mCode := [(0, (0, [], [1]), 1), (1, (2, [2], []), 1), (2, (1, [2], []), 1), (3, (16, [0], []), 1), (4, (30, [9, 0], []), 3), (7, (22, [3, 87], []), 3), (10, (0, [], [0]), 1), (11, (2, [3], []), 1), (12, (1, [3], []), 1), (13, (1, [2], []), 1), (14, (22, [3, 81], []), 3), (17, (1, [2], []), 1), (18, (1, [3], []), 1), (19, (5, [], []), 1), (20, (16, [0], []), 1), (21, (30, [9, 0], []), 3), (24, (1, [2], []), 1), (25, (5, [], []), 1), (26, (1, [3], []), 1), (27, (4, [], []), 1), (28, (22, [3, 37], []), 3), (31, (1, [2], []), 1), (32, (1, [3], []), 1), (33, (5, [], []), 1), (34, (20, [45], []), 3), (37, (16, [0], []), 1), (38, (30, [9, 0], []), 3), (41, (1, [2], []), 1), (42, (5, [], []), 1), (43, (1, [3], []), 1), (44, (4, [], []), 1), (45, (2, [4], []), 2), (47, (16, [0], []), 1), (48, (30, [9, 4], []), 3), (51, (1, [3], []), 1), (52, (1, [2], []), 1), (53, (50, [117, 2], []), 3), (56, (1, [1], []), 1), (57, (16, [0], []), 1), (58, (30, [9, 1], []), 3), (61, (1, [4], []), 2), (63, (0, [], [1]), 1), (64, (5, [], []), 1), (65, (50, [138, 2], []), 3), (68, (7, [], []), 1), (69, (16, [0], []), 1), (70, (30, [9, 1], []), 3), (73, (8, [], []), 1), (74, (34, [], []), 1), (75, (3, [3], [1]), 3), (78, (20, [12], []), 3), (81, (3, [2], [1]), 3), (84, (20, [2], []), 3), (87, (61, [], []), 1)]
theorem t_M_layTurned : mMt n_M_layTurned = (9, ⟨"KeptColoursModel", "layTurned", "(I)V"⟩, prog_11_method_37_code, 5, none, 0, 1100, 1099, 41, 75, 1) := rfl
theorem h_M_layTurned : mChk (mMt n_M_layTurned) k_M_layTurned = true := by decide +kernel
abbrev n_M_clashes : Nat := 140
def k_M_clashes : mCode := [(0, (0, [], [0]), 1), (1, (2, [1], []), 1), (2, (0, [], [0]), 1), (3, (2, [2], []), 1), (4, (1, [2], []), 1), (5, (16, [0], []), 1), (6, (30, [9, 1], []), 3), (9, (22, [3, 26], []), 3), (12, (1, [1], []), 1), (13, (16, [0], []), 1), (14, (1, [2], []), 1), (15, (51, [132, 2, 9], []), 3), (18, (4, [], []), 1), (19, (2, [1], []), 1), (20, (3, [2], [1]), 3), (23, (20, [4], []), 3), (26, (1, [1], []), 1), (27, (60, [], []), 1)]
theorem t_M_clashes : mMt n_M_clashes = (9, ⟨"KeptColoursModel", "clashes", "()I"⟩, prog_11_method_28_code, 3, (some .int), 0, 1104, 1103, 42, 75, 0) := rfl
theorem h_M_clashes : mChk (mMt n_M_clashes) k_M_clashes = true := by decide +kernel
abbrev n_M_turns : Nat := 141
def k_M_turns : mCode := [(0, (1, [1], []), 1), (1, (0, [], [0]), 1), (2, (0, [], [2]), 1), (3, (50, [108, 3], []), 3), (6, (21, [1, 12], []), 3), (9, (0, [], [-1000000001]), 2), (11, (60, [], []), 1), (12, (16, [0], []), 1), (13, (51, [142, 1, 9], []), 3), (16, (0, [], [0]), 1), (17, (2, [2], []), 1), (18, (0, [], [-1000000005]), 2), (20, (2, [3], []), 1), (21, (0, [], [-1000000005]), 2), (23, (2, [4], []), 2), (25, (0, [], [0]), 1), (26, (2, [5], []), 2), (28, (1, [5], []), 2), (30, (16, [0], []), 1), (31, (30, [9, 1], []), 3), (34, (16, [0], []), 1), (35, (30, [9, 0], []), 3), (38, (0, [], [2]), 1), (39, (7, [], []), 1), (40, (50, [138, 2], []), 3), (43, (22, [3, 85], []), 3), (46, (16, [0], []), 1), (47, (1, [5], []), 2), (49, (51, [139, 2, 9], []), 3), (52, (16, [0], []), 1), (53, (51, [122, 1, 9], []), 3), (56, (21, [0, 79], []), 3), (59, (3, [2], [1]), 3), (62, (1, [3], []), 1), (63, (0, [], [-1000000005]), 2), (65, (22, [1, 73], []), 3), (68, (1, [5], []), 2), (70, (20, [74], []), 3), (73, (1, [3], []), 1), (74, (2, [3], []), 1), (75, (1, [5], []), 2), (77, (2, [4], []), 2), (79, (3, [5], [1]), 3), (82, (20, [28], []), 3), (85, (16, [0], []), 1), (86, (51, [143, 1, 9], []), 3), (89, (1, [1], []), 1), (90, (21, [1, 97], []), 3), (93, (1, [2], []), 1), (94, (20, [108], []), 3), (97, (1, [1], []), 1), (98, (0, [], [1]), 1), (99, (22, [1, 106], []), 3), (102, (1, [3], []), 1), (103, (20, [108], []), 3), (106, (1, [4], []), 2), (108, (60, [], []), 1)]
theorem t_M_turns : mMt n_M_turns = (9, ⟨"KeptColoursModel", "turns", "(I)I"⟩, prog_11_method_41_code, 6, (some .int), 0, 1108, 1106, 1107, 75, 1) := rfl
theorem h_M_turns : mChk (mMt n_M_turns) k_M_turns = true := by decide +kernel
abbrev n_M_layAside : Nat := 142
def k_M_layAside : mCode := [(0, (0, [], [0]), 1), (1, (2, [1], []), 1), (2, (1, [1], []), 1), (3, (0, [], [66]), 2), (5, (22, [3, 26], []), 3), (8, (16, [0], []), 1), (9, (30, [9, 22], []), 3), (12, (1, [1], []), 1), (13, (16, [0], []), 1), (14, (30, [9, 4], []), 3), (17, (1, [1], []), 1), (18, (33, [], []), 1), (19, (34, [], []), 1), (20, (3, [1], [1]), 3), (23, (20, [2], []), 3), (26, (61, [], []), 1)]
theorem t_M_layAside : mMt n_M_layAside = (9, ⟨"KeptColoursModel", "layAside", "()V"⟩, prog_11_method_39_code, 2, none, 0, 1112, 1111, 43, 75, 0) := rfl
theorem h_M_layAside : mChk (mMt n_M_layAside) k_M_layAside = true := by decide +kernel
abbrev n_M_bring : Nat := 143
def k_M_bring : mCode := [(0, (0, [], [0]), 1), (1, (2, [1], []), 1), (2, (1, [1], []), 1), (3, (0, [], [66]), 2), (5, (22, [3, 26], []), 3), (8, (16, [0], []), 1), (9, (30, [9, 4], []), 3), (12, (1, [1], []), 1), (13, (16, [0], []), 1), (14, (30, [9, 22], []), 3), (17, (1, [1], []), 1), (18, (33, [], []), 1), (19, (34, [], []), 1), (20, (3, [1], [1]), 3), (23, (20, [2], []), 3), (26, (61, [], []), 1)]
theorem t_M_bring : mMt n_M_bring = (9, ⟨"KeptColoursModel", "bring", "()V"⟩, prog_11_method_40_code, 2, none, 0, 1116, 1115, 44, 75, 0) := rfl
theorem h_M_bring : mChk (mMt n_M_bring) k_M_bring = true := by decide +kernel
abbrev n_M_list : Nat := 144
def k_M_list : mCode := [(0, (1, [1], []), 1), (1, (0, [], [1]), 1), (2, (0, [], [12]), 2), (4, (50, [108, 3], []), 3), (7, (21, [0, 19], []), 3), (10, (1, [2], []), 1), (11, (0, [], [0]), 1), (12, (0, [], [1]), 1), (13, (50, [108, 3], []), 3), (16, (21, [1, 22], []), 3), (19, (0, [], [-1000000001]), 2), (21, (60, [], []), 1), (22, (16, [0], []), 1), (23, (1, [1], []), 1), (24, (51, [145, 2, 9], []), 3), (27, (21, [0, 33], []), 3), (30, (0, [], [-1000000004]), 2), (32, (60, [], []), 1), (33, (16, [0], []), 1), (34, (1, [1], []), 1), (35, (0, [], [-1]), 1), (36, (1, [2], []), 1), (37, (0, [], [1]), 1), (38, (22, [1, 45], []), 3), (41, (0, [], [1]), 1), (42, (20, [46], []), 3), (45, (0, [], [0]), 1), (46, (51, [146, 4, 9], []), 3), (49, (1, [2], []), 1), (50, (21, [1, 60], []), 3), (53, (16, [0], []), 1), (54, (30, [9, 23], []), 3), (57, (20, [64], []), 3), (60, (16, [0], []), 1), (61, (30, [9, 29], []), 3), (64, (60, [], []), 1)]
theorem t_M_list : mMt n_M_list = (9, ⟨"KeptColoursModel", "list", "(II)I"⟩, prog_11_method_48_code, 3, (some .int), 0, 1120, 1118, 1119, 75, 2) := rfl
theorem h_M_list : mChk (mMt n_M_list) k_M_list = true := by decide +kernel
abbrev n_M_isLong : Nat := 145
def k_M_isLong : mCode := [(0, (16, [0], []), 1), (1, (30, [9, 1], []), 3), (4, (1, [1], []), 1), (5, (50, [110, 1], []), 3), (8, (50, [138, 2], []), 3), (11, (0, [], [60000]), 2), (13, (22, [5, 20], []), 3), (16, (0, [], [1]), 1), (17, (20, [21], []), 3), (20, (0, [], [0]), 1), (21, (62, [], []), 1)]
theorem t_M_isLong : mMt n_M_isLong = (9, ⟨"KeptColoursModel", "isLong", "(I)Z"⟩, prog_11_method_46_code, 2, (some .boolean), 0, 1124, 1123, 45, 75, 1) := rfl
theorem h_M_isLong : mChk (mMt n_M_isLong) k_M_isLong = true := by decide +kernel
abbrev n_M_goThrough : Nat := 146
def k_M_goThrough : mCode := [(0, (16, [0], []), 1), (1, (30, [9, 0], []), 3), (4, (2, [4], []), 2), (6, (16, [0], []), 1), (7, (51, [142, 1, 9], []), 3), (10, (16, [0], []), 1), (11, (1, [1], []), 1), (12, (31, [9, 0, 0], []), 3), (15, (16, [0], []), 1), (16, (51, [105, 1, 9], []), 3), (19, (16, [0], []), 1), (20, (0, [], [0]), 1), (21, (31, [9, 23, 0], []), 3), (24, (16, [0], []), 1), (25, (1, [2], []), 1), (26, (31, [9, 24, 0], []), 3), (29, (16, [0], []), 1), (30, (0, [], [0]), 1), (31, (31, [9, 25, 1], []), 3), (34, (16, [0], []), 1), (35, (1, [3], []), 1), (36, (31, [9, 27, 1], []), 3), (39, (16, [0], []), 1), (40, (0, [], [0]), 1), (41, (31, [9, 29, 0], []), 3), (44, (0, [], [0]), 1), (45, (2, [5], []), 2), (47, (1, [5], []), 2), (49, (0, [], [60000]), 2), (51, (22, [3, 72], []), 3), (54, (1, [3], []), 1), (55, (21, [0, 72], []), 3), (58, (16, [0], []), 1), (59, (30, [9, 28], []), 3), (62, (1, [5], []), 2), (64, (0, [], [0]), 1), (65, (36, [], []), 1), (66, (3, [5], [1]), 3), (69, (20, [47], []), 3), (72, (16, [0], []), 1), (73, (0, [], [0]), 1), (74, (51, [147, 2, 9], []), 3), (77, (16, [0], []), 1), (78, (1, [4], []), 2), (80, (31, [9, 0, 0], []), 3), (83, (16, [0], []), 1), (84, (51, [143, 1, 9], []), 3), (87, (61, [], []), 1)]
theorem t_M_goThrough : mMt n_M_goThrough = (9, ⟨"KeptColoursModel", "goThrough", "(IIZ)V"⟩, prog_11_method_47_code, 6, none, 0, 1129, 1128, 46, 75, 3) := rfl
theorem h_M_goThrough : mChk (mMt n_M_goThrough) k_M_goThrough = true := by decide +kernel
abbrev n_M_listGo : Nat := 147
def k_M_listGo : mCode := [(0, (1, [1], []), 1), (1, (16, [0], []), 1), (2, (30, [9, 0], []), 3), (5, (50, [110, 1], []), 3), (8, (22, [1, 74], []), 3), (11, (16, [0], []), 1), (12, (30, [9, 23], []), 3), (15, (16, [0], []), 1), (16, (30, [9, 24], []), 3), (19, (22, [1, 52], []), 3), (22, (16, [0], []), 1), (23, (0, [], [1]), 1), (24, (31, [9, 25, 1], []), 3), (27, (0, [], [0]), 1), (28, (2, [2], []), 1), (29, (1, [2], []), 1), (30, (1, [1], []), 1), (31, (22, [3, 52], []), 3), (34, (16, [0], []), 1), (35, (30, [9, 26], []), 3), (38, (1, [2], []), 1), (39, (16, [0], []), 1), (40, (30, [9, 4], []), 3), (43, (1, [2], []), 1), (44, (33, [], []), 1), (45, (34, [], []), 1), (46, (3, [2], [1]), 3), (49, (20, [29], []), 3), (52, (16, [0], []), 1), (53, (30, [9, 27], []), 3), (56, (21, [0, 63], []), 3), (59, (16, [0], []), 1), (60, (51, [148, 1, 9], []), 3), (63, (16, [0], []), 1), (64, (40, [], []), 1), (65, (30, [9, 23], []), 3), (68, (0, [], [1]), 1), (69, (4, [], []), 1), (70, (31, [9, 23, 0], []), 3), (73, (61, [], []), 1), (74, (0, [], [0]), 1), (75, (2, [2], []), 1), (76, (1, [2], []), 1), (77, (16, [0], []), 1), (78, (30, [9, 1], []), 3), (81, (22, [3, 112], []), 3), (84, (16, [0], []), 1), (85, (30, [9, 4], []), 3), (88, (1, [1], []), 1), (89, (1, [2], []), 1), (90, (34, [], []), 1), (91, (16, [0], []), 1), (92, (1, [2], []), 1), (93, (51, [123, 2, 9], []), 3), (96, (21, [1, 106], []), 3), (99, (16, [0], []), 1), (100, (1, [1], []), 1), (101, (0, [], [1]), 1), (102, (4, [], []), 1), (103, (51, [147, 2, 9], []), 3), (106, (3, [2], [1]), 3), (109, (20, [76], []), 3), (112, (16, [0], []), 1), (113, (30, [9, 4], []), 3), (116, (1, [1], []), 1), (117, (0, [], [-1]), 1), (118, (34, [], []), 1), (119, (61, [], []), 1)]
theorem t_M_listGo : mMt n_M_listGo = (9, ⟨"KeptColoursModel", "list", "(I)V"⟩, prog_11_method_42_code, 3, none, 0, 1133, 1132, 47, 75, 1) := rfl
theorem h_M_listGo : mChk (mMt n_M_listGo) k_M_listGo = true := by decide +kernel
abbrev n_M_mark : Nat := 148
def k_M_mark : mCode := [(0, (0, [], [0]), 1), (1, (2, [1], []), 1), (2, (1, [1], []), 1), (3, (16, [0], []), 1), (4, (30, [9, 0], []), 3), (7, (22, [3, 23], []), 3), (10, (16, [0], []), 1), (11, (30, [9, 30], []), 3), (14, (1, [1], []), 1), (15, (1, [1], []), 1), (16, (34, [], []), 1), (17, (3, [1], [1]), 3), (20, (20, [2], []), 3), (23, (16, [0], []), 1), (24, (30, [9, 28], []), 3), (27, (16, [0], []), 1), (28, (51, [149, 1, 9], []), 3), (31, (35, [], []), 1), (32, (21, [0, 36], []), 3), (35, (61, [], []), 1), (36, (16, [0], []), 1), (37, (40, [], []), 1), (38, (30, [9, 29], []), 3), (41, (0, [], [1]), 1), (42, (4, [], []), 1), (43, (31, [9, 29, 0], []), 3), (46, (16, [0], []), 1), (47, (0, [], [0]), 1), (48, (0, [], [0]), 1), (49, (51, [150, 3, 9], []), 3), (52, (61, [], []), 1)]
theorem t_M_mark : mMt n_M_mark = (9, ⟨"KeptColoursModel", "mark", "()V"⟩, prog_11_method_45_code, 2, none, 0, 1137, 1136, 48, 75, 0) := rfl
theorem h_M_mark : mChk (mMt n_M_mark) k_M_mark = true := by decide +kernel
abbrev n_M_codeBy : Nat := 149
def k_M_codeBy : mCode := [(0, (0, [], [0]), 1), (1, (2, [1], []), 1), (2, (16, [0], []), 1), (3, (30, [9, 0], []), 3), (6, (0, [], [1]), 1), (7, (5, [], []), 1), (8, (2, [2], []), 1), (9, (1, [2], []), 1), (10, (0, [], [1]), 1), (11, (22, [2, 62], []), 3), (14, (1, [2], []), 1), (15, (0, [], [1]), 1), (16, (5, [], []), 1), (17, (2, [3], []), 1), (18, (1, [3], []), 1), (19, (21, [2, 56], []), 3), (22, (1, [1], []), 1), (23, (16, [0], []), 1), (24, (30, [9, 1], []), 3), (27, (6, [], []), 1), (28, (16, [0], []), 1), (29, (30, [9, 4], []), 3), (32, (16, [0], []), 1), (33, (30, [9, 30], []), 3), (36, (1, [3], []), 1), (37, (33, [], []), 1), (38, (16, [0], []), 1), (39, (30, [9, 30], []), 3), (42, (1, [2], []), 1), (43, (33, [], []), 1), (44, (50, [117, 2], []), 3), (47, (33, [], []), 1), (48, (4, [], []), 1), (49, (2, [1], []), 1), (50, (3, [3], [-1]), 3), (53, (20, [18], []), 3), (56, (3, [2], [-1]), 3), (59, (20, [9], []), 3), (62, (1, [1], []), 1), (63, (60, [], []), 1)]
theorem t_M_codeBy : mMt n_M_codeBy = (9, ⟨"KeptColoursModel", "codeBy", "()I"⟩, prog_11_method_43_code, 4, (some .int), 0, 1141, 1140, 49, 75, 0) := rfl
theorem h_M_codeBy : mChk (mMt n_M_codeBy) k_M_codeBy = true := by decide +kernel
abbrev n_M_markAll : Nat := 150
def k_M_markAll : mCode := [(0, (1, [1], []), 1), (1, (16, [0], []), 1), (2, (30, [9, 0], []), 3), (5, (22, [1, 19], []), 3), (8, (16, [0], []), 1), (9, (30, [9, 28], []), 3), (12, (16, [0], []), 1), (13, (51, [149, 1, 9], []), 3), (16, (0, [], [1]), 1), (17, (36, [], []), 1), (18, (61, [], []), 1), (19, (0, [], [0]), 1), (20, (2, [3], []), 1), (21, (1, [3], []), 1), (22, (16, [0], []), 1), (23, (30, [9, 0], []), 3), (26, (22, [3, 62], []), 3), (29, (1, [2], []), 1), (30, (1, [3], []), 1), (31, (13, [], []), 1), (32, (0, [], [1]), 1), (33, (9, [], []), 1), (34, (21, [1, 56], []), 3), (37, (16, [0], []), 1), (38, (30, [9, 30], []), 3), (41, (1, [1], []), 1), (42, (1, [3], []), 1), (43, (34, [], []), 1), (44, (16, [0], []), 1), (45, (1, [1], []), 1), (46, (0, [], [1]), 1), (47, (4, [], []), 1), (48, (1, [2], []), 1), (49, (0, [], [1]), 1), (50, (1, [3], []), 1), (51, (12, [], []), 1), (52, (10, [], []), 1), (53, (51, [150, 3, 9], []), 3), (56, (3, [3], [1]), 3), (59, (20, [21], []), 3), (62, (61, [], []), 1)]
theorem t_M_markAll : mMt n_M_markAll = (9, ⟨"KeptColoursModel", "markAll", "(II)V"⟩, prog_11_method_44_code, 4, none, 0, 1145, 1144, 50, 75, 2) := rfl
theorem h_M_markAll : mChk (mMt n_M_markAll) k_M_markAll = true := by decide +kernel
abbrev n_M_listed : Nat := 151
def k_M_listed : mCode := [(0, (1, [1], []), 1), (1, (0, [], [1]), 1), (2, (0, [], [12]), 2), (4, (50, [108, 3], []), 3), (7, (21, [0, 14], []), 3), (10, (1, [2], []), 1), (11, (21, [3, 17], []), 3), (14, (0, [], [-1000000001]), 2), (16, (60, [], []), 1), (17, (16, [0], []), 1), (18, (1, [1], []), 1), (19, (51, [145, 2, 9], []), 3), (22, (21, [0, 28], []), 3), (25, (0, [], [-1000000004]), 2), (27, (60, [], []), 1), (28, (16, [0], []), 1), (29, (1, [1], []), 1), (30, (1, [2], []), 1), (31, (0, [], [0]), 1), (32, (51, [146, 4, 9], []), 3), (35, (16, [0], []), 1), (36, (30, [9, 25], []), 3), (39, (21, [1, 45], []), 3), (42, (0, [], [-1000000005]), 2), (44, (60, [], []), 1), (45, (16, [0], []), 1), (46, (51, [109, 1, 9], []), 3), (49, (16, [0], []), 1), (50, (1, [1], []), 1), (51, (31, [9, 0, 0], []), 3), (54, (16, [0], []), 1), (55, (51, [105, 1, 9], []), 3), (58, (0, [], [0]), 1), (59, (2, [3], []), 1), (60, (1, [3], []), 1), (61, (16, [0], []), 1), (62, (30, [9, 0], []), 3), (65, (50, [110, 1], []), 3), (68, (22, [3, 89], []), 3), (71, (16, [0], []), 1), (72, (30, [9, 4], []), 3), (75, (1, [3], []), 1), (76, (16, [0], []), 1), (77, (30, [9, 26], []), 3), (80, (1, [3], []), 1), (81, (33, [], []), 1), (82, (34, [], []), 1), (83, (3, [3], [1]), 3), (86, (20, [60], []), 3), (89, (16, [0], []), 1), (90, (30, [9, 0], []), 3), (93, (50, [110, 1], []), 3), (96, (60, [], []), 1)]
theorem t_M_listed : mMt n_M_listed = (9, ⟨"KeptColoursModel", "listed", "(II)I"⟩, prog_11_method_49_code, 4, (some .int), 0, 1149, 1147, 1148, 75, 2) := rfl
theorem h_M_listed : mChk (mMt n_M_listed) k_M_listed = true := by decide +kernel
abbrev n_M_form : Nat := 152
def k_M_form : mCode := [(0, (1, [1], []), 1), (1, (0, [], [0]), 1), (2, (16, [0], []), 1), (3, (30, [9, 0], []), 3), (6, (50, [110, 1], []), 3), (9, (0, [], [1]), 1), (10, (5, [], []), 1), (11, (50, [108, 3], []), 3), (14, (21, [1, 20], []), 3), (17, (0, [], [-1000000001]), 2), (19, (60, [], []), 1), (20, (16, [0], []), 1), (21, (30, [9, 0], []), 3), (24, (0, [], [7]), 2), (26, (22, [5, 32], []), 3), (29, (0, [], [-1000000004]), 2), (31, (60, [], []), 1), (32, (16, [0], []), 1), (33, (51, [153, 1, 9], []), 3), (36, (16, [0], []), 1), (37, (30, [9, 31], []), 3), (40, (1, [1], []), 1), (41, (33, [], []), 1), (42, (60, [], []), 1)]
theorem t_M_form : mMt n_M_form = (9, ⟨"KeptColoursModel", "form", "(I)I"⟩, prog_11_method_53_code, 2, (some .int), 0, 1153, 1151, 1152, 75, 1) := rfl
theorem h_M_form : mChk (mMt n_M_form) k_M_form = true := by decide +kernel
abbrev n_M_findForm : Nat := 153
def k_M_findForm : mCode := [(0, (16, [0], []), 1), (1, (0, [], [0]), 1), (2, (31, [9, 32, 1], []), 3), (5, (16, [0], []), 1), (6, (0, [], [0]), 1), (7, (31, [9, 33, 0], []), 3), (10, (16, [0], []), 1), (11, (0, [], [0]), 1), (12, (0, [], [0]), 1), (13, (51, [154, 3, 9], []), 3), (16, (61, [], []), 1)]
theorem t_M_findForm : mMt n_M_findForm = (9, ⟨"KeptColoursModel", "findForm", "()V"⟩, prog_11_method_52_code, 1, none, 0, 1157, 1156, 51, 75, 0) := rfl
theorem h_M_findForm : mChk (mMt n_M_findForm) k_M_findForm = true := by decide +kernel
abbrev n_M_goForms : Nat := 154
def k_M_goForms : mCode := [(0, (1, [1], []), 1), (1, (16, [0], []), 1), (2, (30, [9, 0], []), 3), (5, (22, [1, 125], []), 3), (8, (16, [0], []), 1), (9, (30, [9, 32], []), 3), (12, (21, [0, 22], []), 3), (15, (16, [0], []), 1), (16, (51, [155, 1, 9], []), 3), (19, (20, [23], []), 3), (22, (0, [], [-1]), 1), (23, (2, [3], []), 1), (24, (1, [3], []), 1), (25, (21, [3, 106], []), 3), (28, (0, [], [1]), 1), (29, (2, [4], []), 2), (31, (1, [4], []), 2), (33, (16, [0], []), 1), (34, (30, [9, 0], []), 3), (37, (22, [3, 96], []), 3), (40, (0, [], [0]), 1), (41, (2, [5], []), 2), (43, (1, [5], []), 2), (45, (1, [4], []), 2), (47, (22, [3, 90], []), 3), (50, (16, [0], []), 1), (51, (30, [9, 31], []), 3), (54, (1, [5], []), 2), (56, (1, [4], []), 2), (58, (50, [117, 2], []), 3), (61, (16, [0], []), 1), (62, (30, [9, 4], []), 3), (65, (16, [0], []), 1), (66, (30, [9, 30], []), 3), (69, (1, [5], []), 2), (71, (33, [], []), 1), (72, (16, [0], []), 1), (73, (30, [9, 30], []), 3), (76, (1, [4], []), 2), (78, (33, [], []), 1), (79, (50, [117, 2], []), 3), (82, (33, [], []), 1), (83, (34, [], []), 1), (84, (3, [5], [1]), 3), (87, (20, [43], []), 3), (90, (3, [4], [1]), 3), (93, (20, [31], []), 3), (96, (16, [0], []), 1), (97, (0, [], [1]), 1), (98, (31, [9, 32, 1], []), 3), (101, (16, [0], []), 1), (102, (0, [], [0]), 1), (103, (31, [9, 33, 0], []), 3), (106, (16, [0], []), 1), (107, (40, [], []), 1), (108, (30, [9, 33], []), 3), (111, (1, [3], []), 1), (112, (21, [4, 119], []), 3), (115, (0, [], [1]), 1), (116, (20, [120], []), 3), (119, (0, [], [0]), 1), (120, (4, [], []), 1), (121, (31, [9, 33, 0], []), 3), (124, (61, [], []), 1), (125, (0, [], [0]), 1), (126, (2, [3], []), 1), (127, (1, [3], []), 1), (128, (16, [0], []), 1), (129, (30, [9, 0], []), 3), (132, (22, [3, 168], []), 3), (135, (1, [2], []), 1), (136, (1, [3], []), 1), (137, (13, [], []), 1), (138, (0, [], [1]), 1), (139, (9, [], []), 1), (140, (21, [1, 162], []), 3), (143, (16, [0], []), 1), (144, (30, [9, 30], []), 3), (147, (1, [1], []), 1), (148, (1, [3], []), 1), (149, (34, [], []), 1), (150, (16, [0], []), 1), (151, (1, [1], []), 1), (152, (0, [], [1]), 1), (153, (4, [], []), 1), (154, (1, [2], []), 1), (155, (0, [], [1]), 1), (156, (1, [3], []), 1), (157, (12, [], []), 1), (158, (10, [], []), 1), (159, (51, [154, 3, 9], []), 3), (162, (3, [3], [1]), 3), (165, (20, [127], []), 3), (168, (61, [], []), 1)]
theorem t_M_goForms : mMt n_M_goForms = (9, ⟨"KeptColoursModel", "goForms", "(II)V"⟩, prog_11_method_51_code, 6, none, 0, 1161, 1160, 52, 75, 2) := rfl
theorem h_M_goForms : mChk (mMt n_M_goForms) k_M_goForms = true := by decide +kernel
abbrev n_M_against : Nat := 155
def k_M_against : mCode := [(0, (0, [], [1]), 1), (1, (2, [1], []), 1), (2, (1, [1], []), 1), (3, (16, [0], []), 1), (4, (30, [9, 0], []), 3), (7, (22, [3, 84], []), 3), (10, (0, [], [0]), 1), (11, (2, [2], []), 1), (12, (1, [2], []), 1), (13, (1, [1], []), 1), (14, (22, [3, 78], []), 3), (17, (16, [0], []), 1), (18, (30, [9, 4], []), 3), (21, (16, [0], []), 1), (22, (30, [9, 30], []), 3), (25, (1, [2], []), 1), (26, (33, [], []), 1), (27, (16, [0], []), 1), (28, (30, [9, 30], []), 3), (31, (1, [1], []), 1), (32, (33, [], []), 1), (33, (50, [117, 2], []), 3), (36, (33, [], []), 1), (37, (2, [3], []), 1), (38, (1, [3], []), 1), (39, (16, [0], []), 1), (40, (30, [9, 31], []), 3), (43, (1, [2], []), 1), (44, (1, [1], []), 1), (45, (50, [117, 2], []), 3), (48, (33, [], []), 1), (49, (22, [0, 72], []), 3), (52, (1, [3], []), 1), (53, (16, [0], []), 1), (54, (30, [9, 31], []), 3), (57, (1, [2], []), 1), (58, (1, [1], []), 1), (59, (50, [117, 2], []), 3), (62, (33, [], []), 1), (63, (22, [3, 70], []), 3), (66, (0, [], [-1]), 1), (67, (20, [71], []), 3), (70, (0, [], [1]), 1), (71, (60, [], []), 1), (72, (3, [2], [1]), 3), (75, (20, [12], []), 3), (78, (3, [1], [1]), 3), (81, (20, [2], []), 3), (84, (0, [], [0]), 1), (85, (60, [], []), 1)]
theorem t_M_against : mMt n_M_against = (9, ⟨"KeptColoursModel", "against", "()I"⟩, prog_11_method_50_code, 4, (some .int), 0, 1165, 1164, 53, 75, 0) := rfl
theorem h_M_against : mChk (mMt n_M_against) k_M_against = true := by decide +kernel
abbrev n_M_same : Nat := 156
def k_M_same : mCode := [(0, (16, [0], []), 1), (1, (30, [9, 0], []), 3), (4, (0, [], [7]), 2), (6, (22, [5, 12], []), 3), (9, (0, [], [-1000000004]), 2), (11, (60, [], []), 1), (12, (16, [0], []), 1), (13, (51, [153, 1, 9], []), 3), (16, (16, [0], []), 1), (17, (30, [9, 33], []), 3), (20, (60, [], []), 1)]
theorem t_M_same : mMt n_M_same = (9, ⟨"KeptColoursModel", "same", "()I"⟩, prog_11_method_54_code, 1, (some .int), 0, 1169, 1167, 1168, 75, 0) := rfl
theorem h_M_same : mChk (mMt n_M_same) k_M_same = true := by decide +kernel
abbrev n_M_puts : Nat := 157
def k_M_puts : mCode := [(0, (16, [0], []), 1), (1, (0, [], [-1]), 1), (2, (51, [158, 2, 9], []), 3), (5, (2, [1], []), 1), (6, (1, [1], []), 1), (7, (21, [3, 14], []), 3), (10, (1, [1], []), 1), (11, (20, [18], []), 3), (14, (16, [0], []), 1), (15, (30, [9, 34], []), 3), (18, (60, [], []), 1)]
theorem t_M_puts : mMt n_M_puts = (9, ⟨"KeptColoursModel", "puts", "()I"⟩, prog_11_method_57_code, 2, (some .int), 0, 1173, 1171, 1172, 75, 0) := rfl
theorem h_M_puts : mChk (mMt n_M_puts) k_M_puts = true := by decide +kernel
abbrev n_M_findPuts : Nat := 158
def k_M_findPuts : mCode := [(0, (16, [0], []), 1), (1, (30, [9, 0], []), 3), (4, (0, [], [12]), 2), (6, (22, [1, 12], []), 3), (9, (0, [], [-1000000003]), 2), (11, (60, [], []), 1), (12, (16, [0], []), 1), (13, (30, [9, 1], []), 3), (16, (16, [0], []), 1), (17, (30, [9, 0], []), 3), (20, (50, [138, 2], []), 3), (23, (0, [], [60000]), 2), (25, (22, [5, 31], []), 3), (28, (0, [], [-1000000004]), 2), (30, (60, [], []), 1), (31, (16, [0], []), 1), (32, (51, [159, 1, 9], []), 3), (35, (21, [4, 45], []), 3), (38, (16, [0], []), 1), (39, (51, [122, 1, 9], []), 3), (42, (21, [1, 48], []), 3), (45, (0, [], [-1000000002]), 2), (47, (60, [], []), 1), (48, (16, [0], []), 1), (49, (0, [], [0]), 1), (50, (31, [9, 34, 0], []), 3), (53, (16, [0], []), 1), (54, (1, [1], []), 1), (55, (31, [9, 35, 0], []), 3), (58, (16, [0], []), 1), (59, (0, [], [0]), 1), (60, (31, [9, 36, 1], []), 3), (63, (16, [0], []), 1), (64, (40, [], []), 1), (65, (30, [9, 0], []), 3), (68, (0, [], [1]), 1), (69, (4, [], []), 1), (70, (31, [9, 0, 0], []), 3), (73, (0, [], [0]), 1), (74, (2, [2], []), 1), (75, (1, [2], []), 1), (76, (16, [0], []), 1), (77, (30, [9, 0], []), 3), (80, (0, [], [1]), 1), (81, (5, [], []), 1), (82, (22, [3, 107], []), 3), (85, (16, [0], []), 1), (86, (30, [9, 4], []), 3), (89, (1, [2], []), 1), (90, (16, [0], []), 1), (91, (30, [9, 0], []), 3), (94, (0, [], [1]), 1), (95, (5, [], []), 1), (96, (50, [117, 2], []), 3), (99, (0, [], [-1]), 1), (100, (34, [], []), 1), (101, (3, [2], [1]), 3), (104, (20, [75], []), 3), (107, (16, [0], []), 1), (108, (0, [], [0]), 1), (109, (51, [160, 2, 9], []), 3), (112, (16, [0], []), 1), (113, (40, [], []), 1), (114, (30, [9, 0], []), 3), (117, (0, [], [1]), 1), (118, (5, [], []), 1), (119, (31, [9, 0, 0], []), 3), (122, (0, [], [0]), 1), (123, (60, [], []), 1)]
theorem t_M_findPuts : mMt n_M_findPuts = (9, ⟨"KeptColoursModel", "findPuts", "(I)I"⟩, prog_11_method_56_code, 3, (some .int), 0, 1177, 1176, 54, 75, 1) := rfl
theorem h_M_findPuts : mChk (mMt n_M_findPuts) k_M_findPuts = true := by decide +kernel
abbrev n_M_bare : Nat := 159
def k_M_bare : mCode := [(0, (0, [], [0]), 1), (1, (2, [1], []), 1), (2, (0, [], [0]), 1), (3, (2, [2], []), 1), (4, (1, [2], []), 1), (5, (16, [0], []), 1), (6, (30, [9, 0], []), 3), (9, (50, [110, 1], []), 3), (12, (22, [3, 38], []), 3), (15, (1, [1], []), 1), (16, (16, [0], []), 1), (17, (30, [9, 4], []), 3), (20, (1, [2], []), 1), (21, (33, [], []), 1), (22, (21, [3, 29], []), 3), (25, (0, [], [1]), 1), (26, (20, [30], []), 3), (29, (0, [], [0]), 1), (30, (4, [], []), 1), (31, (2, [1], []), 1), (32, (3, [2], [1]), 3), (35, (20, [4], []), 3), (38, (1, [1], []), 1), (39, (60, [], []), 1)]
theorem t_M_bare : mMt n_M_bare = (9, ⟨"KeptColoursModel", "bare", "()I"⟩, prog_11_method_29_code, 3, (some .int), 0, 1182, 1181, 55, 75, 0) := rfl
theorem h_M_bare : mChk (mMt n_M_bare) k_M_bare = true := by decide +kernel
abbrev n_M_goPut : Nat := 160
def k_M_goPut : mCode := [(0, (1, [1], []), 1), (1, (16, [0], []), 1), (2, (30, [9, 0], []), 3), (5, (0, [], [1]), 1), (6, (5, [], []), 1), (7, (22, [1, 66], []), 3), (10, (16, [0], []), 1), (11, (30, [9, 34], []), 3), (14, (16, [0], []), 1), (15, (30, [9, 35], []), 3), (18, (22, [1, 55], []), 3), (21, (16, [0], []), 1), (22, (0, [], [1]), 1), (23, (31, [9, 36, 1], []), 3), (26, (0, [], [0]), 1), (27, (2, [2], []), 1), (28, (1, [2], []), 1), (29, (1, [1], []), 1), (30, (22, [3, 55], []), 3), (33, (16, [0], []), 1), (34, (30, [9, 37], []), 3), (37, (1, [2], []), 1), (38, (16, [0], []), 1), (39, (30, [9, 4], []), 3), (42, (1, [2], []), 1), (43, (1, [1], []), 1), (44, (50, [117, 2], []), 3), (47, (33, [], []), 1), (48, (34, [], []), 1), (49, (3, [2], [1]), 3), (52, (20, [28], []), 3), (55, (16, [0], []), 1), (56, (40, [], []), 1), (57, (30, [9, 34], []), 3), (60, (0, [], [1]), 1), (61, (4, [], []), 1), (62, (31, [9, 34, 0], []), 3), (65, (61, [], []), 1), (66, (1, [1], []), 1), (67, (16, [0], []), 1), (68, (30, [9, 0], []), 3), (71, (0, [], [1]), 1), (72, (5, [], []), 1), (73, (50, [117, 2], []), 3), (76, (2, [2], []), 1), (77, (0, [], [0]), 1), (78, (2, [3], []), 1), (79, (1, [3], []), 1), (80, (16, [0], []), 1), (81, (30, [9, 1], []), 3), (84, (22, [3, 115], []), 3), (87, (16, [0], []), 1), (88, (30, [9, 4], []), 3), (91, (1, [2], []), 1), (92, (1, [3], []), 1), (93, (34, [], []), 1), (94, (16, [0], []), 1), (95, (1, [3], []), 1), (96, (51, [123, 2, 9], []), 3), (99, (21, [1, 109], []), 3), (102, (16, [0], []), 1), (103, (1, [1], []), 1), (104, (0, [], [1]), 1), (105, (4, [], []), 1), (106, (51, [160, 2, 9], []), 3), (109, (3, [3], [1]), 3), (112, (20, [79], []), 3), (115, (16, [0], []), 1), (116, (30, [9, 4], []), 3), (119, (1, [2], []), 1), (120, (0, [], [-1]), 1), (121, (34, [], []), 1), (122, (61, [], []), 1)]
theorem t_M_goPut : mMt n_M_goPut = (9, ⟨"KeptColoursModel", "goPut", "(I)V"⟩, prog_11_method_55_code, 4, none, 0, 1186, 1185, 56, 75, 1) := rfl
theorem h_M_goPut : mChk (mMt n_M_goPut) k_M_goPut = true := by decide +kernel
abbrev n_M_put : Nat := 161
def k_M_put : mCode := [(0, (16, [0], []), 1), (1, (1, [1], []), 1), (2, (51, [158, 2, 9], []), 3), (5, (2, [2], []), 1), (6, (1, [2], []), 1), (7, (21, [3, 12], []), 3), (10, (1, [2], []), 1), (11, (60, [], []), 1), (12, (1, [1], []), 1), (13, (21, [3, 19], []), 3), (16, (0, [], [-1000000001]), 2), (18, (60, [], []), 1), (19, (16, [0], []), 1), (20, (30, [9, 36], []), 3), (23, (21, [1, 29], []), 3), (26, (0, [], [-1000000005]), 2), (28, (60, [], []), 1), (29, (16, [0], []), 1), (30, (51, [109, 1, 9], []), 3), (33, (16, [0], []), 1), (34, (40, [], []), 1), (35, (30, [9, 0], []), 3), (38, (0, [], [1]), 1), (39, (4, [], []), 1), (40, (31, [9, 0, 0], []), 3), (43, (0, [], [0]), 1), (44, (2, [3], []), 1), (45, (1, [3], []), 1), (46, (16, [0], []), 1), (47, (30, [9, 0], []), 3), (50, (0, [], [1]), 1), (51, (5, [], []), 1), (52, (22, [3, 82], []), 3), (55, (16, [0], []), 1), (56, (30, [9, 4], []), 3), (59, (1, [3], []), 1), (60, (16, [0], []), 1), (61, (30, [9, 0], []), 3), (64, (0, [], [1]), 1), (65, (5, [], []), 1), (66, (50, [117, 2], []), 3), (69, (16, [0], []), 1), (70, (30, [9, 37], []), 3), (73, (1, [3], []), 1), (74, (33, [], []), 1), (75, (34, [], []), 1), (76, (3, [3], [1]), 3), (79, (20, [45], []), 3), (82, (16, [0], []), 1), (83, (30, [9, 0], []), 3), (86, (60, [], []), 1)]
theorem t_M_put : mMt n_M_put = (9, ⟨"KeptColoursModel", "put", "(I)I"⟩, prog_11_method_58_code, 4, (some .int), 0, 1190, 1188, 1189, 75, 1) := rfl
theorem h_M_put : mChk (mMt n_M_put) k_M_put = true := by decide +kernel
abbrev n_M_drop : Nat := 162
def k_M_drop : mCode := [(0, (16, [0], []), 1), (1, (30, [9, 0], []), 3), (4, (0, [], [1]), 1), (5, (22, [1, 11], []), 3), (8, (0, [], [-1000000002]), 2), (10, (60, [], []), 1), (11, (16, [0], []), 1), (12, (51, [109, 1, 9], []), 3), (15, (16, [0], []), 1), (16, (40, [], []), 1), (17, (30, [9, 0], []), 3), (20, (0, [], [1]), 1), (21, (5, [], []), 1), (22, (31, [9, 0, 0], []), 3), (25, (0, [], [0]), 1), (26, (2, [1], []), 1), (27, (1, [1], []), 1), (28, (16, [0], []), 1), (29, (30, [9, 0], []), 3), (32, (22, [3, 55], []), 3), (35, (16, [0], []), 1), (36, (30, [9, 4], []), 3), (39, (1, [1], []), 1), (40, (16, [0], []), 1), (41, (30, [9, 0], []), 3), (44, (50, [117, 2], []), 3), (47, (0, [], [-1]), 1), (48, (34, [], []), 1), (49, (3, [1], [1]), 3), (52, (20, [27], []), 3), (55, (16, [0], []), 1), (56, (30, [9, 0], []), 3), (59, (60, [], []), 1)]
theorem t_M_drop : mMt n_M_drop = (9, ⟨"KeptColoursModel", "drop", "()I"⟩, prog_11_method_59_code, 2, (some .int), 0, 1194, 1192, 1193, 75, 0) := rfl
theorem h_M_drop : mChk (mMt n_M_drop) k_M_drop = true := by decide +kernel
abbrev n_M_fill : Nat := 163
def k_M_fill : mCode := [(0, (1, [1], []), 1), (1, (0, [], [1]), 1), (2, (0, [], [20000]), 3), (5, (50, [108, 3], []), 3), (8, (21, [1, 14], []), 3), (11, (0, [], [-1000000001]), 2), (13, (60, [], []), 1), (14, (16, [0], []), 1), (15, (51, [142, 1, 9], []), 3), (18, (16, [0], []), 1), (19, (1, [1], []), 1), (20, (0, [], [0]), 1), (21, (51, [164, 3, 9], []), 3), (24, (2, [2], []), 1), (25, (16, [0], []), 1), (26, (30, [9, 41], []), 3), (29, (21, [0, 40], []), 3), (32, (16, [0], []), 1), (33, (51, [143, 1, 9], []), 3), (36, (0, [], [-1000000006]), 3), (39, (60, [], []), 1), (40, (16, [0], []), 1), (41, (16, [0], []), 1), (42, (30, [9, 39], []), 3), (45, (31, [9, 38, 0], []), 3), (48, (1, [2], []), 1), (49, (21, [1, 58], []), 3), (52, (16, [0], []), 1), (53, (51, [143, 1, 9], []), 3), (56, (0, [], [0]), 1), (57, (60, [], []), 1), (58, (0, [], [0]), 1), (59, (2, [3], []), 1), (60, (1, [3], []), 1), (61, (0, [], [66]), 2), (63, (22, [3, 100], []), 3), (66, (16, [0], []), 1), (67, (30, [9, 22], []), 3), (70, (1, [3], []), 1), (71, (33, [], []), 1), (72, (2, [4], []), 2), (74, (16, [0], []), 1), (75, (30, [9, 22], []), 3), (78, (1, [3], []), 1), (79, (16, [0], []), 1), (80, (30, [9, 4], []), 3), (83, (1, [3], []), 1), (84, (33, [], []), 1), (85, (34, [], []), 1), (86, (16, [0], []), 1), (87, (30, [9, 4], []), 3), (90, (1, [3], []), 1), (91, (1, [4], []), 2), (93, (34, [], []), 1), (94, (3, [3], [1]), 3), (97, (20, [60], []), 3), (100, (16, [0], []), 1), (101, (51, [109, 1, 9], []), 3), (104, (16, [0], []), 1), (105, (51, [143, 1, 9], []), 3), (108, (0, [], [1]), 1), (109, (60, [], []), 1)]
theorem t_M_fill : mMt n_M_fill = (9, ⟨"KeptColoursModel", "fill", "(I)I"⟩, prog_11_method_64_code, 5, (some .int), 0, 1198, 1196, 1197, 75, 1) := rfl
theorem h_M_fill : mChk (mMt n_M_fill) k_M_fill = true := by decide +kernel
abbrev n_M_fills : Nat := 164
def k_M_fills : mCode := [(0, (16, [0], []), 1), (1, (0, [], [0]), 1), (2, (31, [9, 39, 0], []), 3), (5, (16, [0], []), 1), (6, (1, [1], []), 1), (7, (31, [9, 40, 0], []), 3), (10, (16, [0], []), 1), (11, (0, [], [0]), 1), (12, (31, [9, 41, 1], []), 3), (15, (16, [0], []), 1), (16, (1, [2], []), 1), (17, (31, [9, 44, 1], []), 3), (20, (16, [0], []), 1), (21, (0, [], [0]), 1), (22, (31, [9, 45, 0], []), 3), (25, (16, [0], []), 1), (26, (51, [122, 1, 9], []), 3), (29, (21, [0, 43], []), 3), (32, (16, [0], []), 1), (33, (51, [165, 1, 9], []), 3), (36, (21, [0, 43], []), 3), (39, (0, [], [1]), 1), (40, (20, [44], []), 3), (43, (0, [], [0]), 1), (44, (62, [], []), 1)]
theorem t_M_fills : mMt n_M_fills = (9, ⟨"KeptColoursModel", "fills", "(IZ)Z"⟩, prog_11_method_63_code, 3, (some .boolean), 0, 1202, 1201, 57, 75, 2) := rfl
theorem h_M_fills : mChk (mMt n_M_fills) k_M_fills = true := by decide +kernel
abbrev n_M_fillFrom : Nat := 165
def k_M_fillFrom : mCode := [(0, (16, [0], []), 1), (1, (51, [166, 1, 9], []), 3), (4, (2, [1], []), 1), (5, (1, [1], []), 1), (6, (21, [3, 11], []), 3), (9, (0, [], [1]), 1), (10, (62, [], []), 1), (11, (0, [], [0]), 1), (12, (2, [2], []), 1), (13, (1, [2], []), 1), (14, (16, [0], []), 1), (15, (30, [9, 1], []), 3), (18, (22, [3, 172], []), 3), (21, (16, [0], []), 1), (22, (30, [9, 39], []), 3), (25, (16, [0], []), 1), (26, (30, [9, 40], []), 3), (29, (22, [1, 46], []), 3), (32, (16, [0], []), 1), (33, (0, [], [1]), 1), (34, (31, [9, 41, 1], []), 3), (37, (16, [0], []), 1), (38, (30, [9, 4], []), 3), (41, (1, [1], []), 1), (42, (0, [], [-1]), 1), (43, (34, [], []), 1), (44, (0, [], [0]), 1), (45, (62, [], []), 1), (46, (16, [0], []), 1), (47, (40, [], []), 1), (48, (30, [9, 39], []), 3), (51, (0, [], [1]), 1), (52, (4, [], []), 1), (53, (31, [9, 39, 0], []), 3), (56, (16, [0], []), 1), (57, (30, [9, 4], []), 3), (60, (1, [1], []), 1), (61, (1, [2], []), 1), (62, (34, [], []), 1), (63, (16, [0], []), 1), (64, (1, [2], []), 1), (65, (51, [123, 2, 9], []), 3), (68, (2, [3], []), 1), (69, (16, [0], []), 1), (70, (30, [9, 44], []), 3), (73, (21, [0, 137], []), 3), (76, (16, [0], []), 1), (77, (30, [9, 42], []), 3), (80, (0, [], [3]), 1), (81, (16, [0], []), 1), (82, (30, [9, 45], []), 3), (85, (6, [], []), 1), (86, (1, [1], []), 1), (87, (34, [], []), 1), (88, (16, [0], []), 1), (89, (30, [9, 42], []), 3), (92, (0, [], [3]), 1), (93, (16, [0], []), 1), (94, (30, [9, 45], []), 3), (97, (6, [], []), 1), (98, (0, [], [1]), 1), (99, (4, [], []), 1), (100, (1, [2], []), 1), (101, (34, [], []), 1), (102, (16, [0], []), 1), (103, (30, [9, 42], []), 3), (106, (0, [], [3]), 1), (107, (16, [0], []), 1), (108, (30, [9, 45], []), 3), (111, (6, [], []), 1), (112, (0, [], [2]), 1), (113, (4, [], []), 1), (114, (1, [3], []), 1), (115, (21, [0, 125], []), 3), (118, (16, [0], []), 1), (119, (51, [167, 1, 9], []), 3), (122, (20, [126], []), 3), (125, (0, [], [0]), 1), (126, (34, [], []), 1), (127, (16, [0], []), 1), (128, (40, [], []), 1), (129, (30, [9, 45], []), 3), (132, (0, [], [1]), 1), (133, (4, [], []), 1), (134, (31, [9, 45, 0], []), 3), (137, (1, [3], []), 1), (138, (21, [1, 150], []), 3), (141, (16, [0], []), 1), (142, (51, [165, 1, 9], []), 3), (145, (21, [0, 150], []), 3), (148, (0, [], [1]), 1), (149, (62, [], []), 1), (150, (16, [0], []), 1), (151, (30, [9, 41], []), 3), (154, (21, [0, 166], []), 3), (157, (16, [0], []), 1), (158, (30, [9, 4], []), 3), (161, (1, [1], []), 1), (162, (0, [], [-1]), 1), (163, (34, [], []), 1), (164, (0, [], [0]), 1), (165, (62, [], []), 1), (166, (3, [2], [1]), 3), (169, (20, [13], []), 3), (172, (16, [0], []), 1), (173, (30, [9, 4], []), 3), (176, (1, [1], []), 1), (177, (0, [], [-1]), 1), (178, (34, [], []), 1), (179, (0, [], [0]), 1), (180, (62, [], []), 1)]
theorem t_M_fillFrom : mMt n_M_fillFrom = (9, ⟨"KeptColoursModel", "fillFrom", "()Z"⟩, prog_11_method_62_code, 4, (some .boolean), 0, 1206, 1205, 58, 75, 0) := rfl
theorem h_M_fillFrom : mChk (mMt n_M_fillFrom) k_M_fillFrom = true := by decide +kernel
abbrev n_M_nextBare : Nat := 166
def k_M_nextBare : mCode := [(0, (0, [], [0]), 1), (1, (2, [1], []), 1), (2, (1, [1], []), 1), (3, (16, [0], []), 1), (4, (30, [9, 0], []), 3), (7, (50, [110, 1], []), 3), (10, (22, [3, 30], []), 3), (13, (16, [0], []), 1), (14, (30, [9, 4], []), 3), (17, (1, [1], []), 1), (18, (33, [], []), 1), (19, (21, [3, 24], []), 3), (22, (1, [1], []), 1), (23, (60, [], []), 1), (24, (3, [1], [1]), 3), (27, (20, [2], []), 3), (30, (0, [], [-1]), 1), (31, (60, [], []), 1)]
theorem t_M_nextBare : mMt n_M_nextBare = (9, ⟨"KeptColoursModel", "nextBare", "()I"⟩, prog_11_method_60_code, 2, (some .int), 0, 1210, 1209, 59, 75, 0) := rfl
theorem h_M_nextBare : mChk (mMt n_M_nextBare) k_M_nextBare = true := by decide +kernel
abbrev n_M_firstBits : Nat := 167
def k_M_firstBits : mCode := [(0, (0, [], [0]), 1), (1, (2, [1], []), 1), (2, (0, [], [0]), 1), (3, (2, [2], []), 1), (4, (1, [2], []), 1), (5, (16, [0], []), 1), (6, (30, [9, 17], []), 3), (9, (22, [3, 29], []), 3), (12, (1, [1], []), 1), (13, (0, [], [1]), 1), (14, (16, [0], []), 1), (15, (30, [9, 16], []), 3), (18, (1, [2], []), 1), (19, (33, [], []), 1), (20, (12, [], []), 1), (21, (10, [], []), 1), (22, (2, [1], []), 1), (23, (3, [2], [1]), 3), (26, (20, [4], []), 3), (29, (1, [1], []), 1), (30, (60, [], []), 1)]
theorem t_M_firstBits : mMt n_M_firstBits = (9, ⟨"KeptColoursModel", "firstBits", "()I"⟩, prog_11_method_61_code, 3, (some .int), 0, 1214, 1213, 60, 75, 0) := rfl
theorem h_M_firstBits : mChk (mMt n_M_firstBits) k_M_firstBits = true := by decide +kernel
abbrev n_M_tries : Nat := 168
def k_M_tries : mCode := [(0, (16, [0], []), 1), (1, (30, [9, 38], []), 3), (4, (60, [], []), 1)]
theorem t_M_tries : mMt n_M_tries = (9, ⟨"KeptColoursModel", "tries", "()I"⟩, prog_11_method_65_code, 1, (some .int), 0, 1219, 1217, 1218, 75, 0) := rfl
theorem h_M_tries : mChk (mMt n_M_tries) k_M_tries = true := by decide +kernel
abbrev n_M_prove : Nat := 169
def k_M_prove : mCode := [(0, (16, [0], []), 1), (1, (51, [142, 1, 9], []), 3), (4, (16, [0], []), 1), (5, (51, [122, 1, 9], []), 3), (8, (2, [1], []), 1), (9, (16, [0], []), 1), (10, (0, [], [500]), 3), (13, (0, [], [1]), 1), (14, (51, [164, 3, 9], []), 3), (17, (2, [2], []), 1), (18, (16, [0], []), 1), (19, (51, [143, 1, 9], []), 3), (22, (1, [1], []), 1), (23, (21, [0, 30], []), 3), (26, (1, [2], []), 1), (27, (21, [0, 33], []), 3), (30, (0, [], [-1000000002]), 2), (32, (60, [], []), 1), (33, (16, [0], []), 1), (34, (30, [9, 41], []), 3), (37, (21, [0, 43], []), 3), (40, (0, [], [-1000000003]), 2), (42, (60, [], []), 1), (43, (16, [0], []), 1), (44, (16, [0], []), 1), (45, (30, [9, 45], []), 3), (48, (31, [9, 43, 0], []), 3), (51, (16, [0], []), 1), (52, (30, [9, 43], []), 3), (55, (60, [], []), 1)]
theorem t_M_prove : mMt n_M_prove = (9, ⟨"KeptColoursModel", "prove", "()I"⟩, prog_11_method_66_code, 3, (some .int), 0, 1223, 1221, 1222, 75, 0) := rfl
theorem h_M_prove : mChk (mMt n_M_prove) k_M_prove = true := by decide +kernel
abbrev n_M_row : Nat := 170
def k_M_row : mCode := [(0, (16, [0], []), 1), (1, (30, [9, 43], []), 3), (4, (21, [1, 10], []), 3), (7, (0, [], [-1000000002]), 2), (9, (60, [], []), 1), (10, (1, [1], []), 1), (11, (0, [], [0]), 1), (12, (16, [0], []), 1), (13, (30, [9, 43], []), 3), (16, (0, [], [1]), 1), (17, (5, [], []), 1), (18, (50, [108, 3], []), 3), (21, (21, [0, 46], []), 3), (24, (1, [2], []), 1), (25, (0, [], [0]), 1), (26, (0, [], [2]), 1), (27, (50, [108, 3], []), 3), (30, (21, [0, 46], []), 3), (33, (16, [0], []), 1), (34, (30, [9, 42], []), 3), (37, (0, [], [3]), 1), (38, (1, [1], []), 1), (39, (6, [], []), 1), (40, (1, [2], []), 1), (41, (4, [], []), 1), (42, (33, [], []), 1), (43, (20, [48], []), 3), (46, (0, [], [-1000000001]), 2), (48, (60, [], []), 1)]
theorem t_M_row : mMt n_M_row = (9, ⟨"KeptColoursModel", "row", "(II)I"⟩, prog_11_method_67_code, 3, (some .int), 0, 1227, 1225, 1226, 75, 2) := rfl
theorem h_M_row : mChk (mMt n_M_row) k_M_row = true := by decide +kernel
abbrev n_M_forge : Nat := 171
def k_M_forge : mCode := [(0, (16, [0], []), 1), (1, (30, [9, 43], []), 3), (4, (21, [1, 10], []), 3), (7, (0, [], [-1000000002]), 2), (9, (60, [], []), 1), (10, (1, [1], []), 1), (11, (0, [], [0]), 1), (12, (16, [0], []), 1), (13, (30, [9, 43], []), 3), (16, (0, [], [1]), 1), (17, (5, [], []), 1), (18, (50, [108, 3], []), 3), (21, (21, [0, 35], []), 3), (24, (1, [2], []), 1), (25, (0, [], [0]), 1), (26, (0, [], [4095]), 3), (29, (50, [108, 3], []), 3), (32, (21, [1, 38], []), 3), (35, (0, [], [-1000000001]), 2), (37, (60, [], []), 1), (38, (16, [0], []), 1), (39, (30, [9, 42], []), 3), (42, (0, [], [3]), 1), (43, (1, [1], []), 1), (44, (6, [], []), 1), (45, (0, [], [2]), 1), (46, (4, [], []), 1), (47, (33, [], []), 1), (48, (2, [3], []), 1), (49, (16, [0], []), 1), (50, (30, [9, 42], []), 3), (53, (0, [], [3]), 1), (54, (1, [1], []), 1), (55, (6, [], []), 1), (56, (0, [], [2]), 1), (57, (4, [], []), 1), (58, (1, [2], []), 1), (59, (34, [], []), 1), (60, (1, [3], []), 1), (61, (60, [], []), 1)]
theorem t_M_forge : mMt n_M_forge = (9, ⟨"KeptColoursModel", "forge", "(II)I"⟩, prog_11_method_68_code, 4, (some .int), 0, 1231, 1229, 1230, 75, 2) := rfl
theorem h_M_forge : mChk (mMt n_M_forge) k_M_forge = true := by decide +kernel
abbrev n_M_check : Nat := 172
def k_M_check : mCode := [(0, (16, [0], []), 1), (1, (30, [9, 43], []), 3), (4, (21, [1, 10], []), 3), (7, (0, [], [-1000000002]), 2), (9, (60, [], []), 1), (10, (16, [0], []), 1), (11, (51, [142, 1, 9], []), 3), (14, (16, [0], []), 1), (15, (0, [], [0]), 1), (16, (31, [9, 46, 0], []), 3), (19, (16, [0], []), 1), (20, (51, [173, 1, 9], []), 3), (23, (2, [1], []), 1), (24, (16, [0], []), 1), (25, (51, [143, 1, 9], []), 3), (28, (1, [1], []), 1), (29, (21, [0, 47], []), 3), (32, (16, [0], []), 1), (33, (30, [9, 46], []), 3), (36, (16, [0], []), 1), (37, (30, [9, 43], []), 3), (40, (22, [1, 47], []), 3), (43, (0, [], [0]), 1), (44, (20, [53], []), 3), (47, (0, [], [1]), 1), (48, (16, [0], []), 1), (49, (30, [9, 46], []), 3), (52, (4, [], []), 1), (53, (60, [], []), 1)]
theorem t_M_check : mMt n_M_check = (9, ⟨"KeptColoursModel", "check", "()I"⟩, prog_11_method_70_code, 2, (some .int), 0, 1235, 1233, 1234, 75, 0) := rfl
theorem h_M_check : mChk (mMt n_M_check) k_M_check = true := by decide +kernel
abbrev n_M_follows : Nat := 173
def k_M_follows : mCode := [(0, (16, [0], []), 1), (1, (51, [166, 1, 9], []), 3), (4, (2, [1], []), 1), (5, (0, [], [0]), 1), (6, (2, [2], []), 1), (7, (1, [2], []), 1), (8, (16, [0], []), 1), (9, (30, [9, 1], []), 3), (12, (22, [3, 165], []), 3), (15, (16, [0], []), 1), (16, (30, [9, 46], []), 3), (19, (16, [0], []), 1), (20, (30, [9, 43], []), 3), (23, (22, [0, 58], []), 3), (26, (16, [0], []), 1), (27, (30, [9, 42], []), 3), (30, (0, [], [3]), 1), (31, (16, [0], []), 1), (32, (30, [9, 46], []), 3), (35, (6, [], []), 1), (36, (33, [], []), 1), (37, (1, [1], []), 1), (38, (22, [1, 58], []), 3), (41, (16, [0], []), 1), (42, (30, [9, 42], []), 3), (45, (0, [], [3]), 1), (46, (16, [0], []), 1), (47, (30, [9, 46], []), 3), (50, (6, [], []), 1), (51, (0, [], [1]), 1), (52, (4, [], []), 1), (53, (33, [], []), 1), (54, (1, [2], []), 1), (55, (22, [0, 60], []), 3), (58, (0, [], [0]), 1), (59, (62, [], []), 1), (60, (16, [0], []), 1), (61, (30, [9, 4], []), 3), (64, (1, [1], []), 1), (65, (1, [2], []), 1), (66, (34, [], []), 1), (67, (16, [0], []), 1), (68, (30, [9, 42], []), 3), (71, (0, [], [3]), 1), (72, (16, [0], []), 1), (73, (30, [9, 46], []), 3), (76, (6, [], []), 1), (77, (0, [], [2]), 1), (78, (4, [], []), 1), (79, (33, [], []), 1), (80, (2, [3], []), 1), (81, (1, [3], []), 1), (82, (21, [0, 124], []), 3), (85, (16, [0], []), 1), (86, (1, [3], []), 1), (87, (31, [9, 20, 0], []), 3), (90, (16, [0], []), 1), (91, (1, [1], []), 1), (92, (31, [9, 21, 0], []), 3), (95, (16, [0], []), 1), (96, (1, [2], []), 1), (97, (0, [], [3]), 1), (98, (0, [], [0]), 1), (99, (51, [124, 4, 9], []), 3), (102, (16, [0], []), 1), (103, (30, [9, 15], []), 3), (106, (21, [1, 111], []), 3), (109, (0, [], [0]), 1), (110, (62, [], []), 1), (111, (16, [0], []), 1), (112, (40, [], []), 1), (113, (30, [9, 46], []), 3), (116, (0, [], [1]), 1), (117, (4, [], []), 1), (118, (31, [9, 46, 0], []), 3), (121, (20, [152], []), 3), (124, (16, [0], []), 1), (125, (51, [166, 1, 9], []), 3), (128, (21, [3, 133], []), 3), (131, (0, [], [0]), 1), (132, (62, [], []), 1), (133, (16, [0], []), 1), (134, (40, [], []), 1), (135, (30, [9, 46], []), 3), (138, (0, [], [1]), 1), (139, (4, [], []), 1), (140, (31, [9, 46, 0], []), 3), (143, (16, [0], []), 1), (144, (51, [173, 1, 9], []), 3), (147, (21, [1, 152], []), 3), (150, (0, [], [0]), 1), (151, (62, [], []), 1), (152, (16, [0], []), 1), (153, (30, [9, 4], []), 3), (156, (1, [1], []), 1), (157, (0, [], [-1]), 1), (158, (34, [], []), 1), (159, (3, [2], [1]), 3), (162, (20, [7], []), 3), (165, (0, [], [1]), 1), (166, (62, [], []), 1)]
theorem t_M_follows : mMt n_M_follows = (9, ⟨"KeptColoursModel", "follows", "()Z"⟩, prog_11_method_69_code, 4, (some .boolean), 0, 1239, 1238, 61, 75, 0) := rfl
theorem h_M_follows : mChk (mMt n_M_follows) k_M_follows = true := by decide +kernel
abbrev n_M_step : Nat := 174
def k_M_step : mCode := [(0, (1, [1], []), 1), (1, (0, [], [1]), 1), (2, (0, [], [30]), 2), (4, (50, [108, 3], []), 3), (7, (21, [1, 13], []), 3), (10, (0, [], [-1000000001]), 2), (12, (60, [], []), 1), (13, (16, [0], []), 1), (14, (51, [159, 1, 9], []), 3), (17, (21, [5, 23], []), 3), (20, (0, [], [-1000000002]), 2), (22, (60, [], []), 1), (23, (16, [0], []), 1), (24, (51, [109, 1, 9], []), 3), (27, (0, [], [0]), 1), (28, (2, [2], []), 1), (29, (1, [2], []), 1), (30, (1, [1], []), 1), (31, (22, [3, 47], []), 3), (34, (16, [0], []), 1), (35, (51, [175, 1, 9], []), 3), (38, (21, [0, 47], []), 3), (41, (3, [2], [1]), 3), (44, (20, [29], []), 3), (47, (1, [2], []), 1), (48, (60, [], []), 1)]
theorem t_M_step : mMt n_M_step = (9, ⟨"KeptColoursModel", "step", "(I)I"⟩, prog_11_method_73_code, 3, (some .int), 0, 1243, 1241, 1242, 75, 1) := rfl
theorem h_M_step : mChk (mMt n_M_step) k_M_step = true := by decide +kernel
abbrev n_M_walks : Nat := 175
def k_M_walks : mCode := [(0, (0, [], [0]), 1), (1, (2, [1], []), 1), (2, (0, [], [-1]), 1), (3, (2, [2], []), 1), (4, (0, [], [-1]), 1), (5, (2, [3], []), 1), (6, (0, [], [0]), 1), (7, (2, [4], []), 2), (9, (1, [4], []), 2), (11, (0, [], [66]), 2), (13, (22, [3, 30], []), 3), (16, (16, [0], []), 1), (17, (30, [9, 18], []), 3), (20, (1, [4], []), 2), (22, (0, [], [0]), 1), (23, (34, [], []), 1), (24, (3, [4], [1]), 3), (27, (20, [9], []), 3), (30, (0, [], [0]), 1), (31, (2, [4], []), 2), (33, (1, [4], []), 2), (35, (16, [0], []), 1), (36, (30, [9, 1], []), 3), (39, (22, [3, 101], []), 3), (42, (16, [0], []), 1), (43, (51, [176, 1, 9], []), 3), (46, (16, [0], []), 1), (47, (1, [4], []), 2), (49, (0, [], [2]), 1), (50, (0, [], [1]), 1), (51, (51, [124, 4, 9], []), 3), (54, (0, [], [0]), 1), (55, (2, [5], []), 2), (57, (1, [5], []), 2), (59, (16, [0], []), 1), (60, (30, [9, 0], []), 3), (63, (50, [110, 1], []), 3), (66, (22, [3, 95], []), 3), (69, (16, [0], []), 1), (70, (30, [9, 47], []), 3), (73, (0, [], [66]), 2), (75, (1, [4], []), 2), (77, (6, [], []), 1), (78, (1, [5], []), 2), (80, (4, [], []), 1), (81, (16, [0], []), 1), (82, (30, [9, 19], []), 3), (85, (1, [5], []), 2), (87, (33, [], []), 1), (88, (34, [], []), 1), (89, (3, [5], [1]), 3), (92, (20, [57], []), 3), (95, (3, [4], [1]), 3), (98, (20, [33], []), 3), (101, (0, [], [0]), 1), (102, (2, [4], []), 2), (104, (1, [4], []), 2), (106, (16, [0], []), 1), (107, (30, [9, 0], []), 3), (110, (50, [110, 1], []), 3), (113, (22, [3, 190], []), 3), (116, (0, [], [0]), 1), (117, (2, [5], []), 2), (119, (1, [5], []), 2), (121, (16, [0], []), 1), (122, (30, [9, 1], []), 3), (125, (22, [3, 184], []), 3), (128, (16, [0], []), 1), (129, (30, [9, 18], []), 3), (132, (1, [4], []), 2), (134, (33, [], []), 1), (135, (16, [0], []), 1), (136, (30, [9, 47], []), 3), (139, (0, [], [66]), 2), (141, (1, [5], []), 2), (143, (6, [], []), 1), (144, (1, [4], []), 2), (146, (4, [], []), 1), (147, (33, [], []), 1), (148, (5, [], []), 1), (149, (2, [6], []), 2), (151, (1, [5], []), 2), (153, (16, [0], []), 1), (154, (30, [9, 4], []), 3), (157, (1, [4], []), 2), (159, (33, [], []), 1), (160, (22, [0, 178], []), 3), (163, (1, [6], []), 2), (165, (1, [1], []), 1), (166, (22, [5, 178], []), 3), (169, (1, [6], []), 2), (171, (2, [1], []), 1), (172, (1, [4], []), 2), (174, (2, [2], []), 1), (175, (1, [5], []), 2), (177, (2, [3], []), 1), (178, (3, [5], [1]), 3), (181, (20, [119], []), 3), (184, (3, [4], [1]), 3), (187, (20, [104], []), 3), (190, (1, [2], []), 1), (191, (21, [3, 196], []), 3), (194, (0, [], [0]), 1), (195, (62, [], []), 1), (196, (16, [0], []), 1), (197, (30, [9, 4], []), 3), (200, (1, [2], []), 1), (201, (1, [3], []), 1), (202, (34, [], []), 1), (203, (0, [], [1]), 1), (204, (62, [], []), 1)]
theorem t_M_walks : mMt n_M_walks = (9, ⟨"KeptColoursModel", "walks", "()Z"⟩, prog_11_method_71_code, 7, (some .boolean), 0, 1247, 1246, 62, 75, 0) := rfl
theorem h_M_walks : mChk (mMt n_M_walks) k_M_walks = true := by decide +kernel
abbrev n_M_clearGained : Nat := 176
def k_M_clearGained : mCode := [(0, (0, [], [0]), 1), (1, (2, [1], []), 1), (2, (1, [1], []), 1), (3, (0, [], [66]), 2), (5, (22, [3, 21], []), 3), (8, (16, [0], []), 1), (9, (30, [9, 19], []), 3), (12, (1, [1], []), 1), (13, (0, [], [0]), 1), (14, (34, [], []), 1), (15, (3, [1], [1]), 3), (18, (20, [2], []), 3), (21, (61, [], []), 1)]
theorem t_M_clearGained : mMt n_M_clearGained = (9, ⟨"KeptColoursModel", "clearGained", "()V"⟩, prog_11_method_72_code, 2, none, 0, 1251, 1250, 63, 75, 0) := rfl
theorem h_M_clearGained : mChk (mMt n_M_clearGained) k_M_clearGained = true := by decide +kernel
abbrev n_M_count : Nat := 177
def k_M_count : mCode := [(0, (1, [1], []), 1), (1, (23, [70, 40, 45, 50, 55, 60, 65], [0]), 39), (40, (16, [0], []), 1), (41, (30, [9, 0], []), 3), (44, (60, [], []), 1), (45, (16, [0], []), 1), (46, (30, [9, 1], []), 3), (49, (60, [], []), 1), (50, (16, [0], []), 1), (51, (51, [159, 1, 9], []), 3), (54, (60, [], []), 1), (55, (16, [0], []), 1), (56, (51, [140, 1, 9], []), 3), (59, (60, [], []), 1), (60, (16, [0], []), 1), (61, (30, [9, 6], []), 3), (64, (60, [], []), 1), (65, (16, [0], []), 1), (66, (30, [9, 43], []), 3), (69, (60, [], []), 1), (70, (0, [], [-1000000001]), 2), (72, (60, [], []), 1)]
theorem t_M_count : mMt n_M_count = (9, ⟨"KeptColoursModel", "count", "(I)I"⟩, prog_11_method_74_code, 2, (some .int), 0, 1255, 1253, 1254, 75, 1) := rfl
theorem h_M_count : mChk (mMt n_M_count) k_M_count = true := by decide +kernel
end
section
/-! contracts: fewer, weaker, deeper -/
theorem mMet_mono {l : Launch} {y : MethodName} {ws : List Cond} {rm : Room} {Pc : Array Value → State → Prop} {Qc Qd : Array Value → State → Outcome → State → Prop} {mc ms : Nat} {free : Addr → Prop} (h : Met l y ws rm Pc Qc mc ms free) (hq : ∀ a st o t, Qc a st o t → Qd a st o t) : Met l y ws rm Pc Qd mc ms free :=
  MetFree.mono h (fun _ _ q => q) (fun _ _ _ _ _ q => q) (fun a s o s' _ q => ⟨hq a s o s' q.1, q.2⟩)
theorem mCon_mono {l : Launch} {g : mG} {m d : Nat} {as : List mRV} {h : mMem} {K K' : Option mRV → mMem → Prop} (hc : mCon l g m d as h K) (hk : ∀ v h', K v h' → K' v h') : mCon l g m d as h K' := fun hv hm =>
  mMet_mono (hc hv hm) (fun _ _ _ _ ⟨⟨v, h', e1, e2, e3⟩, e4⟩ => ⟨⟨v, h', e1, hk v h' e2, e3⟩, e4⟩)
theorem mRoom_mono {s : State} {pl : Platform} {r r' : Room} (hf : r.frames ≤ r'.frames) (hl : r.locals ≤ r'.locals) (hc : r.cells ≤ r'.cells) (hs : r.slots ≤ r'.slots) (h : s.hasRoom pl r' = true) : s.hasRoom pl r = true := by
  simp only [State.hasRoom, Bool.and_eq_true, decide_eq_true_eq] at h ⊢
  obtain ⟨⟨⟨⟨y, a, b, c, d, e⟩, f⟩, g⟩, i⟩ := h
  exact ⟨⟨⟨⟨by omega, by omega, by omega, by omega, by omega, e⟩, by omega⟩, by omega⟩, i⟩
theorem mRoom_le {s : State} {pl : Platform} {d d' : Nat} (hd : d ≤ d') (h : s.hasRoom pl (mRm d') = true) : s.hasRoom pl (mRm d) = true :=
  mRoom_mono (r := mRm d) (r' := mRm d') hd (Nat.mul_le_mul_left 100 hd) (Nat.le_refl _) (Nat.le_refl _) h
theorem mCon_lift {l : Launch} {g : mG} {m d d' : Nat} {as : List mRV} {h : mMem} {K : Option mRV → mMem → Prop} (hd : d ≤ d') (hc : mCon l g m d as h K) : mCon l g m d' as h K := by
  intro hv hm p e ha hcs hk s mm args below hfr happ hP hK
  obtain ⟨a1, a2, a3, a4, a5, a6, a7, a8⟩ := (Spec.appliesLoose_iff hfr).mp happ
  exact hc hv hm p e ha hcs hk s mm args below hfr ((Spec.appliesLoose_iff hfr).mpr ⟨a1, a2, a3, a4, a5, a6, mRoom_le hd a7, a8⟩) hP hK
/-- the answer v, the memory h -/
def mIs (v : Option mRV) (h : mMem) : Option mRV → mMem → Prop := fun r h1 => r = v ∧ h1 = h
theorem mCall_on2 {l : Launch} {g : mG} {m d : Nat} {as : List mRV} {h : mMem} {K Kc : Option mRV → mMem → Prop} (hc : mCon l g m d as h K) (k : ∀ v h', K v h' → Kc v h') : mCall l g (d + 1) m as h Kc := mCon_mono hc k
theorem mCall_is {l : Launch} {g : mG} {m d : Nat} {as : List mRV} {h h' : mMem} {v : Option mRV} {Kc : Option mRV → mMem → Prop} (hc : mCon l g m d as h (mIs v h')) (k : Kc v h') : mCall l g (d + 1) m as h Kc :=
  mCall_on2 hc (fun _ _ ⟨e1, e2⟩ => by rw [e1, e2]; exact k)
end
section
theorem mMl_len : mMl.length = 178 := by decide +kernel
theorem mCon_in {l : Launch} {g : mG} {m d nL : Nat} {as : List mRV} {xs : mXs} {h : mMem} {K : Option mRV → mMem → Prop} (hm : m < 178) (hL : (mMt m).2.2.2.1 = nL) (hx : mXs0 as nL = xs) (hl : as.length ≤ nL)
    (k : (∀ a ∈ as, mV a) → mMok h → mGo l g (mMt m) d 0 xs [] h K) : mCon l g m d as h K := by
  subst hL
  subst hx
  exact mCon_of (by rw [mMl_len]; exact hm) hl k
theorem e_Arr_fill {l : Launch} {g : mG} {d : Nat} {h : mMem} {K : Option mRV → mMem → Prop} {a0 a1 : mRV} (k : (∀ a ∈ ([a0, a1] : List mRV), mV a) → mMok h → mGo l g (mMt n_Arr_fill) d 0 [some a0, some a1, none, none] [] h K) : mCon l g n_Arr_fill d [a0, a1] h K := mCon_in (nL := 4) (by decide) (by rw [t_Arr_fill]) rfl (by simp) (fun hv hm => k (fun a ha => hv a ha) hm)
theorem e_K_net {l : Launch} {g : mG} {d : Nat} {h : mMem} {K : Option mRV → mMem → Prop} {a0 a1 a2 : mRV} (k : (∀ a ∈ ([a0, a1, a2] : List mRV), mV a) → mMok h → mGo l g (mMt n_K_net) d 0 [some a0, some a1, some a2] [] h K) : mCon l g n_K_net d [a0, a1, a2] h K := mCon_in (nL := 3) (by decide) (by rw [t_K_net]) rfl (by simp) (fun hv hm => k (fun a ha => hv a ha) hm)
theorem e_K_remember {l : Launch} {g : mG} {d : Nat} {h : mMem} {K : Option mRV → mMem → Prop} {a0 : mRV} (k : (∀ a ∈ ([a0] : List mRV), mV a) → mMok h → mGo l g (mMt n_K_remember) d 0 [some a0] [] h K) : mCon l g n_K_remember d [a0] h K := mCon_in (nL := 1) (by decide) (by rw [t_K_remember]) rfl (by simp) (fun hv hm => k (fun a ha => hv a ha) hm)
theorem e_History_keep {l : Launch} {g : mG} {d : Nat} {h : mMem} {K : Option mRV → mMem → Prop} {a0 a1 : mRV} (k : (∀ a ∈ ([a0, a1] : List mRV), mV a) → mMok h → mGo l g (mMt n_History_keep) d 0 [some a0, some a1] [] h K) : mCon l g n_History_keep d [a0, a1] h K := mCon_in (nL := 2) (by decide) (by rw [t_History_keep]) rfl (by simp) (fun hv hm => k (fun a ha => hv a ha) hm)
theorem e_Net_become {l : Launch} {g : mG} {d : Nat} {h : mMem} {K : Option mRV → mMem → Prop} {a0 a1 : mRV} (k : (∀ a ∈ ([a0, a1] : List mRV), mV a) → mMok h → mGo l g (mMt n_Net_become) d 0 [some a0, some a1] [] h K) : mCon l g n_Net_become d [a0, a1] h K := mCon_in (nL := 2) (by decide) (by rw [t_Net_become]) rfl (by simp) (fun hv hm => k (fun a ha => hv a ha) hm)
theorem e_Math_min {l : Launch} {g : mG} {d : Nat} {h : mMem} {K : Option mRV → mMem → Prop} {a0 a1 : mRV} (k : (∀ a ∈ ([a0, a1] : List mRV), mV a) → mMok h → mGo l g (mMt n_Math_min) d 0 [some a0, some a1] [] h K) : mCon l g n_Math_min d [a0, a1] h K := mCon_in (nL := 2) (by decide) (by rw [t_Math_min]) rfl (by simp) (fun hv hm => k (fun a ha => hv a ha) hm)
theorem e_Proof_forget {l : Launch} {g : mG} {d : Nat} {h : mMem} {K : Option mRV → mMem → Prop} {a0 : mRV} (k : (∀ a ∈ ([a0] : List mRV), mV a) → mMok h → mGo l g (mMt n_Proof_forget) d 0 [some a0] [] h K) : mCon l g n_Proof_forget d [a0] h K := mCon_in (nL := 1) (by decide) (by rw [t_Proof_forget]) rfl (by simp) (fun hv hm => k (fun a ha => hv a ha) hm)
theorem e_Net_layOut {l : Launch} {g : mG} {d : Nat} {h : mMem} {K : Option mRV → mMem → Prop} {a0 a1 a2 : mRV} (k : (∀ a ∈ ([a0, a1, a2] : List mRV), mV a) → mMok h → mGo l g (mMt n_Net_layOut) d 0 [some a0, some a1, some a2, none] [] h K) : mCon l g n_Net_layOut d [a0, a1, a2] h K := mCon_in (nL := 4) (by decide) (by rw [t_Net_layOut]) rfl (by simp) (fun hv hm => k (fun a ha => hv a ha) hm)
theorem e_Net_joinCount {l : Launch} {g : mG} {d : Nat} {h : mMem} {K : Option mRV → mMem → Prop} {a0 : mRV} (k : (∀ a ∈ ([a0] : List mRV), mV a) → mMok h → mGo l g (mMt n_Net_joinCount) d 0 [some a0] [] h K) : mCon l g n_Net_joinCount d [a0] h K := mCon_in (nL := 1) (by decide) (by rw [t_Net_joinCount]) rfl (by simp) (fun hv hm => k (fun a ha => hv a ha) hm)
theorem e_K_target {l : Launch} {g : mG} {d : Nat} {h : mMem} {K : Option mRV → mMem → Prop} {a0 a1 a2 a3 : mRV} (k : (∀ a ∈ ([a0, a1, a2, a3] : List mRV), mV a) → mMok h → mGo l g (mMt n_K_target) d 0 [some a0, some a1, some a2, some a3] [] h K) : mCon l g n_K_target d [a0, a1, a2, a3] h K := mCon_in (nL := 4) (by decide) (by rw [t_K_target]) rfl (by simp) (fun hv hm => k (fun a ha => hv a ha) hm)
theorem e_Net_hasColour {l : Launch} {g : mG} {d : Nat} {h : mMem} {K : Option mRV → mMem → Prop} {a0 a1 : mRV} (k : (∀ a ∈ ([a0, a1] : List mRV), mV a) → mMok h → mGo l g (mMt n_Net_hasColour) d 0 [some a0, some a1] [] h K) : mCon l g n_Net_hasColour d [a0, a1] h K := mCon_in (nL := 2) (by decide) (by rw [t_Net_hasColour]) rfl (by simp) (fun hv hm => k (fun a ha => hv a ha) hm)
theorem e_K_paint {l : Launch} {g : mG} {d : Nat} {h : mMem} {K : Option mRV → mMem → Prop} {a0 a1 a2 a3 : mRV} (k : (∀ a ∈ ([a0, a1, a2, a3] : List mRV), mV a) → mMok h → mGo l g (mMt n_K_paint) d 0 [some a0, some a1, some a2, some a3, none, none] [] h K) : mCon l g n_K_paint d [a0, a1, a2, a3] h K := mCon_in (nL := 6) (by decide) (by rw [t_K_paint]) rfl (by simp) (fun hv hm => k (fun a ha => hv a ha) hm)
theorem e_Net_hasJoin {l : Launch} {g : mG} {d : Nat} {h : mMem} {K : Option mRV → mMem → Prop} {a0 a1 a2 : mRV} (k : (∀ a ∈ ([a0, a1, a2] : List mRV), mV a) → mMok h → mGo l g (mMt n_Net_hasJoin) d 0 [some a0, some a1, some a2] [] h K) : mCon l g n_Net_hasJoin d [a0, a1, a2] h K := mCon_in (nL := 3) (by decide) (by rw [t_Net_hasJoin]) rfl (by simp) (fun hv hm => k (fun a ha => hv a ha) hm)
theorem e_Net_hasPoint {l : Launch} {g : mG} {d : Nat} {h : mMem} {K : Option mRV → mMem → Prop} {a0 a1 : mRV} (k : (∀ a ∈ ([a0, a1] : List mRV), mV a) → mMok h → mGo l g (mMt n_Net_hasPoint) d 0 [some a0, some a1] [] h K) : mCon l g n_Net_hasPoint d [a0, a1] h K := mCon_in (nL := 2) (by decide) (by rw [t_Net_hasPoint]) rfl (by simp) (fun hv hm => k (fun a ha => hv a ha) hm)
theorem e_Net_hasColourOrBare {l : Launch} {g : mG} {d : Nat} {h : mMem} {K : Option mRV → mMem → Prop} {a0 a1 : mRV} (k : (∀ a ∈ ([a0, a1] : List mRV), mV a) → mMok h → mGo l g (mMt n_Net_hasColourOrBare) d 0 [some a0, some a1] [] h K) : mCon l g n_Net_hasColourOrBare d [a0, a1] h K := mCon_in (nL := 2) (by decide) (by rw [t_Net_hasColourOrBare]) rfl (by simp) (fun hv hm => k (fun a ha => hv a ha) hm)
theorem e_K_numberOf {l : Launch} {g : mG} {d : Nat} {h : mMem} {K : Option mRV → mMem → Prop} {a0 a1 : mRV} (k : (∀ a ∈ ([a0, a1] : List mRV), mV a) → mMok h → mGo l g (mMt n_K_numberOf) d 0 [some a0, some a1] [] h K) : mCon l g n_K_numberOf d [a0, a1] h K := mCon_in (nL := 2) (by decide) (by rw [t_K_numberOf]) rfl (by simp) (fun hv hm => k (fun a ha => hv a ha) hm)
theorem e_Net_give {l : Launch} {g : mG} {d : Nat} {h : mMem} {K : Option mRV → mMem → Prop} {a0 a1 a2 : mRV} (k : (∀ a ∈ ([a0, a1, a2] : List mRV), mV a) → mMok h → mGo l g (mMt n_Net_give) d 0 [some a0, some a1, some a2] [] h K) : mCon l g n_Net_give d [a0, a1, a2] h K := mCon_in (nL := 3) (by decide) (by rw [t_Net_give]) rfl (by simp) (fun hv hm => k (fun a ha => hv a ha) hm)
theorem e_Net_flip {l : Launch} {g : mG} {d : Nat} {h : mMem} {K : Option mRV → mMem → Prop} {a0 a1 a2 : mRV} (k : (∀ a ∈ ([a0, a1, a2] : List mRV), mV a) → mMok h → mGo l g (mMt n_Net_flip) d 0 [some a0, some a1, some a2] [] h K) : mCon l g n_Net_flip d [a0, a1, a2] h K := mCon_in (nL := 3) (by decide) (by rw [t_Net_flip]) rfl (by simp) (fun hv hm => k (fun a ha => hv a ha) hm)
theorem e_K_colour {l : Launch} {g : mG} {d : Nat} {h : mMem} {K : Option mRV → mMem → Prop} {a0 a1 a2 : mRV} (k : (∀ a ∈ ([a0, a1, a2] : List mRV), mV a) → mMok h → mGo l g (mMt n_K_colour) d 0 [some a0, some a1, some a2] [] h K) : mCon l g n_K_colour d [a0, a1, a2] h K := mCon_in (nL := 3) (by decide) (by rw [t_K_colour]) rfl (by simp) (fun hv hm => k (fun a ha => hv a ha) hm)
theorem e_K_aim {l : Launch} {g : mG} {d : Nat} {h : mMem} {K : Option mRV → mMem → Prop} {a0 a1 a2 : mRV} (k : (∀ a ∈ ([a0, a1, a2] : List mRV), mV a) → mMok h → mGo l g (mMt n_K_aim) d 0 [some a0, some a1, some a2] [] h K) : mCon l g n_K_aim d [a0, a1, a2] h K := mCon_in (nL := 3) (by decide) (by rw [t_K_aim]) rfl (by simp) (fun hv hm => k (fun a ha => hv a ha) hm)
theorem e_K_isOf {l : Launch} {g : mG} {d : Nat} {h : mMem} {K : Option mRV → mMem → Prop} {a0 a1 a2 : mRV} (k : (∀ a ∈ ([a0, a1, a2] : List mRV), mV a) → mMok h → mGo l g (mMt n_K_isOf) d 0 [some a0, some a1, some a2, none, none] [] h K) : mCon l g n_K_isOf d [a0, a1, a2] h K := mCon_in (nL := 5) (by decide) (by rw [t_K_isOf]) rfl (by simp) (fun hv hm => k (fun a ha => hv a ha) hm)
theorem e_K_clear {l : Launch} {g : mG} {d : Nat} {h : mMem} {K : Option mRV → mMem → Prop} {a0 : mRV} (k : (∀ a ∈ ([a0] : List mRV), mV a) → mMok h → mGo l g (mMt n_K_clear) d 0 [some a0] [] h K) : mCon l g n_K_clear d [a0] h K := mCon_in (nL := 1) (by decide) (by rw [t_K_clear]) rfl (by simp) (fun hv hm => k (fun a ha => hv a ha) hm)
theorem e_Finder_hasAny {l : Launch} {g : mG} {d : Nat} {h : mMem} {K : Option mRV → mMem → Prop} {a0 a1 : mRV} (k : (∀ a ∈ ([a0, a1] : List mRV), mV a) → mMok h → mGo l g (mMt n_Finder_hasAny) d 0 [some a0, some a1, none] [] h K) : mCon l g n_Finder_hasAny d [a0, a1] h K := mCon_in (nL := 3) (by decide) (by rw [t_Finder_hasAny]) rfl (by simp) (fun hv hm => k (fun a ha => hv a ha) hm)
theorem e_Finder_findFirst {l : Launch} {g : mG} {d : Nat} {h : mMem} {K : Option mRV → mMem → Prop} {a0 a1 a2 : mRV} (k : (∀ a ∈ ([a0, a1, a2] : List mRV), mV a) → mMok h → mGo l g (mMt n_Finder_findFirst) d 0 [some a0, some a1, some a2] [] h K) : mCon l g n_Finder_findFirst d [a0, a1, a2] h K := mCon_in (nL := 3) (by decide) (by rw [t_Finder_findFirst]) rfl (by simp) (fun hv hm => k (fun a ha => hv a ha) hm)
theorem e_Finder_lookAt {l : Launch} {g : mG} {d : Nat} {h : mMem} {K : Option mRV → mMem → Prop} {a0 a1 a2 : mRV} (k : (∀ a ∈ ([a0, a1, a2] : List mRV), mV a) → mMok h → mGo l g (mMt n_Finder_lookAt) d 0 [some a0, some a1, some a2] [] h K) : mCon l g n_Finder_lookAt d [a0, a1, a2] h K := mCon_in (nL := 3) (by decide) (by rw [t_Finder_lookAt]) rfl (by simp) (fun hv hm => k (fun a ha => hv a ha) hm)
theorem e_Net_copyLength {l : Launch} {g : mG} {d : Nat} {h : mMem} {K : Option mRV → mMem → Prop} {a0 a1 : mRV} (k : (∀ a ∈ ([a0, a1] : List mRV), mV a) → mMok h → mGo l g (mMt n_Net_copyLength) d 0 [some a0, some a1] [] h K) : mCon l g n_Net_copyLength d [a0, a1] h K := mCon_in (nL := 2) (by decide) (by rw [t_Net_copyLength]) rfl (by simp) (fun hv hm => k (fun a ha => hv a ha) hm)
theorem e_Net_copyNears {l : Launch} {g : mG} {d : Nat} {h : mMem} {K : Option mRV → mMem → Prop} {a0 a1 a2 : mRV} (k : (∀ a ∈ ([a0, a1, a2] : List mRV), mV a) → mMok h → mGo l g (mMt n_Net_copyNears) d 0 [some a0, some a1, some a2] [] h K) : mCon l g n_Net_copyNears d [a0, a1, a2] h K := mCon_in (nL := 3) (by decide) (by rw [t_Net_copyNears]) rfl (by simp) (fun hv hm => k (fun a ha => hv a ha) hm)
theorem e_Net_pointBits {l : Launch} {g : mG} {d : Nat} {h : mMem} {K : Option mRV → mMem → Prop} {a0 : mRV} (k : (∀ a ∈ ([a0] : List mRV), mV a) → mMok h → mGo l g (mMt n_Net_pointBits) d 0 [some a0] [] h K) : mCon l g n_Net_pointBits d [a0] h K := mCon_in (nL := 1) (by decide) (by rw [t_Net_pointBits]) rfl (by simp) (fun hv hm => k (fun a ha => hv a ha) hm)
theorem e_Finder_findFrom {l : Launch} {g : mG} {d : Nat} {h : mMem} {K : Option mRV → mMem → Prop} {a0 a1 a2 a3 : mRV} (k : (∀ a ∈ ([a0, a1, a2, a3] : List mRV), mV a) → mMok h → mGo l g (mMt n_Finder_findFrom) d 0 [some a0, some a1, some a2, some a3, none, none] [] h K) : mCon l g n_Finder_findFrom d [a0, a1, a2, a3] h K := mCon_in (nL := 6) (by decide) (by rw [t_Finder_findFrom]) rfl (by simp) (fun hv hm => k (fun a ha => hv a ha) hm)
theorem e_Finder_isRestFree {l : Launch} {g : mG} {d : Nat} {h : mMem} {K : Option mRV → mMem → Prop} {a0 a1 : mRV} (k : (∀ a ∈ ([a0, a1] : List mRV), mV a) → mMok h → mGo l g (mMt n_Finder_isRestFree) d 0 [some a0, some a1] [] h K) : mCon l g n_Finder_isRestFree d [a0, a1] h K := mCon_in (nL := 2) (by decide) (by rw [t_Finder_isRestFree]) rfl (by simp) (fun hv hm => k (fun a ha => hv a ha) hm)
theorem e_Finder_takeLeast {l : Launch} {g : mG} {d : Nat} {h : mMem} {K : Option mRV → mMem → Prop} {a0 a1 a2 : mRV} (k : (∀ a ∈ ([a0, a1, a2] : List mRV), mV a) → mMok h → mGo l g (mMt n_Finder_takeLeast) d 0 [some a0, some a1, some a2, none, none] [] h K) : mCon l g n_Finder_takeLeast d [a0, a1, a2] h K := mCon_in (nL := 5) (by decide) (by rw [t_Finder_takeLeast]) rfl (by simp) (fun hv hm => k (fun a ha => hv a ha) hm)
theorem e_Finder_candidatesAfter {l : Launch} {g : mG} {d : Nat} {h : mMem} {K : Option mRV → mMem → Prop} {a0 a1 a2 a3 : mRV} (k : (∀ a ∈ ([a0, a1, a2, a3] : List mRV), mV a) → mMok h → mGo l g (mMt n_Finder_candidatesAfter) d 0 [some a0, some a1, some a2, some a3, none, none, none] [] h K) : mCon l g n_Finder_candidatesAfter d [a0, a1, a2, a3] h K := mCon_in (nL := 7) (by decide) (by rw [t_Finder_candidatesAfter]) rfl (by simp) (fun hv hm => k (fun a ha => hv a ha) hm)
theorem e_K_above {l : Launch} {g : mG} {d : Nat} {h : mMem} {K : Option mRV → mMem → Prop} {a0 : mRV} (k : (∀ a ∈ ([a0] : List mRV), mV a) → mMok h → mGo l g (mMt n_K_above) d 0 [some a0] [] h K) : mCon l g n_K_above d [a0] h K := mCon_in (nL := 1) (by decide) (by rw [t_K_above]) rfl (by simp) (fun hv hm => k (fun a ha => hv a ha) hm)
theorem e_K_copies {l : Launch} {g : mG} {d : Nat} {h : mMem} {K : Option mRV → mMem → Prop} {a0 a1 : mRV} (k : (∀ a ∈ ([a0, a1] : List mRV), mV a) → mMok h → mGo l g (mMt n_K_copies) d 0 [some a0, some a1] [] h K) : mCon l g n_K_copies d [a0, a1] h K := mCon_in (nL := 2) (by decide) (by rw [t_K_copies]) rfl (by simp) (fun hv hm => k (fun a ha => hv a ha) hm)
theorem e_Finder_howMany {l : Launch} {g : mG} {d : Nat} {h : mMem} {K : Option mRV → mMem → Prop} {a0 a1 a2 : mRV} (k : (∀ a ∈ ([a0, a1, a2] : List mRV), mV a) → mMok h → mGo l g (mMt n_Finder_howMany) d 0 [some a0, some a1, some a2] [] h K) : mCon l g n_Finder_howMany d [a0, a1, a2] h K := mCon_in (nL := 3) (by decide) (by rw [t_Finder_howMany]) rfl (by simp) (fun hv hm => k (fun a ha => hv a ha) hm)
theorem e_Finder_countFrom {l : Launch} {g : mG} {d : Nat} {h : mMem} {K : Option mRV → mMem → Prop} {a0 a1 a2 a3 : mRV} (k : (∀ a ∈ ([a0, a1, a2, a3] : List mRV), mV a) → mMok h → mGo l g (mMt n_Finder_countFrom) d 0 [some a0, some a1, some a2, some a3, none, none, none] [] h K) : mCon l g n_Finder_countFrom d [a0, a1, a2, a3] h K := mCon_in (nL := 7) (by decide) (by rw [t_Finder_countFrom]) rfl (by simp) (fun hv hm => k (fun a ha => hv a ha) hm)
theorem e_Int_bitCount {l : Launch} {g : mG} {d : Nat} {h : mMem} {K : Option mRV → mMem → Prop} {a0 : mRV} (k : (∀ a ∈ ([a0] : List mRV), mV a) → mMok h → mGo l g (mMt n_Int_bitCount) d 0 [some a0] [] h K) : mCon l g n_Int_bitCount d [a0] h K := mCon_in (nL := 1) (by decide) (by rw [t_Int_bitCount]) rfl (by simp) (fun hv hm => k (fun a ha => hv a ha) hm)
theorem e_K_choose {l : Launch} {g : mG} {d : Nat} {h : mMem} {K : Option mRV → mMem → Prop} {a0 a1 : mRV} (k : (∀ a ∈ ([a0, a1] : List mRV), mV a) → mMok h → mGo l g (mMt n_K_choose) d 0 [some a0, some a1, none, none] [] h K) : mCon l g n_K_choose d [a0, a1] h K := mCon_in (nL := 4) (by decide) (by rw [t_K_choose]) rfl (by simp) (fun hv hm => k (fun a ha => hv a ha) hm)
theorem e_K_copy {l : Launch} {g : mG} {d : Nat} {h : mMem} {K : Option mRV → mMem → Prop} {a0 a1 a2 : mRV} (k : (∀ a ∈ ([a0, a1, a2] : List mRV), mV a) → mMok h → mGo l g (mMt n_K_copy) d 0 [some a0, some a1, some a2] [] h K) : mCon l g n_K_copy d [a0, a1, a2] h K := mCon_in (nL := 3) (by decide) (by rw [t_K_copy]) rfl (by simp) (fun hv hm => k (fun a ha => hv a ha) hm)
theorem e_K_degree {l : Launch} {g : mG} {d : Nat} {h : mMem} {K : Option mRV → mMem → Prop} {a0 a1 a2 : mRV} (k : (∀ a ∈ ([a0, a1, a2] : List mRV), mV a) → mMok h → mGo l g (mMt n_K_degree) d 0 [some a0, some a1, some a2, none, none] [] h K) : mCon l g n_K_degree d [a0, a1, a2] h K := mCon_in (nL := 5) (by decide) (by rw [t_K_degree]) rfl (by simp) (fun hv hm => k (fun a ha => hv a ha) hm)
theorem e_K_triangles {l : Launch} {g : mG} {d : Nat} {h : mMem} {K : Option mRV → mMem → Prop} {a0 : mRV} (k : (∀ a ∈ ([a0] : List mRV), mV a) → mMok h → mGo l g (mMt n_K_triangles) d 0 [some a0, none, none, none, none] [] h K) : mCon l g n_K_triangles d [a0] h K := mCon_in (nL := 5) (by decide) (by rw [t_K_triangles]) rfl (by simp) (fun hv hm => k (fun a ha => hv a ha) hm)
theorem e_K_least {l : Launch} {g : mG} {d : Nat} {h : mMem} {K : Option mRV → mMem → Prop} {a0 a1 : mRV} (k : (∀ a ∈ ([a0, a1] : List mRV), mV a) → mMok h → mGo l g (mMt n_K_least) d 0 [some a0, some a1, none] [] h K) : mCon l g n_K_least d [a0, a1] h K := mCon_in (nL := 3) (by decide) (by rw [t_K_least]) rfl (by simp) (fun hv hm => k (fun a ha => hv a ha) hm)
theorem e_K_turned {l : Launch} {g : mG} {d : Nat} {h : mMem} {K : Option mRV → mMem → Prop} {a0 a1 : mRV} (k : (∀ a ∈ ([a0, a1] : List mRV), mV a) → mMok h → mGo l g (mMt n_K_turned) d 0 [some a0, some a1] [] h K) : mCon l g n_K_turned d [a0, a1] h K := mCon_in (nL := 2) (by decide) (by rw [t_K_turned]) rfl (by simp) (fun hv hm => k (fun a ha => hv a ha) hm)
theorem e_Net_turnCount {l : Launch} {g : mG} {d : Nat} {h : mMem} {K : Option mRV → mMem → Prop} {a0 : mRV} (k : (∀ a ∈ ([a0] : List mRV), mV a) → mMok h → mGo l g (mMt n_Net_turnCount) d 0 [some a0] [] h K) : mCon l g n_Net_turnCount d [a0] h K := mCon_in (nL := 1) (by decide) (by rw [t_Net_turnCount]) rfl (by simp) (fun hv hm => k (fun a ha => hv a ha) hm)
theorem e_K_power {l : Launch} {g : mG} {d : Nat} {h : mMem} {K : Option mRV → mMem → Prop} {a0 a1 : mRV} (k : (∀ a ∈ ([a0, a1] : List mRV), mV a) → mMok h → mGo l g (mMt n_K_power) d 0 [some a0, some a1, none, none] [] h K) : mCon l g n_K_power d [a0, a1] h K := mCon_in (nL := 4) (by decide) (by rw [t_K_power]) rfl (by simp) (fun hv hm => k (fun a ha => hv a ha) hm)
theorem e_Net_turn {l : Launch} {g : mG} {d : Nat} {h : mMem} {K : Option mRV → mMem → Prop} {a0 a1 : mRV} (k : (∀ a ∈ ([a0, a1] : List mRV), mV a) → mMok h → mGo l g (mMt n_Net_turn) d 0 [some a0, some a1, none, none, none, none] [] h K) : mCon l g n_Net_turn d [a0, a1] h K := mCon_in (nL := 6) (by decide) (by rw [t_Net_turn]) rfl (by simp) (fun hv hm => k (fun a ha => hv a ha) hm)
theorem e_Finder_clashes {l : Launch} {g : mG} {d : Nat} {h : mMem} {K : Option mRV → mMem → Prop} {a0 a1 : mRV} (k : (∀ a ∈ ([a0, a1] : List mRV), mV a) → mMok h → mGo l g (mMt n_Finder_clashes) d 0 [some a0, some a1, none, none] [] h K) : mCon l g n_Finder_clashes d [a0, a1] h K := mCon_in (nL := 4) (by decide) (by rw [t_Finder_clashes]) rfl (by simp) (fun hv hm => k (fun a ha => hv a ha) hm)
theorem e_K_turns {l : Launch} {g : mG} {d : Nat} {h : mMem} {K : Option mRV → mMem → Prop} {a0 a1 : mRV} (k : (∀ a ∈ ([a0, a1] : List mRV), mV a) → mMok h → mGo l g (mMt n_K_turns) d 0 [some a0, some a1, none, none, none, none, none] [] h K) : mCon l g n_K_turns d [a0, a1] h K := mCon_in (nL := 7) (by decide) (by rw [t_K_turns]) rfl (by simp) (fun hv hm => k (fun a ha => hv a ha) hm)
theorem e_K_list {l : Launch} {g : mG} {d : Nat} {h : mMem} {K : Option mRV → mMem → Prop} {a0 a1 a2 : mRV} (k : (∀ a ∈ ([a0, a1, a2] : List mRV), mV a) → mMok h → mGo l g (mMt n_K_list) d 0 [some a0, some a1, some a2] [] h K) : mCon l g n_K_list d [a0, a1, a2] h K := mCon_in (nL := 3) (by decide) (by rw [t_K_list]) rfl (by simp) (fun hv hm => k (fun a ha => hv a ha) hm)
theorem e_K_isListLarge {l : Launch} {g : mG} {d : Nat} {h : mMem} {K : Option mRV → mMem → Prop} {a0 a1 : mRV} (k : (∀ a ∈ ([a0, a1] : List mRV), mV a) → mMok h → mGo l g (mMt n_K_isListLarge) d 0 [some a0, some a1] [] h K) : mCon l g n_K_isListLarge d [a0, a1] h K := mCon_in (nL := 2) (by decide) (by rw [t_K_isListLarge]) rfl (by simp) (fun hv hm => k (fun a ha => hv a ha) hm)
theorem e_Filling_beginList {l : Launch} {g : mG} {d : Nat} {h : mMem} {K : Option mRV → mMem → Prop} {a0 a1 a2 : mRV} (k : (∀ a ∈ ([a0, a1, a2] : List mRV), mV a) → mMok h → mGo l g (mMt n_Filling_beginList) d 0 [some a0, some a1, some a2] [] h K) : mCon l g n_Filling_beginList d [a0, a1, a2] h K := mCon_in (nL := 3) (by decide) (by rw [t_Filling_beginList]) rfl (by simp) (fun hv hm => k (fun a ha => hv a ha) hm)
theorem e_Filling_beginOnBoard {l : Launch} {g : mG} {d : Nat} {h : mMem} {K : Option mRV → mMem → Prop} {a0 : mRV} (k : (∀ a ∈ ([a0] : List mRV), mV a) → mMok h → mGo l g (mMt n_Filling_beginOnBoard) d 0 [some a0, none] [] h K) : mCon l g n_Filling_beginOnBoard d [a0] h K := mCon_in (nL := 2) (by decide) (by rw [t_Filling_beginOnBoard]) rfl (by simp) (fun hv hm => k (fun a ha => hv a ha) hm)
theorem e_Filling_countAll {l : Launch} {g : mG} {d : Nat} {h : mMem} {K : Option mRV → mMem → Prop} {a0 : mRV} (k : (∀ a ∈ ([a0] : List mRV), mV a) → mMok h → mGo l g (mMt n_Filling_countAll) d 0 [some a0, none] [] h K) : mCon l g n_Filling_countAll d [a0] h K := mCon_in (nL := 2) (by decide) (by rw [t_Filling_countAll]) rfl (by simp) (fun hv hm => k (fun a ha => hv a ha) hm)
theorem e_Filling_goOn {l : Launch} {g : mG} {d : Nat} {h : mMem} {K : Option mRV → mMem → Prop} {a0 a1 : mRV} (k : (∀ a ∈ ([a0, a1] : List mRV), mV a) → mMok h → mGo l g (mMt n_Filling_goOn) d 0 [some a0, some a1, none] [] h K) : mCon l g n_Filling_goOn d [a0, a1] h K := mCon_in (nL := 3) (by decide) (by rw [t_Filling_goOn]) rfl (by simp) (fun hv hm => k (fun a ha => hv a ha) hm)
theorem e_Filling_nextTry {l : Launch} {g : mG} {d : Nat} {h : mMem} {K : Option mRV → mMem → Prop} {a0 : mRV} (k : (∀ a ∈ ([a0] : List mRV), mV a) → mMok h → mGo l g (mMt n_Filling_nextTry) d 0 [some a0, none, none] [] h K) : mCon l g n_Filling_nextTry d [a0] h K := mCon_in (nL := 3) (by decide) (by rw [t_Filling_nextTry]) rfl (by simp) (fun hv hm => k (fun a ha => hv a ha) hm)
theorem e_Filling_tone {l : Launch} {g : mG} {d : Nat} {h : mMem} {K : Option mRV → mMem → Prop} {a0 : mRV} (k : (∀ a ∈ ([a0] : List mRV), mV a) → mMok h → mGo l g (mMt n_Filling_tone) d 0 [some a0] [] h K) : mCon l g n_Filling_tone d [a0] h K := mCon_in (nL := 1) (by decide) (by rw [t_Filling_tone]) rfl (by simp) (fun hv hm => k (fun a ha => hv a ha) hm)
theorem e_Filling_join {l : Launch} {g : mG} {d : Nat} {h : mMem} {K : Option mRV → mMem → Prop} {a0 : mRV} (k : (∀ a ∈ ([a0] : List mRV), mV a) → mMok h → mGo l g (mMt n_Filling_join) d 0 [some a0] [] h K) : mCon l g n_Filling_join d [a0] h K := mCon_in (nL := 1) (by decide) (by rw [t_Filling_join]) rfl (by simp) (fun hv hm => k (fun a ha => hv a ha) hm)
theorem e_Outward_howMany {l : Launch} {g : mG} {d : Nat} {h : mMem} {K : Option mRV → mMem → Prop} {a0 a1 a2 : mRV} (k : (∀ a ∈ ([a0, a1, a2] : List mRV), mV a) → mMok h → mGo l g (mMt n_Outward_howMany) d 0 [some a0, some a1, some a2] [] h K) : mCon l g n_Outward_howMany d [a0, a1, a2] h K := mCon_in (nL := 3) (by decide) (by rw [t_Outward_howMany]) rfl (by simp) (fun hv hm => k (fun a ha => hv a ha) hm)
theorem e_Outward_lookAt {l : Launch} {g : mG} {d : Nat} {h : mMem} {K : Option mRV → mMem → Prop} {a0 a1 a2 : mRV} (k : (∀ a ∈ ([a0, a1, a2] : List mRV), mV a) → mMok h → mGo l g (mMt n_Outward_lookAt) d 0 [some a0, some a1, some a2] [] h K) : mCon l g n_Outward_lookAt d [a0, a1, a2] h K := mCon_in (nL := 3) (by decide) (by rw [t_Outward_lookAt]) rfl (by simp) (fun hv hm => k (fun a ha => hv a ha) hm)
theorem e_Outward_countFrom {l : Launch} {g : mG} {d : Nat} {h : mMem} {K : Option mRV → mMem → Prop} {a0 a1 a2 : mRV} (k : (∀ a ∈ ([a0, a1, a2] : List mRV), mV a) → mMok h → mGo l g (mMt n_Outward_countFrom) d 0 [some a0, some a1, some a2, none, none, none] [] h K) : mCon l g n_Outward_countFrom d [a0, a1, a2] h K := mCon_in (nL := 6) (by decide) (by rw [t_Outward_countFrom]) rfl (by simp) (fun hv hm => k (fun a ha => hv a ha) hm)
theorem e_Outward_countAllJoined {l : Launch} {g : mG} {d : Nat} {h : mMem} {K : Option mRV → mMem → Prop} {a0 a1 a2 : mRV} (k : (∀ a ∈ ([a0, a1, a2] : List mRV), mV a) → mMok h → mGo l g (mMt n_Outward_countAllJoined) d 0 [some a0, some a1, some a2, none, none] [] h K) : mCon l g n_Outward_countAllJoined d [a0, a1, a2] h K := mCon_in (nL := 5) (by decide) (by rw [t_Outward_countAllJoined]) rfl (by simp) (fun hv hm => k (fun a ha => hv a ha) hm)
theorem e_Outward_countBetween {l : Launch} {g : mG} {d : Nat} {h : mMem} {K : Option mRV → mMem → Prop} {a0 a1 a2 a3 a4 : mRV} (k : (∀ a ∈ ([a0, a1, a2, a3, a4] : List mRV), mV a) → mMok h → mGo l g (mMt n_Outward_countBetween) d 0 [some a0, some a1, some a2, some a3, some a4, none, none, none] [] h K) : mCon l g n_Outward_countBetween d [a0, a1, a2, a3, a4] h K := mCon_in (nL := 8) (by decide) (by rw [t_Outward_countBetween]) rfl (by simp) (fun hv hm => k (fun a ha => hv a ha) hm)
theorem e_Outward_countStars {l : Launch} {g : mG} {d : Nat} {h : mMem} {K : Option mRV → mMem → Prop} {a0 a1 a2 : mRV} (k : (∀ a ∈ ([a0, a1, a2] : List mRV), mV a) → mMok h → mGo l g (mMt n_Outward_countStars) d 0 [some a0, some a1, some a2] [] h K) : mCon l g n_Outward_countStars d [a0, a1, a2] h K := mCon_in (nL := 3) (by decide) (by rw [t_Outward_countStars]) rfl (by simp) (fun hv hm => k (fun a ha => hv a ha) hm)
theorem e_Outward_countBooks {l : Launch} {g : mG} {d : Nat} {h : mMem} {K : Option mRV → mMem → Prop} {a0 a1 a2 a3 : mRV} (k : (∀ a ∈ ([a0, a1, a2, a3] : List mRV), mV a) → mMok h → mGo l g (mMt n_Outward_countBooks) d 0 [some a0, some a1, some a2, some a3, none, none, none] [] h K) : mCon l g n_Outward_countBooks d [a0, a1, a2, a3] h K := mCon_in (nL := 7) (by decide) (by rw [t_Outward_countBooks]) rfl (by simp) (fun hv hm => k (fun a ha => hv a ha) hm)
theorem e_Outward_countPaths {l : Launch} {g : mG} {d : Nat} {h : mMem} {K : Option mRV → mMem → Prop} {a0 a1 a2 a3 : mRV} (k : (∀ a ∈ ([a0, a1, a2, a3] : List mRV), mV a) → mMok h → mGo l g (mMt n_Outward_countPaths) d 0 [some a0, some a1, some a2, some a3, none, none] [] h K) : mCon l g n_Outward_countPaths d [a0, a1, a2, a3] h K := mCon_in (nL := 6) (by decide) (by rw [t_Outward_countPaths]) rfl (by simp) (fun hv hm => k (fun a ha => hv a ha) hm)
theorem e_Outward_countArms {l : Launch} {g : mG} {d : Nat} {h : mMem} {K : Option mRV → mMem → Prop} {a0 a1 a2 a3 a4 a5 : mRV} (k : (∀ a ∈ ([a0, a1, a2, a3, a4, a5] : List mRV), mV a) → mMok h → mGo l g (mMt n_Outward_countArms) d 0 [some a0, some a1, some a2, some a3, some a4, some a5, none, none, none] [] h K) : mCon l g n_Outward_countArms d [a0, a1, a2, a3, a4, a5] h K := mCon_in (nL := 9) (by decide) (by rw [t_Outward_countArms]) rfl (by simp) (fun hv hm => k (fun a ha => hv a ha) hm)
theorem e_Filling_goDeeper {l : Launch} {g : mG} {d : Nat} {h : mMem} {K : Option mRV → mMem → Prop} {a0 : mRV} (k : (∀ a ∈ ([a0] : List mRV), mV a) → mMok h → mGo l g (mMt n_Filling_goDeeper) d 0 [some a0] [] h K) : mCon l g n_Filling_goDeeper d [a0] h K := mCon_in (nL := 1) (by decide) (by rw [t_Filling_goDeeper]) rfl (by simp) (fun hv hm => k (fun a ha => hv a ha) hm)
theorem e_Forms_countFirst {l : Launch} {g : mG} {d : Nat} {h : mMem} {K : Option mRV → mMem → Prop} {a0 a1 : mRV} (k : (∀ a ∈ ([a0, a1] : List mRV), mV a) → mMok h → mGo l g (mMt n_Forms_countFirst) d 0 [some a0, some a1, none, none] [] h K) : mCon l g n_Forms_countFirst d [a0, a1] h K := mCon_in (nL := 4) (by decide) (by rw [t_Forms_countFirst]) rfl (by simp) (fun hv hm => k (fun a ha => hv a ha) hm)
theorem e_Forms_begin {l : Launch} {g : mG} {d : Nat} {h : mMem} {K : Option mRV → mMem → Prop} {a0 a1 a2 : mRV} (k : (∀ a ∈ ([a0, a1, a2] : List mRV), mV a) → mMok h → mGo l g (mMt n_Forms_begin) d 0 [some a0, some a1, some a2] [] h K) : mCon l g n_Forms_begin d [a0, a1, a2] h K := mCon_in (nL := 3) (by decide) (by rw [t_Forms_begin]) rfl (by simp) (fun hv hm => k (fun a ha => hv a ha) hm)
theorem e_Forms_giveNumber {l : Launch} {g : mG} {d : Nat} {h : mMem} {K : Option mRV → mMem → Prop} {a0 a1 a2 : mRV} (k : (∀ a ∈ ([a0, a1, a2] : List mRV), mV a) → mMok h → mGo l g (mMt n_Forms_giveNumber) d 0 [some a0, some a1, some a2, none, none] [] h K) : mCon l g n_Forms_giveNumber d [a0, a1, a2] h K := mCon_in (nL := 5) (by decide) (by rw [t_Forms_giveNumber]) rfl (by simp) (fun hv hm => k (fun a ha => hv a ha) hm)
theorem e_Forms_compareJoinsTo {l : Launch} {g : mG} {d : Nat} {h : mMem} {K : Option mRV → mMem → Prop} {a0 a1 : mRV} (k : (∀ a ∈ ([a0, a1] : List mRV), mV a) → mMok h → mGo l g (mMt n_Forms_compareJoinsTo) d 0 [some a0, some a1, none, none] [] h K) : mCon l g n_Forms_compareJoinsTo d [a0, a1] h K := mCon_in (nL := 4) (by decide) (by rw [t_Forms_compareJoinsTo]) rfl (by simp) (fun hv hm => k (fun a ha => hv a ha) hm)
theorem e_Forms_toneOf {l : Launch} {g : mG} {d : Nat} {h : mMem} {K : Option mRV → mMem → Prop} {a0 a1 a2 : mRV} (k : (∀ a ∈ ([a0, a1, a2] : List mRV), mV a) → mMok h → mGo l g (mMt n_Forms_toneOf) d 0 [some a0, some a1, some a2] [] h K) : mCon l g n_Forms_toneOf d [a0, a1, a2] h K := mCon_in (nL := 3) (by decide) (by rw [t_Forms_toneOf]) rfl (by simp) (fun hv hm => k (fun a ha => hv a ha) hm)
theorem e_Int_compare {l : Launch} {g : mG} {d : Nat} {h : mMem} {K : Option mRV → mMem → Prop} {a0 a1 : mRV} (k : (∀ a ∈ ([a0, a1] : List mRV), mV a) → mMok h → mGo l g (mMt n_Int_compare) d 0 [some a0, some a1] [] h K) : mCon l g n_Int_compare d [a0, a1] h K := mCon_in (nL := 2) (by decide) (by rw [t_Int_compare]) rfl (by simp) (fun hv hm => k (fun a ha => hv a ha) hm)
theorem e_Forms_settleJoinsTo {l : Launch} {g : mG} {d : Nat} {h : mMem} {K : Option mRV → mMem → Prop} {a0 a1 : mRV} (k : (∀ a ∈ ([a0, a1] : List mRV), mV a) → mMok h → mGo l g (mMt n_Forms_settleJoinsTo) d 0 [some a0, some a1, none] [] h K) : mCon l g n_Forms_settleJoinsTo d [a0, a1] h K := mCon_in (nL := 3) (by decide) (by rw [t_Forms_settleJoinsTo]) rfl (by simp) (fun hv hm => k (fun a ha => hv a ha) hm)
theorem e_K_listed {l : Launch} {g : mG} {d : Nat} {h : mMem} {K : Option mRV → mMem → Prop} {a0 a1 a2 : mRV} (k : (∀ a ∈ ([a0, a1, a2] : List mRV), mV a) → mMok h → mGo l g (mMt n_K_listed) d 0 [some a0, some a1, some a2] [] h K) : mCon l g n_K_listed d [a0, a1, a2] h K := mCon_in (nL := 3) (by decide) (by rw [t_K_listed]) rfl (by simp) (fun hv hm => k (fun a ha => hv a ha) hm)
theorem e_Filling_reach {l : Launch} {g : mG} {d : Nat} {h : mMem} {K : Option mRV → mMem → Prop} {a0 a1 : mRV} (k : (∀ a ∈ ([a0, a1] : List mRV), mV a) → mMok h → mGo l g (mMt n_Filling_reach) d 0 [some a0, some a1, none] [] h K) : mCon l g n_Filling_reach d [a0, a1] h K := mCon_in (nL := 3) (by decide) (by rw [t_Filling_reach]) rfl (by simp) (fun hv hm => k (fun a ha => hv a ha) hm)
theorem e_K_form {l : Launch} {g : mG} {d : Nat} {h : mMem} {K : Option mRV → mMem → Prop} {a0 a1 : mRV} (k : (∀ a ∈ ([a0, a1] : List mRV), mV a) → mMok h → mGo l g (mMt n_K_form) d 0 [some a0, some a1] [] h K) : mCon l g n_K_form d [a0, a1] h K := mCon_in (nL := 2) (by decide) (by rw [t_K_form]) rfl (by simp) (fun hv hm => k (fun a ha => hv a ha) hm)
theorem e_Forms_seek {l : Launch} {g : mG} {d : Nat} {h : mMem} {K : Option mRV → mMem → Prop} {a0 a1 : mRV} (k : (∀ a ∈ ([a0, a1] : List mRV), mV a) → mMok h → mGo l g (mMt n_Forms_seek) d 0 [some a0, some a1] [] h K) : mCon l g n_Forms_seek d [a0, a1] h K := mCon_in (nL := 2) (by decide) (by rw [t_Forms_seek]) rfl (by simp) (fun hv hm => k (fun a ha => hv a ha) hm)
theorem e_K_same {l : Launch} {g : mG} {d : Nat} {h : mMem} {K : Option mRV → mMem → Prop} {a0 : mRV} (k : (∀ a ∈ ([a0] : List mRV), mV a) → mMok h → mGo l g (mMt n_K_same) d 0 [some a0] [] h K) : mCon l g n_K_same d [a0] h K := mCon_in (nL := 1) (by decide) (by rw [t_K_same]) rfl (by simp) (fun hv hm => k (fun a ha => hv a ha) hm)
theorem e_K_puts {l : Launch} {g : mG} {d : Nat} {h : mMem} {K : Option mRV → mMem → Prop} {a0 : mRV} (k : (∀ a ∈ ([a0] : List mRV), mV a) → mMok h → mGo l g (mMt n_K_puts) d 0 [some a0, none] [] h K) : mCon l g n_K_puts d [a0] h K := mCon_in (nL := 2) (by decide) (by rw [t_K_puts]) rfl (by simp) (fun hv hm => k (fun a ha => hv a ha) hm)
theorem e_K_whyNoPut {l : Launch} {g : mG} {d : Nat} {h : mMem} {K : Option mRV → mMem → Prop} {a0 : mRV} (k : (∀ a ∈ ([a0] : List mRV), mV a) → mMok h → mGo l g (mMt n_K_whyNoPut) d 0 [some a0] [] h K) : mCon l g n_K_whyNoPut d [a0] h K := mCon_in (nL := 1) (by decide) (by rw [t_K_whyNoPut]) rfl (by simp) (fun hv hm => k (fun a ha => hv a ha) hm)
theorem e_Net_bareCount {l : Launch} {g : mG} {d : Nat} {h : mMem} {K : Option mRV → mMem → Prop} {a0 : mRV} (k : (∀ a ∈ ([a0] : List mRV), mV a) → mMok h → mGo l g (mMt n_Net_bareCount) d 0 [some a0, none, none] [] h K) : mCon l g n_Net_bareCount d [a0] h K := mCon_in (nL := 3) (by decide) (by rw [t_Net_bareCount]) rfl (by simp) (fun hv hm => k (fun a ha => hv a ha) hm)
theorem e_Filling_beginPut {l : Launch} {g : mG} {d : Nat} {h : mMem} {K : Option mRV → mMem → Prop} {a0 a1 : mRV} (k : (∀ a ∈ ([a0, a1] : List mRV), mV a) → mMok h → mGo l g (mMt n_Filling_beginPut) d 0 [some a0, some a1] [] h K) : mCon l g n_Filling_beginPut d [a0, a1] h K := mCon_in (nL := 2) (by decide) (by rw [t_Filling_beginPut]) rfl (by simp) (fun hv hm => k (fun a ha => hv a ha) hm)
theorem e_K_put {l : Launch} {g : mG} {d : Nat} {h : mMem} {K : Option mRV → mMem → Prop} {a0 a1 : mRV} (k : (∀ a ∈ ([a0, a1] : List mRV), mV a) → mMok h → mGo l g (mMt n_K_put) d 0 [some a0, some a1, none] [] h K) : mCon l g n_K_put d [a0, a1] h K := mCon_in (nL := 3) (by decide) (by rw [t_K_put]) rfl (by simp) (fun hv hm => k (fun a ha => hv a ha) hm)
theorem e_K_drop {l : Launch} {g : mG} {d : Nat} {h : mMem} {K : Option mRV → mMem → Prop} {a0 : mRV} (k : (∀ a ∈ ([a0] : List mRV), mV a) → mMok h → mGo l g (mMt n_K_drop) d 0 [some a0] [] h K) : mCon l g n_K_drop d [a0] h K := mCon_in (nL := 1) (by decide) (by rw [t_K_drop]) rfl (by simp) (fun hv hm => k (fun a ha => hv a ha) hm)
theorem e_Net_loseLastPoint {l : Launch} {g : mG} {d : Nat} {h : mMem} {K : Option mRV → mMem → Prop} {a0 : mRV} (k : (∀ a ∈ ([a0] : List mRV), mV a) → mMok h → mGo l g (mMt n_Net_loseLastPoint) d 0 [some a0, none] [] h K) : mCon l g n_Net_loseLastPoint d [a0] h K := mCon_in (nL := 2) (by decide) (by rw [t_Net_loseLastPoint]) rfl (by simp) (fun hv hm => k (fun a ha => hv a ha) hm)
theorem e_K_fill {l : Launch} {g : mG} {d : Nat} {h : mMem} {K : Option mRV → mMem → Prop} {a0 a1 : mRV} (k : (∀ a ∈ ([a0, a1] : List mRV), mV a) → mMok h → mGo l g (mMt n_K_fill) d 0 [some a0, some a1, none] [] h K) : mCon l g n_K_fill d [a0, a1] h K := mCon_in (nL := 3) (by decide) (by rw [t_K_fill]) rfl (by simp) (fun hv hm => k (fun a ha => hv a ha) hm)
theorem e_Filling_begin {l : Launch} {g : mG} {d : Nat} {h : mMem} {K : Option mRV → mMem → Prop} {a0 a1 : mRV} (k : (∀ a ∈ ([a0, a1] : List mRV), mV a) → mMok h → mGo l g (mMt n_Filling_begin) d 0 [some a0, some a1] [] h K) : mCon l g n_Filling_begin d [a0, a1] h K := mCon_in (nL := 2) (by decide) (by rw [t_Filling_begin]) rfl (by simp) (fun hv hm => k (fun a ha => hv a ha) hm)
theorem e_K_tries {l : Launch} {g : mG} {d : Nat} {h : mMem} {K : Option mRV → mMem → Prop} {a0 : mRV} (k : (∀ a ∈ ([a0] : List mRV), mV a) → mMok h → mGo l g (mMt n_K_tries) d 0 [some a0] [] h K) : mCon l g n_K_tries d [a0] h K := mCon_in (nL := 1) (by decide) (by rw [t_K_tries]) rfl (by simp) (fun hv hm => k (fun a ha => hv a ha) hm)
theorem e_K_prove {l : Launch} {g : mG} {d : Nat} {h : mMem} {K : Option mRV → mMem → Prop} {a0 : mRV} (k : (∀ a ∈ ([a0] : List mRV), mV a) → mMok h → mGo l g (mMt n_K_prove) d 0 [some a0] [] h K) : mCon l g n_K_prove d [a0] h K := mCon_in (nL := 1) (by decide) (by rw [t_K_prove]) rfl (by simp) (fun hv hm => k (fun a ha => hv a ha) hm)
theorem e_Filling_isOver {l : Launch} {g : mG} {d : Nat} {h : mMem} {K : Option mRV → mMem → Prop} {a0 : mRV} (k : (∀ a ∈ ([a0] : List mRV), mV a) → mMok h → mGo l g (mMt n_Filling_isOver) d 0 [some a0] [] h K) : mCon l g n_Filling_isOver d [a0] h K := mCon_in (nL := 1) (by decide) (by rw [t_Filling_isOver]) rfl (by simp) (fun hv hm => k (fun a ha => hv a ha) hm)
theorem e_Proof_make {l : Launch} {g : mG} {d : Nat} {h : mMem} {K : Option mRV → mMem → Prop} {a0 a1 : mRV} (k : (∀ a ∈ ([a0, a1] : List mRV), mV a) → mMok h → mGo l g (mMt n_Proof_make) d 0 [some a0, some a1, none, none] [] h K) : mCon l g n_Proof_make d [a0, a1] h K := mCon_in (nL := 4) (by decide) (by rw [t_Proof_make]) rfl (by simp) (fun hv hm => k (fun a ha => hv a ha) hm)
theorem e_Finder_rowBits {l : Launch} {g : mG} {d : Nat} {h : mMem} {K : Option mRV → mMem → Prop} {a0 : mRV} (k : (∀ a ∈ ([a0] : List mRV), mV a) → mMok h → mGo l g (mMt n_Finder_rowBits) d 0 [some a0, none, none] [] h K) : mCon l g n_Finder_rowBits d [a0] h K := mCon_in (nL := 3) (by decide) (by rw [t_Finder_rowBits]) rfl (by simp) (fun hv hm => k (fun a ha => hv a ha) hm)
theorem e_K_row {l : Launch} {g : mG} {d : Nat} {h : mMem} {K : Option mRV → mMem → Prop} {a0 a1 a2 : mRV} (k : (∀ a ∈ ([a0, a1, a2] : List mRV), mV a) → mMok h → mGo l g (mMt n_K_row) d 0 [some a0, some a1, some a2] [] h K) : mCon l g n_K_row d [a0, a1, a2] h K := mCon_in (nL := 3) (by decide) (by rw [t_K_row]) rfl (by simp) (fun hv hm => k (fun a ha => hv a ha) hm)
theorem e_K_forge {l : Launch} {g : mG} {d : Nat} {h : mMem} {K : Option mRV → mMem → Prop} {a0 a1 a2 : mRV} (k : (∀ a ∈ ([a0, a1, a2] : List mRV), mV a) → mMok h → mGo l g (mMt n_K_forge) d 0 [some a0, some a1, some a2, none] [] h K) : mCon l g n_K_forge d [a0, a1, a2] h K := mCon_in (nL := 4) (by decide) (by rw [t_K_forge]) rfl (by simp) (fun hv hm => k (fun a ha => hv a ha) hm)
theorem e_K_check {l : Launch} {g : mG} {d : Nat} {h : mMem} {K : Option mRV → mMem → Prop} {a0 : mRV} (k : (∀ a ∈ ([a0] : List mRV), mV a) → mMok h → mGo l g (mMt n_K_check) d 0 [some a0] [] h K) : mCon l g n_K_check d [a0] h K := mCon_in (nL := 1) (by decide) (by rw [t_K_check]) rfl (by simp) (fun hv hm => k (fun a ha => hv a ha) hm)
theorem e_Proof_firstFault {l : Launch} {g : mG} {d : Nat} {h : mMem} {K : Option mRV → mMem → Prop} {a0 a1 : mRV} (k : (∀ a ∈ ([a0, a1] : List mRV), mV a) → mMok h → mGo l g (mMt n_Proof_firstFault) d 0 [some a0, some a1, none] [] h K) : mCon l g n_Proof_firstFault d [a0, a1] h K := mCon_in (nL := 3) (by decide) (by rw [t_Proof_firstFault]) rfl (by simp) (fun hv hm => k (fun a ha => hv a ha) hm)
theorem e_Proof_isAsTold {l : Launch} {g : mG} {d : Nat} {h : mMem} {K : Option mRV → mMem → Prop} {a0 a1 a2 : mRV} (k : (∀ a ∈ ([a0, a1, a2] : List mRV), mV a) → mMok h → mGo l g (mMt n_Proof_isAsTold) d 0 [some a0, some a1, some a2] [] h K) : mCon l g n_Proof_isAsTold d [a0, a1, a2] h K := mCon_in (nL := 3) (by decide) (by rw [t_Proof_isAsTold]) rfl (by simp) (fun hv hm => k (fun a ha => hv a ha) hm)
theorem e_Outward_isCopyOfJust {l : Launch} {g : mG} {d : Nat} {h : mMem} {K : Option mRV → mMem → Prop} {a0 a1 a2 a3 : mRV} (k : (∀ a ∈ ([a0, a1, a2, a3] : List mRV), mV a) → mMok h → mGo l g (mMt n_Outward_isCopyOfJust) d 0 [some a0, some a1, some a2, some a3, none, none, none] [] h K) : mCon l g n_Outward_isCopyOfJust d [a0, a1, a2, a3] h K := mCon_in (nL := 7) (by decide) (by rw [t_Outward_isCopyOfJust]) rfl (by simp) (fun hv hm => k (fun a ha => hv a ha) hm)
theorem e_K_step {l : Launch} {g : mG} {d : Nat} {h : mMem} {K : Option mRV → mMem → Prop} {a0 a1 : mRV} (k : (∀ a ∈ ([a0, a1] : List mRV), mV a) → mMok h → mGo l g (mMt n_K_step) d 0 [some a0, some a1] [] h K) : mCon l g n_K_step d [a0, a1] h K := mCon_in (nL := 2) (by decide) (by rw [t_K_step]) rfl (by simp) (fun hv hm => k (fun a ha => hv a ha) hm)
theorem e_Walker_walk {l : Launch} {g : mG} {d : Nat} {h : mMem} {K : Option mRV → mMem → Prop} {a0 a1 a2 : mRV} (k : (∀ a ∈ ([a0, a1, a2] : List mRV), mV a) → mMok h → mGo l g (mMt n_Walker_walk) d 0 [some a0, some a1, some a2, none] [] h K) : mCon l g n_Walker_walk d [a0, a1, a2] h K := mCon_in (nL := 4) (by decide) (by rw [t_Walker_walk]) rfl (by simp) (fun hv hm => k (fun a ha => hv a ha) hm)
theorem e_Walker_seekBest {l : Launch} {g : mG} {d : Nat} {h : mMem} {K : Option mRV → mMem → Prop} {a0 a1 : mRV} (k : (∀ a ∈ ([a0, a1] : List mRV), mV a) → mMok h → mGo l g (mMt n_Walker_seekBest) d 0 [some a0, some a1, none, none, none, none, none] [] h K) : mCon l g n_Walker_seekBest d [a0, a1] h K := mCon_in (nL := 7) (by decide) (by rw [t_Walker_seekBest]) rfl (by simp) (fun hv hm => k (fun a ha => hv a ha) hm)
theorem e_K_undo {l : Launch} {g : mG} {d : Nat} {h : mMem} {K : Option mRV → mMem → Prop} {a0 : mRV} (k : (∀ a ∈ ([a0] : List mRV), mV a) → mMok h → mGo l g (mMt n_K_undo) d 0 [some a0] [] h K) : mCon l g n_K_undo d [a0] h K := mCon_in (nL := 1) (by decide) (by rw [t_K_undo]) rfl (by simp) (fun hv hm => k (fun a ha => hv a ha) hm)
theorem e_History_giveBack {l : Launch} {g : mG} {d : Nat} {h : mMem} {K : Option mRV → mMem → Prop} {a0 a1 : mRV} (k : (∀ a ∈ ([a0, a1] : List mRV), mV a) → mMok h → mGo l g (mMt n_History_giveBack) d 0 [some a0, some a1] [] h K) : mCon l g n_History_giveBack d [a0, a1] h K := mCon_in (nL := 2) (by decide) (by rw [t_History_giveBack]) rfl (by simp) (fun hv hm => k (fun a ha => hv a ha) hm)
theorem e_K_count {l : Launch} {g : mG} {d : Nat} {h : mMem} {K : Option mRV → mMem → Prop} {a0 a1 : mRV} (k : (∀ a ∈ ([a0, a1] : List mRV), mV a) → mMok h → mGo l g (mMt n_K_count) d 0 [some a0, some a1] [] h K) : mCon l g n_K_count d [a0, a1] h K := mCon_in (nL := 2) (by decide) (by rw [t_K_count]) rfl (by simp) (fun hv hm => k (fun a ha => hv a ha) hm)
theorem e_M_bareAll {l : Launch} {g : mG} {d : Nat} {h : mMem} {K : Option mRV → mMem → Prop} {a0 : mRV} (k : (∀ a ∈ ([a0] : List mRV), mV a) → mMok h → mGo l g (mMt n_M_bareAll) d 0 [some a0, none] [] h K) : mCon l g n_M_bareAll d [a0] h K := mCon_in (nL := 2) (by decide) (by rw [t_M_bareAll]) rfl (by simp) (fun hv hm => k (fun a ha => hv a ha) hm)
theorem e_M_undo {l : Launch} {g : mG} {d : Nat} {h : mMem} {K : Option mRV → mMem → Prop} {a0 : mRV} (k : (∀ a ∈ ([a0] : List mRV), mV a) → mMok h → mGo l g (mMt n_M_undo) d 0 [some a0, none, none] [] h K) : mCon l g n_M_undo d [a0] h K := mCon_in (nL := 3) (by decide) (by rw [t_M_undo]) rfl (by simp) (fun hv hm => k (fun a ha => hv a ha) hm)
theorem e_M_net {l : Launch} {g : mG} {d : Nat} {h : mMem} {K : Option mRV → mMem → Prop} {a0 a1 a2 : mRV} (k : (∀ a ∈ ([a0, a1, a2] : List mRV), mV a) → mMok h → mGo l g (mMt n_M_net) d 0 [some a0, some a1, some a2] [] h K) : mCon l g n_M_net d [a0, a1, a2] h K := mCon_in (nL := 3) (by decide) (by rw [t_M_net]) rfl (by simp) (fun hv hm => k (fun a ha => hv a ha) hm)
theorem e_M_isIn {l : Launch} {g : mG} {d : Nat} {h : mMem} {K : Option mRV → mMem → Prop} {a0 a1 a2 : mRV} (k : (∀ a ∈ ([a0, a1, a2] : List mRV), mV a) → mMok h → mGo l g (mMt n_M_isIn) d 0 [some a0, some a1, some a2] [] h K) : mCon l g n_M_isIn d [a0, a1, a2] h K := mCon_in (nL := 3) (by decide) (by rw [t_M_isIn]) rfl (by simp) (fun hv hm => k (fun a ha => hv a ha) hm)
theorem e_M_keep {l : Launch} {g : mG} {d : Nat} {h : mMem} {K : Option mRV → mMem → Prop} {a0 : mRV} (k : (∀ a ∈ ([a0] : List mRV), mV a) → mMok h → mGo l g (mMt n_M_keep) d 0 [some a0, none, none] [] h K) : mCon l g n_M_keep d [a0] h K := mCon_in (nL := 3) (by decide) (by rw [t_M_keep]) rfl (by simp) (fun hv hm => k (fun a ha => hv a ha) hm)
theorem e_M_joinsOf {l : Launch} {g : mG} {d : Nat} {h : mMem} {K : Option mRV → mMem → Prop} {a0 : mRV} (k : (∀ a ∈ ([a0] : List mRV), mV a) → mMok h → mGo l g (mMt n_M_joinsOf) d 0 [some a0] [] h K) : mCon l g n_M_joinsOf d [a0] h K := mCon_in (nL := 1) (by decide) (by rw [t_M_joinsOf]) rfl (by simp) (fun hv hm => k (fun a ha => hv a ha) hm)
theorem e_M_target {l : Launch} {g : mG} {d : Nat} {h : mMem} {K : Option mRV → mMem → Prop} {a0 a1 a2 a3 : mRV} (k : (∀ a ∈ ([a0, a1, a2, a3] : List mRV), mV a) → mMok h → mGo l g (mMt n_M_target) d 0 [some a0, some a1, some a2, some a3] [] h K) : mCon l g n_M_target d [a0, a1, a2, a3] h K := mCon_in (nL := 4) (by decide) (by rw [t_M_target]) rfl (by simp) (fun hv hm => k (fun a ha => hv a ha) hm)
theorem e_M_isColour {l : Launch} {g : mG} {d : Nat} {h : mMem} {K : Option mRV → mMem → Prop} {a0 a1 : mRV} (k : (∀ a ∈ ([a0, a1] : List mRV), mV a) → mMok h → mGo l g (mMt n_M_isColour) d 0 [some a0, some a1] [] h K) : mCon l g n_M_isColour d [a0, a1] h K := mCon_in (nL := 2) (by decide) (by rw [t_M_isColour]) rfl (by simp) (fun hv hm => k (fun a ha => hv a ha) hm)
theorem e_M_isSize {l : Launch} {g : mG} {d : Nat} {h : mMem} {K : Option mRV → mMem → Prop} {a0 a1 : mRV} (k : (∀ a ∈ ([a0, a1] : List mRV), mV a) → mMok h → mGo l g (mMt n_M_isSize) d 0 [some a0, some a1] [] h K) : mCon l g n_M_isSize d [a0, a1] h K := mCon_in (nL := 2) (by decide) (by rw [t_M_isSize]) rfl (by simp) (fun hv hm => k (fun a ha => hv a ha) hm)
theorem e_M_paint {l : Launch} {g : mG} {d : Nat} {h : mMem} {K : Option mRV → mMem → Prop} {a0 a1 a2 a3 : mRV} (k : (∀ a ∈ ([a0, a1, a2, a3] : List mRV), mV a) → mMok h → mGo l g (mMt n_M_paint) d 0 [some a0, some a1, some a2, some a3, none] [] h K) : mCon l g n_M_paint d [a0, a1, a2, a3] h K := mCon_in (nL := 5) (by decide) (by rw [t_M_paint]) rfl (by simp) (fun hv hm => k (fun a ha => hv a ha) hm)
theorem e_M_areTwo {l : Launch} {g : mG} {d : Nat} {h : mMem} {K : Option mRV → mMem → Prop} {a0 a1 a2 : mRV} (k : (∀ a ∈ ([a0, a1, a2] : List mRV), mV a) → mMok h → mGo l g (mMt n_M_areTwo) d 0 [some a0, some a1, some a2] [] h K) : mCon l g n_M_areTwo d [a0, a1, a2] h K := mCon_in (nL := 3) (by decide) (by rw [t_M_areTwo]) rfl (by simp) (fun hv hm => k (fun a ha => hv a ha) hm)
theorem e_M_isPoint {l : Launch} {g : mG} {d : Nat} {h : mMem} {K : Option mRV → mMem → Prop} {a0 a1 : mRV} (k : (∀ a ∈ ([a0, a1] : List mRV), mV a) → mMok h → mGo l g (mMt n_M_isPoint) d 0 [some a0, some a1] [] h K) : mCon l g n_M_isPoint d [a0, a1] h K := mCon_in (nL := 2) (by decide) (by rw [t_M_isPoint]) rfl (by simp) (fun hv hm => k (fun a ha => hv a ha) hm)
theorem e_M_join {l : Launch} {g : mG} {d : Nat} {h : mMem} {K : Option mRV → mMem → Prop} {a0 a1 : mRV} (k : (∀ a ∈ ([a0, a1] : List mRV), mV a) → mMok h → mGo l g (mMt n_M_join) d 0 [some a0, some a1] [] h K) : mCon l g n_M_join d [a0, a1] h K := mCon_in (nL := 2) (by decide) (by rw [t_M_join]) rfl (by simp) (fun hv hm => k (fun a ha => hv a ha) hm)
theorem e_M_colour {l : Launch} {g : mG} {d : Nat} {h : mMem} {K : Option mRV → mMem → Prop} {a0 a1 a2 : mRV} (k : (∀ a ∈ ([a0, a1, a2] : List mRV), mV a) → mMok h → mGo l g (mMt n_M_colour) d 0 [some a0, some a1, some a2] [] h K) : mCon l g n_M_colour d [a0, a1, a2] h K := mCon_in (nL := 3) (by decide) (by rw [t_M_colour]) rfl (by simp) (fun hv hm => k (fun a ha => hv a ha) hm)
theorem e_M_aim {l : Launch} {g : mG} {d : Nat} {h : mMem} {K : Option mRV → mMem → Prop} {a0 a1 a2 : mRV} (k : (∀ a ∈ ([a0, a1, a2] : List mRV), mV a) → mMok h → mGo l g (mMt n_M_aim) d 0 [some a0, some a1, some a2] [] h K) : mCon l g n_M_aim d [a0, a1, a2] h K := mCon_in (nL := 3) (by decide) (by rw [t_M_aim]) rfl (by simp) (fun hv hm => k (fun a ha => hv a ha) hm)
theorem e_M_isOf {l : Launch} {g : mG} {d : Nat} {h : mMem} {K : Option mRV → mMem → Prop} {a0 a1 a2 : mRV} (k : (∀ a ∈ ([a0, a1, a2] : List mRV), mV a) → mMok h → mGo l g (mMt n_M_isOf) d 0 [some a0, some a1, some a2, none] [] h K) : mCon l g n_M_isOf d [a0, a1, a2] h K := mCon_in (nL := 4) (by decide) (by rw [t_M_isOf]) rfl (by simp) (fun hv hm => k (fun a ha => hv a ha) hm)
theorem e_M_clear {l : Launch} {g : mG} {d : Nat} {h : mMem} {K : Option mRV → mMem → Prop} {a0 : mRV} (k : (∀ a ∈ ([a0] : List mRV), mV a) → mMok h → mGo l g (mMt n_M_clear) d 0 [some a0] [] h K) : mCon l g n_M_clear d [a0] h K := mCon_in (nL := 1) (by decide) (by rw [t_M_clear]) rfl (by simp) (fun hv hm => k (fun a ha => hv a ha) hm)
theorem e_M_isClear {l : Launch} {g : mG} {d : Nat} {h : mMem} {K : Option mRV → mMem → Prop} {a0 : mRV} (k : (∀ a ∈ ([a0] : List mRV), mV a) → mMok h → mGo l g (mMt n_M_isClear) d 0 [some a0, none] [] h K) : mCon l g n_M_isClear d [a0] h K := mCon_in (nL := 2) (by decide) (by rw [t_M_isClear]) rfl (by simp) (fun hv hm => k (fun a ha => hv a ha) hm)
theorem e_M_hasCopy {l : Launch} {g : mG} {d : Nat} {h : mMem} {K : Option mRV → mMem → Prop} {a0 a1 : mRV} (k : (∀ a ∈ ([a0, a1] : List mRV), mV a) → mMok h → mGo l g (mMt n_M_hasCopy) d 0 [some a0, some a1] [] h K) : mCon l g n_M_hasCopy d [a0, a1] h K := mCon_in (nL := 2) (by decide) (by rw [t_M_hasCopy]) rfl (by simp) (fun hv hm => k (fun a ha => hv a ha) hm)
theorem e_M_look {l : Launch} {g : mG} {d : Nat} {h : mMem} {K : Option mRV → mMem → Prop} {a0 a1 a2 a3 : mRV} (k : (∀ a ∈ ([a0, a1, a2, a3] : List mRV), mV a) → mMok h → mGo l g (mMt n_M_look) d 0 [some a0, some a1, some a2, some a3] [] h K) : mCon l g n_M_look d [a0, a1, a2, a3] h K := mCon_in (nL := 4) (by decide) (by rw [t_M_look]) rfl (by simp) (fun hv hm => k (fun a ha => hv a ha) hm)
theorem e_M_go {l : Launch} {g : mG} {d : Nat} {h : mMem} {K : Option mRV → mMem → Prop} {a0 a1 a2 a3 : mRV} (k : (∀ a ∈ ([a0, a1, a2, a3] : List mRV), mV a) → mMok h → mGo l g (mMt n_M_go) d 0 [some a0, some a1, some a2, some a3, none, none, none, none] [] h K) : mCon l g n_M_go d [a0, a1, a2, a3] h K := mCon_in (nL := 8) (by decide) (by rw [t_M_go]) rfl (by simp) (fun hv hm => k (fun a ha => hv a ha) hm)
theorem e_M_lengthOf {l : Launch} {g : mG} {d : Nat} {h : mMem} {K : Option mRV → mMem → Prop} {a0 a1 : mRV} (k : (∀ a ∈ ([a0, a1] : List mRV), mV a) → mMok h → mGo l g (mMt n_M_lengthOf) d 0 [some a0, some a1] [] h K) : mCon l g n_M_lengthOf d [a0, a1] h K := mCon_in (nL := 2) (by decide) (by rw [t_M_lengthOf]) rfl (by simp) (fun hv hm => k (fun a ha => hv a ha) hm)
theorem e_M_take {l : Launch} {g : mG} {d : Nat} {h : mMem} {K : Option mRV → mMem → Prop} {a0 a1 : mRV} (k : (∀ a ∈ ([a0, a1] : List mRV), mV a) → mMok h → mGo l g (mMt n_M_take) d 0 [some a0, some a1, none] [] h K) : mCon l g n_M_take d [a0, a1] h K := mCon_in (nL := 3) (by decide) (by rw [t_M_take]) rfl (by simp) (fun hv hm => k (fun a ha => hv a ha) hm)
theorem e_M_bitsOf {l : Launch} {g : mG} {d : Nat} {h : mMem} {K : Option mRV → mMem → Prop} {a0 a1 : mRV} (k : (∀ a ∈ ([a0, a1] : List mRV), mV a) → mMok h → mGo l g (mMt n_M_bitsOf) d 0 [some a0, some a1, none, none] [] h K) : mCon l g n_M_bitsOf d [a0, a1] h K := mCon_in (nL := 4) (by decide) (by rw [t_M_bitsOf]) rfl (by simp) (fun hv hm => k (fun a ha => hv a ha) hm)
theorem e_M_addPoint {l : Launch} {g : mG} {d : Nat} {h : mMem} {K : Option mRV → mMem → Prop} {a0 a1 a2 a3 : mRV} (k : (∀ a ∈ ([a0, a1, a2, a3] : List mRV), mV a) → mMok h → mGo l g (mMt n_M_addPoint) d 0 [some a0, some a1, some a2, some a3, none, none, none] [] h K) : mCon l g n_M_addPoint d [a0, a1, a2, a3] h K := mCon_in (nL := 7) (by decide) (by rw [t_M_addPoint]) rfl (by simp) (fun hv hm => k (fun a ha => hv a ha) hm)
theorem e_M_addEdge {l : Launch} {g : mG} {d : Nat} {h : mMem} {K : Option mRV → mMem → Prop} {a0 a1 a2 a3 : mRV} (k : (∀ a ∈ ([a0, a1, a2, a3] : List mRV), mV a) → mMok h → mGo l g (mMt n_M_addEdge) d 0 [some a0, some a1, some a2, some a3, none] [] h K) : mCon l g n_M_addEdge d [a0, a1, a2, a3] h K := mCon_in (nL := 5) (by decide) (by rw [t_M_addEdge]) rfl (by simp) (fun hv hm => k (fun a ha => hv a ha) hm)
theorem e_M_copies {l : Launch} {g : mG} {d : Nat} {h : mMem} {K : Option mRV → mMem → Prop} {a0 a1 : mRV} (k : (∀ a ∈ ([a0, a1] : List mRV), mV a) → mMok h → mGo l g (mMt n_M_copies) d 0 [some a0, some a1] [] h K) : mCon l g n_M_copies d [a0, a1] h K := mCon_in (nL := 2) (by decide) (by rw [t_M_copies]) rfl (by simp) (fun hv hm => k (fun a ha => hv a ha) hm)
theorem e_M_copiesOf {l : Launch} {g : mG} {d : Nat} {h : mMem} {K : Option mRV → mMem → Prop} {a0 a1 : mRV} (k : (∀ a ∈ ([a0, a1] : List mRV), mV a) → mMok h → mGo l g (mMt n_M_copiesOf) d 0 [some a0, some a1] [] h K) : mCon l g n_M_copiesOf d [a0, a1] h K := mCon_in (nL := 2) (by decide) (by rw [t_M_copiesOf]) rfl (by simp) (fun hv hm => k (fun a ha => hv a ha) hm)
theorem e_M_copy {l : Launch} {g : mG} {d : Nat} {h : mMem} {K : Option mRV → mMem → Prop} {a0 a1 a2 : mRV} (k : (∀ a ∈ ([a0, a1, a2] : List mRV), mV a) → mMok h → mGo l g (mMt n_M_copy) d 0 [some a0, some a1, some a2] [] h K) : mCon l g n_M_copy d [a0, a1, a2] h K := mCon_in (nL := 3) (by decide) (by rw [t_M_copy]) rfl (by simp) (fun hv hm => k (fun a ha => hv a ha) hm)
theorem e_M_degree {l : Launch} {g : mG} {d : Nat} {h : mMem} {K : Option mRV → mMem → Prop} {a0 a1 a2 : mRV} (k : (∀ a ∈ ([a0, a1, a2] : List mRV), mV a) → mMok h → mGo l g (mMt n_M_degree) d 0 [some a0, some a1, some a2, none, none] [] h K) : mCon l g n_M_degree d [a0, a1, a2] h K := mCon_in (nL := 5) (by decide) (by rw [t_M_degree]) rfl (by simp) (fun hv hm => k (fun a ha => hv a ha) hm)
theorem e_M_triangles {l : Launch} {g : mG} {d : Nat} {h : mMem} {K : Option mRV → mMem → Prop} {a0 : mRV} (k : (∀ a ∈ ([a0] : List mRV), mV a) → mMok h → mGo l g (mMt n_M_triangles) d 0 [some a0, none, none, none, none, none] [] h K) : mCon l g n_M_triangles d [a0] h K := mCon_in (nL := 6) (by decide) (by rw [t_M_triangles]) rfl (by simp) (fun hv hm => k (fun a ha => hv a ha) hm)
theorem e_M_least {l : Launch} {g : mG} {d : Nat} {h : mMem} {K : Option mRV → mMem → Prop} {a0 a1 : mRV} (k : (∀ a ∈ ([a0, a1] : List mRV), mV a) → mMok h → mGo l g (mMt n_M_least) d 0 [some a0, some a1, none] [] h K) : mCon l g n_M_least d [a0, a1] h K := mCon_in (nL := 3) (by decide) (by rw [t_M_least]) rfl (by simp) (fun hv hm => k (fun a ha => hv a ha) hm)
theorem e_M_turned {l : Launch} {g : mG} {d : Nat} {h : mMem} {K : Option mRV → mMem → Prop} {a0 a1 : mRV} (k : (∀ a ∈ ([a0, a1] : List mRV), mV a) → mMok h → mGo l g (mMt n_M_turned) d 0 [some a0, some a1] [] h K) : mCon l g n_M_turned d [a0, a1] h K := mCon_in (nL := 2) (by decide) (by rw [t_M_turned]) rfl (by simp) (fun hv hm => k (fun a ha => hv a ha) hm)
theorem e_M_power {l : Launch} {g : mG} {d : Nat} {h : mMem} {K : Option mRV → mMem → Prop} {a0 a1 : mRV} (k : (∀ a ∈ ([a0, a1] : List mRV), mV a) → mMok h → mGo l g (mMt n_M_power) d 0 [some a0, some a1, none, none] [] h K) : mCon l g n_M_power d [a0, a1] h K := mCon_in (nL := 4) (by decide) (by rw [t_M_power]) rfl (by simp) (fun hv hm => k (fun a ha => hv a ha) hm)
theorem e_M_layTurned {l : Launch} {g : mG} {d : Nat} {h : mMem} {K : Option mRV → mMem → Prop} {a0 a1 : mRV} (k : (∀ a ∈ ([a0, a1] : List mRV), mV a) → mMok h → mGo l g (mMt n_M_layTurned) d 0 [some a0, some a1, none, none, none] [] h K) : mCon l g n_M_layTurned d [a0, a1] h K := mCon_in (nL := 5) (by decide) (by rw [t_M_layTurned]) rfl (by simp) (fun hv hm => k (fun a ha => hv a ha) hm)
theorem e_M_clashes {l : Launch} {g : mG} {d : Nat} {h : mMem} {K : Option mRV → mMem → Prop} {a0 : mRV} (k : (∀ a ∈ ([a0] : List mRV), mV a) → mMok h → mGo l g (mMt n_M_clashes) d 0 [some a0, none, none] [] h K) : mCon l g n_M_clashes d [a0] h K := mCon_in (nL := 3) (by decide) (by rw [t_M_clashes]) rfl (by simp) (fun hv hm => k (fun a ha => hv a ha) hm)
theorem e_M_turns {l : Launch} {g : mG} {d : Nat} {h : mMem} {K : Option mRV → mMem → Prop} {a0 a1 : mRV} (k : (∀ a ∈ ([a0, a1] : List mRV), mV a) → mMok h → mGo l g (mMt n_M_turns) d 0 [some a0, some a1, none, none, none, none] [] h K) : mCon l g n_M_turns d [a0, a1] h K := mCon_in (nL := 6) (by decide) (by rw [t_M_turns]) rfl (by simp) (fun hv hm => k (fun a ha => hv a ha) hm)
theorem e_M_layAside {l : Launch} {g : mG} {d : Nat} {h : mMem} {K : Option mRV → mMem → Prop} {a0 : mRV} (k : (∀ a ∈ ([a0] : List mRV), mV a) → mMok h → mGo l g (mMt n_M_layAside) d 0 [some a0, none] [] h K) : mCon l g n_M_layAside d [a0] h K := mCon_in (nL := 2) (by decide) (by rw [t_M_layAside]) rfl (by simp) (fun hv hm => k (fun a ha => hv a ha) hm)
theorem e_M_bring {l : Launch} {g : mG} {d : Nat} {h : mMem} {K : Option mRV → mMem → Prop} {a0 : mRV} (k : (∀ a ∈ ([a0] : List mRV), mV a) → mMok h → mGo l g (mMt n_M_bring) d 0 [some a0, none] [] h K) : mCon l g n_M_bring d [a0] h K := mCon_in (nL := 2) (by decide) (by rw [t_M_bring]) rfl (by simp) (fun hv hm => k (fun a ha => hv a ha) hm)
theorem e_M_list {l : Launch} {g : mG} {d : Nat} {h : mMem} {K : Option mRV → mMem → Prop} {a0 a1 a2 : mRV} (k : (∀ a ∈ ([a0, a1, a2] : List mRV), mV a) → mMok h → mGo l g (mMt n_M_list) d 0 [some a0, some a1, some a2] [] h K) : mCon l g n_M_list d [a0, a1, a2] h K := mCon_in (nL := 3) (by decide) (by rw [t_M_list]) rfl (by simp) (fun hv hm => k (fun a ha => hv a ha) hm)
theorem e_M_isLong {l : Launch} {g : mG} {d : Nat} {h : mMem} {K : Option mRV → mMem → Prop} {a0 a1 : mRV} (k : (∀ a ∈ ([a0, a1] : List mRV), mV a) → mMok h → mGo l g (mMt n_M_isLong) d 0 [some a0, some a1] [] h K) : mCon l g n_M_isLong d [a0, a1] h K := mCon_in (nL := 2) (by decide) (by rw [t_M_isLong]) rfl (by simp) (fun hv hm => k (fun a ha => hv a ha) hm)
theorem e_M_goThrough {l : Launch} {g : mG} {d : Nat} {h : mMem} {K : Option mRV → mMem → Prop} {a0 a1 a2 a3 : mRV} (k : (∀ a ∈ ([a0, a1, a2, a3] : List mRV), mV a) → mMok h → mGo l g (mMt n_M_goThrough) d 0 [some a0, some a1, some a2, some a3, none, none] [] h K) : mCon l g n_M_goThrough d [a0, a1, a2, a3] h K := mCon_in (nL := 6) (by decide) (by rw [t_M_goThrough]) rfl (by simp) (fun hv hm => k (fun a ha => hv a ha) hm)
theorem e_M_listGo {l : Launch} {g : mG} {d : Nat} {h : mMem} {K : Option mRV → mMem → Prop} {a0 a1 : mRV} (k : (∀ a ∈ ([a0, a1] : List mRV), mV a) → mMok h → mGo l g (mMt n_M_listGo) d 0 [some a0, some a1, none] [] h K) : mCon l g n_M_listGo d [a0, a1] h K := mCon_in (nL := 3) (by decide) (by rw [t_M_listGo]) rfl (by simp) (fun hv hm => k (fun a ha => hv a ha) hm)
theorem e_M_mark {l : Launch} {g : mG} {d : Nat} {h : mMem} {K : Option mRV → mMem → Prop} {a0 : mRV} (k : (∀ a ∈ ([a0] : List mRV), mV a) → mMok h → mGo l g (mMt n_M_mark) d 0 [some a0, none] [] h K) : mCon l g n_M_mark d [a0] h K := mCon_in (nL := 2) (by decide) (by rw [t_M_mark]) rfl (by simp) (fun hv hm => k (fun a ha => hv a ha) hm)
theorem e_M_codeBy {l : Launch} {g : mG} {d : Nat} {h : mMem} {K : Option mRV → mMem → Prop} {a0 : mRV} (k : (∀ a ∈ ([a0] : List mRV), mV a) → mMok h → mGo l g (mMt n_M_codeBy) d 0 [some a0, none, none, none] [] h K) : mCon l g n_M_codeBy d [a0] h K := mCon_in (nL := 4) (by decide) (by rw [t_M_codeBy]) rfl (by simp) (fun hv hm => k (fun a ha => hv a ha) hm)
theorem e_M_markAll {l : Launch} {g : mG} {d : Nat} {h : mMem} {K : Option mRV → mMem → Prop} {a0 a1 a2 : mRV} (k : (∀ a ∈ ([a0, a1, a2] : List mRV), mV a) → mMok h → mGo l g (mMt n_M_markAll) d 0 [some a0, some a1, some a2, none] [] h K) : mCon l g n_M_markAll d [a0, a1, a2] h K := mCon_in (nL := 4) (by decide) (by rw [t_M_markAll]) rfl (by simp) (fun hv hm => k (fun a ha => hv a ha) hm)
theorem e_M_listed {l : Launch} {g : mG} {d : Nat} {h : mMem} {K : Option mRV → mMem → Prop} {a0 a1 a2 : mRV} (k : (∀ a ∈ ([a0, a1, a2] : List mRV), mV a) → mMok h → mGo l g (mMt n_M_listed) d 0 [some a0, some a1, some a2, none] [] h K) : mCon l g n_M_listed d [a0, a1, a2] h K := mCon_in (nL := 4) (by decide) (by rw [t_M_listed]) rfl (by simp) (fun hv hm => k (fun a ha => hv a ha) hm)
theorem e_M_form {l : Launch} {g : mG} {d : Nat} {h : mMem} {K : Option mRV → mMem → Prop} {a0 a1 : mRV} (k : (∀ a ∈ ([a0, a1] : List mRV), mV a) → mMok h → mGo l g (mMt n_M_form) d 0 [some a0, some a1] [] h K) : mCon l g n_M_form d [a0, a1] h K := mCon_in (nL := 2) (by decide) (by rw [t_M_form]) rfl (by simp) (fun hv hm => k (fun a ha => hv a ha) hm)
theorem e_M_findForm {l : Launch} {g : mG} {d : Nat} {h : mMem} {K : Option mRV → mMem → Prop} {a0 : mRV} (k : (∀ a ∈ ([a0] : List mRV), mV a) → mMok h → mGo l g (mMt n_M_findForm) d 0 [some a0] [] h K) : mCon l g n_M_findForm d [a0] h K := mCon_in (nL := 1) (by decide) (by rw [t_M_findForm]) rfl (by simp) (fun hv hm => k (fun a ha => hv a ha) hm)
theorem e_M_goForms {l : Launch} {g : mG} {d : Nat} {h : mMem} {K : Option mRV → mMem → Prop} {a0 a1 a2 : mRV} (k : (∀ a ∈ ([a0, a1, a2] : List mRV), mV a) → mMok h → mGo l g (mMt n_M_goForms) d 0 [some a0, some a1, some a2, none, none, none] [] h K) : mCon l g n_M_goForms d [a0, a1, a2] h K := mCon_in (nL := 6) (by decide) (by rw [t_M_goForms]) rfl (by simp) (fun hv hm => k (fun a ha => hv a ha) hm)
theorem e_M_against {l : Launch} {g : mG} {d : Nat} {h : mMem} {K : Option mRV → mMem → Prop} {a0 : mRV} (k : (∀ a ∈ ([a0] : List mRV), mV a) → mMok h → mGo l g (mMt n_M_against) d 0 [some a0, none, none, none] [] h K) : mCon l g n_M_against d [a0] h K := mCon_in (nL := 4) (by decide) (by rw [t_M_against]) rfl (by simp) (fun hv hm => k (fun a ha => hv a ha) hm)
theorem e_M_same {l : Launch} {g : mG} {d : Nat} {h : mMem} {K : Option mRV → mMem → Prop} {a0 : mRV} (k : (∀ a ∈ ([a0] : List mRV), mV a) → mMok h → mGo l g (mMt n_M_same) d 0 [some a0] [] h K) : mCon l g n_M_same d [a0] h K := mCon_in (nL := 1) (by decide) (by rw [t_M_same]) rfl (by simp) (fun hv hm => k (fun a ha => hv a ha) hm)
theorem e_M_puts {l : Launch} {g : mG} {d : Nat} {h : mMem} {K : Option mRV → mMem → Prop} {a0 : mRV} (k : (∀ a ∈ ([a0] : List mRV), mV a) → mMok h → mGo l g (mMt n_M_puts) d 0 [some a0, none] [] h K) : mCon l g n_M_puts d [a0] h K := mCon_in (nL := 2) (by decide) (by rw [t_M_puts]) rfl (by simp) (fun hv hm => k (fun a ha => hv a ha) hm)
theorem e_M_findPuts {l : Launch} {g : mG} {d : Nat} {h : mMem} {K : Option mRV → mMem → Prop} {a0 a1 : mRV} (k : (∀ a ∈ ([a0, a1] : List mRV), mV a) → mMok h → mGo l g (mMt n_M_findPuts) d 0 [some a0, some a1, none] [] h K) : mCon l g n_M_findPuts d [a0, a1] h K := mCon_in (nL := 3) (by decide) (by rw [t_M_findPuts]) rfl (by simp) (fun hv hm => k (fun a ha => hv a ha) hm)
theorem e_M_bare {l : Launch} {g : mG} {d : Nat} {h : mMem} {K : Option mRV → mMem → Prop} {a0 : mRV} (k : (∀ a ∈ ([a0] : List mRV), mV a) → mMok h → mGo l g (mMt n_M_bare) d 0 [some a0, none, none] [] h K) : mCon l g n_M_bare d [a0] h K := mCon_in (nL := 3) (by decide) (by rw [t_M_bare]) rfl (by simp) (fun hv hm => k (fun a ha => hv a ha) hm)
theorem e_M_goPut {l : Launch} {g : mG} {d : Nat} {h : mMem} {K : Option mRV → mMem → Prop} {a0 a1 : mRV} (k : (∀ a ∈ ([a0, a1] : List mRV), mV a) → mMok h → mGo l g (mMt n_M_goPut) d 0 [some a0, some a1, none, none] [] h K) : mCon l g n_M_goPut d [a0, a1] h K := mCon_in (nL := 4) (by decide) (by rw [t_M_goPut]) rfl (by simp) (fun hv hm => k (fun a ha => hv a ha) hm)
theorem e_M_put {l : Launch} {g : mG} {d : Nat} {h : mMem} {K : Option mRV → mMem → Prop} {a0 a1 : mRV} (k : (∀ a ∈ ([a0, a1] : List mRV), mV a) → mMok h → mGo l g (mMt n_M_put) d 0 [some a0, some a1, none, none] [] h K) : mCon l g n_M_put d [a0, a1] h K := mCon_in (nL := 4) (by decide) (by rw [t_M_put]) rfl (by simp) (fun hv hm => k (fun a ha => hv a ha) hm)
theorem e_M_drop {l : Launch} {g : mG} {d : Nat} {h : mMem} {K : Option mRV → mMem → Prop} {a0 : mRV} (k : (∀ a ∈ ([a0] : List mRV), mV a) → mMok h → mGo l g (mMt n_M_drop) d 0 [some a0, none] [] h K) : mCon l g n_M_drop d [a0] h K := mCon_in (nL := 2) (by decide) (by rw [t_M_drop]) rfl (by simp) (fun hv hm => k (fun a ha => hv a ha) hm)
theorem e_M_fill {l : Launch} {g : mG} {d : Nat} {h : mMem} {K : Option mRV → mMem → Prop} {a0 a1 : mRV} (k : (∀ a ∈ ([a0, a1] : List mRV), mV a) → mMok h → mGo l g (mMt n_M_fill) d 0 [some a0, some a1, none, none, none] [] h K) : mCon l g n_M_fill d [a0, a1] h K := mCon_in (nL := 5) (by decide) (by rw [t_M_fill]) rfl (by simp) (fun hv hm => k (fun a ha => hv a ha) hm)
theorem e_M_fills {l : Launch} {g : mG} {d : Nat} {h : mMem} {K : Option mRV → mMem → Prop} {a0 a1 a2 : mRV} (k : (∀ a ∈ ([a0, a1, a2] : List mRV), mV a) → mMok h → mGo l g (mMt n_M_fills) d 0 [some a0, some a1, some a2] [] h K) : mCon l g n_M_fills d [a0, a1, a2] h K := mCon_in (nL := 3) (by decide) (by rw [t_M_fills]) rfl (by simp) (fun hv hm => k (fun a ha => hv a ha) hm)
theorem e_M_fillFrom {l : Launch} {g : mG} {d : Nat} {h : mMem} {K : Option mRV → mMem → Prop} {a0 : mRV} (k : (∀ a ∈ ([a0] : List mRV), mV a) → mMok h → mGo l g (mMt n_M_fillFrom) d 0 [some a0, none, none, none] [] h K) : mCon l g n_M_fillFrom d [a0] h K := mCon_in (nL := 4) (by decide) (by rw [t_M_fillFrom]) rfl (by simp) (fun hv hm => k (fun a ha => hv a ha) hm)
theorem e_M_nextBare {l : Launch} {g : mG} {d : Nat} {h : mMem} {K : Option mRV → mMem → Prop} {a0 : mRV} (k : (∀ a ∈ ([a0] : List mRV), mV a) → mMok h → mGo l g (mMt n_M_nextBare) d 0 [some a0, none] [] h K) : mCon l g n_M_nextBare d [a0] h K := mCon_in (nL := 2) (by decide) (by rw [t_M_nextBare]) rfl (by simp) (fun hv hm => k (fun a ha => hv a ha) hm)
theorem e_M_firstBits {l : Launch} {g : mG} {d : Nat} {h : mMem} {K : Option mRV → mMem → Prop} {a0 : mRV} (k : (∀ a ∈ ([a0] : List mRV), mV a) → mMok h → mGo l g (mMt n_M_firstBits) d 0 [some a0, none, none] [] h K) : mCon l g n_M_firstBits d [a0] h K := mCon_in (nL := 3) (by decide) (by rw [t_M_firstBits]) rfl (by simp) (fun hv hm => k (fun a ha => hv a ha) hm)
theorem e_M_tries {l : Launch} {g : mG} {d : Nat} {h : mMem} {K : Option mRV → mMem → Prop} {a0 : mRV} (k : (∀ a ∈ ([a0] : List mRV), mV a) → mMok h → mGo l g (mMt n_M_tries) d 0 [some a0] [] h K) : mCon l g n_M_tries d [a0] h K := mCon_in (nL := 1) (by decide) (by rw [t_M_tries]) rfl (by simp) (fun hv hm => k (fun a ha => hv a ha) hm)
theorem e_M_prove {l : Launch} {g : mG} {d : Nat} {h : mMem} {K : Option mRV → mMem → Prop} {a0 : mRV} (k : (∀ a ∈ ([a0] : List mRV), mV a) → mMok h → mGo l g (mMt n_M_prove) d 0 [some a0, none, none] [] h K) : mCon l g n_M_prove d [a0] h K := mCon_in (nL := 3) (by decide) (by rw [t_M_prove]) rfl (by simp) (fun hv hm => k (fun a ha => hv a ha) hm)
theorem e_M_row {l : Launch} {g : mG} {d : Nat} {h : mMem} {K : Option mRV → mMem → Prop} {a0 a1 a2 : mRV} (k : (∀ a ∈ ([a0, a1, a2] : List mRV), mV a) → mMok h → mGo l g (mMt n_M_row) d 0 [some a0, some a1, some a2] [] h K) : mCon l g n_M_row d [a0, a1, a2] h K := mCon_in (nL := 3) (by decide) (by rw [t_M_row]) rfl (by simp) (fun hv hm => k (fun a ha => hv a ha) hm)
theorem e_M_forge {l : Launch} {g : mG} {d : Nat} {h : mMem} {K : Option mRV → mMem → Prop} {a0 a1 a2 : mRV} (k : (∀ a ∈ ([a0, a1, a2] : List mRV), mV a) → mMok h → mGo l g (mMt n_M_forge) d 0 [some a0, some a1, some a2, none] [] h K) : mCon l g n_M_forge d [a0, a1, a2] h K := mCon_in (nL := 4) (by decide) (by rw [t_M_forge]) rfl (by simp) (fun hv hm => k (fun a ha => hv a ha) hm)
theorem e_M_check {l : Launch} {g : mG} {d : Nat} {h : mMem} {K : Option mRV → mMem → Prop} {a0 : mRV} (k : (∀ a ∈ ([a0] : List mRV), mV a) → mMok h → mGo l g (mMt n_M_check) d 0 [some a0, none] [] h K) : mCon l g n_M_check d [a0] h K := mCon_in (nL := 2) (by decide) (by rw [t_M_check]) rfl (by simp) (fun hv hm => k (fun a ha => hv a ha) hm)
theorem e_M_follows {l : Launch} {g : mG} {d : Nat} {h : mMem} {K : Option mRV → mMem → Prop} {a0 : mRV} (k : (∀ a ∈ ([a0] : List mRV), mV a) → mMok h → mGo l g (mMt n_M_follows) d 0 [some a0, none, none, none] [] h K) : mCon l g n_M_follows d [a0] h K := mCon_in (nL := 4) (by decide) (by rw [t_M_follows]) rfl (by simp) (fun hv hm => k (fun a ha => hv a ha) hm)
theorem e_M_step {l : Launch} {g : mG} {d : Nat} {h : mMem} {K : Option mRV → mMem → Prop} {a0 a1 : mRV} (k : (∀ a ∈ ([a0, a1] : List mRV), mV a) → mMok h → mGo l g (mMt n_M_step) d 0 [some a0, some a1, none] [] h K) : mCon l g n_M_step d [a0, a1] h K := mCon_in (nL := 3) (by decide) (by rw [t_M_step]) rfl (by simp) (fun hv hm => k (fun a ha => hv a ha) hm)
theorem e_M_walks {l : Launch} {g : mG} {d : Nat} {h : mMem} {K : Option mRV → mMem → Prop} {a0 : mRV} (k : (∀ a ∈ ([a0] : List mRV), mV a) → mMok h → mGo l g (mMt n_M_walks) d 0 [some a0, none, none, none, none, none, none] [] h K) : mCon l g n_M_walks d [a0] h K := mCon_in (nL := 7) (by decide) (by rw [t_M_walks]) rfl (by simp) (fun hv hm => k (fun a ha => hv a ha) hm)
theorem e_M_clearGained {l : Launch} {g : mG} {d : Nat} {h : mMem} {K : Option mRV → mMem → Prop} {a0 : mRV} (k : (∀ a ∈ ([a0] : List mRV), mV a) → mMok h → mGo l g (mMt n_M_clearGained) d 0 [some a0, none] [] h K) : mCon l g n_M_clearGained d [a0] h K := mCon_in (nL := 2) (by decide) (by rw [t_M_clearGained]) rfl (by simp) (fun hv hm => k (fun a ha => hv a ha) hm)
theorem e_M_count {l : Launch} {g : mG} {d : Nat} {h : mMem} {K : Option mRV → mMem → Prop} {a0 a1 : mRV} (k : (∀ a ∈ ([a0, a1] : List mRV), mV a) → mMok h → mGo l g (mMt n_M_count) d 0 [some a0, some a1] [] h K) : mCon l g n_M_count d [a0, a1] h K := mCon_in (nL := 2) (by decide) (by rw [t_M_count]) rfl (by simp) (fun hv hm => k (fun a ha => hv a ha) hm)
end
section
/-! numbers -/
def mB (p : Prop) [Decidable p] : Int := if p then 1 else 0
theorem mB_01 (p : Prop) [Decidable p] : mB p = 0 ∨ mB p = 1 := by
  unfold mB
  split
  · exact Or.inr rfl
  · exact Or.inl rfl
theorem mB_t {p : Prop} [Decidable p] (h : p) : mB p = 1 := if_pos h
theorem mB_f {p : Prop} [Decidable p] (h : ¬ p) : mB p = 0 := if_neg h
theorem mB_eq0 {p : Prop} [Decidable p] : mB p = 0 ↔ ¬ p := by
  unfold mB
  split
  · next h => exact ⟨fun q => by omega, fun q => absurd h q⟩
  · next h => exact ⟨fun _ => h, fun _ => rfl⟩
theorem mB_ne0 {p : Prop} [Decidable p] : mB p ≠ 0 ↔ p := by
  rw [ne_eq, mB_eq0, Classical.not_not]
theorem mB_congr {p q : Prop} [Decidable p] [Decidable q] (h : p ↔ q) : mB p = mB q := by
  by_cases hp : p
  · rw [mB_t hp, mB_t (h.mp hp)]
  · rw [mB_f hp, mB_f (fun z => hp (h.mpr z))]
theorem mDiv_of {a b : Int} (ha : mIr a) (hb : mIr b) (h0 : 0 ≤ a) (h1 : 0 < b) : mDiv a b = a / b := by
  unfold mDiv
  rw [Int32.toInt_div, mTo ha, mTo hb, Int.tdiv_eq_ediv_of_nonneg h0]
  have h2 : 0 ≤ a / b := Int.ediv_nonneg h0 (Int.le_of_lt h1)
  have h3 : a / b ≤ a := Int.ediv_le_self b h0
  have h4 := ha.2
  exact Int.bmod_eq_of_le (by omega) (by omega)
theorem mRem_of {a b : Int} (ha : mIr a) (hb : mIr b) (h0 : 0 ≤ a) (h1 : 0 < b) : mRem a b = a % b := by
  have hd := mDiv_of ha hb h0 h1
  have e : Int32.ofInt a / Int32.ofInt b = Int32.ofInt (a / b) := by
    apply Int32.toInt_inj.mp
    have h2 : 0 ≤ a / b := Int.ediv_nonneg h0 (Int.le_of_lt h1)
    have h3 : a / b ≤ a := Int.ediv_le_self b h0
    have h4 := ha.2
    rw [mTo ⟨by omega, by omega⟩]
    exact hd
  unfold mRem
  rw [e, ← Int32.ofInt_mul, ← Int32.ofInt_sub]
  have h5 := Int.emod_def a b
  have h6 := Int.emod_nonneg a (Int.ne_of_gt h1)
  have h7 := Int.emod_lt_of_pos a h1
  have h8 := hb.2
  rw [Int.mul_comm (a / b) b, ← h5]
  exact mTo ⟨by omega, by omega⟩
theorem mSet_at (h : mMem) (t : Nat) (i : Fin 8) (k : Nat) (v : Int) : mSet h t i k v t i k = v := if_pos ⟨rfl, rfl, rfl⟩
theorem mSet_no {h : mMem} {t : Nat} {i : Fin 8} {k : Nat} {v : Int} {t' : Nat} {i' : Fin 8} {k' : Nat} (hn : ¬ (t' = t ∧ i' = i ∧ k' = k)) : mSet h t i k v t' i' k' = h t' i' k' := if_neg hn
/-- the number of a join -/
def jn (i j : Nat) : Nat := if i < j then j * (j - 1) / 2 + i else i * (i - 1) / 2 + j
theorem jn_calc1 : ∀ i : Nat, i < 12 → ∀ j : Nat, j < 12 → i < j → mWr (mDiv (mWr ((j : Int) * mWr ((j : Int) - 1))) 2 + (i : Int)) = ((jn i j : Nat) : Int) := by decide +kernel
theorem jn_calc2 : ∀ i : Nat, i < 12 → ∀ j : Nat, j < 12 → ¬ i < j → mWr (mDiv (mWr ((i : Int) * mWr ((i : Int) - 1))) 2 + (j : Int)) = ((jn i j : Nat) : Int) := by decide +kernel
theorem jn_lt : ∀ i, i < 12 → ∀ j, j < 12 → i ≠ j → jn i j < 66 := by decide +kernel
def js (p : Nat) : Nat := p * (p - 1) / 2
theorem js_calc : ∀ p : Nat, p < 13 → mDiv (mWr ((p : Int) * mWr ((p : Int) - 1))) 2 = ((js p : Nat) : Int) := by decide +kernel
theorem js_le : ∀ p, p < 13 → js p ≤ 66 := by decide +kernel
/-- a power, no further than above 60000 -/
def pw (b : Nat) : Nat → Nat
  | 0 => 1
  | e + 1 => if pw b e ≤ 60000 then pw b e * b else pw b e
theorem pw_le (b : Nat) (hb : b ≤ 3) : ∀ e, pw b e ≤ 180000
  | 0 => show 1 ≤ 180000 by decide
  | e + 1 => by
    have := pw_le b hb e
    unfold pw
    split
    · next h =>
      have h1 : pw b e * b ≤ 60000 * 3 := Nat.mul_le_mul h hb
      omega
    · omega
theorem pw_stop (b : Nat) {e : Nat} (h : 60000 < pw b e) : ∀ k, pw b (e + k) = pw b e
  | 0 => rfl
  | k + 1 => by
    show (if pw b (e + k) ≤ 60000 then _ else pw b (e + k)) = _
    rw [pw_stop b h k, if_neg (by omega)]
/-- choosing -/
def chI (f : Int) : Nat → Int
  | 0 => 1
  | i + 1 => chI f i * (f - i) / (i + 1)
theorem chI_bd : ∀ f, f < 13 → ∀ s, s < 8 → 0 ≤ chI (f : Nat) s ∧ chI (f : Nat) s ≤ 1000 ∧ 0 ≤ chI (f : Nat) s * ((f : Int) - s) + (if f < s then 1 else 0) := by decide +kernel
end
section
section Leaves
variable {l : Launch} {g : mG} {d : Nat}
theorem c_M_isIn (v lo hi : Int) (h : mMem) : mCon l g n_M_isIn d [.inl v, .inl lo, .inl hi] h (mIs (some (.inl (mB (lo ≤ v ∧ v ≤ hi)))) h) := by
  refine e_M_isIn (fun hv hm => ?_)
  refine mGo_wp h_M_isIn 40 [] ?_
  refine ⟨fun c => ?_, fun c => ⟨fun c2 => ?_, fun c2 => ?_⟩⟩
  · exact ⟨Or.inl rfl, by rw [mB_f (by omega)], rfl⟩
  · exact ⟨Or.inl rfl, by rw [mB_f (by omega)], rfl⟩
  · exact ⟨Or.inr rfl, by rw [mB_t (by omega)], rfl⟩
theorem c_M_join (i j : Nat) (hi : i < 12) (hj : j < 12) (h : mMem) : mCon l g n_M_join d [.inl i, .inl j] h (mIs (some (.inl (jn i j))) h) := by
  refine e_M_join (fun hv hm => ?_)
  refine mGo_wp h_M_join 40 [] ?_
  refine ⟨fun c => ⟨by decide, ?_, rfl⟩, fun c => ⟨by decide, ?_, rfl⟩⟩
  · rw [jn_calc2 i hi j hj (by omega)]
  · rw [jn_calc1 i hi j hj (by omega)]
theorem c_K_numberOf (i j : Nat) (hi : i < 12) (hj : j < 12) (h : mMem) : mCon l g n_K_numberOf d [.inl i, .inl j] h (mIs (some (.inl (jn i j))) h) := by
  refine e_K_numberOf (fun hv hm => ?_)
  refine mGo_wp h_K_numberOf 40 [] ?_
  refine ⟨fun c => ⟨by decide, ?_, rfl⟩, fun c => ⟨by decide, ?_, rfl⟩⟩
  · rw [jn_calc2 i hi j hj (by omega)]
  · rw [jn_calc1 i hi j hj (by omega)]
theorem c_M_joinsOf (p : Nat) (hp : p < 13) (h : mMem) : mCon l g n_M_joinsOf d [.inl p] h (mIs (some (.inl (js p))) h) := by
  refine e_M_joinsOf (fun hv hm => ?_)
  refine mGo_wp h_M_joinsOf 40 [] ?_
  refine ⟨by decide, ?_, rfl⟩
  rw [js_calc p hp]
theorem c_Net_joinCount (i : Fin 8) (p : Nat) (hp : p < 13) (h : mMem) (e : h 4 i 0 = p) : mCon l g n_Net_joinCount d [.inr (4, i)] h (mIs (some (.inl (js p))) h) := by
  refine e_Net_joinCount (fun hv hm => ?_)
  refine mGo_wp h_Net_joinCount 40 [] ?_
  refine ⟨by decide, ?_, rfl⟩
  rw [e, js_calc p hp]
theorem c_M_isPoint (q : Int) (p : Nat) (hp : p < 13) (h : mMem) (e : h 9 0 0 = p) : mCon l g n_M_isPoint (d + 1) [.inr (9, 0), .inl q] h (mIs (some (.inl (mB (0 ≤ q ∧ q < p)))) h) := by
  refine e_M_isPoint (fun hv hm => ?_)
  refine mGo_wp h_M_isPoint 40 [] ?_
  refine mCall_is (c_M_isIn _ _ _ _) ?_
  refine ⟨mB_01 _, ?_, rfl⟩
  rw [e, mWr_of ⟨by omega, by omega⟩]
  exact congrArg (fun x => some (Sum.inl x)) (mB_congr (by omega))
theorem c_M_isColour (q : Int) (c : Nat) (hp : c < 4) (h : mMem) (e : h 9 0 1 = c) : mCon l g n_M_isColour (d + 1) [.inr (9, 0), .inl q] h (mIs (some (.inl (mB (0 ≤ q ∧ q < c)))) h) := by
  refine e_M_isColour (fun hv hm => ?_)
  refine mGo_wp h_M_isColour 40 [] ?_
  refine mCall_is (c_M_isIn _ _ _ _) ?_
  refine ⟨mB_01 _, ?_, rfl⟩
  rw [e, mWr_of ⟨by omega, by omega⟩]
  exact congrArg (fun x => some (Sum.inl x)) (mB_congr (by omega))
theorem c_Net_hasPoint (i : Fin 8) (q : Int) (h : mMem) : mCon l g n_Net_hasPoint d [.inr (4, i), .inl q] h (mIs (some (.inl (mB (0 ≤ q ∧ q < h 4 i 0)))) h) := by
  refine e_Net_hasPoint (fun hv hm => ?_)
  refine mGo_wp h_Net_hasPoint 40 [] ?_
  refine ⟨fun c => ?_, fun c => ⟨fun c2 => ?_, fun c2 => ?_⟩⟩
  · exact ⟨Or.inl rfl, by rw [mB_f (by omega)], rfl⟩
  · exact ⟨Or.inl rfl, by rw [mB_f (by omega)], rfl⟩
  · exact ⟨Or.inr rfl, by rw [mB_t (by omega)], rfl⟩
theorem c_Net_hasColour (i : Fin 8) (q : Int) (h : mMem) : mCon l g n_Net_hasColour d [.inr (4, i), .inl q] h (mIs (some (.inl (mB (0 ≤ q ∧ q < h 4 i 1)))) h) := by
  refine e_Net_hasColour (fun hv hm => ?_)
  refine mGo_wp h_Net_hasColour 40 [] ?_
  refine ⟨fun c => ?_, fun c => ⟨fun c2 => ?_, fun c2 => ?_⟩⟩
  · exact ⟨Or.inl rfl, by rw [mB_f (by omega)], rfl⟩
  · exact ⟨Or.inl rfl, by rw [mB_f (by omega)], rfl⟩
  · exact ⟨Or.inr rfl, by rw [mB_t (by omega)], rfl⟩
theorem c_Net_hasJoin (i : Fin 8) (a b : Int) (h : mMem) : mCon l g n_Net_hasJoin (d + 1) [.inr (4, i), .inl a, .inl b] h (mIs (some (.inl (mB ((0 ≤ a ∧ a < h 4 i 0) ∧ (0 ≤ b ∧ b < h 4 i 0) ∧ a ≠ b)))) h) := by
  refine e_Net_hasJoin (fun hv hm => ?_)
  refine mGo_wp h_Net_hasJoin 40 [] ?_
  refine mCall_is (c_Net_hasPoint i a h) ?_
  refine ⟨fun c => ?_, fun c => ?_⟩
  · rw [mB_eq0] at c
    exact ⟨Or.inl rfl, by rw [mB_f (fun z => c z.1)], rfl⟩
  · have c := mB_ne0.mp c
    refine mCall_is (c_Net_hasPoint i b h) ?_
    refine ⟨fun c2 => ?_, fun c2 => ⟨fun c3 => ?_, fun c3 => ?_⟩⟩
    · rw [mB_eq0] at c2
      exact ⟨Or.inl rfl, by rw [mB_f (fun z => c2 z.2.1)], rfl⟩
    · exact ⟨Or.inl rfl, by rw [mB_f (fun z => z.2.2 c3)], rfl⟩
    · exact ⟨Or.inr rfl, by rw [mB_t ⟨c, mB_ne0.mp c2, c3⟩], rfl⟩
theorem c_Net_hasColourOrBare (i : Fin 8) (q : Int) (h : mMem) : mCon l g n_Net_hasColourOrBare (d + 1) [.inr (4, i), .inl q] h (mIs (some (.inl (mB (q = -1 ∨ (0 ≤ q ∧ q < h 4 i 1))))) h) := by
  refine e_Net_hasColourOrBare (fun hv hm => ?_)
  refine mGo_wp h_Net_hasColourOrBare 40 [] ?_
  refine ⟨fun c => ?_, fun c => ?_⟩
  · exact ⟨Or.inr rfl, by rw [mB_t (Or.inl c)], rfl⟩
  · refine mCall_is (c_Net_hasColour i q h) ?_
    refine ⟨fun c2 => ?_, fun c2 => ?_⟩
    · rw [mB_eq0] at c2
      exact ⟨Or.inl rfl, by rw [mB_f (fun z => z.elim c c2)], rfl⟩
    · exact ⟨Or.inr rfl, by rw [mB_t (Or.inr (mB_ne0.mp c2))], rfl⟩
theorem c_M_areTwo (a b : Int) (p : Nat) (hp : p < 13) (h : mMem) (e : h 9 0 0 = p) : mCon l g n_M_areTwo (d + 2) [.inr (9, 0), .inl a, .inl b] h (mIs (some (.inl (mB ((0 ≤ a ∧ a < p) ∧ (0 ≤ b ∧ b < p) ∧ a ≠ b)))) h) := by
  refine e_M_areTwo (fun hv hm => ?_)
  refine mGo_wp h_M_areTwo 40 [] ?_
  refine mCall_is (c_M_isPoint a p hp h e) ?_
  refine ⟨fun c => ?_, fun c => ?_⟩
  · rw [mB_eq0] at c
    exact ⟨Or.inl rfl, by rw [mB_f (fun z => c z.1)], rfl⟩
  · have c := mB_ne0.mp c
    refine mCall_is (c_M_isPoint b p hp h e) ?_
    refine ⟨fun c2 => ?_, fun c2 => ⟨fun c3 => ?_, fun c3 => ?_⟩⟩
    · rw [mB_eq0] at c2
      exact ⟨Or.inl rfl, by rw [mB_f (fun z => c2 z.2.1)], rfl⟩
    · exact ⟨Or.inl rfl, by rw [mB_f (fun z => z.2.2 c3)], rfl⟩
    · exact ⟨Or.inr rfl, by rw [mB_t ⟨c, mB_ne0.mp c2, c3⟩], rfl⟩
end Leaves
end
section
/-! a net, as both sides hold it: points, colours, kinds, sizes, colours of the joins -/
abbrev nN : Type := Nat × Nat × (Nat → Int) × (Nat → Int) × (Nat → Int)
abbrev nP (N : nN) : Nat := N.1
abbrev nC (N : nN) : Nat := N.2.1
abbrev nK (N : nN) : Nat → Int := N.2.2.1
abbrev nS (N : nN) : Nat → Int := N.2.2.2.1
abbrev nT (N : nN) : Nat → Int := N.2.2.2.2
abbrev szOk (k s : Int) : Prop := (k = 0 ∧ s = 0) ∨ (k = 1 ∧ 2 ≤ s ∧ s ≤ 6) ∨ (k = 2 ∧ 3 ≤ s ∧ s ≤ 5) ∨ (k = 3 ∧ 1 ≤ s ∧ s ≤ 6) ∨ (k = 4 ∧ 1 ≤ s ∧ s ≤ 4) ∨ (k = 5 ∧ 2 ≤ s ∧ s ≤ 5)
def nOk (N : nN) : Prop := (1 ≤ nP N ∧ nP N ≤ 12) ∧ (2 ≤ nC N ∧ nC N ≤ 3) ∧ (∀ k, k < 3 → szOk (nK N k) (nS N k)) ∧ (∀ k, k < 66 → -1 ≤ nT N k ∧ nT N k < nC N) ∧ (∀ k, js (nP N) ≤ k → k < 66 → nT N k = -1)
/-- the bits of the points that a point is joined with in a colour -/
def nrB (T : Nat → Int) (c q : Nat) : Nat → Nat
  | 0 => 0
  | r + 1 => nrB T c q r + (if r ≠ q ∧ T (jn q r) = c then 2 ^ r else 0)
def nr (T : Nat → Int) (c q : Nat) : Nat := nrB T c q 12
def isM (h : mMem) (N : nN) : Prop := h 9 0 0 = nP N ∧ h 9 0 1 = nC N ∧ (∀ k, k < 3 → h 40 0 k = nK N k) ∧ (∀ k, k < 3 → h 41 0 k = nS N k) ∧ (∀ k, k < 66 → h 42 0 k = nT N k)
def isC (h : mMem) (i : Fin 8) (N : nN) : Prop := h 4 i 0 = nP N ∧ h 4 i 1 = nC N ∧ (∀ k, k < 3 → h 20 i k = nK N k) ∧ (∀ k, k < 3 → h 21 i k = nS N k) ∧ (∀ k, k < 66 → h 22 i k = nT N k) ∧ (∀ c, c < 3 → ∀ q, q < 12 → h 23 i (c * 12 + q) = nr (nT N) c q)
abbrev vBAD : Int := -1000000001
abbrev vNO : Int := -1000000002
abbrev vFULL : Int := -1000000003
abbrev vLARGE : Int := -1000000004
abbrev vSPENT : Int := -1000000006
abbrev vNONE : Int := -1000000005
def nJoin (N : nN) (a b : Int) : Prop := (0 ≤ a ∧ a < nP N) ∧ (0 ≤ b ∧ b < nP N) ∧ a ≠ b
def nCol (N : nN) (q : Int) : Prop := 0 ≤ q ∧ q < nC N
noncomputable def spColour (N : nN) (a b : Int) : Int := if (0 ≤ a ∧ a < nP N) ∧ (0 ≤ b ∧ b < nP N) ∧ a ≠ b then nT N (jn a.toNat b.toNat) else vBAD
noncomputable def spAim (N : nN) (q w : Int) : Int := if (0 ≤ q ∧ q < nC N) ∧ (0 ≤ w ∧ w ≤ 1) then (if w = 0 then nK N q.toNat else nS N q.toNat) else vBAD
noncomputable def spIsOf (N : nN) (q k : Int) : Int := if (0 ≤ q ∧ q < nC N) ∧ (0 ≤ k ∧ k ≤ 6) then (if nK N q.toNat = k ∨ (k = 6 ∧ (nK N q.toNat = 2 ∨ nK N q.toNat = 5)) then 1 else 0) else vBAD
section Reads
variable {l : Launch} {g : mG} {d : Nat}
theorem c_K_colour (a b : Int) (N : nN) (h : mMem) (o : nOk N) (e : isC h 0 N) : mCon l g n_K_colour (d + 2) [.inr (8, 0), .inl a, .inl b] h (mIs (some (.inl (spColour N a b))) h) := by
  refine e_K_colour (fun hv hm => ?_)
  refine mGo_wp h_K_colour 40 [] ?_
  refine mCall_is (c_Net_hasJoin 0 a b h) ?_
  have hp := o.1.2
  refine ⟨fun c => ?_, fun c => ?_⟩
  · rw [mB_eq0, e.1] at c
    exact ⟨by rw [spColour, if_neg c], rfl⟩
  · have c := mB_ne0.mp c
    rw [e.1] at c
    obtain ⟨⟨a0, a1⟩, ⟨b0, b1⟩, ab⟩ := id c
    obtain ⟨a', rfl⟩ := Int.eq_ofNat_of_zero_le a0
    obtain ⟨b', rfl⟩ := Int.eq_ofNat_of_zero_le b0
    have hj := jn_lt a' (by omega) b' (by omega) (by omega)
    refine mCall_is (c_K_numberOf a' b' (by omega) (by omega) h) ?_
    refine ⟨⟨by omega, by omega⟩, ?_, rfl⟩
    rw [spColour, if_pos c, Int.toNat_natCast, Int.toNat_natCast, Int.toNat_natCast, e.2.2.2.2.1 _ hj]
theorem c_M_colour (a b : Int) (N : nN) (h : mMem) (o : nOk N) (e : isM h N) : mCon l g n_M_colour (d + 3) [.inr (9, 0), .inl a, .inl b] h (mIs (some (.inl (spColour N a b))) h) := by
  refine e_M_colour (fun hv hm => ?_)
  refine mGo_wp h_M_colour 40 [] ?_
  have hp := o.1.2
  refine mCall_is (c_M_areTwo a b (nP N) (by omega) h e.1) ?_
  refine ⟨fun c => ?_, fun c => ?_⟩
  · rw [mB_eq0] at c
    exact ⟨by rw [spColour, if_neg c], rfl⟩
  · have c := mB_ne0.mp c
    obtain ⟨⟨a0, a1⟩, ⟨b0, b1⟩, ab⟩ := id c
    obtain ⟨a', rfl⟩ := Int.eq_ofNat_of_zero_le a0
    obtain ⟨b', rfl⟩ := Int.eq_ofNat_of_zero_le b0
    have hj := jn_lt a' (by omega) b' (by omega) (by omega)
    refine mCall_is (c_M_join a' b' (by omega) (by omega) h) ?_
    refine ⟨⟨by omega, by omega⟩, ?_, rfl⟩
    rw [spColour, if_pos c, Int.toNat_natCast, Int.toNat_natCast, Int.toNat_natCast, e.2.2.2.2 _ hj]
theorem c_K_aim (q w : Int) (N : nN) (h : mMem) (o : nOk N) (e : isC h 0 N) : mCon l g n_K_aim (d + 1) [.inr (8, 0), .inl q, .inl w] h (mIs (some (.inl (spAim N q w))) h) := by
  refine e_K_aim (fun hv hm => ?_)
  refine mGo_wp h_K_aim 40 [] ?_
  refine mCall_is (c_Net_hasColour 0 q h) ?_
  have hc := o.2.1.2
  refine ⟨fun c => ?_, fun c => ⟨fun c2 => ?_, fun c2 => ⟨fun c3 => ?_, fun c3 => ?_⟩⟩⟩
  · rw [mB_eq0, e.2.1] at c
    exact ⟨by rw [spAim, if_neg (fun z => c z.1)], rfl⟩
  · exact ⟨by rw [spAim, if_neg (fun z => by omega)], rfl⟩
  · have c := mB_ne0.mp c
    rw [e.2.1] at c
    refine ⟨fun c4 => ⟨⟨by omega, by omega⟩, ?_, rfl⟩, fun c4 => ⟨⟨by omega, by omega⟩, ?_, rfl⟩⟩
    · rw [spAim, if_pos ⟨c, c2, c3⟩, if_neg c4, e.2.2.2.1 _ (by omega)]
    · rw [spAim, if_pos ⟨c, c2, c3⟩, if_pos c4, e.2.2.1 _ (by omega)]
  · exact ⟨by rw [spAim, if_neg (fun z => by omega)], rfl⟩
theorem c_M_aim (q w : Int) (N : nN) (h : mMem) (o : nOk N) (e : isM h N) : mCon l g n_M_aim (d + 2) [.inr (9, 0), .inl q, .inl w] h (mIs (some (.inl (spAim N q w))) h) := by
  refine e_M_aim (fun hv hm => ?_)
  refine mGo_wp h_M_aim 40 [] ?_
  have hc := o.2.1.2
  refine mCall_is (c_M_isColour q (nC N) (by omega) h e.2.1) ?_
  refine ⟨fun c => ?_, fun c => ?_⟩
  · rw [mB_eq0] at c
    exact ⟨by rw [spAim, if_neg (fun z => c z.1)], rfl⟩
  · have c := mB_ne0.mp c
    refine mCall_is (c_M_isIn w 0 1 h) ?_
    refine ⟨fun c2 => ?_, fun c2 => ?_⟩
    · have c2 := mB_ne0.mp c2
      refine ⟨fun c4 => ⟨⟨by omega, by omega⟩, ?_, rfl⟩, fun c4 => ⟨⟨by omega, by omega⟩, ?_, rfl⟩⟩
      · rw [spAim, if_pos ⟨c, c2⟩, if_neg c4, e.2.2.2.1 _ (by omega)]
      · rw [spAim, if_pos ⟨c, c2⟩, if_pos c4, e.2.2.1 _ (by omega)]
    · rw [mB_eq0] at c2
      exact ⟨by rw [spAim, if_neg (fun z => c2 z.2)], rfl⟩
end Reads
end
section
theorem least_calc : ∀ n : Nat, n < 13 → 1 ≤ n → mWr (mDiv (mWr (mWr ((n : Int) * mWr ((n : Int) - 1)) * mWr ((n : Int) - 2))) 6 - mDiv (mWr (mWr ((n : Int) * mDiv (mWr ((n : Int) - 1)) 2) * mWr (mWr ((n : Int) - 1) - mDiv (mWr ((n : Int) - 1)) 2))) 2) = (n * (n - 1) * (n - 2) / 6 - n * ((n - 1) / 2) * (n - 1 - (n - 1) / 2) / 2 : Int) := by decide +kernel
def spLeast (n : Int) : Int := if 1 ≤ n ∧ n ≤ 12 then (n * (n - 1) * (n - 2) / 6 - n * ((n - 1) / 2) * (n - 1 - (n - 1) / 2) / 2 : Int) else vBAD
section Reads
variable {l : Launch} {g : mG} {d : Nat}
theorem c_K_least (n : Int) (h : mMem) : mCon l g n_K_least d [.inr (8, 0), .inl n] h (mIs (some (.inl (spLeast n))) h) := by
  refine e_K_least (fun hv hm => ?_)
  refine mGo_wp h_K_least 60 [] ?_
  refine ⟨fun c => ?_, fun c => ⟨fun c2 => ?_, fun c2 => ?_⟩⟩
  · exact ⟨by rw [spLeast, if_neg (by omega)], rfl⟩
  · refine ⟨by decide, by decide, by decide, ?_, rfl⟩
    obtain ⟨n', rfl⟩ := Int.eq_ofNat_of_zero_le (show 0 ≤ n by omega)
    rw [least_calc n' (by omega) (by omega), spLeast, if_pos ⟨c, c2⟩]
  · exact ⟨by rw [spLeast, if_neg (by omega)], rfl⟩
theorem c_M_least (n : Int) (h : mMem) : mCon l g n_M_least (d + 1) [.inr (9, 0), .inl n] h (mIs (some (.inl (spLeast n))) h) := by
  refine e_M_least (fun hv hm => ?_)
  refine mGo_wp h_M_least 60 [] ?_
  refine mCall_is (c_M_isIn n 1 12 h) ?_
  refine ⟨fun c => ?_, fun c => ?_⟩
  · have c := mB_ne0.mp c
    refine ⟨by decide, by decide, by decide, ?_, rfl⟩
    obtain ⟨n', rfl⟩ := Int.eq_ofNat_of_zero_le (show 0 ≤ n by omega)
    rw [least_calc n' (by omega) (by omega), spLeast, if_pos c]
  · rw [mB_eq0] at c
    exact ⟨by rw [spLeast, if_neg c], rfl⟩
theorem c_K_tries (h : mMem) : mCon l g n_K_tries d [.inr (8, 0)] h (mIs (some (.inl (h 8 0 7))) h) := by
  refine e_K_tries (fun hv hm => ?_)
  refine mGo_wp h_K_tries 60 [] ?_
  exact ⟨rfl, rfl⟩
theorem c_M_tries (h : mMem) : mCon l g n_M_tries d [.inr (9, 0)] h (mIs (some (.inl (h 9 0 38))) h) := by
  refine e_M_tries (fun hv hm => ?_)
  refine mGo_wp h_M_tries 60 [] ?_
  exact ⟨rfl, rfl⟩
theorem c_M_isOf (q k : Int) (N : nN) (h : mMem) (o : nOk N) (e : isM h N) : mCon l g n_M_isOf (d + 2) [.inr (9, 0), .inl q, .inl k] h (mIs (some (.inl (spIsOf N q k))) h) := by
  refine e_M_isOf (fun hv hm => ?_)
  refine mGo_wp h_M_isOf 60 [] ?_
  have hc := o.2.1.2
  refine mCall_is (c_M_isColour q (nC N) (by omega) h e.2.1) ?_
  refine ⟨fun c => ?_, fun c => ?_⟩
  · rw [mB_eq0] at c
    exact ⟨by rw [spIsOf, if_neg (fun z => c z.1)], rfl⟩
  · have c := mB_ne0.mp c
    refine mCall_is (c_M_isIn k 0 6 h) ?_
    refine ⟨fun c2 => ?_, fun c2 => ?_⟩
    · have c2 := mB_ne0.mp c2
      refine ⟨⟨by omega, by omega⟩, ?_⟩
      have ek := e.2.2.1 q.toNat (by omega)
      refine ⟨fun c4 => ?_, fun c4 => ⟨fun c5 => ?_, fun c5 => ⟨fun c6 => ?_, fun c6 => ⟨fun c7 => ?_, fun c7 => ?_⟩⟩⟩⟩
      · rw [ek] at c4
        exact ⟨by rw [spIsOf, if_pos ⟨c, c2⟩, if_pos (Or.inl c4)], rfl⟩
      · rw [ek] at c4
        exact ⟨by rw [spIsOf, if_pos ⟨c, c2⟩, if_neg (fun z => z.elim c4 (fun y => c5 y.1))], rfl⟩
      · rw [ek] at c6
        exact ⟨by rw [spIsOf, if_pos ⟨c, c2⟩, if_pos (Or.inr ⟨c5, Or.inl c6⟩)], rfl⟩
      · rw [ek] at c4 c6 c7
        exact ⟨by rw [spIsOf, if_pos ⟨c, c2⟩, if_neg (fun z => z.elim c4 (fun y => y.2.elim c6 c7))], rfl⟩
      · rw [ek] at c7
        exact ⟨by rw [spIsOf, if_pos ⟨c, c2⟩, if_pos (Or.inr ⟨c5, Or.inr c7⟩)], rfl⟩
    · rw [mB_eq0] at c2
      exact ⟨by rw [spIsOf, if_neg (fun z => c2 z.2)], rfl⟩
theorem c_K_isOf (q k : Int) (N : nN) (h : mMem) (o : nOk N) (e : isC h 0 N) : mCon l g n_K_isOf (d + 1) [.inr (8, 0), .inl q, .inl k] h (mIs (some (.inl (spIsOf N q k))) h) := by
  refine e_K_isOf (fun hv hm => ?_)
  refine mGo_wp h_K_isOf 60 [] ?_
  have hc := o.2.1.2
  refine mCall_is (c_Net_hasColour 0 q h) ?_
  refine ⟨fun c => ?_, fun c => ⟨fun c2 => ?_, fun c2 => ⟨fun c3 => ?_, fun c3 => ?_⟩⟩⟩
  · rw [mB_eq0, e.2.1] at c
    exact ⟨by rw [spIsOf, if_neg (fun z => c z.1)], rfl⟩
  · exact ⟨by rw [spIsOf, if_neg (fun z => by omega)], rfl⟩
  · have c := mB_ne0.mp c
    rw [e.2.1] at c
    have ek := e.2.2.1 q.toNat (by omega)
    have ok : (nK N q.toNat ≤ 5) := by
      have := o.2.2.1 q.toNat (by omega)
      unfold szOk at this
      omega
    refine ⟨⟨by omega, by omega⟩, ?_⟩
    refine ⟨fun c4 => ⟨fun c5 => ?_, fun c5 => ?_⟩, fun c4 => ⟨fun c5 => ?_, fun c5 => ⟨fun c6 => ?_, fun c6 => ?_⟩⟩⟩
    · rw [ek] at c5
      exact ⟨fun _ => ⟨by rw [spIsOf, if_pos ⟨c, c2, c3⟩, if_neg (fun z => z.elim c5 (fun y => c4 y.1))], rfl⟩, fun z => absurd rfl z⟩
    · rw [ek] at c5
      exact ⟨fun z => absurd z (by decide), fun _ => ⟨by rw [spIsOf, if_pos ⟨c, c2, c3⟩, if_pos (Or.inl c5)], rfl⟩⟩
    · rw [ek] at c5
      exact ⟨fun z => absurd z (by decide), fun _ => ⟨by rw [spIsOf, if_pos ⟨c, c2, c3⟩, if_pos (Or.inr ⟨c4, Or.inl c5⟩)], rfl⟩⟩
    · rw [ek] at c5 c6
      exact ⟨fun _ => ⟨by rw [spIsOf, if_pos ⟨c, c2, c3⟩, if_neg (fun z => z.elim (fun y => by omega) (fun y => y.2.elim c5 c6))], rfl⟩, fun z => absurd rfl z⟩
    · rw [ek] at c6
      exact ⟨fun z => absurd z (by decide), fun _ => ⟨by rw [spIsOf, if_pos ⟨c, c2, c3⟩, if_pos (Or.inr ⟨c4, Or.inr c6⟩)], rfl⟩⟩
  · exact ⟨by rw [spIsOf, if_neg (fun z => by omega)], rfl⟩
end Reads
end
section
def cn (f : Nat → Bool) : Nat → Nat
  | 0 => 0
  | n + 1 => cn f n + (if f n = true then 1 else 0)
theorem cn_le (f : Nat → Bool) : ∀ n, cn f n ≤ n
  | 0 => Nat.le_refl 0
  | n + 1 => by
    have := cn_le f n
    show cn f n + (if f n = true then 1 else 0) ≤ n + 1
    split <;> omega
theorem cn_t {f : Nat → Bool} {n : Nat} (h : f n = true) : cn f (n + 1) = cn f n + 1 := by
  show cn f n + (if f n = true then 1 else 0) = _
  rw [if_pos h]
theorem cn_f {f : Nat → Bool} {n : Nat} (h : ¬ f n = true) : cn f (n + 1) = cn f n := by
  show cn f n + (if f n = true then 1 else 0) = _
  rw [if_neg h]; rfl
theorem jn_comm : ∀ i, i < 12 → ∀ j, j < 12 → jn i j = jn j i := by decide +kernel
def nBare (N : nN) : Nat := cn (fun k => decide (nT N k = -1)) (js (nP N))
section Counts
variable {l : Launch} {g : mG} {d : Nat}
theorem l_Net_bareCount (i : Fin 8) (N : nN) (h : mMem) (o : nOk N) (e : isC h i N) : ∀ (n k : Nat), k + n = js (nP N) → mGo l g (mMt n_Net_bareCount) (d + 1) 4 [some (.inr (4, i)), some (.inl (cn (fun k => decide (nT N k = -1)) k : Nat)), some (.inl k)] [] h (mIs (some (.inl (nBare N))) h) := by
  have hp := o.1.2
  have hj := js_le (nP N) (by omega)
  intro n
  induction n with
  | zero =>
    intro k hk
    refine mGo_wp h_Net_bareCount 40 [4] ?_
    refine mCall_is (c_Net_joinCount i (nP N) (by omega) h e.1) ?_
    refine ⟨fun c => ⟨?_, rfl⟩, fun c => by omega⟩
    have : k = js (nP N) := by omega
    subst this
    rfl
  | succ n ih =>
    intro k hk
    have hc := cn_le (fun k => decide (nT N k = -1)) k
    refine mGo_wp h_Net_bareCount 40 [4] ?_
    refine mCall_is (c_Net_joinCount i (nP N) (by omega) h e.1) ?_
    refine ⟨fun c => by omega, fun c => ⟨⟨by omega, by omega⟩, ⟨fun c2 => ?_, fun c2 => ?_⟩⟩⟩
    · rw [Int.toNat_natCast, e.2.2.2.2.1 k (by omega)] at c2
      have q := ih (k + 1) (by omega)
      rw [cn_f (by simpa using c2)] at q
      show mGo l g _ _ 4 [_, _, some (.inl (mWr ((k : Int) + 1)))] [] _ _
      rw [mWr_of ⟨by omega, by omega⟩]
      exact q
    · rw [Int.toNat_natCast, e.2.2.2.2.1 k (by omega)] at c2
      have q := ih (k + 1) (by omega)
      rw [cn_t (by simpa using c2)] at q
      show mGo l g _ _ 4 [_, some (.inl (mWr (((cn (fun k => decide (nT N k = -1)) k : Nat) : Int) + 1))), some (.inl (mWr ((k : Int) + 1)))] [] _ _
      rw [mWr_of ⟨by omega, by omega⟩, mWr_of ⟨by omega, by omega⟩]
      exact q
theorem c_Net_bareCount (i : Fin 8) (N : nN) (h : mMem) (o : nOk N) (e : isC h i N) : mCon l g n_Net_bareCount (d + 1) [.inr (4, i)] h (mIs (some (.inl (nBare N))) h) := by
  refine e_Net_bareCount (fun hv hm => ?_)
  refine mGo_wp h_Net_bareCount 40 [4] ?_
  exact l_Net_bareCount i N h o e (js (nP N)) 0 (by omega)
theorem l_M_bare (N : nN) (h : mMem) (o : nOk N) (e : isM h N) : ∀ (n k : Nat), k + n = js (nP N) → mGo l g (mMt n_M_bare) (d + 1) 4 [some (.inr (9, 0)), some (.inl (cn (fun k => decide (nT N k = -1)) k : Nat)), some (.inl k)] [] h (mIs (some (.inl (nBare N))) h) := by
  have hp := o.1.2
  have hj := js_le (nP N) (by omega)
  intro n
  induction n with
  | zero =>
    intro k hk
    refine mGo_wp h_M_bare 40 [4] ?_
    have e1 := e.1
    refine mCall_is (show mCon l g n_M_joinsOf d [.inl (h 9 0 0)] h _ from e1 ▸ c_M_joinsOf (nP N) (by omega) h) ?_
    refine ⟨fun c => ⟨?_, rfl⟩, fun c => by omega⟩
    have : k = js (nP N) := by omega
    subst this
    rfl
  | succ n ih =>
    intro k hk
    have hc := cn_le (fun k => decide (nT N k = -1)) k
    have ht := o.2.2.2.1 k (by omega)
    refine mGo_wp h_M_bare 40 [4] ?_
    have e1 := e.1
    refine mCall_is (show mCon l g n_M_joinsOf d [.inl (h 9 0 0)] h _ from e1 ▸ c_M_joinsOf (nP N) (by omega) h) ?_
    refine ⟨fun c => by omega, fun c => ⟨⟨by omega, by omega⟩, ⟨fun c2 => ?_, fun c2 => ?_⟩⟩⟩
    · rw [Int.toNat_natCast, e.2.2.2.2 k (by omega)] at c2
      have q := ih (k + 1) (by omega)
      rw [cn_f (by simp; omega)] at q
      show mGo l g _ _ 4 [_, some (.inl (mWr (((cn (fun k => decide (nT N k = -1)) k : Nat) : Int) + 0))), some (.inl (mWr ((k : Int) + 1)))] [] _ _
      rw [mWr_of ⟨by omega, by omega⟩, mWr_of ⟨by omega, by omega⟩]
      exact q
    · rw [Int.toNat_natCast, e.2.2.2.2 k (by omega)] at c2
      have q := ih (k + 1) (by omega)
      rw [cn_t (by simp; omega)] at q
      show mGo l g _ _ 4 [_, some (.inl (mWr (((cn (fun k => decide (nT N k = -1)) k : Nat) : Int) + 1))), some (.inl (mWr ((k : Int) + 1)))] [] _ _
      rw [mWr_of ⟨by omega, by omega⟩, mWr_of ⟨by omega, by omega⟩]
      exact q
theorem c_M_bare (N : nN) (h : mMem) (o : nOk N) (e : isM h N) : mCon l g n_M_bare (d + 1) [.inr (9, 0)] h (mIs (some (.inl (nBare N))) h) := by
  refine e_M_bare (fun hv hm => ?_)
  refine mGo_wp h_M_bare 40 [4] ?_
  exact l_M_bare N h o e (js (nP N)) 0 (by omega)
theorem l_K_power (b e : Nat) (hb : b ≤ 3) (he : e ≤ 100) (h : mMem) : ∀ (n k : Nat), k + n = e → mGo l g (mMt n_K_power) d 4 [some (.inl b), some (.inl e), some (.inl (pw b k : Nat)), some (.inl k)] [] h (mIs (some (.inl (pw b e : Nat))) h) := by
  intro n
  induction n with
  | zero =>
    intro k hk
    refine mGo_wp h_K_power 40 [4] ?_
    have : k = e := by omega
    subst this
    exact ⟨fun c => ⟨rfl, rfl⟩, fun c => by omega⟩
  | succ n ih =>
    intro k hk
    have hw := pw_le b hb k
    refine mGo_wp h_K_power 40 [4] ?_
    refine ⟨fun c => by omega, fun c => ⟨fun c2 => ⟨?_, rfl⟩, fun c2 => ?_⟩⟩
    · have q := pw_stop b (e := k) (by omega) (n + 1)
      rw [show k + (n + 1) = e by omega] at q
      rw [q]
    · have q := ih (k + 1) (by omega)
      have e1 : pw b (k + 1) = pw b k * b := by
        show (if pw b k ≤ 60000 then pw b k * b else pw b k) = _
        rw [if_pos (by omega)]
      have hmul : pw b k * b ≤ 60000 * 3 := Nat.mul_le_mul (by omega) hb
      rw [e1] at q
      show mGo l g _ _ 4 [_, _, some (.inl (mWr (((pw b k : Nat) : Int) * (b : Int)))), some (.inl (mWr ((k : Int) + 1)))] [] _ _
      rw [← Int.natCast_mul, mWr_of ⟨by omega, by omega⟩, mWr_of ⟨by omega, by omega⟩]
      exact q
theorem c_K_power (b e : Nat) (hb : b ≤ 3) (he : e ≤ 100) (h : mMem) : mCon l g n_K_power d [.inl b, .inl e] h (mIs (some (.inl (pw b e : Nat))) h) := by
  refine e_K_power (fun hv hm => ?_)
  refine mGo_wp h_K_power 40 [4] ?_
  exact l_K_power b e hb he h e 0 (by omega)
theorem l_M_power (b e : Nat) (hb : b ≤ 3) (he : e ≤ 100) (h : mMem) : ∀ (n k : Nat), k + n = e → mGo l g (mMt n_M_power) d 4 [some (.inl b), some (.inl e), some (.inl (pw b k : Nat)), some (.inl k)] [] h (mIs (some (.inl (pw b e : Nat))) h) := by
  intro n
  induction n with
  | zero =>
    intro k hk
    refine mGo_wp h_M_power 40 [4] ?_
    have : k = e := by omega
    subst this
    exact ⟨fun c => ⟨rfl, rfl⟩, fun c => by omega⟩
  | succ n ih =>
    intro k hk
    have hw := pw_le b hb k
    refine mGo_wp h_M_power 40 [4] ?_
    refine ⟨fun c => by omega, fun c => ⟨fun c2 => ⟨?_, rfl⟩, fun c2 => ?_⟩⟩
    · have q := pw_stop b (e := k) (by omega) (n + 1)
      rw [show k + (n + 1) = e by omega] at q
      rw [q]
    · have q := ih (k + 1) (by omega)
      have e1 : pw b (k + 1) = pw b k * b := by
        show (if pw b k ≤ 60000 then pw b k * b else pw b k) = _
        rw [if_pos (by omega)]
      have hmul : pw b k * b ≤ 60000 * 3 := Nat.mul_le_mul (by omega) hb
      rw [e1] at q
      show mGo l g _ _ 4 [_, _, some (.inl (mWr (((pw b k : Nat) : Int) * (b : Int)))), some (.inl (mWr ((k : Int) + 1)))] [] _ _
      rw [← Int.natCast_mul, mWr_of ⟨by omega, by omega⟩, mWr_of ⟨by omega, by omega⟩]
      exact q
theorem c_M_power (b e : Nat) (hb : b ≤ 3) (he : e ≤ 100) (h : mMem) : mCon l g n_M_power d [.inl b, .inl e] h (mIs (some (.inl (pw b e : Nat))) h) := by
  refine e_M_power (fun hv hm => ?_)
  refine mGo_wp h_M_power 40 [4] ?_
  exact l_M_power b e hb he h e 0 (by omega)
end Counts
end
section
/-! a stretch of an array that is written over -/
def mSeg (h : mMem) (t : Nat) (i : Fin 8) (lo n : Nat) (f : Nat → Int) : mMem := fun t' i' q => if t' = t ∧ i' = i ∧ lo ≤ q ∧ q < lo + n then f (q - lo) else h t' i' q
theorem mSeg_zero (h : mMem) (t : Nat) (i : Fin 8) (lo : Nat) (f : Nat → Int) : mSeg h t i lo 0 f = h := by
  funext t' i' q
  unfold mSeg
  rw [if_neg]
  rintro ⟨-, -, a, b⟩
  omega
theorem mSeg_succ (h : mMem) (t : Nat) (i : Fin 8) (lo n : Nat) (f : Nat → Int) : mSet (mSeg h t i lo n f) t i (lo + n) (f n) = mSeg h t i lo (n + 1) f := by
  funext t' i' q
  unfold mSet mSeg
  by_cases h1 : t' = t ∧ i' = i
  · by_cases h2 : q = lo + n
    · rw [if_pos ⟨h1.1, h1.2, h2⟩, if_pos ⟨h1.1, h1.2, by omega, by omega⟩, h2, Nat.add_sub_cancel_left]
    · rw [if_neg (fun z => h2 z.2.2)]
      by_cases h3 : lo ≤ q ∧ q < lo + n
      · rw [if_pos ⟨h1.1, h1.2, h3⟩, if_pos ⟨h1.1, h1.2, h3.1, by omega⟩]
      · rw [if_neg (fun z => h3 z.2.2), if_neg (fun z => h3 ⟨z.2.2.1, by omega⟩)]
  · rw [if_neg (fun z => h1 ⟨z.1, z.2.1⟩), if_neg (fun z => h1 ⟨z.1, z.2.1⟩), if_neg (fun z => h1 ⟨z.1, z.2.1⟩)]
theorem mSeg_ne {h : mMem} {t : Nat} {i : Fin 8} {lo n : Nat} {f : Nat → Int} {t' : Nat} {i' : Fin 8} {q : Nat} (hn : t' ≠ t) : mSeg h t i lo n f t' i' q = h t' i' q := if_neg (fun z => hn z.1)
theorem mSeg_nei {h : mMem} {t : Nat} {i : Fin 8} {lo n : Nat} {f : Nat → Int} {t' : Nat} {i' : Fin 8} {q : Nat} (hn : i' ≠ i) : mSeg h t i lo n f t' i' q = h t' i' q := if_neg (fun z => hn z.2.1)
theorem mSeg_out {h : mMem} {t : Nat} {i : Fin 8} {lo n : Nat} {f : Nat → Int} {t' : Nat} {i' : Fin 8} {q : Nat} (hn : ¬ (lo ≤ q ∧ q < lo + n)) : mSeg h t i lo n f t' i' q = h t' i' q := if_neg (fun z => hn z.2.2)
theorem mSeg_in {h : mMem} {t : Nat} {i : Fin 8} {lo n : Nat} {f : Nat → Int} {q : Nat} (hn : q < n) : mSeg h t i lo n f t i (lo + q) = f q := by
  unfold mSeg
  rw [if_pos ⟨rfl, rfl, by omega, by omega⟩, Nat.add_sub_cancel_left]
theorem mSeg_in0 {h : mMem} {t : Nat} {i : Fin 8} {n : Nat} {f : Nat → Int} {q : Nat} (hn : q < n) : mSeg h t i 0 n f t i q = f q := by
  have := mSeg_in (h := h) (t := t) (i := i) (lo := 0) (f := f) hn
  rw [Nat.zero_add] at this
  exact this
section Segs
variable {l : Launch} {g : mG} {d : Nat}
theorem l_M_bareAll (h : mMem) : ∀ (n k : Nat), k + n = 66 → mGo l g (mMt n_M_bareAll) d 2 [some (.inr (9, 0)), some (.inl k)] [] (mSeg h 42 0 0 k (fun _ => -1)) (mIs none (mSeg h 42 0 0 66 (fun _ => -1))) := by
  intro n
  induction n with
  | zero =>
    intro k hk
    refine mGo_wp h_M_bareAll 40 [2] ?_
    have : k = 66 := by omega
    subst this
    exact ⟨fun c => ⟨rfl, rfl⟩, fun c => by omega⟩
  | succ n ih =>
    intro k hk
    refine mGo_wp h_M_bareAll 40 [2] ?_
    refine ⟨fun c => by omega, fun c => ⟨⟨by omega, by omega⟩, ?_⟩⟩
    have q := ih (k + 1) (by omega)
    rw [← mSeg_succ, Nat.zero_add] at q
    show mGo l g _ _ 2 [_, some (.inl (mWr ((k : Int) + 1)))] [] (mSet _ 42 0 ((k : Int).toNat) (-1)) _
    rw [mWr_of ⟨by omega, by omega⟩, Int.toNat_natCast]
    exact q
theorem c_M_bareAll (h : mMem) : mCon l g n_M_bareAll d [.inr (9, 0)] h (mIs none (mSeg h 42 0 0 66 (fun _ => -1))) := by
  refine e_M_bareAll (fun hv hm => ?_)
  refine mGo_wp h_M_bareAll 40 [2] ?_
  have q := l_M_bareAll (l := l) (g := g) (d := d) h 66 0 rfl
  rw [mSeg_zero] at q
  exact q
theorem l_M_clearGained (h : mMem) : ∀ (n k : Nat), k + n = 66 → mGo l g (mMt n_M_clearGained) d 2 [some (.inr (9, 0)), some (.inl k)] [] (mSeg h 48 0 0 k (fun _ => 0)) (mIs none (mSeg h 48 0 0 66 (fun _ => 0))) := by
  intro n
  induction n with
  | zero =>
    intro k hk
    refine mGo_wp h_M_clearGained 40 [2] ?_
    have : k = 66 := by omega
    subst this
    exact ⟨fun c => ⟨rfl, rfl⟩, fun c => by omega⟩
  | succ n ih =>
    intro k hk
    refine mGo_wp h_M_clearGained 40 [2] ?_
    refine ⟨fun c => by omega, fun c => ⟨⟨by omega, by omega⟩, ?_⟩⟩
    have q := ih (k + 1) (by omega)
    rw [← mSeg_succ, Nat.zero_add] at q
    show mGo l g _ _ 2 [_, some (.inl (mWr ((k : Int) + 1)))] [] (mSet _ 48 0 ((k : Int).toNat) 0) _
    rw [mWr_of ⟨by omega, by omega⟩, Int.toNat_natCast]
    exact q
theorem c_M_clearGained (h : mMem) : mCon l g n_M_clearGained d [.inr (9, 0)] h (mIs none (mSeg h 48 0 0 66 (fun _ => 0))) := by
  refine e_M_clearGained (fun hv hm => ?_)
  refine mGo_wp h_M_clearGained 40 [2] ?_
  have q := l_M_clearGained (l := l) (g := g) (d := d) h 66 0 rfl
  rw [mSeg_zero] at q
  exact q
theorem l_M_layAside (h : mMem) : ∀ (n k : Nat), k + n = 66 → mGo l g (mMt n_M_layAside) d 2 [some (.inr (9, 0)), some (.inl k)] [] (mSeg h 49 0 0 k (h 42 0)) (mIs none (mSeg h 49 0 0 66 (h 42 0))) := by
  intro n
  induction n with
  | zero =>
    intro k hk
    refine mGo_wp h_M_layAside 40 [2] ?_
    have : k = 66 := by omega
    subst this
    exact ⟨fun c => ⟨rfl, rfl⟩, fun c => by omega⟩
  | succ n ih =>
    intro k hk
    refine mGo_wp h_M_layAside 40 [2] ?_
    refine ⟨fun c => by omega, fun c => ⟨⟨by omega, by omega⟩, ⟨by omega, by omega⟩, ?_⟩⟩
    have q := ih (k + 1) (by omega)
    rw [← mSeg_succ, Nat.zero_add] at q
    show mGo l g _ _ 2 [_, some (.inl (mWr ((k : Int) + 1)))] [] (mSet _ 49 0 ((k : Int).toNat) (mSeg h 49 0 0 k (h 42 0) 42 0 ((k : Int).toNat))) _
    rw [mWr_of ⟨by omega, by omega⟩, Int.toNat_natCast, mSeg_ne (by decide)]
    exact q
theorem c_M_layAside (h : mMem) : mCon l g n_M_layAside d [.inr (9, 0)] h (mIs none (mSeg h 49 0 0 66 (h 42 0))) := by
  refine e_M_layAside (fun hv hm => ?_)
  refine mGo_wp h_M_layAside 40 [2] ?_
  have q := l_M_layAside (l := l) (g := g) (d := d) h 66 0 rfl
  rw [mSeg_zero] at q
  exact q
theorem l_M_bring (h : mMem) : ∀ (n k : Nat), k + n = 66 → mGo l g (mMt n_M_bring) d 2 [some (.inr (9, 0)), some (.inl k)] [] (mSeg h 42 0 0 k (h 49 0)) (mIs none (mSeg h 42 0 0 66 (h 49 0))) := by
  intro n
  induction n with
  | zero =>
    intro k hk
    refine mGo_wp h_M_bring 40 [2] ?_
    have : k = 66 := by omega
    subst this
    exact ⟨fun c => ⟨rfl, rfl⟩, fun c => by omega⟩
  | succ n ih =>
    intro k hk
    refine mGo_wp h_M_bring 40 [2] ?_
    refine ⟨fun c => by omega, fun c => ⟨⟨by omega, by omega⟩, ⟨by omega, by omega⟩, ?_⟩⟩
    have q := ih (k + 1) (by omega)
    rw [← mSeg_succ, Nat.zero_add] at q
    show mGo l g _ _ 2 [_, some (.inl (mWr ((k : Int) + 1)))] [] (mSet _ 42 0 ((k : Int).toNat) (mSeg h 42 0 0 k (h 49 0) 49 0 ((k : Int).toNat))) _
    rw [mWr_of ⟨by omega, by omega⟩, Int.toNat_natCast, mSeg_ne (by decide)]
    exact q
theorem c_M_bring (h : mMem) : mCon l g n_M_bring d [.inr (9, 0)] h (mIs none (mSeg h 42 0 0 66 (h 49 0))) := by
  refine e_M_bring (fun hv hm => ?_)
  refine mGo_wp h_M_bring 40 [2] ?_
  have q := l_M_bring (l := l) (g := g) (d := d) h 66 0 rfl
  rw [mSeg_zero] at q
  exact q
theorem l_Arr_fill (t : Nat) (i : Fin 8) (L : Nat) (v : Int) (hs : mSh t = .inr (0, L)) (hL : L < 65536) (h : mMem) : ∀ (n k : Nat), k + n = L → mGo l g (mMt n_Arr_fill) d 5 [some (.inr (t, i)), some (.inl v), some (.inl k), some (.inl L)] [] (mSeg h t i 0 k (fun _ => v)) (mIs none (mSeg h t i 0 L (fun _ => v))) := by
  intro n
  induction n with
  | zero =>
    intro k hk
    refine mGo_wp h_Arr_fill 40 [5] ?_
    have : k = L := by omega
    subst this
    exact ⟨fun c => ⟨rfl, rfl⟩, fun c => by omega⟩
  | succ n ih =>
    intro k hk
    refine mGo_wp h_Arr_fill 40 [5] ?_
    refine ⟨fun c => by omega, fun c => ?_⟩
    have q := ih (k + 1) (by omega)
    rw [← mSeg_succ, Nat.zero_add] at q
    show (match mSh t with
      | .inr (0, n) => (0 ≤ (k : Int) ∧ (k : Int) < n) ∧ mGo l g (mMt n_Arr_fill) d 5 [some (.inr (t, i)), some (.inl v), some (.inl (mWr ((k : Int) + 1))), some (.inl L)] [] (mSet (mSeg h t i 0 k (fun _ => v)) t i ((k : Int).toNat) v) _
      | _ => False)
    rw [hs]
    refine ⟨⟨by omega, by omega⟩, ?_⟩
    rw [mWr_of ⟨by omega, by omega⟩, Int.toNat_natCast]
    exact q
theorem c_Arr_fill (t : Nat) (i : Fin 8) (L : Nat) (v : Int) (hs : mSh t = .inr (0, L)) (hL : L < 65536) (h : mMem) : mCon l g n_Arr_fill d [.inr (t, i), .inl v] h (mIs none (mSeg h t i 0 L (fun _ => v))) := by
  refine e_Arr_fill (fun hv hm => ?_)
  refine mGo_wp h_Arr_fill 40 [5] ?_
  have q := l_Arr_fill (l := l) (g := g) (d := d) t i L v hs hL h L 0 (by omega)
  rw [mSeg_zero] at q
  show (match mSh t with
      | .inr (0, n) => mGo l g (mMt n_Arr_fill) d 5 [some (.inr (t, i)), some (.inl v), some (.inl 0), some (.inl n)] [] h _
      | _ => False)
  rw [hs]
  exact q
theorem c_Math_min (a b : Int) (h : mMem) : mCon l g n_Math_min d [.inl a, .inl b] h (mIs (some (.inl (if a ≤ b then a else b))) h) := by
  refine e_Math_min (fun hv hm => ?_)
  refine mGo_wp h_Math_min 40 [] ?_
  refine ⟨fun c => ⟨?_, rfl⟩, fun c => ⟨?_, rfl⟩⟩
  · rw [if_neg (by omega)]
  · rw [if_pos c]
theorem c_Int_compare (a b : Int) (h : mMem) : mCon l g n_Int_compare d [.inl a, .inl b] h (mIs (some (.inl (if a < b then -1 else if a = b then 0 else 1))) h) := by
  refine e_Int_compare (fun hv hm => ?_)
  refine mGo_wp h_Int_compare 40 [] ?_
  refine ⟨fun c => ⟨fun c2 => ⟨?_, rfl⟩, fun c2 => ⟨?_, rfl⟩⟩, fun c => ⟨?_, rfl⟩⟩
  · rw [if_neg (by omega), if_neg c2]
  · rw [if_neg (by omega), if_pos c2]
  · rw [if_pos c]
theorem c_Proof_forget (h : mMem) : mCon l g n_Proof_forget d [.inr (6, 0)] h (mIs none (mSet h 6 0 3 0)) := by
  refine e_Proof_forget (fun hv hm => ?_)
  refine mGo_wp h_Proof_forget 40 [] ?_
  exact ⟨rfl, rfl⟩
/-- a net becomes another -/
def mBec (h : mMem) (i j : Fin 8) : mMem := fun t a k => if a = i ∧ ((t = 4 ∧ k < 2) ∨ (t = 20 ∧ k < 3) ∨ (t = 21 ∧ k < 3) ∨ (t = 22 ∧ k < 66) ∨ (t = 23 ∧ k < 36)) then h t j k else h t a k
theorem c_Net_become (i j : Fin 8) (h : mMem) : mCon l g n_Net_become (d + 1) [.inr (4, i), .inr (4, j)] h (mIs none (mBec h i j)) := by
  refine e_Net_become (fun hv hm => ?_)
  refine mGo_wp h_Net_become 60 [] ?_
  refine ⟨⟨by decide, by decide, by decide, by decide, by decide⟩, ⟨by decide, by decide, by decide, by decide, by decide⟩, ⟨by decide, by decide, by decide, by decide, by decide⟩, ⟨by decide, by decide, by decide, by decide, by decide⟩, rfl, ?_⟩
  funext t a k
  by_cases ha : a = i
  · subst ha
    by_cases t4 : t = 4
    · subst t4
      by_cases k0 : k = 0
      · subst k0
        simp [mBec, mCpy, mSet]
      · by_cases k1 : k = 1
        · subst k1
          simp [mBec, mCpy, mSet]
        · have k2 : ¬ k < 2 := by omega
          simp [mBec, mCpy, mSet, k0, k1, k2]
    · by_cases t20 : t = 20
      · subst t20
        by_cases hk : k < 3 <;> simp [mBec, mCpy, mSet, hk]
      · by_cases t21 : t = 21
        · subst t21
          by_cases hk : k < 3 <;> simp [mBec, mCpy, mSet, hk]
        · by_cases t22 : t = 22
          · subst t22
            by_cases hk : k < 66 <;> simp [mBec, mCpy, mSet, hk]
          · by_cases t23 : t = 23
            · subst t23
              by_cases hk : k < 36 <;> simp [mBec, mCpy, mSet, hk]
            · simp [mBec, mCpy, mSet, t4, t20, t21, t22, t23]
  · simp [mBec, mCpy, mSet, ha]
theorem isC_bec {h : mMem} {i j : Fin 8} {N : nN} (e : isC h j N) : isC (mBec h i j) i N := by
  obtain ⟨e1, e2, e3, e4, e5, e6⟩ := e
  refine ⟨?_, ?_, fun k hk => ?_, fun k hk => ?_, fun k hk => ?_, fun c hc q hq => ?_⟩
  · rw [← e1]; simp [mBec]
  · rw [← e2]; simp [mBec]
  · rw [← e3 k hk]; simp [mBec, hk]
  · rw [← e4 k hk]; simp [mBec, hk]
  · rw [← e5 k hk]; simp [mBec, hk]
  · rw [← e6 c hc q hq]
    have : c * 12 + q < 36 := by omega
    simp [mBec, this]
theorem isC_bec_ne {h : mMem} {i j k : Fin 8} {N : nN} (hn : k ≠ i) (e : isC h k N) : isC (mBec h i j) k N := by
  have q : ∀ t s, mBec h i j t k s = h t k s := fun t s => if_neg (fun z => hn z.1)
  unfold isC
  simp only [q]
  exact e
end Segs
end
section
theorem mSet_mSeg {h : mMem} {t : Nat} {i : Fin 8} {lo n k : Nat} {f : Nat → Int} {v : Int} (hn : ¬ (lo ≤ k ∧ k < lo + n)) : mSet (mSeg h t i lo n f) t i k v = mSeg (mSet h t i k v) t i lo n f := by
  funext t' i' q
  dsimp only [mSet, mSeg]
  by_cases h1 : t' = t ∧ i' = i
  · obtain ⟨rfl, rfl⟩ := h1
    by_cases h2 : q = k
    · subst h2
      rw [if_pos ⟨rfl, rfl, rfl⟩, if_neg (fun z => hn z.2.2), if_pos ⟨rfl, rfl, rfl⟩]
    · rw [if_neg (fun z => h2 z.2.2)]
      by_cases h3 : lo ≤ q ∧ q < lo + n
      · rw [if_pos ⟨rfl, rfl, h3⟩, if_pos ⟨rfl, rfl, h3⟩]
      · rw [if_neg (fun z => h3 z.2.2), if_neg (fun z => h3 z.2.2), if_neg (fun z => h2 z.2.2)]
  · rw [if_neg (fun z => h1 ⟨z.1, z.2.1⟩), if_neg (fun z => h1 ⟨z.1, z.2.1⟩), if_neg (fun z => h1 ⟨z.1, z.2.1⟩), if_neg (fun z => h1 ⟨z.1, z.2.1⟩)]
def mKpA (h : mMem) (m : Nat) : mMem := mSet (mSet h 43 0 (74 * m) (h 9 0 0)) 43 0 (74 * m + 1) (h 9 0 1)
def mKpB (h : mMem) (m c : Nat) : mMem := mSeg (mSeg (mKpA h m) 43 0 (74 * m + 2) c (h 40 0)) 43 0 (74 * m + 5) c (h 41 0)
def mKpC (h : mMem) (m k : Nat) : mMem := mSeg (mKpB h m 3) 43 0 (74 * m + 8) k (h 42 0)
def mKp2 (h : mMem) (m : Nat) : mMem := mSet (mSet (mKpC h m 66) 9 0 6 (m + 1)) 9 0 43 0
def mKp1 (h : mMem) : mMem := mSet (mSeg h 43 0 0 370 (fun q => h 43 0 (q + 74))) 9 0 6 5
theorem mKpA_ne {h : mMem} {m t : Nat} {i : Fin 8} {k : Nat} (ht : t ≠ 43) : mKpA h m t i k = h t i k := by
  unfold mKpA
  rw [mSet_no (fun z => ht z.1), mSet_no (fun z => ht z.1)]
theorem mKpB_ne {h : mMem} {m c t : Nat} {i : Fin 8} {k : Nat} (ht : t ≠ 43) : mKpB h m c t i k = h t i k := by
  unfold mKpB
  rw [mSeg_ne ht, mSeg_ne ht, mKpA_ne ht]
theorem mKpC_ne {h : mMem} {m c t : Nat} {i : Fin 8} {k : Nat} (ht : t ≠ 43) : mKpC h m c t i k = h t i k := by
  unfold mKpC
  rw [mSeg_ne ht, mKpB_ne ht]
section Keep
variable {l : Launch} {g : mG} {d : Nat}
theorem l_M_keep3 (h : mMem) (m : Nat) (hm : m < 6) (e : h 9 0 6 = m) : ∀ (n k : Nat), k + n = 66 → mGo l g (mMt n_M_keep) d 126 [some (.inr (9, 0)), some (.inl (74 * m : Nat)), some (.inl k)] [] (mKpC h m k) (mIs none (mKp2 h m)) := by
  intro n
  induction n with
  | zero =>
    intro k hk
    refine mGo_wp h_M_keep 60 [126] ?_
    have : k = 66 := by omega
    subst this
    refine ⟨fun c => ⟨rfl, ?_⟩, fun c => by omega⟩
    show mSet (mSet (mKpC h m 66) 9 0 6 (mWr (mKpC h m 66 9 0 6 + 1))) 9 0 43 0 = _
    rw [mKpC_ne (by decide), e, mWr_of ⟨by omega, by omega⟩]
    rfl
  | succ n ih =>
    intro k hk
    refine mGo_wp h_M_keep 60 [126] ?_
    refine ⟨fun c => by omega, fun c => ?_⟩
    have q := ih (k + 1) (by omega)
    have w1 : mWr (mWr (((74 * m : Nat) : Int) + 8) + (k : Int)) = ((74 * m + 8 + k : Nat) : Int) := by
      rw [mWr_of (x := ((74 * m : Nat) : Int) + 8) ⟨by omega, by omega⟩, mWr_of ⟨by omega, by omega⟩]
      omega
    refine ⟨⟨by omega, by omega⟩, ⟨by rw [w1]; omega, by rw [w1]; omega⟩, ?_⟩
    show mGo l g _ _ 126 [_, _, some (.inl (mWr ((k : Int) + 1)))] [] (mSet (mKpC h m k) 43 0 (Int.toNat (mWr (mWr (((74 * m : Nat) : Int) + 8) + (k : Int)))) (mKpC h m k 42 0 ((k : Int).toNat))) _
    rw [w1, mWr_of ⟨by omega, by omega⟩, Int.toNat_natCast, Int.toNat_natCast, mKpC_ne (by decide)]
    unfold mKpC at q ⊢
    rw [mSeg_succ]
    exact q
theorem l_M_keep2 (h : mMem) (m : Nat) (hm : m < 6) (e : h 9 0 6 = m) : ∀ (n c : Nat), c + n = 3 → mGo l g (mMt n_M_keep) d 81 [some (.inr (9, 0)), some (.inl (74 * m : Nat)), some (.inl c)] [] (mKpB h m c) (mIs none (mKp2 h m)) := by
  intro n
  induction n with
  | zero =>
    intro k hk
    refine mGo_wp h_M_keep 60 [81, 126] ?_
    have : k = 3 := by omega
    subst this
    refine ⟨fun c => ?_, fun c => by omega⟩
    have q := l_M_keep3 (l := l) (g := g) (d := d) h m hm e 66 0 (by omega)
    unfold mKpC at q
    rw [mSeg_zero] at q
    exact q
  | succ n ih =>
    intro c hc
    refine mGo_wp h_M_keep 60 [81, 126] ?_
    refine ⟨fun z => by omega, fun z => ?_⟩
    have q := ih (c + 1) (by omega)
    have w1 : mWr (mWr (((74 * m : Nat) : Int) + 2) + (c : Int)) = ((74 * m + 2 + c : Nat) : Int) := by
      rw [mWr_of (x := ((74 * m : Nat) : Int) + 2) ⟨by omega, by omega⟩, mWr_of ⟨by omega, by omega⟩]
      omega
    have w2 : mWr (mWr (((74 * m : Nat) : Int) + 5) + (c : Int)) = ((74 * m + 5 + c : Nat) : Int) := by
      rw [mWr_of (x := ((74 * m : Nat) : Int) + 5) ⟨by omega, by omega⟩, mWr_of ⟨by omega, by omega⟩]
      omega
    refine ⟨⟨by omega, by omega⟩, ⟨by rw [w1]; omega, by rw [w1]; omega⟩, ⟨by omega, by omega⟩, ⟨by rw [w2]; omega, by rw [w2]; omega⟩, ?_⟩
    show mGo l g _ _ 81 [_, _, some (.inl (mWr ((c : Int) + 1)))] [] (mSet (mSet (mKpB h m c) 43 0 (Int.toNat (mWr (mWr (((74 * m : Nat) : Int) + 2) + (c : Int)))) (mKpB h m c 40 0 ((c : Int).toNat))) 43 0 (Int.toNat (mWr (mWr (((74 * m : Nat) : Int) + 5) + (c : Int)))) (mSet (mKpB h m c) 43 0 (Int.toNat (mWr (mWr (((74 * m : Nat) : Int) + 2) + (c : Int)))) (mKpB h m c 40 0 ((c : Int).toNat)) 41 0 ((c : Int).toNat))) _
    rw [w1, w2, mWr_of ⟨by omega, by omega⟩, Int.toNat_natCast, Int.toNat_natCast, Int.toNat_natCast, mKpB_ne (by decide), mSet_no (by simp), mKpB_ne (by decide)]
    unfold mKpB at q ⊢
    rw [mSet_mSeg (by omega), mSeg_succ, mSeg_succ]
    exact q
theorem l_M_keep1 (h : mMem) (m : Nat) (hm : m < 6) (e : h 9 0 6 = m) (x : Option mRV) : mGo l g (mMt n_M_keep) d 49 [some (.inr (9, 0)), x, none] [] h (mIs none (mKp2 h m)) := by
  refine mGo_wp h_M_keep 60 [81] ?_
  have w0 : mWr (74 * h 9 0 6) = ((74 * m : Nat) : Int) := by
    rw [e, mWr_of ⟨by omega, by omega⟩]
    omega
  have w1 : mWr (((74 * m : Nat) : Int) + 1) = ((74 * m + 1 : Nat) : Int) := by
    rw [mWr_of ⟨by omega, by omega⟩]
    omega
  refine ⟨⟨by rw [w0]; omega, by rw [w0]; omega⟩, ⟨by rw [w0, w1]; omega, by rw [w0, w1]; omega⟩, ?_⟩
  show mGo l g _ _ 81 [_, some (.inl (mWr (74 * h 9 0 6))), some (.inl 0)] [] (mSet (mSet h 43 0 (Int.toNat (mWr (74 * h 9 0 6))) (h 9 0 0)) 43 0 (Int.toNat (mWr (mWr (74 * h 9 0 6) + 1))) (mSet h 43 0 (Int.toNat (mWr (74 * h 9 0 6))) (h 9 0 0) 9 0 1)) _
  rw [w0, w1, Int.toNat_natCast, Int.toNat_natCast, mSet_no (by simp)]
  have q := l_M_keep2 (l := l) (g := g) (d := d) h m hm e 3 0 (by omega)
  unfold mKpB at q
  rw [mSeg_zero, mSeg_zero] at q
  exact q
theorem l_M_keep0 (h : mMem) (e : h 9 0 6 = 6) : ∀ (n k : Nat), k + n = 370 → mGo l g (mMt n_M_keep) d 11 [some (.inr (9, 0)), some (.inl k), none] [] (mSeg h 43 0 0 k (fun q => h 43 0 (q + 74))) (mIs none (mKp2 (mKp1 h) 5)) := by
  intro n
  induction n with
  | zero =>
    intro k hk
    refine mGo_wp h_M_keep 60 [11, 49] ?_
    have : k = 370 := by omega
    subst this
    refine ⟨fun c => ?_, fun c => by omega⟩
    show mGo l g _ _ 49 _ [] (mSet (mSeg h 43 0 0 370 (fun q => h 43 0 (q + 74))) 9 0 6 (mWr (mSeg h 43 0 0 370 (fun q => h 43 0 (q + 74)) 9 0 6 - 1))) _
    rw [mSeg_ne (by decide), e, mWr_of ⟨by omega, by omega⟩]
    exact l_M_keep1 (mKp1 h) 5 (by omega) (mSet_at _ _ _ _ _) _
  | succ n ih =>
    intro k hk
    refine mGo_wp h_M_keep 60 [11, 49] ?_
    refine ⟨fun c => by omega, fun c => ?_⟩
    have q := ih (k + 1) (by omega)
    have w1 : mWr ((k : Int) + 74) = ((k + 74 : Nat) : Int) := by
      rw [mWr_of ⟨by omega, by omega⟩]
      omega
    refine ⟨⟨by rw [w1]; omega, by rw [w1]; omega⟩, ⟨by omega, by omega⟩, ?_⟩
    show mGo l g _ _ 11 [_, some (.inl (mWr ((k : Int) + 1))), _] [] (mSet (mSeg h 43 0 0 k (fun q => h 43 0 (q + 74))) 43 0 ((k : Int).toNat) (mSeg h 43 0 0 k (fun q => h 43 0 (q + 74)) 43 0 (Int.toNat (mWr ((k : Int) + 74))))) _
    rw [w1, mWr_of ⟨by omega, by omega⟩, Int.toNat_natCast, Int.toNat_natCast, mSeg_out (by omega)]
    rw [← mSeg_succ, Nat.zero_add] at q
    exact q
theorem c_M_keep (h : mMem) (m : Nat) (hm : m ≤ 6) (e : h 9 0 6 = m) : mCon l g n_M_keep d [.inr (9, 0)] h (mIs none (if m = 6 then mKp2 (mKp1 h) 5 else mKp2 h m)) := by
  refine e_M_keep (fun hv hk => ?_)
  refine mGo_wp h_M_keep 60 [11, 49] ?_
  refine ⟨fun c => ?_, fun c => ?_⟩
  · rw [e] at c
    rw [if_neg (by omega)]
    exact l_M_keep1 h m (by omega) e none
  · rw [e] at c
    have : m = 6 := by omega
    subst this
    rw [if_pos rfl]
    have q := l_M_keep0 (l := l) (g := g) (d := d) h e 370 0 (by omega)
    rw [mSeg_zero] at q
    exact q
end Keep
end
section
theorem mSet_mSeg_t {h : mMem} {t t2 : Nat} {i i2 : Fin 8} {lo n k : Nat} {f : Nat → Int} {v : Int} (hn : t2 ≠ t) : mSet (mSeg h t i lo n f) t2 i2 k v = mSeg (mSet h t2 i2 k v) t i lo n f := by
  funext t' i' q
  dsimp only [mSet, mSeg]
  by_cases h1 : t' = t2
  · subst h1
    rw [if_neg (c := t' = t ∧ _) (fun z => hn z.1), if_neg (c := t' = t ∧ _) (fun z => hn z.1)]
  · rw [if_neg (c := t' = t2 ∧ _) (fun z => h1 z.1), if_neg (c := t' = t2 ∧ _) (fun z => h1 z.1)]
def mUdA (h : mMem) (m : Nat) : mMem := mSet (mSet (mSet h 9 0 6 m) 9 0 0 (h 43 0 (74 * m))) 9 0 1 (h 43 0 (74 * m + 1))
def mUdB (h : mMem) (m c : Nat) : mMem := mSeg (mSeg (mUdA h m) 40 0 0 c (fun q => h 43 0 (74 * m + 2 + q))) 41 0 0 c (fun q => h 43 0 (74 * m + 5 + q))
def mUdC (h : mMem) (m k : Nat) : mMem := mSeg (mUdB h m 3) 42 0 0 k (fun q => h 43 0 (74 * m + 8 + q))
def mUd (h : mMem) (m : Nat) : mMem := mSet (mUdC h m 66) 9 0 43 0
theorem mUdA_43 {h : mMem} {m q : Nat} : mUdA h m 43 0 q = h 43 0 q := by
  unfold mUdA
  rw [mSet_no (by simp), mSet_no (by simp), mSet_no (by simp)]
theorem mUdB_43 {h : mMem} {m c q : Nat} : mUdB h m c 43 0 q = h 43 0 q := by
  unfold mUdB
  rw [mSeg_ne (by decide), mSeg_ne (by decide), mUdA_43]
theorem mUdC_43 {h : mMem} {m c q : Nat} : mUdC h m c 43 0 q = h 43 0 q := by
  unfold mUdC
  rw [mSeg_ne (by decide), mUdB_43]
theorem mUdC_6 {h : mMem} {m c : Nat} : mUdC h m c 9 0 6 = m := by
  unfold mUdC mUdB mUdA
  rw [mSeg_ne (by decide), mSeg_ne (by decide), mSeg_ne (by decide), mSet_no (by simp), mSet_no (by simp), mSet_at]
section Undo
variable {l : Launch} {g : mG} {d : Nat}
theorem l_M_undo3 (h : mMem) (m : Nat) (hm : m < 6) : ∀ (n k : Nat), k + n = 66 → mGo l g (mMt n_M_undo) d 97 [some (.inr (9, 0)), some (.inl (74 * m : Nat)), some (.inl k)] [] (mUdC h m k) (mIs (some (.inl m)) (mUd h m)) := by
  intro n
  induction n with
  | zero =>
    intro k hk
    refine mGo_wp h_M_undo 60 [97] ?_
    have : k = 66 := by omega
    subst this
    refine ⟨fun c => ⟨?_, rfl⟩, fun c => by omega⟩
    show some (Sum.inl (mSet (mUdC h m 66) 9 0 43 0 9 0 6)) = _
    rw [mSet_no (by simp), mUdC_6]
  | succ n ih =>
    intro k hk
    refine mGo_wp h_M_undo 60 [97] ?_
    refine ⟨fun c => by omega, fun c => ?_⟩
    have q := ih (k + 1) (by omega)
    have w1 : mWr (mWr (((74 * m : Nat) : Int) + 8) + (k : Int)) = ((74 * m + 8 + k : Nat) : Int) := by
      rw [mWr_of (x := ((74 * m : Nat) : Int) + 8) ⟨by omega, by omega⟩, mWr_of ⟨by omega, by omega⟩]
      omega
    refine ⟨⟨by rw [w1]; omega, by rw [w1]; omega⟩, ⟨by omega, by omega⟩, ?_⟩
    show mGo l g _ _ 97 [_, _, some (.inl (mWr ((k : Int) + 1)))] [] (mSet (mUdC h m k) 42 0 ((k : Int).toNat) (mUdC h m k 43 0 (Int.toNat (mWr (mWr (((74 * m : Nat) : Int) + 8) + (k : Int)))))) _
    rw [w1, mWr_of ⟨by omega, by omega⟩, Int.toNat_natCast, Int.toNat_natCast, mUdC_43]
    unfold mUdC at q ⊢
    rw [← mSeg_succ, Nat.zero_add] at q
    exact q
theorem l_M_undo2 (h : mMem) (m : Nat) (hm : m < 6) : ∀ (n c : Nat), c + n = 3 → mGo l g (mMt n_M_undo) d 52 [some (.inr (9, 0)), some (.inl (74 * m : Nat)), some (.inl c)] [] (mUdB h m c) (mIs (some (.inl m)) (mUd h m)) := by
  intro n
  induction n with
  | zero =>
    intro k hk
    refine mGo_wp h_M_undo 60 [52, 97] ?_
    have : k = 3 := by omega
    subst this
    refine ⟨fun c => ?_, fun c => by omega⟩
    have q := l_M_undo3 (l := l) (g := g) (d := d) h m hm 66 0 (by omega)
    unfold mUdC at q
    rw [mSeg_zero] at q
    exact q
  | succ n ih =>
    intro c hc
    refine mGo_wp h_M_undo 60 [52, 97] ?_
    refine ⟨fun z => by omega, fun z => ?_⟩
    have q := ih (c + 1) (by omega)
    have w1 : mWr (mWr (((74 * m : Nat) : Int) + 2) + (c : Int)) = ((74 * m + 2 + c : Nat) : Int) := by
      rw [mWr_of (x := ((74 * m : Nat) : Int) + 2) ⟨by omega, by omega⟩, mWr_of ⟨by omega, by omega⟩]
      omega
    have w2 : mWr (mWr (((74 * m : Nat) : Int) + 5) + (c : Int)) = ((74 * m + 5 + c : Nat) : Int) := by
      rw [mWr_of (x := ((74 * m : Nat) : Int) + 5) ⟨by omega, by omega⟩, mWr_of ⟨by omega, by omega⟩]
      omega
    refine ⟨⟨by rw [w1]; omega, by rw [w1]; omega⟩, ⟨by omega, by omega⟩, ⟨by rw [w2]; omega, by rw [w2]; omega⟩, ⟨by omega, by omega⟩, ?_⟩
    show mGo l g _ _ 52 [_, _, some (.inl (mWr ((c : Int) + 1)))] [] (mSet (mSet (mUdB h m c) 40 0 ((c : Int).toNat) (mUdB h m c 43 0 (Int.toNat (mWr (mWr (((74 * m : Nat) : Int) + 2) + (c : Int)))))) 41 0 ((c : Int).toNat) (mSet (mUdB h m c) 40 0 ((c : Int).toNat) (mUdB h m c 43 0 (Int.toNat (mWr (mWr (((74 * m : Nat) : Int) + 2) + (c : Int))))) 43 0 (Int.toNat (mWr (mWr (((74 * m : Nat) : Int) + 5) + (c : Int)))))) _
    rw [w1, w2, mWr_of ⟨by omega, by omega⟩, Int.toNat_natCast, Int.toNat_natCast, Int.toNat_natCast, mSet_no (by simp), mUdB_43, mUdB_43]
    unfold mUdB at q ⊢
    rw [← mSeg_succ, ← mSeg_succ, Nat.zero_add, ← mSet_mSeg_t (by decide)] at q
    exact q
theorem c_M_undo_none (h : mMem) (e : h 9 0 6 = 0) : mCon l g n_M_undo d [.inr (9, 0)] h (mIs (some (.inl vNO)) h) := by
  refine e_M_undo (fun hv hk => ?_)
  refine mGo_wp h_M_undo 60 [52, 97] ?_
  exact ⟨fun c => absurd e c, fun c => ⟨rfl, rfl⟩⟩
theorem c_M_undo (h : mMem) (m : Nat) (hm : m < 6) (e : h 9 0 6 = (m + 1 : Nat)) : mCon l g n_M_undo d [.inr (9, 0)] h (mIs (some (.inl m)) (mUd h m)) := by
  refine e_M_undo (fun hv hk => ?_)
  refine mGo_wp h_M_undo 60 [52, 97] ?_
  refine ⟨fun c => ?_, fun c => by omega⟩
  have w : mWr (h 9 0 6 - 1) = (m : Int) := by
    rw [e, mWr_of ⟨by omega, by omega⟩]
    omega
  have w0 : mWr (74 * (m : Int)) = ((74 * m : Nat) : Int) := by
    rw [mWr_of ⟨by omega, by omega⟩]
    omega
  have w1 : mWr (((74 * m : Nat) : Int) + 1) = ((74 * m + 1 : Nat) : Int) := by
    rw [mWr_of ⟨by omega, by omega⟩]
    omega
  have r1 : mSet h 9 0 6 (mWr (h 9 0 6 - 1)) 9 0 6 = (m : Int) := by rw [mSet_at, w]
  refine ⟨⟨by rw [r1, w0]; omega, by rw [r1, w0]; omega⟩, ⟨by rw [r1, w0, w1]; omega, by rw [r1, w0, w1]; omega⟩, ?_⟩
  show mGo l g _ _ 52 [_, some (.inl (mWr (74 * mSet h 9 0 6 (mWr (h 9 0 6 - 1)) 9 0 6))), some (.inl 0)] [] (mSet (mSet (mSet h 9 0 6 (mWr (h 9 0 6 - 1))) 9 0 0 (mSet h 9 0 6 (mWr (h 9 0 6 - 1)) 43 0 (Int.toNat (mWr (74 * mSet h 9 0 6 (mWr (h 9 0 6 - 1)) 9 0 6))))) 9 0 1 (mSet (mSet h 9 0 6 (mWr (h 9 0 6 - 1))) 9 0 0 (mSet h 9 0 6 (mWr (h 9 0 6 - 1)) 43 0 (Int.toNat (mWr (74 * mSet h 9 0 6 (mWr (h 9 0 6 - 1)) 9 0 6)))) 43 0 (Int.toNat (mWr (mWr (74 * mSet h 9 0 6 (mWr (h 9 0 6 - 1)) 9 0 6) + 1))))) _
  rw [r1, w, w0, w1, Int.toNat_natCast, Int.toNat_natCast, mSet_no (t' := 43) (t := 9) (by simp), mSet_no (t' := 43) (t := 9) (by simp), mSet_no (t' := 43) (t := 9) (by simp)]
  have q := l_M_undo2 (l := l) (g := g) (d := d) h m hm 3 0 (by omega)
  unfold mUdB at q
  rw [mSeg_zero, mSeg_zero] at q
  exact q
end Undo
end
section
theorem mNi_inj : ∀ a, a < 6 → ∀ b, b < 6 → mNi a = mNi b → a = b := by decide +kernel
theorem mNi_01 : ∀ a, a < 6 → mNi a ≠ 0 ∧ mNi a ≠ 1 := by decide +kernel
theorem rem6 : ∀ n : Nat, n < 12 → mRem (n : Int) 6 = ((n % 6 : Nat) : Int) := by decide +kernel
def hpush (Ls : List nN) (N : nN) : List nN := if Ls.length = 6 then Ls.tail ++ [N] else Ls ++ [N]
/-- what the class keeps -/
def hisC (h : mMem) (Ls : List nN) : Prop := ∃ nx : Nat, nx < 6 ∧ h 3 0 2 = nx ∧ h 3 0 0 = Ls.length ∧ Ls.length ≤ 6 ∧ ∀ e N, Ls[e]? = some N → isC h (mNi ((nx + 6 - Ls.length + e) % 6)) N
def isB (h : mMem) (m : Nat) (N : nN) : Prop := h 43 0 (74 * m) = nP N ∧ h 43 0 (74 * m + 1) = nC N ∧ (∀ k, k < 3 → h 43 0 (74 * m + 2 + k) = nK N k) ∧ (∀ k, k < 3 → h 43 0 (74 * m + 5 + k) = nS N k) ∧ (∀ k, k < 66 → h 43 0 (74 * m + 8 + k) = nT N k)
/-- what the model keeps -/
def hisM (h : mMem) (Ls : List nN) : Prop := h 9 0 6 = Ls.length ∧ Ls.length ≤ 6 ∧ ∀ e N, Ls[e]? = some N → isB h e N
section His
variable {l : Launch} {g : mG} {d : Nat}
def mHk (h : mMem) (nx len : Nat) : mMem := mSet (mSet (mBec h (mNi nx) 0) 3 0 2 ((nx + 1) % 6 : Nat)) 3 0 0 (if len + 1 ≤ 6 then len + 1 else 6 : Nat)
theorem mBec_t {h : mMem} {i j a : Fin 8} {t k : Nat} (ht : t ≠ 4 ∧ t ≠ 20 ∧ t ≠ 21 ∧ t ≠ 22 ∧ t ≠ 23) : mBec h i j t a k = h t a k := by
  unfold mBec
  rw [if_neg]
  rintro ⟨-, z⟩
  omega
theorem c_History_keep (h : mMem) (nx len : Nat) (hnx : nx < 6) (hlen : len ≤ 6) (e1 : h 3 0 2 = nx) (e2 : h 3 0 0 = len) : mCon l g n_History_keep (d + 2) [.inr (3, 0), .inr (4, 0)] h (mIs none (mHk h nx len)) := by
  refine e_History_keep (fun hv hk => ?_)
  refine mGo_wp h_History_keep 60 [] ?_
  refine ⟨⟨by rw [e1]; omega, by rw [e1]; omega⟩, ?_⟩
  refine mCall_is (c_Net_become _ _ _) ?_
  refine ⟨by decide, ?_⟩
  refine mCall_is (c_Math_min _ _ _) ?_
  refine ⟨rfl, ?_⟩
  rw [mSet_no (t' := 3) (t := 3) (k' := 0) (k := 2) (by simp), mBec_t (by decide), mBec_t (by decide), e1, e2, Int.toNat_natCast, mWr_of (x := (nx : Int) + 1) ⟨by omega, by omega⟩, mWr_of (x := (len : Int) + 1) ⟨by omega, by omega⟩]
  have r := rem6 (nx + 1) (by omega)
  rw [show ((nx + 1 : Nat) : Int) = (nx : Int) + 1 by omega] at r
  rw [r]
  unfold mHk
  congr 1
  split <;> split <;> omega
theorem isC_set {h : mMem} {i : Fin 8} {N : nN} {t : Nat} {a : Fin 8} {k : Nat} {v : Int} (ht : t ≠ 4 ∧ t ≠ 20 ∧ t ≠ 21 ∧ t ≠ 22 ∧ t ≠ 23) (e : isC h i N) : isC (mSet h t a k v) i N := by
  obtain ⟨e1, e2, e3, e4, e5, e6⟩ := e
  refine ⟨?_, ?_, fun k hk => ?_, fun k hk => ?_, fun k hk => ?_, fun c hc q hq => ?_⟩
  · rw [mSet_no (fun z => ht.1 z.1.symm)]; exact e1
  · rw [mSet_no (fun z => ht.1 z.1.symm)]; exact e2
  · rw [mSet_no (fun z => ht.2.1 z.1.symm)]; exact e3 k hk
  · rw [mSet_no (fun z => ht.2.2.1 z.1.symm)]; exact e4 k hk
  · rw [mSet_no (fun z => ht.2.2.2.1 z.1.symm)]; exact e5 k hk
  · rw [mSet_no (fun z => ht.2.2.2.2 z.1.symm)]; exact e6 c hc q hq
theorem hpush_get {Ls : List nN} {N : nN} (hl : Ls.length ≤ 6) : (hpush Ls N).length = (if Ls.length + 1 ≤ 6 then Ls.length + 1 else 6) ∧ ∀ e M, (hpush Ls N)[e]? = some M → (e + 1 = (hpush Ls N).length ∧ M = N) ∨ (e + 1 < (hpush Ls N).length ∧ Ls[e + (Ls.length + 1 - (hpush Ls N).length)]? = some M) := by
  unfold hpush
  by_cases h6 : Ls.length = 6
  · rw [if_pos h6]
    obtain ⟨a, t, rfl⟩ : ∃ a t, Ls = a :: t := by
      cases Ls with
      | nil => simp at h6
      | cons a t => exact ⟨a, t, rfl⟩
    simp only [List.tail_cons, List.length_append, List.length_cons, List.length_nil] at h6 ⊢
    refine ⟨by rw [if_neg (by omega)]; omega, fun e M he => ?_⟩
    by_cases hlt : e < t.length
    · rw [List.getElem?_append_left hlt] at he
      refine Or.inr ⟨by omega, ?_⟩
      rw [show e + (t.length + 1 + 1 - (t.length + (0 + 1))) = e + 1 by omega, List.getElem?_cons_succ]
      exact he
    · rw [List.getElem?_append_right (by omega)] at he
      have hz : e - t.length = 0 := by
        have := (List.getElem?_eq_some_iff.mp he).1
        simp at this
        omega
      rw [hz] at he
      simp at he
      exact Or.inl ⟨by omega, he.symm⟩
  · rw [if_neg h6]
    simp only [List.length_append, List.length_cons, List.length_nil]
    refine ⟨by rw [if_pos (by omega)], fun e M he => ?_⟩
    by_cases hlt : e < Ls.length
    · rw [List.getElem?_append_left hlt] at he
      refine Or.inr ⟨by omega, ?_⟩
      rw [show e + (Ls.length + 1 - (Ls.length + (0 + 1))) = e by omega]
      exact he
    · rw [List.getElem?_append_right (by omega)] at he
      have hz : e - Ls.length = 0 := by
        have := (List.getElem?_eq_some_iff.mp he).1
        simp at this
        omega
      rw [hz] at he
      simp at he
      exact Or.inl ⟨by omega, he.symm⟩
theorem hisC_keep {h : mMem} {Ls : List nN} {N : nN} {nx : Nat} (hnx : nx < 6) (hl : Ls.length ≤ 6) (he : ∀ e M, Ls[e]? = some M → isC h (mNi ((nx + 6 - Ls.length + e) % 6)) M) (e0 : isC h 0 N) : hisC (mHk h nx Ls.length) (hpush Ls N) := by
  obtain ⟨hpl, hpg⟩ := hpush_get (N := N) hl
  refine ⟨(nx + 1) % 6, Nat.mod_lt _ (by decide), ?_, ?_, by rw [hpl]; split <;> omega, fun e M hM => ?_⟩
  · unfold mHk
    rw [mSet_no (by simp), mSet_at]
  · unfold mHk
    rw [mSet_at, hpl]
  · unfold mHk
    refine isC_set (by decide) (isC_set (by decide) ?_)
    have h6 : (hpush Ls N).length ≤ 6 := by rw [hpl]; split <;> omega
    rcases hpg e M hM with ⟨a1, rfl⟩ | ⟨a1, a2⟩
    · rw [show ((nx + 1) % 6 + 6 - (hpush Ls M).length + e) % 6 = nx by omega]
      exact isC_bec e0
    · have hlt := (List.getElem?_eq_some_iff.mp a2).1
      have q := he _ M a2
      have hpos : (nx + 6 - Ls.length + (e + (Ls.length + 1 - (hpush Ls N).length))) % 6 = ((nx + 1) % 6 + 6 - (hpush Ls N).length + e) % 6 := by
        split at hpl <;> omega
      rw [hpos] at q
      refine isC_bec_ne (fun z => ?_) q
      have := mNi_inj _ (Nat.mod_lt _ (by decide)) _ hnx z
      split at hpl <;> omega
/-- the class keeps its net, and forgets its proof -/
def mRem2 (h : mMem) (nx len : Nat) : mMem := mSet (mHk h nx len) 6 0 3 0
theorem c_K_remember (h : mMem) (nx len : Nat) (hnx : nx < 6) (hlen : len ≤ 6) (e1 : h 3 0 2 = nx) (e2 : h 3 0 0 = len) : mCon l g n_K_remember (d + 3) [.inr (8, 0)] h (mIs none (mRem2 h nx len)) := by
  refine e_K_remember (fun hv hk => ?_)
  refine mGo_wp h_K_remember 60 [] ?_
  refine mCall_is (c_History_keep h nx len hnx hlen e1 e2) ?_
  refine mCall_is (c_Proof_forget _) ?_
  exact ⟨rfl, rfl⟩
end His
end
section
section Back
variable {l : Launch} {g : mG} {d : Nat}
def mGb (h : mMem) (nx len : Nat) : mMem := mSet (mBec (mSet h 3 0 2 ((nx + 5) % 6 : Nat)) 0 (mNi ((nx + 5) % 6))) 3 0 0 (len : Nat)
theorem c_History_giveBack (h : mMem) (nx len : Nat) (hnx : nx < 6) (hlen : len < 6) (e1 : h 3 0 2 = nx) (e2 : h 3 0 0 = (len + 1 : Nat)) : mCon l g n_History_giveBack (d + 2) [.inr (3, 0), .inr (4, 0)] h (mIs none (mGb h nx len)) := by
  refine e_History_giveBack (fun hv hk => ?_)
  refine mGo_wp h_History_giveBack 60 [] ?_
  have r : mRem (mWr (mWr (h 3 0 2 + 6) - 1)) 6 = (((nx + 5) % 6 : Nat) : Int) := by
    rw [e1, mWr_of (x := (nx : Int) + 6) ⟨by omega, by omega⟩, mWr_of ⟨by omega, by omega⟩, ← rem6 (nx + 5) (by omega)]
    congr 1
    omega
  have hl : (nx + 5) % 6 < 6 := Nat.mod_lt _ (by decide)
  refine ⟨fun c => by rw [e2] at c; omega, fun c => ⟨by decide, ?_⟩⟩
  rw [r]
  refine ⟨⟨by rw [mSet_at]; omega, by rw [mSet_at]; omega⟩, ?_⟩
  refine mCall_is (c_Net_become _ _ _) ?_
  refine ⟨rfl, ?_⟩
  rw [mBec_t (by decide), mSet_no (t' := 3) (t := 3) (k' := 0) (k := 2) (by simp), mSet_at, Int.toNat_natCast, e2, mWr_of ⟨by omega, by omega⟩]
  unfold mGb
  congr 1
  omega
theorem hisC_back {h : mMem} {Ls : List nN} {N : nN} (hh : hisC h (Ls ++ [N])) : ∃ nx, nx < 6 ∧ h 3 0 2 = (nx : Nat) ∧ h 3 0 0 = (Ls.length + 1 : Nat) ∧ Ls.length < 6 ∧ isC (mGb h nx Ls.length) 0 N ∧ hisC (mGb h nx Ls.length) Ls := by
  obtain ⟨nx, h1, h2, h3, h4, h5⟩ := hh
  simp only [List.length_append, List.length_cons, List.length_nil, Nat.zero_add] at h3 h4 h5
  have hpos : (nx + 6 - (Ls.length + 1) + Ls.length) % 6 = (nx + 5) % 6 := by omega
  have hN := h5 Ls.length N (by rw [List.getElem?_append_right (Nat.le_refl _)]; simp)
  rw [hpos] at hN
  refine ⟨nx, h1, h2, h3, by omega, ?_, (nx + 5) % 6, Nat.mod_lt _ (by decide), ?_, ?_, by omega, fun e M hM => ?_⟩
  · exact isC_set (by decide) (isC_bec (isC_set (by decide) hN))
  · unfold mGb
    rw [mSet_no (by simp), mBec_t (by decide), mSet_at]
  · unfold mGb
    rw [mSet_at]
  · have hlt := (List.getElem?_eq_some_iff.mp hM).1
    have q := h5 e M (by rw [List.getElem?_append_left hlt]; exact hM)
    rw [show (nx + 6 - (Ls.length + 1) + e) % 6 = ((nx + 5) % 6 + 6 - Ls.length + e) % 6 by omega] at q
    exact isC_set (by decide) (isC_bec_ne (mNi_01 _ (Nat.mod_lt _ (by decide))).1 (isC_set (by decide) q))
theorem c_K_undo_none (h : mMem) (e : h 3 0 0 = 0) : mCon l g n_K_undo d [.inr (8, 0)] h (mIs (some (.inl vNO)) h) := by
  refine e_K_undo (fun hv hk => ?_)
  refine mGo_wp h_K_undo 60 [] ?_
  exact ⟨fun c => absurd e c, fun c => ⟨rfl, rfl⟩⟩
theorem c_K_undo (h : mMem) (nx len : Nat) (hnx : nx < 6) (hlen : len < 6) (e1 : h 3 0 2 = nx) (e2 : h 3 0 0 = (len + 1 : Nat)) : mCon l g n_K_undo (d + 3) [.inr (8, 0)] h (mIs (some (.inl len)) (mSet (mGb h nx len) 6 0 3 0)) := by
  refine e_K_undo (fun hv hk => ?_)
  refine mGo_wp h_K_undo 60 [] ?_
  refine ⟨fun c => ?_, fun c => by rw [e2] at c; omega⟩
  refine mCall_is (c_History_giveBack h nx len hnx hlen e1 e2) ?_
  refine mCall_is (c_Proof_forget _) ?_
  refine ⟨?_, rfl⟩
  show some (Sum.inl (mSet (mGb h nx len) 6 0 3 0 3 0 0)) = _
  rw [mSet_no (by simp)]
  unfold mGb
  rw [mSet_at]
end Back
/-! the model's side -/
theorem mKp2_out {h : mMem} {m q : Nat} (hq : ¬ (74 * m ≤ q ∧ q < 74 * m + 74)) : mKp2 h m 43 0 q = h 43 0 q := by
  unfold mKp2 mKpC mKpB mKpA
  rw [mSet_no (by simp), mSet_no (by simp), mSeg_out (by omega), mSeg_out (by omega), mSeg_out (by omega), mSet_no (fun z => absurd z.2.2 (by omega)), mSet_no (fun z => absurd z.2.2 (by omega))]
theorem isB_keep {h : mMem} {m : Nat} {N : nN} (e : isM h N) : isB (mKp2 h m) m N := by
  obtain ⟨e1, e2, e3, e4, e5⟩ := e
  unfold mKp2 mKpC mKpB mKpA
  refine ⟨?_, ?_, fun k hk => ?_, fun k hk => ?_, fun k hk => ?_⟩
  · rw [mSet_no (by simp), mSet_no (by simp), mSeg_out (by omega), mSeg_out (by omega), mSeg_out (by omega), mSet_no (fun z => absurd z.2.2 (by omega)), mSet_at, e1]
  · rw [mSet_no (by simp), mSet_no (by simp), mSeg_out (by omega), mSeg_out (by omega), mSeg_out (by omega), mSet_at, e2]
  · rw [mSet_no (by simp), mSet_no (by simp), mSeg_out (by omega), mSeg_out (by omega), mSeg_in hk, e3 k hk]
  · rw [mSet_no (by simp), mSet_no (by simp), mSeg_out (by omega), mSeg_in hk, e4 k hk]
  · rw [mSet_no (by simp), mSet_no (by simp), mSeg_in hk, e5 k hk]
theorem isB_out {h h' : mMem} {e : Nat} {N : nN} (hq : ∀ q, 74 * e ≤ q → q < 74 * e + 74 → h' 43 0 q = h 43 0 q) (b : isB h e N) : isB h' e N := by
  obtain ⟨e1, e2, e3, e4, e5⟩ := b
  refine ⟨?_, ?_, fun k hk => ?_, fun k hk => ?_, fun k hk => ?_⟩
  · rw [hq _ (by omega) (by omega)]; exact e1
  · rw [hq _ (by omega) (by omega)]; exact e2
  · rw [hq _ (by omega) (by omega)]; exact e3 k hk
  · rw [hq _ (by omega) (by omega)]; exact e4 k hk
  · rw [hq _ (by omega) (by omega)]; exact e5 k hk
theorem isB_shift {h : mMem} {e : Nat} {N : nN} (he : e < 5) (b : isB h (e + 1) N) : isB (mKp1 h) e N := by
  have hr : ∀ q, q < 370 → mKp1 h 43 0 q = h 43 0 (q + 74) := by
    intro q hq
    unfold mKp1
    rw [mSet_no (by simp), mSeg_in0 hq]
  obtain ⟨e1, e2, e3, e4, e5⟩ := b
  refine ⟨?_, ?_, fun k hk => ?_, fun k hk => ?_, fun k hk => ?_⟩
  · rw [hr _ (by omega), ← e1]; congr 1
  · rw [hr _ (by omega), ← e2]; congr 1
  · rw [hr _ (by omega), ← e3 k hk]; congr 1; omega
  · rw [hr _ (by omega), ← e4 k hk]; congr 1; omega
  · rw [hr _ (by omega), ← e5 k hk]; congr 1; omega
theorem isM_of {h h' : mMem} {N : nN} (e : isM h N) (e1 : h' 9 0 0 = h 9 0 0) (e2 : h' 9 0 1 = h 9 0 1) (e3 : ∀ k, h' 40 0 k = h 40 0 k) (e4 : ∀ k, h' 41 0 k = h 41 0 k) (e5 : ∀ k, h' 42 0 k = h 42 0 k) : isM h' N :=
  ⟨e1.trans e.1, e2.trans e.2.1, fun k hk => (e3 k).trans (e.2.2.1 k hk), fun k hk => (e4 k).trans (e.2.2.2.1 k hk), fun k hk => (e5 k).trans (e.2.2.2.2 k hk)⟩
theorem mKp2_t {h : mMem} {m t : Nat} {i : Fin 8} {k : Nat} (ht : t ≠ 43) (hk : t ≠ 9 ∨ (k ≠ 6 ∧ k ≠ 43)) : mKp2 h m t i k = h t i k := by
  unfold mKp2
  rw [mSet_no (fun z => hk.elim (fun y => y z.1) (fun y => y.2 z.2.2)), mSet_no (fun z => hk.elim (fun y => y z.1) (fun y => y.1 z.2.2)), mKpC_ne ht]
theorem mKp1_t {h : mMem} {t : Nat} {i : Fin 8} {k : Nat} (ht : t ≠ 43) (hk : t ≠ 9 ∨ k ≠ 6) : mKp1 h t i k = h t i k := by
  unfold mKp1
  rw [mSet_no (fun z => hk.elim (fun y => y z.1) (fun y => y z.2.2)), mSeg_ne ht]
def mKpM (h : mMem) (m : Nat) : mMem := if m = 6 then mKp2 (mKp1 h) 5 else mKp2 h m
theorem mKpM_t {h : mMem} {m t : Nat} {i : Fin 8} {k : Nat} (ht : t ≠ 43) (hk : t ≠ 9 ∨ (k ≠ 6 ∧ k ≠ 43)) : mKpM h m t i k = h t i k := by
  unfold mKpM
  split
  · rw [mKp2_t ht hk, mKp1_t ht (hk.imp id (fun y => y.1))]
  · rw [mKp2_t ht hk]
theorem isM_kp {h : mMem} {m : Nat} {N : nN} (e : isM h N) : isM (mKpM h m) N :=
  isM_of e (mKpM_t (by decide) (by decide)) (mKpM_t (by decide) (by decide)) (fun k => mKpM_t (by decide) (Or.inl (by decide))) (fun k => mKpM_t (by decide) (Or.inl (by decide))) (fun k => mKpM_t (by decide) (Or.inl (by decide)))
theorem hisM_keep {h : mMem} {Ls : List nN} {N : nN} (hh : hisM h Ls) (e : isM h N) : hisM (mKpM h Ls.length) (hpush Ls N) ∧ mKpM h Ls.length 9 0 43 = 0 := by
  obtain ⟨h1, hl, hb⟩ := hh
  obtain ⟨hpl, hpg⟩ := hpush_get (N := N) hl
  have h43 : mKpM h Ls.length 9 0 43 = 0 := by
    unfold mKpM mKp2
    split <;> rw [mSet_at]
  refine ⟨⟨?_, by rw [hpl]; split <;> omega, fun q M hM => ?_⟩, h43⟩
  · rw [hpl]
    unfold mKpM mKp2
    by_cases h6 : Ls.length = 6
    · rw [if_pos h6, if_neg (by omega), mSet_no (by simp), mSet_at]
      rfl
    · rw [if_neg h6, if_pos (by omega), mSet_no (by simp), mSet_at]
      omega
  · unfold mKpM
    by_cases h6 : Ls.length = 6
    · rw [if_pos h6]
      have hp6 : (hpush Ls N).length = 6 := by rw [hpl, if_neg (by omega)]
      have e' : isM (mKp1 h) N := isM_of e (mKp1_t (by decide) (by decide)) (mKp1_t (by decide) (by decide)) (fun k => mKp1_t (by decide) (Or.inl (by decide))) (fun k => mKp1_t (by decide) (Or.inl (by decide))) (fun k => mKp1_t (by decide) (Or.inl (by decide)))
      rcases hpg q M hM with ⟨a1, rfl⟩ | ⟨a1, a2⟩
      · have : q = 5 := by omega
        subst this
        exact isB_keep e'
      · rw [hp6, h6] at a2
        have b := hb _ M a2
        rw [show q + (6 + 1 - 6) = q + 1 by omega] at b
        exact isB_out (fun x x1 x2 => mKp2_out (by omega)) (isB_shift (by omega) b)
    · rw [if_neg h6]
      have hp6 : (hpush Ls N).length = Ls.length + 1 := by rw [hpl, if_pos (by omega)]
      rcases hpg q M hM with ⟨a1, rfl⟩ | ⟨a1, a2⟩
      · have : q = Ls.length := by omega
        subst this
        exact isB_keep e
      · rw [hp6, Nat.sub_self, Nat.add_zero] at a2
        exact isB_out (fun x x1 x2 => mKp2_out (by omega)) (hb _ M a2)
theorem hisM_back {h : mMem} {Ls : List nN} {N : nN} (hh : hisM h (Ls ++ [N])) : h 9 0 6 = (Ls.length + 1 : Nat) ∧ Ls.length < 6 ∧ isM (mUd h Ls.length) N ∧ hisM (mUd h Ls.length) Ls ∧ mUd h Ls.length 9 0 43 = 0 := by
  obtain ⟨h1, hl, hb⟩ := hh
  simp only [List.length_append, List.length_cons, List.length_nil, Nat.zero_add] at h1 hl
  have b := hb Ls.length N (by rw [List.getElem?_append_right (Nat.le_refl _)]; simp)
  obtain ⟨e1, e2, e3, e4, e5⟩ := b
  refine ⟨h1, by omega, ⟨?_, ?_, fun k hk => ?_, fun k hk => ?_, fun k hk => ?_⟩, ⟨?_, by omega, fun q M hM => ?_⟩, ?_⟩
  · unfold mUd mUdC mUdB mUdA
    rw [mSet_no (by simp), mSeg_ne (by decide), mSeg_ne (by decide), mSeg_ne (by decide), mSet_no (by simp), mSet_at, e1]
  · unfold mUd mUdC mUdB mUdA
    rw [mSet_no (by simp), mSeg_ne (by decide), mSeg_ne (by decide), mSeg_ne (by decide), mSet_at, e2]
  · unfold mUd mUdC mUdB
    rw [mSet_no (by simp), mSeg_ne (by decide), mSeg_ne (by decide), mSeg_in0 hk, e3 k hk]
  · unfold mUd mUdC mUdB
    rw [mSet_no (by simp), mSeg_ne (by decide), mSeg_in0 hk, e4 k hk]
  · unfold mUd mUdC
    rw [mSet_no (by simp), mSeg_in0 hk, e5 k hk]
  · unfold mUd
    rw [mSet_no (by simp), mUdC_6]
  · have hlt := (List.getElem?_eq_some_iff.mp hM).1
    refine isB_out (fun x _ _ => ?_) (hb q M (by rw [List.getElem?_append_left hlt]; exact hM))
    unfold mUd
    rw [mSet_no (by simp), mUdC_43]
  · unfold mUd
    rw [mSet_at]
end
section
theorem mBv (x : Nat) : (Int32.ofInt (x : Int)).toBitVec = BitVec.ofNat 32 x := by
  rw [Int32.toBitVec_ofInt, BitVec.ofInt_natCast]
theorem mBv_to {x : Nat} (hx : x < 2147483648) (z : Int32) (h : z.toBitVec.toNat = x) : z.toInt = (x : Int) := by
  rw [← Int32.toInt_toBitVec, BitVec.toInt_eq_toNat_of_lt (by rw [h]; omega), h]
theorem mXor_nat {x y : Nat} (hx : x < 2147483648) (hy : y < 2147483648) : mXor x y = ((x ^^^ y : Nat) : Int) := by
  unfold mXor
  refine mBv_to (Nat.xor_lt_two_pow (n := 31) hx hy) _ ?_
  show ((Int32.ofInt (x : Int)).toBitVec ^^^ (Int32.ofInt (y : Int)).toBitVec).toNat = _
  rw [mBv, mBv, BitVec.toNat_xor, BitVec.toNat_ofNat, BitVec.toNat_ofNat, Nat.mod_eq_of_lt (by omega), Nat.mod_eq_of_lt (by omega)]
theorem mAnd_nat {x y : Nat} (hx : x < 2147483648) (hy : y < 2147483648) : mAnd x y = ((x &&& y : Nat) : Int) := by
  unfold mAnd
  refine mBv_to (Nat.and_lt_two_pow (n := 31) x hy) _ ?_
  show ((Int32.ofInt (x : Int)).toBitVec &&& (Int32.ofInt (y : Int)).toBitVec).toNat = _
  rw [mBv, mBv, BitVec.toNat_and, BitVec.toNat_ofNat, BitVec.toNat_ofNat, Nat.mod_eq_of_lt (by omega), Nat.mod_eq_of_lt (by omega)]
theorem mOr_nat {x y : Nat} (hx : x < 2147483648) (hy : y < 2147483648) : mOr x y = ((x ||| y : Nat) : Int) := by
  unfold mOr
  refine mBv_to (Nat.or_lt_two_pow (n := 31) hx hy) _ ?_
  show ((Int32.ofInt (x : Int)).toBitVec ||| (Int32.ofInt (y : Int)).toBitVec).toNat = _
  rw [mBv, mBv, BitVec.toNat_or, BitVec.toNat_ofNat, BitVec.toNat_ofNat, Nat.mod_eq_of_lt (by omega), Nat.mod_eq_of_lt (by omega)]
theorem mShl_1 : ∀ r : Nat, r < 31 → mShl 1 (r : Int) = ((2 ^ r : Nat) : Int) := by decide +kernel
theorem nrB_lt (T : Nat → Int) (c q : Nat) : ∀ r, nrB T c q r < 2 ^ r
  | 0 => by show 0 < 2 ^ 0; decide
  | r + 1 => by
    have := nrB_lt T c q r
    show nrB T c q r + (if r ≠ q ∧ T (jn q r) = c then 2 ^ r else 0) < 2 ^ (r + 1)
    rw [Nat.pow_succ]
    split <;> omega
theorem nrB_bit (T : Nat → Int) (c q : Nat) : ∀ r j, (nrB T c q r).testBit j = decide (j < r ∧ j ≠ q ∧ T (jn q j) = c)
  | 0, j => by
    show (0 : Nat).testBit j = _
    rw [Nat.zero_testBit]
    simp
  | r + 1, j => by
    have ih := nrB_bit T c q r
    have hlt := nrB_lt T c q r
    show (nrB T c q r + (if r ≠ q ∧ T (jn q r) = c then 2 ^ r else 0)).testBit j = _
    by_cases hc : r ≠ q ∧ T (jn q r) = c
    · rw [if_pos hc, Nat.add_comm]
      rcases Nat.lt_trichotomy j r with h1 | h1 | h1
      · rw [Nat.testBit_two_pow_add_gt h1, ih j]
        exact decide_eq_decide.mpr ⟨fun z => ⟨by omega, z.2⟩, fun z => ⟨h1, z.2⟩⟩
      · subst h1
        rw [Nat.testBit_two_pow_add_eq, Nat.testBit_lt_two_pow hlt]
        exact (decide_eq_true ⟨by omega, hc⟩).symm
      · rw [Nat.testBit_lt_two_pow (Nat.lt_of_lt_of_le (show 2 ^ r + nrB T c q r < 2 ^ (r + 1) by rw [Nat.pow_succ]; omega) (Nat.pow_le_pow_right (by decide) (by omega)))]
        exact (decide_eq_false (fun z => by omega)).symm
    · rw [if_neg hc, Nat.add_zero, ih j]
      refine decide_eq_decide.mpr ⟨fun z => ⟨by omega, z.2⟩, fun z => ⟨?_, z.2⟩⟩
      by_cases hj : j = r
      · subst hj
        exact absurd z.2 hc
      · omega
theorem nr_lt (T : Nat → Int) (c q : Nat) : nr T c q < 4096 := nrB_lt T c q 12
theorem nr_bit (T : Nat → Int) (c q j : Nat) : (nr T c q).testBit j = decide (j < 12 ∧ j ≠ q ∧ T (jn q j) = c) := nrB_bit T c q 12 j
/-- the two points of a join -/
def jlo (k : Nat) : Nat := ((mTab 103).getD k 0).toNat
def jhi (k : Nat) : Nat := ((mTab 104).getD k 0).toNat
theorem jlo_tab : ∀ k, k < 66 → (mTab 103).getD k 0 = (jlo k : Int) ∧ (mTab 104).getD k 0 = (jhi k : Int) ∧ jlo k < jhi k ∧ jhi k < 12 ∧ jn (jlo k) (jhi k) = k := by decide +kernel
theorem jn_inj : ∀ q, q < 12 → ∀ j, j < 12 → q ≠ j → jlo (jn q j) = min q j ∧ jhi (jn q j) = max q j := by decide +kernel
theorem jn_iff {q j k : Nat} (hq : q < 12) (hj : j < 12) (hne : q ≠ j) (hk : k < 66) : jn q j = k ↔ (q = jlo k ∧ j = jhi k) ∨ (q = jhi k ∧ j = jlo k) := by
  obtain ⟨-, -, h3, h4, h5⟩ := jlo_tab k hk
  constructor
  · rintro rfl
    obtain ⟨a, b⟩ := jn_inj q hq j hj hne
    omega
  · rintro (⟨rfl, rfl⟩ | ⟨rfl, rfl⟩)
    · exact h5
    · rw [jn_comm _ h4 _ (by omega)]
      exact h5
def tSet (T : Nat → Int) (k : Nat) (v : Int) : Nat → Int := fun j => if j = k then v else T j
theorem nr_flip_lo (T : Nat → Int) (k c : Nat) (hk : k < 66) : nr (tSet T k c) c (jlo k) = nr (tSet T k (-1)) c (jlo k) ^^^ 2 ^ jhi k := by
  obtain ⟨-, -, h3, h4, h5⟩ := jlo_tab k hk
  apply Nat.eq_of_testBit_eq
  intro j
  rw [Nat.testBit_xor, nr_bit, nr_bit, Nat.testBit_two_pow]
  by_cases hj : j = jhi k
  · subst hj
    have e1 : tSet T k c (jn (jlo k) (jhi k)) = c := by rw [h5]; exact if_pos rfl
    have e2 : tSet T k (-1) (jn (jlo k) (jhi k)) = -1 := by rw [h5]; exact if_pos rfl
    rw [decide_eq_true ⟨h4, by omega, e1⟩, decide_eq_false (fun z => by rw [e2] at z; omega), decide_eq_true rfl]
    rfl
  · rw [decide_eq_false (p := jhi k = j) (fun z => hj z.symm), Bool.xor_false]
    refine decide_eq_decide.mpr ?_
    by_cases hb : j < 12 ∧ j ≠ jlo k
    · have hn : jn (jlo k) j ≠ k := fun z => by
        have := (jn_iff (by omega) hb.1 (fun y => hb.2 y.symm) hk).mp z
        omega
      have e1 : ∀ v, tSet T k v (jn (jlo k) j) = T (jn (jlo k) j) := fun v => if_neg hn
      rw [e1, e1]
    · exact ⟨fun z => absurd ⟨z.1, z.2.1⟩ hb, fun z => absurd ⟨z.1, z.2.1⟩ hb⟩
theorem nr_flip_hi (T : Nat → Int) (k c : Nat) (hk : k < 66) : nr (tSet T k c) c (jhi k) = nr (tSet T k (-1)) c (jhi k) ^^^ 2 ^ jlo k := by
  obtain ⟨-, -, h3, h4, h5⟩ := jlo_tab k hk
  apply Nat.eq_of_testBit_eq
  intro j
  rw [Nat.testBit_xor, nr_bit, nr_bit, Nat.testBit_two_pow]
  by_cases hj : j = jlo k
  · subst hj
    have e0 : jn (jhi k) (jlo k) = k := by rw [jn_comm _ h4 _ (by omega)]; exact h5
    have e1 : tSet T k c (jn (jhi k) (jlo k)) = c := by rw [e0]; exact if_pos rfl
    have e2 : tSet T k (-1) (jn (jhi k) (jlo k)) = -1 := by rw [e0]; exact if_pos rfl
    rw [decide_eq_true ⟨by omega, by omega, e1⟩, decide_eq_false (fun z => by rw [e2] at z; omega), decide_eq_true rfl]
    rfl
  · rw [decide_eq_false (p := jlo k = j) (fun z => hj z.symm), Bool.xor_false]
    refine decide_eq_decide.mpr ?_
    by_cases hb : j < 12 ∧ j ≠ jhi k
    · have hn : jn (jhi k) j ≠ k := fun z => by
        have := (jn_iff h4 hb.1 (fun y => hb.2 y.symm) hk).mp z
        omega
      have e1 : ∀ v, tSet T k v (jn (jhi k) j) = T (jn (jhi k) j) := fun v => if_neg hn
      rw [e1, e1]
    · exact ⟨fun z => absurd ⟨z.1, z.2.1⟩ hb, fun z => absurd ⟨z.1, z.2.1⟩ hb⟩
theorem nr_flip_no (T : Nat → Int) (k c c' q : Nat) (hk : k < 66) (hq : q < 12) (hn : ¬ (c' = c ∧ (q = jlo k ∨ q = jhi k))) : nr (tSet T k c) c' q = nr (tSet T k (-1)) c' q := by
  apply Nat.eq_of_testBit_eq
  intro j
  rw [nr_bit, nr_bit]
  refine decide_eq_decide.mpr ?_
  by_cases hb : j < 12 ∧ j ≠ q
  · by_cases hkk : jn q j = k
    · have := (jn_iff hq hb.1 (fun y => hb.2 y.symm) hk).mp hkk
      have e1 : tSet T k c (jn q j) = c := if_pos hkk
      have e2 : tSet T k (-1) (jn q j) = -1 := if_pos hkk
      rw [e1, e2]
      omega
    · have e1 : ∀ v, tSet T k v (jn q j) = T (jn q j) := fun v => if_neg hkk
      rw [e1, e1]
  · exact ⟨fun z => absurd ⟨z.1, z.2.1⟩ hb, fun z => absurd ⟨z.1, z.2.1⟩ hb⟩
end
section
section Give
variable {l : Launch} {g : mG} {d : Nat}
def mFlp (h : mMem) (i : Fin 8) (k c A B : Nat) : mMem := mSet (mSet h 23 i (c * 12 + jlo k) ((A ^^^ 2 ^ jhi k : Nat) : Int)) 23 i (c * 12 + jhi k) ((B ^^^ 2 ^ jlo k : Nat) : Int)
theorem c_Net_flip (i : Fin 8) (k c A B : Nat) (hk : k < 66) (hc : c < 3) (hA : A < 4096) (hB : B < 4096) (h : mMem) (eA : h 23 i (c * 12 + jlo k) = A) (eB : h 23 i (c * 12 + jhi k) = B) : mCon l g n_Net_flip d [.inr (4, i), .inl k, .inl c] h (mIs none (mFlp h i k c A B)) := by
  obtain ⟨t1, t2, h3, h4, h5⟩ := jlo_tab k hk
  refine e_Net_flip (fun hv hm => ?_)
  refine mGo_wp h_Net_flip 60 [] ?_
  have tk : ((k : Int)).toNat = k := Int.toNat_natCast k
  have w0 : mWr ((c : Int) * 12) = ((c * 12 : Nat) : Int) := by rw [mWr_of ⟨by omega, by omega⟩]; omega
  have w1 : mWr (mWr ((c : Int) * 12) + (mTab 103).getD ((k : Int)).toNat 0) = ((c * 12 + jlo k : Nat) : Int) := by
    rw [w0, tk, t1, mWr_of ⟨by omega, by omega⟩]; omega
  have w2 : mWr (mWr ((c : Int) * 12) + (mTab 104).getD ((k : Int)).toNat 0) = ((c * 12 + jhi k : Nat) : Int) := by
    rw [w0, tk, t2, mWr_of ⟨by omega, by omega⟩]; omega
  refine ⟨⟨by omega, by omega⟩, ⟨by rw [w1]; omega, by rw [w1]; omega⟩, ⟨by omega, by omega⟩, ⟨by rw [w1]; omega, by rw [w1]; omega⟩, ⟨by omega, by omega⟩, ⟨by rw [w2]; omega, by rw [w2]; omega⟩, ⟨by omega, by omega⟩, ⟨by rw [w2]; omega, by rw [w2]; omega⟩, rfl, ?_⟩
  show mSet (mSet h 23 i (Int.toNat (mWr (mWr ((c : Int) * 12) + (mTab 103).getD ((k : Int)).toNat 0))) (mXor (h 23 i (Int.toNat (mWr (mWr ((c : Int) * 12) + (mTab 103).getD ((k : Int)).toNat 0)))) (mShl 1 ((mTab 104).getD ((k : Int)).toNat 0)))) 23 i (Int.toNat (mWr (mWr ((c : Int) * 12) + (mTab 104).getD ((k : Int)).toNat 0))) (mXor (mSet h 23 i (Int.toNat (mWr (mWr ((c : Int) * 12) + (mTab 103).getD ((k : Int)).toNat 0))) (mXor (h 23 i (Int.toNat (mWr (mWr ((c : Int) * 12) + (mTab 103).getD ((k : Int)).toNat 0)))) (mShl 1 ((mTab 104).getD ((k : Int)).toNat 0))) 23 i (Int.toNat (mWr (mWr ((c : Int) * 12) + (mTab 104).getD ((k : Int)).toNat 0)))) (mShl 1 ((mTab 103).getD ((k : Int)).toNat 0))) = _
  have p1 : 2 ^ jhi k < 4096 := Nat.pow_lt_pow_right (by decide) h4
  have p2 : 2 ^ jlo k < 4096 := Nat.pow_lt_pow_right (by decide) (show jlo k < 12 by omega)
  rw [w1, w2, tk, t1, t2, Int.toNat_natCast, Int.toNat_natCast, mSet_no (t' := 23) (t := 23) (k' := c * 12 + jhi k) (k := c * 12 + jlo k) (fun z => absurd z.2.2 (by omega)), eA, eB, mShl_1 _ (by omega), mShl_1 _ (by omega), mXor_nat (by omega) (by omega), mXor_nat (by omega) (by omega)]
  rfl
/-- a net of which the nears are told apart from the tones -/
def isNr (h : mMem) (i : Fin 8) (T : Nat → Int) : Prop := ∀ c, c < 3 → ∀ q, q < 12 → h 23 i (c * 12 + q) = nr T c q
theorem isNr_in {h : mMem} {i : Fin 8} {T : Nat → Int} {k c : Nat} (hk : k < 66) (hc : c < 3) (e : isNr h i (tSet T k (-1))) : isNr (mFlp h i k c (nr (tSet T k (-1)) c (jlo k)) (nr (tSet T k (-1)) c (jhi k))) i (tSet T k c) := by
  obtain ⟨-, -, h3, h4, -⟩ := jlo_tab k hk
  intro c' hc' q hq
  unfold mFlp
  by_cases h1 : c' = c ∧ q = jhi k
  · obtain ⟨rfl, rfl⟩ := h1
    rw [mSet_at, nr_flip_hi T k _ hk]
  · rw [mSet_no (fun z => h1 (by omega))]
    by_cases h2 : c' = c ∧ q = jlo k
    · obtain ⟨rfl, rfl⟩ := h2
      rw [mSet_at, nr_flip_lo T k _ hk]
    · rw [mSet_no (fun z => h2 (by omega)), e c' hc' q hq, nr_flip_no T k c c' q hk hq (by omega)]
theorem isNr_out {h : mMem} {i : Fin 8} {T : Nat → Int} {k c : Nat} (hk : k < 66) (hc : c < 3) (e : isNr h i (tSet T k c)) : isNr (mFlp h i k c (nr (tSet T k c) c (jlo k)) (nr (tSet T k c) c (jhi k))) i (tSet T k (-1)) := by
  obtain ⟨-, -, h3, h4, -⟩ := jlo_tab k hk
  intro c' hc' q hq
  unfold mFlp
  by_cases h1 : c' = c ∧ q = jhi k
  · obtain ⟨rfl, rfl⟩ := h1
    rw [mSet_at, nr_flip_hi T k _ hk, Nat.xor_assoc, Nat.xor_self, Nat.xor_zero]
  · rw [mSet_no (fun z => h1 (by omega))]
    by_cases h2 : c' = c ∧ q = jlo k
    · obtain ⟨rfl, rfl⟩ := h2
      rw [mSet_at, nr_flip_lo T k _ hk, Nat.xor_assoc, Nat.xor_self, Nat.xor_zero]
    · rw [mSet_no (fun z => h2 (by omega)), e c' hc' q hq, nr_flip_no T k c c' q hk hq (by omega)]
theorem tSet_self {T : Nat → Int} {k : Nat} {v : Int} (h : T k = v) : tSet T k v = T := by
  funext j
  unfold tSet
  split
  · next hj => rw [hj, h]
  · rfl
/-- outside the tones and nears of one net nothing changes -/
def sameBut (i : Fin 8) (h h' : mMem) : Prop := ∀ t a q, ¬ ((t = 22 ∨ t = 23) ∧ a = i) → h' t a q = h t a q
theorem mFlp_same {h : mMem} {i : Fin 8} {k c A B : Nat} {t : Nat} {a : Fin 8} {q : Nat} (hn : ¬ (t = 23 ∧ a = i)) : mFlp h i k c A B t a q = h t a q := by
  unfold mFlp
  rw [mSet_no (fun z => hn ⟨z.1, z.2.1⟩), mSet_no (fun z => hn ⟨z.1, z.2.1⟩)]
theorem c_Net_give (i : Fin 8) (k : Nat) (v : Int) (T : Nat → Int) (hk : k < 66) (hv0 : -1 ≤ v ∧ v < 3) (h : mMem) (hT : h 22 i k = T k) (hT0 : -1 ≤ T k ∧ T k < 3) (e : isNr h i T) :
    mCon l g n_Net_give (d + 1) [.inr (4, i), .inl k, .inl v] h (fun r h' => r = none ∧ sameBut i h h' ∧ (∀ q, h' 22 i q = if q = k then v else h 22 i q) ∧ isNr h' i (tSet T k v)) := by
  refine e_Net_give (fun hv hm => ?_)
  have last : ∀ (h1 : mMem), (∀ t a q, ¬ (t = 23 ∧ a = i) → h1 t a q = h t a q) → isNr h1 i (tSet T k v) → (sameBut i h (mSet h1 22 i ((k : Int)).toNat v) ∧ (∀ q, mSet h1 22 i ((k : Int)).toNat v 22 i q = if q = k then v else h 22 i q) ∧ isNr (mSet h1 22 i ((k : Int)).toNat v) i (tSet T k v)) := by
    intro h1 hs hn
    rw [Int.toNat_natCast]
    refine ⟨fun t a q hz => ?_, fun q => ?_, fun c hc q hq => ?_⟩
    · rw [mSet_no (fun y => hz ⟨Or.inl y.1, y.2.1⟩)]
      exact hs t a q (fun y => hz ⟨Or.inr y.1, y.2⟩)
    · by_cases hq : q = k
      · rw [hq, mSet_at, if_pos rfl]
      · rw [mSet_no (fun y => hq y.2.2), if_neg hq]
        exact hs 22 i q (by simp)
    · rw [mSet_no (by simp)]
      exact hn c hc q hq
  have mid : ∀ (h1 : mMem), (∀ t a q, ¬ (t = 23 ∧ a = i) → h1 t a q = h t a q) → isNr h1 i (tSet T k (-1)) → mGo l g (mMt n_Net_give) (d + 1) 21 [some (.inr (4, i)), some (.inl k), some (.inl v)] [] h1 (fun r h' => r = none ∧ sameBut i h h' ∧ (∀ q, h' 22 i q = if q = k then v else h 22 i q) ∧ isNr h' i (tSet T k v)) := by
    intro h1 hs hn
    refine mGo_wp h_Net_give 60 [] ?_
    refine ⟨fun c => ?_, fun c => ?_⟩
    · have c : v = -1 := c
      subst c
      exact ⟨⟨by omega, by omega⟩, rfl, last h1 hs hn⟩
    · obtain ⟨v', rfl⟩ := Int.eq_ofNat_of_zero_le (show 0 ≤ v by omega)
      refine mCall_is (c_Net_flip i k v' (nr (tSet T k (-1)) v' (jlo k)) (nr (tSet T k (-1)) v' (jhi k)) hk (by omega) (nr_lt _ _ _) (nr_lt _ _ _) h1 (hn v' (by omega) _ ?_) (hn v' (by omega) _ ?_)) ?_
      · have := jlo_tab k hk; omega
      · have := jlo_tab k hk; omega
      · exact ⟨⟨by omega, by omega⟩, rfl, last _ (fun t a q hz => by rw [mFlp_same hz]; exact hs t a q hz) (isNr_in hk (by omega) hn)⟩
  refine mGo_wp h_Net_give 60 [21] ?_
  refine ⟨⟨by omega, by omega⟩, ⟨fun c => ?_, fun c => ?_⟩⟩
  · rw [Int.toNat_natCast, hT] at c
    have e1 := e
    rw [← tSet_self c] at e1
    exact mid h (fun _ _ _ _ => rfl) e1
  · rw [Int.toNat_natCast, hT] at c
    obtain ⟨w, hw⟩ := Int.eq_ofNat_of_zero_le (show 0 ≤ T k by omega)
    have e1 := e
    rw [← tSet_self hw] at e1
    refine ⟨⟨by omega, by omega⟩, ?_⟩
    rw [Int.toNat_natCast, hT, hw]
    refine mCall_is (c_Net_flip i k w (nr (tSet T k w) w (jlo k)) (nr (tSet T k w) w (jhi k)) hk (by omega) (nr_lt _ _ _) (nr_lt _ _ _) h (e1 w (by omega) _ ?_) (e1 w (by omega) _ ?_)) ?_
    · have := jlo_tab k hk; omega
    · have := jlo_tab k hk; omega
    · exact mid _ (fun t a q hz => mFlp_same hz) (isNr_out hk (by omega) e1)
end Give
end
section
/-! the state of both sides: the net, the kept ones, the tries, the proof -/
abbrev sS : Type := nN × List nN × Int × Nat × (Nat → Int) × (Nat → Int) × (Nat → Int)
def sPr (h : mMem) (P : Nat × (Nat → Int) × (Nat → Int) × (Nat → Int)) : Prop := h 6 0 3 = P.1 ∧ ∀ i, i < 500 → h 31 0 i = P.2.1 i ∧ h 32 0 i = P.2.2.1 i ∧ h 33 0 i = P.2.2.2 i
def sPm (h : mMem) (P : Nat × (Nat → Int) × (Nat → Int) × (Nat → Int)) : Prop := h 9 0 43 = P.1 ∧ ∀ i, i < 500 → h 55 0 (3 * i) = P.2.1 i ∧ h 55 0 (3 * i + 1) = P.2.2.1 i ∧ h 55 0 (3 * i + 2) = P.2.2.2 i
def RC (h : mMem) (S : sS) : Prop := isC h 0 S.1 ∧ hisC h S.2.1 ∧ h 8 0 7 = S.2.2.1 ∧ sPr h S.2.2.2
def RM (h : mMem) (S : sS) : Prop := isM h S.1 ∧ hisM h S.2.1 ∧ h 9 0 38 = S.2.2.1 ∧ sPm h S.2.2.2
def sOk (S : sS) : Prop := nOk S.1 ∧ (∀ M ∈ S.2.1, nOk M) ∧ S.2.1.length ≤ 6 ∧ S.2.2.2.1 ≤ 500
def onlyC (h h' : mMem) : Prop := ∀ t i k, t = 9 ∨ 40 ≤ t → h' t i k = h t i k
def onlyM (h h' : mMem) : Prop := ∀ t i k, ¬ (t = 9 ∨ 40 ≤ t) → h' t i k = h t i k
theorem onlyC.rf {h : mMem} : onlyC h h := fun _ _ _ _ => rfl
theorem onlyM.rf {h : mMem} : onlyM h h := fun _ _ _ _ => rfl
theorem onlyC.tr {h h1 h2 : mMem} (a : onlyC h h1) (b : onlyC h1 h2) : onlyC h h2 := fun t i k z => (b t i k z).trans (a t i k z)
theorem onlyM.tr {h h1 h2 : mMem} (a : onlyM h h1) (b : onlyM h1 h2) : onlyM h h2 := fun t i k z => (b t i k z).trans (a t i k z)
theorem isC_eq {h h' : mMem} {i : Fin 8} {N : nN} (e : isC h i N) (q : ∀ t k, t = 4 ∨ t = 20 ∨ t = 21 ∨ t = 22 ∨ t = 23 → h' t i k = h t i k) : isC h' i N := by
  obtain ⟨e1, e2, e3, e4, e5, e6⟩ := e
  exact ⟨(q _ _ (by decide)).trans e1, (q _ _ (by decide)).trans e2, fun k hk => (q 20 k (by decide)).trans (e3 k hk), fun k hk => (q 21 k (by decide)).trans (e4 k hk), fun k hk => (q 22 k (by decide)).trans (e5 k hk), fun c hc p hp => (q 23 _ (by decide)).trans (e6 c hc p hp)⟩
theorem hisC_eq {h h' : mMem} {Ls : List nN} (e : hisC h Ls) (q0 : h' 3 0 0 = h 3 0 0) (q2 : h' 3 0 2 = h 3 0 2) (q : ∀ t i k, i ≠ 0 → i ≠ 1 → t = 4 ∨ t = 20 ∨ t = 21 ∨ t = 22 ∨ t = 23 → h' t i k = h t i k) : hisC h' Ls := by
  obtain ⟨nx, h1, h2, h3, h4, h5⟩ := e
  refine ⟨nx, h1, q2.trans h2, q0.trans h3, h4, fun e N hN => ?_⟩
  have hi := mNi_01 _ (Nat.mod_lt (nx + 6 - Ls.length + e) (by decide : 6 > 0))
  exact isC_eq (h5 e N hN) (fun t k ht => q t _ k hi.1 hi.2 ht)
theorem RM_onlyC {h h' : mMem} {S : sS} (e : RM h S) (q : onlyC h h') : RM h' S := by
  obtain ⟨a, ⟨b1, b2, b3⟩, c, d1, d2⟩ := e
  have q9 : ∀ k, h' 9 0 k = h 9 0 k := fun k => q 9 0 k (by decide)
  refine ⟨isM_of a (q9 _) (q9 _) (fun k => q 40 0 k (by decide)) (fun k => q 41 0 k (by decide)) (fun k => q 42 0 k (by decide)), ⟨(q9 6).trans b1, b2, fun e N hN => isB_out (fun x _ _ => q 43 0 x (by decide)) (b3 e N hN)⟩, (q9 38).trans c, (q9 43).trans d1, fun i hi => ?_⟩
  rw [q 55 0 _ (by decide), q 55 0 _ (by decide), q 55 0 _ (by decide)]
  exact d2 i hi
theorem RC_onlyM {h h' : mMem} {S : sS} (e : RC h S) (q : onlyM h h') : RC h' S := by
  obtain ⟨a, b, c, d1, d2⟩ := e
  have qn : ∀ (t : Nat) (i : Fin 8) (k : Nat), t = 4 ∨ t = 20 ∨ t = 21 ∨ t = 22 ∨ t = 23 → h' t i k = h t i k := fun t i k ht => q t i k (by omega)
  refine ⟨isC_eq a (fun t k ht => qn t 0 k ht), hisC_eq b (q 3 0 0 (by decide)) (q 3 0 2 (by decide)) (fun t i k _ _ ht => qn t i k ht), (q 8 0 7 (by decide)).trans c, (q 6 0 3 (by decide)).trans d1, fun i hi => ?_⟩
  rw [q 31 0 _ (by decide), q 32 0 _ (by decide), q 33 0 _ (by decide)]
  exact d2 i hi
section State
variable {l : Launch} {g : mG} {d : Nat}
theorem mHk_far {h : mMem} {nx len : Nat} {t : Nat} {i : Fin 8} {k : Nat} (ht : t ≠ 3) (hi : (t ≠ 4 ∧ t ≠ 20 ∧ t ≠ 21 ∧ t ≠ 22 ∧ t ≠ 23) ∨ i ≠ mNi nx) : mHk h nx len t i k = h t i k := by
  unfold mHk
  rw [mSet_no (fun z => ht z.1), mSet_no (fun z => ht z.1)]
  unfold mBec
  rw [if_neg]
  rintro ⟨z1, z2⟩
  rcases hi with y | y
  · omega
  · exact y z1
/-- remember, over the state -/
theorem s_remember (h : mMem) (S : sS) (o : sOk S) (e : RC h S) : mCon l g n_K_remember (d + 3) [.inr (8, 0)] h (fun r h' => r = none ∧ RC h' (S.1, hpush S.2.1 S.1, S.2.2.1, 0, S.2.2.2.2) ∧ onlyC h h') := by
  obtain ⟨a, ⟨nx, b1, b2, b3, b4, b5⟩, c, d1, d2⟩ := e
  refine mCon_mono (c_K_remember h nx S.2.1.length b1 b4 b2 b3) ?_
  rintro v h' ⟨rfl, rfl⟩
  have hn := mNi_01 nx b1
  refine ⟨rfl, ⟨?_, ?_, ?_, ?_, fun i hi => ?_⟩, fun t i k ht => ?_⟩
  · refine isC_set (by decide) (isC_eq a (fun t k ht => mHk_far (by omega) (Or.inr (fun z => hn.1 z.symm))))
  · refine hisC_eq (hisC_keep b1 b4 b5 a) ?_ ?_ (fun t i k _ _ ht => ?_)
    · unfold mRem2; rw [mSet_no (by simp)]
    · unfold mRem2; rw [mSet_no (by simp)]
    · unfold mRem2; rw [mSet_no (fun z => by omega)]
  · unfold mRem2
    rw [mSet_no (by simp), mHk_far (by decide) (Or.inl (by decide))]
    exact c
  · unfold mRem2
    rw [mSet_at]
    rfl
  · unfold mRem2
    rw [mSet_no (by simp), mSet_no (by simp), mSet_no (by simp), mHk_far (by decide) (Or.inl (by decide)), mHk_far (by decide) (Or.inl (by decide)), mHk_far (by decide) (Or.inl (by decide))]
    exact d2 i hi
  · unfold mRem2
    rw [mSet_no (fun z => by omega), mHk_far (by omega) (Or.inl (by omega))]
/-- keep, over the state -/
theorem s_keep (h : mMem) (S : sS) (o : sOk S) (e : RM h S) : mCon l g n_M_keep d [.inr (9, 0)] h (fun r h' => r = none ∧ RM h' (S.1, hpush S.2.1 S.1, S.2.2.1, 0, S.2.2.2.2) ∧ onlyM h h' ∧ (∀ t i k, t ≠ 43 → (t ≠ 9 ∨ (k ≠ 6 ∧ k ≠ 43)) → h' t i k = h t i k)) := by
  obtain ⟨a, b, c, d1, d2⟩ := e
  refine mCon_mono (c_M_keep h S.2.1.length b.2.1 b.1) ?_
  rintro v h' ⟨rfl, rfl⟩
  obtain ⟨k1, k2⟩ := hisM_keep b a
  refine ⟨rfl, ⟨isM_kp a, k1, ?_, k2, fun i hi => ?_⟩, fun t i k ht => ?_, fun t i k h1 h2 => mKpM_t h1 h2⟩
  · rw [← c]
    exact mKpM_t (by decide) (by decide)
  · have r : ∀ q, mKpM h S.2.1.length 55 0 q = h 55 0 q := fun q => mKpM_t (by decide) (Or.inl (by decide))
    have := d2 i hi
    rw [← r, ← r, ← r] at this
    exact this
  · exact mKpM_t (by omega) (Or.inl (by omega))
noncomputable def spUndo (S : sS) : Int × sS := match S.2.1.reverse with
  | [] => (vNO, S)
  | N :: r => ((r.length : Nat), (N, r.reverse, S.2.2.1, 0, S.2.2.2.2))
theorem s_K_undo (h : mMem) (S : sS) (o : sOk S) (e : RC h S) : mCon l g n_K_undo (d + 3) [.inr (8, 0)] h (fun r h' => r = some (.inl (spUndo S).1) ∧ RC h' (spUndo S).2 ∧ onlyC h h') := by
  obtain ⟨a, b, c, d1, d2⟩ := id e
  unfold spUndo
  cases hr : S.2.1.reverse with
  | nil =>
    have hz : S.2.1 = [] := List.reverse_eq_nil_iff.mp hr
    have h0 : h 3 0 0 = 0 := by
      obtain ⟨nx, b1, b2, b3, b4, b5⟩ := b
      rw [b3, hz]
      rfl
    refine mCon_mono (c_K_undo_none h h0) ?_
    rintro v h' ⟨rfl, rfl⟩
    exact ⟨rfl, e, onlyC.rf⟩
  | cons N r =>
    have hz : S.2.1 = r.reverse ++ [N] := by
      have := congrArg List.reverse hr
      rw [List.reverse_reverse, List.reverse_cons] at this
      exact this
    rw [hz] at b
    obtain ⟨nx, n1, n2, n3, n4, n5, n6⟩ := hisC_back b
    rw [List.length_reverse] at n3 n4 n5 n6
    refine mCon_mono (c_K_undo h nx r.length n1 n4 n2 n3) ?_
    rintro v h' ⟨rfl, rfl⟩
    have hg : ∀ t (i : Fin 8) k, t ≠ 3 → (t ≠ 4 ∧ t ≠ 20 ∧ t ≠ 21 ∧ t ≠ 22 ∧ t ≠ 23) → mGb h nx r.length t i k = h t i k := by
      intro t i k t3 tn
      unfold mGb
      rw [mSet_no (fun z => t3 z.1), mBec_t tn, mSet_no (fun z => t3 z.1)]
    refine ⟨rfl, ⟨isC_set (by decide) n5, hisC_eq n6 ?_ ?_ (fun t i k _ _ ht => ?_), ?_, ?_, fun i hi => ?_⟩, fun t i k ht => ?_⟩
    · rw [mSet_no (by simp)]
    · rw [mSet_no (by simp)]
    · rw [mSet_no (fun z => by omega)]
    · rw [mSet_no (by simp), hg _ _ _ (by decide) (by decide)]
      exact c
    · rw [mSet_at]
      rfl
    · rw [mSet_no (by simp), mSet_no (by simp), mSet_no (by simp), hg _ _ _ (by decide) (by decide), hg _ _ _ (by decide) (by decide), hg _ _ _ (by decide) (by decide)]
      exact d2 i hi
    · rw [mSet_no (fun z => by omega), hg _ _ _ (by omega) (by omega)]
theorem s_M_undo (h : mMem) (S : sS) (o : sOk S) (e : RM h S) : mCon l g n_M_undo d [.inr (9, 0)] h (fun r h' => r = some (.inl (spUndo S).1) ∧ RM h' (spUndo S).2 ∧ onlyM h h') := by
  obtain ⟨a, b, c, d1, d2⟩ := id e
  unfold spUndo
  cases hr : S.2.1.reverse with
  | nil =>
    have hz : S.2.1 = [] := List.reverse_eq_nil_iff.mp hr
    have h0 : h 9 0 6 = 0 := by
      rw [b.1, hz]
      rfl
    refine mCon_mono (c_M_undo_none h h0) ?_
    rintro v h' ⟨rfl, rfl⟩
    exact ⟨rfl, e, onlyM.rf⟩
  | cons N r =>
    have hz : S.2.1 = r.reverse ++ [N] := by
      have := congrArg List.reverse hr
      rw [List.reverse_reverse, List.reverse_cons] at this
      exact this
    rw [hz] at b
    obtain ⟨n1, n2, n3, n4, n5⟩ := hisM_back b
    rw [List.length_reverse] at n1 n2 n3 n4 n5
    refine mCon_mono (c_M_undo h r.length n2 n1) ?_
    rintro v h' ⟨rfl, rfl⟩
    have hg : ∀ t (i : Fin 8) k, (t ≠ 9 ∨ (k ≠ 0 ∧ k ≠ 1 ∧ k ≠ 6 ∧ k ≠ 43)) → t ≠ 40 → t ≠ 41 → t ≠ 42 → mUd h r.length t i k = h t i k := by
      intro t i k t9 t0 t1 t2
      unfold mUd mUdC mUdB mUdA
      rw [mSet_no (fun z => by omega), mSeg_ne t2, mSeg_ne t1, mSeg_ne t0, mSet_no (fun z => by omega), mSet_no (fun z => by omega), mSet_no (fun z => by omega)]
    refine ⟨rfl, ⟨n3, n4, ?_, n5, fun i hi => ?_⟩, fun t i k ht => hg t i k (Or.inl (by omega)) (by omega) (by omega) (by omega)⟩
    · rw [hg _ _ _ (by decide) (by decide) (by decide) (by decide)]
      exact c
    · have r : ∀ q, mUd h r.length 55 0 q = h 55 0 q := fun q => hg 55 0 q (Or.inl (by decide)) (by decide) (by decide) (by decide)
      rw [r, r, r]
      exact d2 i hi
end State
end
section
abbrev nSetT (N : nN) (T : Nat → Int) : nN := (N.1, N.2.1, N.2.2.1, N.2.2.2.1, T)
/-- a change: the net becomes another one, the old one is kept, the proof is none -/
abbrev sTo (S : sS) (N : nN) : sS := (N, hpush S.2.1 S.1, S.2.2.1, 0, S.2.2.2.2)
noncomputable def spPaint (S : sS) (a b v : Int) : Int × sS := if ((0 ≤ a ∧ a < nP S.1) ∧ (0 ≤ b ∧ b < nP S.1) ∧ a ≠ b) ∧ (v = -1 ∨ (0 ≤ v ∧ v < nC S.1)) then (nT S.1 (jn a.toNat b.toNat), sTo S (nSetT S.1 (tSet (nT S.1) (jn a.toNat b.toNat) v))) else (vBAD, S)
section Paint
variable {l : Launch} {g : mG} {d : Nat}
theorem s_K_paint (h : mMem) (S : sS) (o : sOk S) (e : RC h S) (a b v : Int) : mCon l g n_K_paint (d + 4) [.inr (8, 0), .inl a, .inl b, .inl v] h (fun r h' => r = some (.inl (spPaint S a b v).1) ∧ RC h' (spPaint S a b v).2 ∧ onlyC h h') := by
  refine e_K_paint (fun hv hm => ?_)
  refine mGo_wp h_K_paint 60 [] ?_
  have hp := o.1.1.2
  have hc := o.1.2.1.2
  refine mCall_is (c_Net_hasJoin 0 a b h) ?_
  refine ⟨fun c => ?_, fun c => ?_⟩
  · rw [mB_eq0, e.1.1] at c
    rw [spPaint, if_neg (fun z => c z.1)]
    exact ⟨rfl, e, onlyC.rf⟩
  have c := mB_ne0.mp c
  rw [e.1.1] at c
  refine mCall_is (c_Net_hasColourOrBare 0 v h) ?_
  refine ⟨fun c2 => ?_, fun c2 => ?_⟩
  · have c2 := mB_ne0.mp c2
    rw [e.1.2.1] at c2
    refine mCall_on2 (s_remember h S o e) ?_
    rintro r1 h1 ⟨rfl, e1, q1⟩
    obtain ⟨⟨a0, a1⟩, ⟨b0, b1⟩, ab⟩ := id c
    obtain ⟨a', rfl⟩ := Int.eq_ofNat_of_zero_le a0
    obtain ⟨b', rfl⟩ := Int.eq_ofNat_of_zero_le b0
    have hj := jn_lt a' (by omega) b' (by omega) (by omega)
    rw [spPaint, if_pos ⟨c, c2⟩, Int.toNat_natCast, Int.toNat_natCast]
    refine mCall_is (c_K_numberOf a' b' (by omega) (by omega) h1) ?_
    refine ⟨⟨by omega, by omega⟩, ?_⟩
    have ht := o.1.2.2.2.1 _ hj
    obtain ⟨n1, n2, n3, n4, n5, n6⟩ := id e1.1
    refine mCall_on2 (c_Net_give 0 (jn a' b') v (nT S.1) hj (by omega) h1 (n5 _ hj) (by omega) n6) ?_
    rintro r2 h2 ⟨rfl, g1, g2, g3⟩
    refine ⟨?_, ⟨⟨?_, ?_, fun k hk => ?_, fun k hk => ?_, fun k hk => ?_, g3⟩, hisC_eq e1.2.1 (g1 _ _ _ (by simp)) (g1 _ _ _ (by simp)) (fun t i k i0 _ _ => g1 t i k (fun z => i0 z.2)), (g1 _ _ _ (by simp)).trans e1.2.2.1, (g1 _ _ _ (by simp)).trans e1.2.2.2.1, fun i hi => ?_⟩, fun t i k ht => (g1 t i k (fun z => by omega)).trans (q1 t i k ht)⟩
    · rw [Int.toNat_natCast, n5 _ hj]
    · rw [g1 _ _ _ (by simp)]; exact n1
    · rw [g1 _ _ _ (by simp)]; exact n2
    · rw [g1 _ _ _ (by simp)]; exact n3 k hk
    · rw [g1 _ _ _ (by simp)]; exact n4 k hk
    · rw [g2, n5 k hk]; rfl
    · rw [g1 _ _ _ (by simp), g1 _ _ _ (by simp), g1 _ _ _ (by simp)]
      exact e1.2.2.2.2 i hi
  · rw [mB_eq0, e.1.2.1] at c2
    rw [spPaint, if_neg (fun z => c2 z.2)]
    exact ⟨rfl, e, onlyC.rf⟩
theorem s_M_paint (h : mMem) (S : sS) (o : sOk S) (e : RM h S) (a b v : Int) : mCon l g n_M_paint (d + 3) [.inr (9, 0), .inl a, .inl b, .inl v] h (fun r h' => r = some (.inl (spPaint S a b v).1) ∧ RM h' (spPaint S a b v).2 ∧ onlyM h h') := by
  refine e_M_paint (fun hv hm => ?_)
  refine mGo_wp h_M_paint 60 [] ?_
  have hp := o.1.1.2
  have hc := o.1.2.1.2
  refine mCall_is (c_M_areTwo a b (nP S.1) (by omega) h e.1.1) ?_
  refine ⟨fun c => ?_, fun c => ?_⟩
  · rw [mB_eq0] at c
    rw [spPaint, if_neg (fun z => c z.1)]
    exact ⟨rfl, e, onlyM.rf⟩
  have c := mB_ne0.mp c
  refine mCall_is (c_M_isIn v (-1) _ h) ?_
  rw [e.1.2.1, mWr_of (x := (nC S.1 : Int) - 1) ⟨by omega, by omega⟩]
  refine ⟨fun c2 => ?_, fun c2 => ?_⟩
  · have c2 := mB_ne0.mp c2
    refine mCall_on2 (s_keep h S o e) ?_
    rintro r1 h1 ⟨rfl, e1, q1, -⟩
    obtain ⟨⟨a0, a1⟩, ⟨b0, b1⟩, ab⟩ := id c
    obtain ⟨a', rfl⟩ := Int.eq_ofNat_of_zero_le a0
    obtain ⟨b', rfl⟩ := Int.eq_ofNat_of_zero_le b0
    have hj := jn_lt a' (by omega) b' (by omega) (by omega)
    rw [spPaint, if_pos ⟨c, by omega⟩, Int.toNat_natCast, Int.toNat_natCast]
    refine mCall_is (c_M_join a' b' (by omega) (by omega) h1) ?_
    refine ⟨⟨by omega, by omega⟩, ?_⟩
    refine mCall_is (c_M_join a' b' (by omega) (by omega) h1) ?_
    refine ⟨⟨by omega, by omega⟩, ?_⟩
    obtain ⟨n1, n2, n3, n4, n5⟩ := id e1.1
    refine ⟨?_, ⟨⟨?_, ?_, fun k hk => ?_, fun k hk => ?_, fun k hk => ?_⟩, ⟨?_, e1.2.1.2.1, fun q M hM => isB_out (fun x _ _ => ?_) (e1.2.1.2.2 q M hM)⟩, ?_, ?_, fun i hi => ?_⟩, fun t i k ht => ?_⟩
    · rw [Int.toNat_natCast, n5 _ hj]
    · rw [mSet_no (by simp)]; exact n1
    · rw [mSet_no (by simp)]; exact n2
    · rw [mSet_no (by simp)]; exact n3 k hk
    · rw [mSet_no (by simp)]; exact n4 k hk
    · rw [Int.toNat_natCast]
      show (if 42 = 42 ∧ (0 : Fin 8) = 0 ∧ k = jn a' b' then v else h1 42 0 k) = (if k = jn a' b' then v else nT S.1 k)
      by_cases hq : k = jn a' b'
      · rw [if_pos ⟨rfl, rfl, hq⟩, if_pos hq]
      · rw [if_neg (fun z => hq z.2.2), if_neg hq]
        exact n5 k hk
    · rw [mSet_no (by simp)]; exact e1.2.1.1
    · rw [mSet_no (by simp)]
    · rw [mSet_no (by simp)]; exact e1.2.2.1
    · rw [mSet_no (by simp)]; exact e1.2.2.2.1
    · rw [mSet_no (by simp), mSet_no (by simp), mSet_no (by simp)]
      exact e1.2.2.2.2 i hi
    · rw [mSet_no (fun z => by omega)]
      exact q1 t i k ht
  · rw [mB_eq0] at c2
    rw [spPaint, if_neg (fun z => c2 (by omega))]
    exact ⟨rfl, e, onlyM.rf⟩
end Paint
end
section
theorem sz_tab : ∀ k : Nat, k < 6 → ∀ s : Int, ((mTab 100).getD k 0 ≤ s ∧ s ≤ (mTab 101).getD k 0) ↔ szOk k s := by
  intro k hk s
  rcases (show k = 0 ∨ k = 1 ∨ k = 2 ∨ k = 3 ∨ k = 4 ∨ k = 5 by omega) with rfl | rfl | rfl | rfl | rfl | rfl
  · show (0 ≤ s ∧ s ≤ 0) ↔ _
    unfold szOk
    omega
  · show (2 ≤ s ∧ s ≤ 6) ↔ _
    unfold szOk
    omega
  · show (3 ≤ s ∧ s ≤ 5) ↔ _
    unfold szOk
    omega
  · show (1 ≤ s ∧ s ≤ 6) ↔ _
    unfold szOk
    omega
  · show (1 ≤ s ∧ s ≤ 4) ↔ _
    unfold szOk
    omega
  · show (2 ≤ s ∧ s ≤ 5) ↔ _
    unfold szOk
    omega
noncomputable def spTarget (S : sS) (q k s : Int) : Int × sS := if (0 ≤ q ∧ q < nC S.1) ∧ (0 ≤ k ∧ k ≤ 5) ∧ szOk k s then (0, sTo S (nP S.1, nC S.1, tSet (nK S.1) q.toNat k, tSet (nS S.1) q.toNat s, nT S.1)) else (vBAD, S)
section Target
variable {l : Launch} {g : mG} {d : Nat}
theorem c_M_isSize (k s : Int) (hk : 0 ≤ k ∧ k ≤ 5) (h : mMem) : mCon l g n_M_isSize (d + 1) [.inl k, .inl s] h (mIs (some (.inl (mB (szOk k s)))) h) := by
  refine e_M_isSize (fun hv hm => ?_)
  refine mGo_wp h_M_isSize 60 [] ?_
  have fin : ∀ lo hi : Int, ((lo ≤ s ∧ s ≤ hi) ↔ szOk k s) → (some (Sum.inl (mB (lo ≤ s ∧ s ≤ hi))) : Option mRV) = some (.inl (mB (szOk k s))) := fun lo hi z => by rw [mB_congr z]
  refine ⟨⟨fun c => ⟨fun c2 => ⟨Or.inl rfl, ?_, rfl⟩, fun c2 => ⟨Or.inr rfl, ?_, rfl⟩⟩, fun c => ?_, fun c => ?_, fun c => ?_, fun c => ?_, trivial⟩, fun c => ?_⟩
  · rw [mB_f]
    unfold szOk
    omega
  · rw [mB_t]
    unfold szOk
    omega
  · refine mCall_is (c_M_isIn s 2 6 h) ⟨mB_01 _, fin 2 6 ?_, rfl⟩
    unfold szOk
    omega
  · refine mCall_is (c_M_isIn s 3 5 h) ⟨mB_01 _, fin 3 5 ?_, rfl⟩
    unfold szOk
    omega
  · refine mCall_is (c_M_isIn s 1 6 h) ⟨mB_01 _, fin 1 6 ?_, rfl⟩
    unfold szOk
    omega
  · refine mCall_is (c_M_isIn s 1 4 h) ⟨mB_01 _, fin 1 4 ?_, rfl⟩
    unfold szOk
    omega
  · refine mCall_is (c_M_isIn s 2 5 h) ⟨mB_01 _, fin 2 5 ?_, rfl⟩
    have c : k < 0 ∨ 0 + ((5 : Nat) : Int) ≤ k := c
    unfold szOk
    omega
theorem s_K_target (h : mMem) (S : sS) (o : sOk S) (e : RC h S) (q k s : Int) : mCon l g n_K_target (d + 4) [.inr (8, 0), .inl q, .inl k, .inl s] h (fun r h' => r = some (.inl (spTarget S q k s).1) ∧ RC h' (spTarget S q k s).2 ∧ onlyC h h') := by
  refine e_K_target (fun hv hm => ?_)
  refine mGo_wp h_K_target 60 [] ?_
  have hc := o.1.2.1.2
  have bad : ¬ ((0 ≤ q ∧ q < nC S.1) ∧ (0 ≤ k ∧ k ≤ 5) ∧ szOk k s) → ((some (Sum.inl vBAD) : Option mRV) = some (.inl (spTarget S q k s).1) ∧ RC h (spTarget S q k s).2 ∧ onlyC h h) := fun z => by
    rw [spTarget, if_neg z]
    exact ⟨rfl, e, onlyC.rf⟩
  refine mCall_is (c_Net_hasColour 0 q h) ?_
  refine ⟨fun c => ?_, fun c => ⟨fun c2 => bad (fun z => by omega), fun c2 => ⟨fun c3 => ?_, fun c3 => bad (fun z => by omega)⟩⟩⟩
  · rw [mB_eq0, e.1.2.1] at c
    exact bad (fun z => c z.1)
  · have c := mB_ne0.mp c
    rw [e.1.2.1] at c
    obtain ⟨k', rfl⟩ := Int.eq_ofNat_of_zero_le c2
    have sz := sz_tab k' (by omega) s
    refine ⟨⟨by omega, by omega⟩, ⟨fun c4 => bad (fun z => ?_), fun c4 => ⟨⟨by omega, by omega⟩, ⟨fun c5 => ?_, fun c5 => bad (fun z => ?_)⟩⟩⟩⟩
    · rw [Int.toNat_natCast] at c4
      have := sz.mpr z.2.2
      omega
    · rw [Int.toNat_natCast] at c4 c5
      refine mCall_on2 (s_remember h S o e) ?_
      rintro r1 h1 ⟨rfl, e1, q1⟩
      refine ⟨⟨by omega, by omega⟩, ⟨by omega, by omega⟩, ?_⟩
      rw [spTarget, if_pos ⟨c, ⟨c2, c3⟩, sz.mp ⟨c4, c5⟩⟩]
      obtain ⟨n1, n2, n3, n4, n5, n6⟩ := id e1.1
      refine ⟨rfl, ⟨⟨?_, ?_, fun x hx => ?_, fun x hx => ?_, fun x hx => ?_, fun y hy x hx => ?_⟩, hisC_eq e1.2.1 ?_ ?_ (fun t i x i0 _ _ => ?_), ?_, ?_, fun i hi => ?_⟩, fun t i x ht => ?_⟩
      · rw [mSet_no (by simp), mSet_no (by simp)]; exact n1
      · rw [mSet_no (by simp), mSet_no (by simp)]; exact n2
      · rw [mSet_no (by simp)]
        show (if 20 = 20 ∧ (0 : Fin 8) = 0 ∧ x = q.toNat then (k' : Int) else h1 20 0 x) = (if x = q.toNat then (k' : Int) else nK S.1 x)
        by_cases hq : x = q.toNat
        · rw [if_pos ⟨rfl, rfl, hq⟩, if_pos hq]
        · rw [if_neg (fun z => hq z.2.2), if_neg hq]
          exact n3 x hx
      · show (if 21 = 21 ∧ (0 : Fin 8) = 0 ∧ x = q.toNat then s else mSet h1 20 0 q.toNat k' 21 0 x) = (if x = q.toNat then s else nS S.1 x)
        by_cases hq : x = q.toNat
        · rw [if_pos ⟨rfl, rfl, hq⟩, if_pos hq]
        · rw [if_neg (fun z => hq z.2.2), if_neg hq, mSet_no (by simp)]
          exact n4 x hx
      · rw [mSet_no (by simp), mSet_no (by simp)]; exact n5 x hx
      · rw [mSet_no (by simp), mSet_no (by simp)]; exact n6 y hy x hx
      · rw [mSet_no (by simp), mSet_no (by simp)]
      · rw [mSet_no (by simp), mSet_no (by simp)]
      · rw [mSet_no (fun z => i0 z.2.1), mSet_no (fun z => i0 z.2.1)]
      · rw [mSet_no (by simp), mSet_no (by simp)]; exact e1.2.2.1
      · rw [mSet_no (by simp), mSet_no (by simp)]; exact e1.2.2.2.1
      · rw [mSet_no (by simp), mSet_no (by simp), mSet_no (by simp), mSet_no (by simp), mSet_no (by simp), mSet_no (by simp)]
        exact e1.2.2.2.2 i hi
      · rw [mSet_no (fun z => by omega), mSet_no (fun z => by omega)]
        exact q1 t i x ht
    · rw [Int.toNat_natCast] at c5
      have := sz.mpr z.2.2
      omega
theorem s_M_target (h : mMem) (S : sS) (o : sOk S) (e : RM h S) (q k s : Int) : mCon l g n_M_target (d + 3) [.inr (9, 0), .inl q, .inl k, .inl s] h (fun r h' => r = some (.inl (spTarget S q k s).1) ∧ RM h' (spTarget S q k s).2 ∧ onlyM h h') := by
  refine e_M_target (fun hv hm => ?_)
  refine mGo_wp h_M_target 60 [] ?_
  have hc := o.1.2.1.2
  have bad : ¬ ((0 ≤ q ∧ q < nC S.1) ∧ (0 ≤ k ∧ k ≤ 5) ∧ szOk k s) → ((some (Sum.inl vBAD) : Option mRV) = some (.inl (spTarget S q k s).1) ∧ RM h (spTarget S q k s).2 ∧ onlyM h h) := fun z => by
    rw [spTarget, if_neg z]
    exact ⟨rfl, e, onlyM.rf⟩
  refine mCall_is (c_M_isColour q (nC S.1) (by omega) h e.1.2.1) ?_
  refine ⟨fun c => bad (fun z => mB_eq0.mp c z.1), fun c => ?_⟩
  have c := mB_ne0.mp c
  refine mCall_is (c_M_isIn k 0 5 h) ?_
  refine ⟨fun c2 => bad (fun z => mB_eq0.mp c2 z.2.1), fun c2 => ?_⟩
  have c2 := mB_ne0.mp c2
  refine mCall_is (c_M_isSize k s c2 h) ?_
  refine ⟨fun c3 => ?_, fun c3 => bad (fun z => mB_eq0.mp c3 z.2.2)⟩
  have c3 := mB_ne0.mp c3
  refine mCall_on2 (s_keep h S o e) ?_
  rintro r1 h1 ⟨rfl, e1, q1, -⟩
  refine ⟨⟨by omega, by omega⟩, ⟨by omega, by omega⟩, ?_⟩
  rw [spTarget, if_pos ⟨c, c2, c3⟩]
  obtain ⟨n1, n2, n3, n4, n5⟩ := id e1.1
  refine ⟨rfl, ⟨⟨?_, ?_, fun x hx => ?_, fun x hx => ?_, fun x hx => ?_⟩, ⟨?_, e1.2.1.2.1, fun y M hM => isB_out (fun x _ _ => ?_) (e1.2.1.2.2 y M hM)⟩, ?_, ?_, fun i hi => ?_⟩, fun t i x ht => ?_⟩
  · rw [mSet_no (by simp), mSet_no (by simp)]; exact n1
  · rw [mSet_no (by simp), mSet_no (by simp)]; exact n2
  · rw [mSet_no (by simp)]
    show (if 40 = 40 ∧ (0 : Fin 8) = 0 ∧ x = q.toNat then k else h1 40 0 x) = (if x = q.toNat then k else nK S.1 x)
    by_cases hq : x = q.toNat
    · rw [if_pos ⟨rfl, rfl, hq⟩, if_pos hq]
    · rw [if_neg (fun z => hq z.2.2), if_neg hq]
      exact n3 x hx
  · show (if 41 = 41 ∧ (0 : Fin 8) = 0 ∧ x = q.toNat then s else mSet h1 40 0 q.toNat k 41 0 x) = (if x = q.toNat then s else nS S.1 x)
    by_cases hq : x = q.toNat
    · rw [if_pos ⟨rfl, rfl, hq⟩, if_pos hq]
    · rw [if_neg (fun z => hq z.2.2), if_neg hq, mSet_no (by simp)]
      exact n4 x hx
  · rw [mSet_no (by simp), mSet_no (by simp)]; exact n5 x hx
  · rw [mSet_no (by simp), mSet_no (by simp)]; exact e1.2.1.1
  · rw [mSet_no (by simp), mSet_no (by simp)]
  · rw [mSet_no (by simp), mSet_no (by simp)]; exact e1.2.2.1
  · rw [mSet_no (by simp), mSet_no (by simp)]; exact e1.2.2.2.1
  · rw [mSet_no (by simp), mSet_no (by simp), mSet_no (by simp), mSet_no (by simp), mSet_no (by simp), mSet_no (by simp)]
    exact e1.2.2.2.2 i hi
  · rw [mSet_no (fun z => by omega), mSet_no (fun z => by omega)]
    exact q1 t i x ht
end Target
end
section
theorem nrB_bare (c q : Nat) : ∀ r, nrB (fun _ => -1) c q r = 0
  | 0 => rfl
  | r + 1 => by
    show nrB (fun _ => -1) c q r + (if r ≠ q ∧ (-1 : Int) = (c : Int) then 2 ^ r else 0) = 0
    rw [nrB_bare c q r, if_neg (fun z => by omega)]
theorem nr_bare (c q : Nat) : nr (fun _ => -1) c q = 0 := nrB_bare c q 12
/-- a new net -/
def nLay (N : nN) (n c : Nat) : nN := (n, c, (if c = 2 then tSet (nK N) 2 0 else nK N), (if c = 2 then tSet (nS N) 2 0 else nS N), fun _ => -1)
def mLay1 (h : mMem) (i : Fin 8) (n c : Int) : mMem := mSet (mSet h 4 i 0 n) 4 i 1 c
def mLay2 (h : mMem) (i : Fin 8) (c : Int) : mMem := if c = 2 then mSet (mSet h 20 i 2 0) 21 i 2 0 else h
def mLay (h : mMem) (i : Fin 8) (n c : Int) : mMem := mSeg (mSeg (mLay2 (mLay1 h i n c) i c) 22 i 0 66 (fun _ => -1)) 23 i 0 36 (fun _ => 0)
theorem mLay_far {h : mMem} {i : Fin 8} {n c : Int} {t : Nat} {a : Fin 8} {k : Nat} (hn : (t ≠ 4 ∧ t ≠ 20 ∧ t ≠ 21 ∧ t ≠ 22 ∧ t ≠ 23) ∨ a ≠ i) : mLay h i n c t a k = h t a k := by
  unfold mLay mLay2 mLay1
  have ne : ∀ t', (t' = 4 ∨ t' = 20 ∨ t' = 21 ∨ t' = 22 ∨ t' = 23) → ¬ (t = t' ∧ a = i) := by
    intro t' ht' z
    rcases hn with y | y
    · omega
    · exact y z.2
  rw [show ∀ (H : mMem), mSeg H 23 i 0 36 (fun _ => 0) t a k = H t a k from fun H => if_neg (fun z => ne 23 (by decide) ⟨z.1, z.2.1⟩), show ∀ (H : mMem), mSeg H 22 i 0 66 (fun _ => -1) t a k = H t a k from fun H => if_neg (fun z => ne 22 (by decide) ⟨z.1, z.2.1⟩)]
  split
  · rw [mSet_no (fun z => ne 21 (by decide) ⟨z.1, z.2.1⟩), mSet_no (fun z => ne 20 (by decide) ⟨z.1, z.2.1⟩), mSet_no (fun z => ne 4 (by decide) ⟨z.1, z.2.1⟩), mSet_no (fun z => ne 4 (by decide) ⟨z.1, z.2.1⟩)]
  · rw [mSet_no (fun z => ne 4 (by decide) ⟨z.1, z.2.1⟩), mSet_no (fun z => ne 4 (by decide) ⟨z.1, z.2.1⟩)]
theorem isC_lay {h : mMem} {i : Fin 8} {N : nN} {n c : Nat} (hc : c = 2 ∨ c = 3) (e : isC h i N) : isC (mLay h i n c) i (nLay N n c) := by
  obtain ⟨e1, e2, e3, e4, e5, e6⟩ := e
  have up : ∀ t k, t ≠ 22 → t ≠ 23 → mLay h i n c t i k = mLay2 (mLay1 h i n c) i c t i k := fun t k a b => by
    unfold mLay
    rw [mSeg_ne b, mSeg_ne a]
  have l1 : ∀ t k, t ≠ 4 → mLay1 h i n c t i k = h t i k := fun t k a => by
    unfold mLay1
    rw [mSet_no (fun z => a z.1), mSet_no (fun z => a z.1)]
  rcases hc with rfl | rfl
  · have l2 : ∀ H : mMem, mLay2 H i (2 : Nat) = mSet (mSet H 20 i 2 0) 21 i 2 0 := fun H => if_pos rfl
    refine ⟨?_, ?_, fun k hk => ?_, fun k hk => ?_, fun k hk => ?_, fun x hx q hq => ?_⟩
    · rw [up _ _ (by decide) (by decide), l2, mSet_no (by simp), mSet_no (by simp)]
      unfold mLay1
      rw [mSet_no (by simp), mSet_at]
      rfl
    · rw [up _ _ (by decide) (by decide), l2, mSet_no (by simp), mSet_no (by simp)]
      unfold mLay1
      rw [mSet_at]
      rfl
    · rw [up _ _ (by decide) (by decide), l2, mSet_no (by simp)]
      show (if 20 = 20 ∧ i = i ∧ k = 2 then (0 : Int) else mLay1 h i n (2 : Nat) 20 i k) = (if k = 2 then 0 else nK N k)
      by_cases hq : k = 2
      · rw [if_pos ⟨rfl, rfl, hq⟩, if_pos hq]
      · rw [if_neg (fun z => hq z.2.2), if_neg hq, l1 _ _ (by decide)]
        exact e3 k hk
    · rw [up _ _ (by decide) (by decide), l2]
      show (if 21 = 21 ∧ i = i ∧ k = 2 then (0 : Int) else mSet (mLay1 h i n (2 : Nat)) 20 i 2 0 21 i k) = (if k = 2 then 0 else nS N k)
      by_cases hq : k = 2
      · rw [if_pos ⟨rfl, rfl, hq⟩, if_pos hq]
      · rw [if_neg (fun z => hq z.2.2), if_neg hq, mSet_no (by simp), l1 _ _ (by decide)]
        exact e4 k hk
    · unfold mLay
      rw [mSeg_ne (by decide), mSeg_in0 hk]
      rfl
    · unfold mLay
      rw [mSeg_in0 (by omega)]
      show (0 : Int) = (nr (fun _ => -1) x q : Nat)
      rw [nr_bare]
      rfl
  · have l2 : ∀ H : mMem, mLay2 H i (3 : Nat) = H := fun H => if_neg (by decide)
    refine ⟨?_, ?_, fun k hk => ?_, fun k hk => ?_, fun k hk => ?_, fun x hx q hq => ?_⟩
    · rw [up _ _ (by decide) (by decide), l2]
      unfold mLay1
      rw [mSet_no (by simp), mSet_at]
      rfl
    · rw [up _ _ (by decide) (by decide), l2]
      unfold mLay1
      rw [mSet_at]
      rfl
    · rw [up _ _ (by decide) (by decide), l2, l1 _ _ (by decide)]
      exact e3 k hk
    · rw [up _ _ (by decide) (by decide), l2, l1 _ _ (by decide)]
      exact e4 k hk
    · unfold mLay
      rw [mSeg_ne (by decide), mSeg_in0 hk]
      rfl
    · unfold mLay
      rw [mSeg_in0 (by omega)]
      show (0 : Int) = (nr (fun _ => -1) x q : Nat)
      rw [nr_bare]
      rfl
section Net
variable {l : Launch} {g : mG} {d : Nat}
theorem c_Net_layOut (i : Fin 8) (n c : Int) (hc : c = 2 ∨ c = 3) (h : mMem) : mCon l g n_Net_layOut (d + 1) [.inr (4, i), .inl n, .inl c] h (mIs none (mLay h i n c)) := by
  refine e_Net_layOut (fun hv hm => ?_)
  refine mGo_wp h_Net_layOut 80 [37] ?_
  have tail : ∀ (x : Int) (H : mMem), mGo l g (mMt n_Net_layOut) (d + 1) 37 [some (.inr (4, i)), some (.inl n), some (.inl c), some (.inl x)] [] H (mIs none (mSeg (mSeg H 22 i 0 66 (fun _ => -1)) 23 i 0 36 (fun _ => 0))) := by
    intro x H
    refine mGo_wp h_Net_layOut 80 [] ?_
    refine mCall_is (c_Arr_fill 22 i 66 (-1) rfl (by decide) H) ?_
    refine mCall_is (c_Arr_fill 23 i 36 0 rfl (by decide) _) ?_
    exact ⟨rfl, rfl⟩
  rcases hc with rfl | rfl
  · refine ⟨fun z => absurd z (by decide), fun _ => ⟨⟨by decide, by decide⟩, ⟨by decide, by decide⟩, ⟨fun _ => ?_, fun z => absurd z (by decide)⟩⟩⟩
    have q := tail (mWr (2 + 1)) (mSet (mSet (mLay1 h i n 2) 20 i 2 0) 21 i 2 0)
    unfold mLay mLay2
    rw [if_pos rfl]
    exact q
  · refine ⟨fun _ => ?_, fun z => absurd z (by decide)⟩
    have q := tail 3 (mLay1 h i n 3)
    unfold mLay mLay2
    rw [if_neg (by decide)]
    exact q
noncomputable def spNet (S : sS) (n c : Int) : Int × sS := if (1 ≤ n ∧ n ≤ 12) ∧ (2 ≤ c ∧ c ≤ 3) then ((js n.toNat : Nat), sTo S (nLay S.1 n.toNat c.toNat)) else (vBAD, S)
theorem s_K_net (h : mMem) (S : sS) (o : sOk S) (e : RC h S) (n c : Int) : mCon l g n_K_net (d + 4) [.inr (8, 0), .inl n, .inl c] h (fun r h' => r = some (.inl (spNet S n c).1) ∧ RC h' (spNet S n c).2 ∧ onlyC h h') := by
  refine e_K_net (fun hv hm => ?_)
  refine mGo_wp h_K_net 60 [] ?_
  have bad : ¬ ((1 ≤ n ∧ n ≤ 12) ∧ (2 ≤ c ∧ c ≤ 3)) → ((some (Sum.inl vBAD) : Option mRV) = some (.inl (spNet S n c).1) ∧ RC h (spNet S n c).2 ∧ onlyC h h) := fun z => by
    rw [spNet, if_neg z]
    exact ⟨rfl, e, onlyC.rf⟩
  refine ⟨fun c1 => bad (by omega), fun c1 => ⟨fun c2 => bad (by omega), fun c2 => ⟨fun c3 => bad (by omega), fun c3 => ⟨fun c4 => ?_, fun c4 => bad (by omega)⟩⟩⟩⟩
  refine mCall_on2 (s_remember h S o e) ?_
  rintro r1 h1 ⟨rfl, e1, q1⟩
  refine mCall_is (c_Net_layOut 0 n c (by omega) h1) ?_
  rw [spNet, if_pos ⟨⟨c1, c2⟩, ⟨c3, c4⟩⟩]
  obtain ⟨n', rfl⟩ := Int.eq_ofNat_of_zero_le (show 0 ≤ n by omega)
  obtain ⟨c', rfl⟩ := Int.eq_ofNat_of_zero_le (show 0 ≤ c by omega)
  rw [Int.toNat_natCast, Int.toNat_natCast]
  have ec := isC_lay (n := n') (c := c') (by omega) e1.1
  refine mCall_is (c_Net_joinCount 0 n' (by omega) _ ec.1) ?_
  refine ⟨rfl, ⟨ec, hisC_eq e1.2.1 (mLay_far (Or.inl (by decide))) (mLay_far (Or.inl (by decide))) (fun t i k i0 _ _ => mLay_far (Or.inr i0)), (mLay_far (Or.inl (by decide))).trans e1.2.2.1, (mLay_far (Or.inl (by decide))).trans e1.2.2.2.1, fun i hi => ?_⟩, fun t i k ht => (mLay_far (Or.inl (by omega))).trans (q1 t i k ht)⟩
  rw [mLay_far (Or.inl (by decide)), mLay_far (Or.inl (by decide)), mLay_far (Or.inl (by decide))]
  exact e1.2.2.2.2 i hi
theorem s_M_net (h : mMem) (S : sS) (o : sOk S) (e : RM h S) (n c : Int) : mCon l g n_M_net (d + 2) [.inr (9, 0), .inl n, .inl c] h (fun r h' => r = some (.inl (spNet S n c).1) ∧ RM h' (spNet S n c).2 ∧ onlyM h h') := by
  refine e_M_net (fun hv hm => ?_)
  refine mGo_wp h_M_net 80 [55] ?_
  have bad : ¬ ((1 ≤ n ∧ n ≤ 12) ∧ (2 ≤ c ∧ c ≤ 3)) → ((some (Sum.inl vBAD) : Option mRV) = some (.inl (spNet S n c).1) ∧ RM h (spNet S n c).2 ∧ onlyM h h) := fun z => by
    rw [spNet, if_neg z]
    exact ⟨rfl, e, onlyM.rf⟩
  refine mCall_is (c_M_isIn n 1 12 h) ?_
  refine ⟨fun c1 => bad (fun z => mB_eq0.mp c1 z.1), fun c1 => ?_⟩
  have c1 := mB_ne0.mp c1
  refine mCall_is (c_M_isIn c 2 3 h) ?_
  refine ⟨fun c2 => ?_, fun c2 => bad (fun z => mB_eq0.mp c2 z.2)⟩
  have c2 := mB_ne0.mp c2
  refine mCall_on2 (s_keep h S o e) ?_
  rintro r1 h1 ⟨rfl, e1, q1, -⟩
  rw [spNet, if_pos ⟨c1, c2⟩]
  obtain ⟨n', rfl⟩ := Int.eq_ofNat_of_zero_le (show 0 ≤ n by omega)
  obtain ⟨c', rfl⟩ := Int.eq_ofNat_of_zero_le (show 0 ≤ c by omega)
  rw [Int.toNat_natCast, Int.toNat_natCast]
  obtain ⟨n1, n2, n3, n4, n5⟩ := id e1.1
  have tail : ∀ H : mMem, H 9 0 0 = n' → H 9 0 1 = c' → (∀ k, k < 3 → H 40 0 k = nK (nLay S.1 n' c') k) → (∀ k, k < 3 → H 41 0 k = nS (nLay S.1 n' c') k) → (∀ t i k, t ≠ 40 → t ≠ 41 → t ≠ 42 → (t ≠ 9 ∨ (k ≠ 0 ∧ k ≠ 1)) → H t i k = h1 t i k) →
      mGo l g (mMt n_M_net) (d + 2) 55 [some (.inr (9, 0)), some (.inl n'), some (.inl c')] [] H (fun r h' => r = some (.inl (js n' : Nat)) ∧ RM h' (sTo S (nLay S.1 n' c')) ∧ onlyM h h') := by
    intro H a0 a1 a2 a3 a4
    refine mGo_wp h_M_net 80 [] ?_
    refine mCall_is (c_M_bareAll H) ?_
    have b0 : mSeg H 42 0 0 66 (fun _ => -1) 9 0 0 = (n' : Int) := by rw [mSeg_ne (by decide)]; exact a0
    have jc : mCon l g n_M_joinsOf (d + 1) [.inl (mSeg H 42 0 0 66 (fun _ => -1) 9 0 0)] (mSeg H 42 0 0 66 (fun _ => -1)) (mIs (some (.inl (js n' : Nat))) (mSeg H 42 0 0 66 (fun _ => -1))) := by
      rw [b0]
      exact c_M_joinsOf n' (by omega) _
    refine mCall_is jc ?_
    refine ⟨rfl, ⟨⟨b0, ?_, fun k hk => ?_, fun k hk => ?_, fun k hk => ?_⟩, ⟨?_, e1.2.1.2.1, fun y M hM => isB_out (fun x _ _ => ?_) (e1.2.1.2.2 y M hM)⟩, ?_, ?_, fun i hi => ?_⟩, fun t i x ht => ?_⟩
    · rw [mSeg_ne (by decide)]; exact a1
    · rw [mSeg_ne (by decide)]; exact a2 k hk
    · rw [mSeg_ne (by decide)]; exact a3 k hk
    · rw [mSeg_in0 hk]; rfl
    · rw [mSeg_ne (by decide), a4 _ _ _ (by decide) (by decide) (by decide) (by decide)]; exact e1.2.1.1
    · rw [mSeg_ne (by decide), a4 _ _ _ (by decide) (by decide) (by decide) (Or.inl (by decide))]
    · rw [mSeg_ne (by decide), a4 _ _ _ (by decide) (by decide) (by decide) (by decide)]; exact e1.2.2.1
    · rw [mSeg_ne (by decide), a4 _ _ _ (by decide) (by decide) (by decide) (by decide)]; exact e1.2.2.2.1
    · rw [mSeg_ne (by decide), mSeg_ne (by decide), mSeg_ne (by decide), a4 _ _ _ (by decide) (by decide) (by decide) (Or.inl (by decide)), a4 _ _ _ (by decide) (by decide) (by decide) (Or.inl (by decide)), a4 _ _ _ (by decide) (by decide) (by decide) (Or.inl (by decide))]
      exact e1.2.2.2.2 i hi
    · rw [mSeg_ne (by omega), a4 t i x (by omega) (by omega) (by omega) (Or.inl (by omega))]
      exact q1 t i x ht
  refine ⟨fun c3 => ?_, fun c3 => ⟨⟨by decide, by decide⟩, ⟨by decide, by decide⟩, ?_⟩⟩
  · have c3 : (3 : Int) ≤ c' := c3
    have : c' = 3 := by omega
    subst this
    refine tail _ ?_ ?_ (fun k hk => ?_) (fun k hk => ?_) (fun t i k t0 t1 t2 t9 => ?_)
    · rw [mSet_no (by simp), mSet_at]
    · rw [mSet_at]
    · rw [mSet_no (by simp), mSet_no (by simp)]; exact n3 k hk
    · rw [mSet_no (by simp), mSet_no (by simp)]; exact n4 k hk
    · rw [mSet_no (fun z => by omega), mSet_no (fun z => by omega)]
  · have c3 : (c' : Int) < 3 := c3
    have : c' = 2 := by omega
    subst this
    refine tail _ ?_ ?_ (fun k hk => ?_) (fun k hk => ?_) (fun t i k t0 t1 t2 t9 => ?_)
    · rw [mSet_no (by simp), mSet_no (by simp), mSet_no (by simp), mSet_at]
    · rw [mSet_no (by simp), mSet_no (by simp), mSet_at]
    · rw [mSet_no (by simp)]
      show (if 40 = 40 ∧ (0 : Fin 8) = 0 ∧ k = 2 then (0 : Int) else mSet (mSet h1 9 0 0 n') 9 0 1 (2 : Nat) 40 0 k) = (if k = 2 then 0 else nK S.1 k)
      by_cases hq : k = 2
      · rw [if_pos ⟨rfl, rfl, hq⟩, if_pos hq]
      · rw [if_neg (fun z => hq z.2.2), if_neg hq, mSet_no (by simp), mSet_no (by simp)]
        exact n3 k hk
    · show (if 41 = 41 ∧ (0 : Fin 8) = 0 ∧ k = 2 then (0 : Int) else mSet (mSet (mSet h1 9 0 0 n') 9 0 1 (2 : Nat)) 40 0 2 0 41 0 k) = (if k = 2 then 0 else nS S.1 k)
      by_cases hq : k = 2
      · rw [if_pos ⟨rfl, rfl, hq⟩, if_pos hq]
      · rw [if_neg (fun z => hq z.2.2), if_neg hq, mSet_no (by simp), mSet_no (by simp), mSet_no (by simp)]
        exact n4 k hk
    · rw [mSet_no (fun z => by omega), mSet_no (fun z => by omega), mSet_no (fun z => by omega), mSet_no (fun z => by omega)]
end Net
end
section
abbrev pN (S : sS) : Nat := S.2.2.2.1
abbrev pJ (S : sS) : Nat → Int := S.2.2.2.2.1
abbrev pC (S : sS) : Nat → Int := S.2.2.2.2.2.1
abbrev pB (S : sS) : Nat → Int := S.2.2.2.2.2.2
noncomputable def spRow (S : sS) (i w : Int) : Int := if pN S = 0 then vNO else if (0 ≤ i ∧ i < pN S) ∧ (0 ≤ w ∧ w ≤ 2) then (if w = 0 then pJ S i.toNat else if w = 1 then pC S i.toNat else pB S i.toNat) else vBAD
noncomputable def spForge (S : sS) (i p : Int) : Int × sS := if pN S = 0 then (vNO, S) else if (0 ≤ i ∧ i < pN S) ∧ (0 ≤ p ∧ p ≤ 4095) then (pB S i.toNat, (S.1, S.2.1, S.2.2.1, pN S, pJ S, pC S, tSet (pB S) i.toNat p)) else (vBAD, S)
section Rows
variable {l : Launch} {g : mG} {d : Nat}
theorem s_K_row (h : mMem) (S : sS) (o : sOk S) (e : RC h S) (i w : Int) : mCon l g n_K_row d [.inr (8, 0), .inl i, .inl w] h (mIs (some (.inl (spRow S i w))) h) := by
  refine e_K_row (fun hv hm => ?_)
  refine mGo_wp h_K_row 60 [] ?_
  have hz : h 6 0 3 = (pN S : Int) := e.2.2.2.1
  have hs : pN S ≤ 500 := o.2.2.2
  have hr := e.2.2.2.2
  refine ⟨fun c => ?_, fun c => ⟨by rw [spRow, if_pos (by omega)], rfl⟩⟩
  rw [hz] at c
  have bad : ¬ ((0 ≤ i ∧ i < pN S) ∧ (0 ≤ w ∧ w ≤ 2)) → ((some (Sum.inl vBAD) : Option mRV) = some (.inl (spRow S i w)) ∧ h = h) := fun z => ⟨by rw [spRow, if_neg (by omega), if_neg z], rfl⟩
  refine ⟨fun c1 => bad (by omega), fun c1 => ⟨fun c2 => ?_, fun c2 => ⟨fun c3 => bad (by omega), fun c3 => ⟨fun c4 => ?_, fun c4 => bad (by omega)⟩⟩⟩⟩
  · rw [hz] at c2
    exact bad (by omega)
  · rw [hz] at c2
    obtain ⟨r1, r2, r3⟩ := hr i.toNat (by omega)
    refine ⟨fun c5 => ⟨fun c6 => ⟨⟨by omega, by omega⟩, ?_, rfl⟩, fun c6 => ⟨⟨by omega, by omega⟩, ?_, rfl⟩⟩, fun c5 => ⟨⟨by omega, by omega⟩, ?_, rfl⟩⟩
    · rw [spRow, if_neg (by omega), if_pos ⟨⟨c1, c2⟩, ⟨c3, c4⟩⟩, if_neg c5, if_neg c6, r3]
    · rw [spRow, if_neg (by omega), if_pos ⟨⟨c1, c2⟩, ⟨c3, c4⟩⟩, if_neg c5, if_pos c6, r2]
    · rw [spRow, if_neg (by omega), if_pos ⟨⟨c1, c2⟩, ⟨c3, c4⟩⟩, if_pos c5, r1]
theorem s_M_row (h : mMem) (S : sS) (o : sOk S) (e : RM h S) (i w : Int) : mCon l g n_M_row (d + 1) [.inr (9, 0), .inl i, .inl w] h (mIs (some (.inl (spRow S i w))) h) := by
  refine e_M_row (fun hv hm => ?_)
  refine mGo_wp h_M_row 60 [] ?_
  have hz : h 9 0 43 = (pN S : Int) := e.2.2.2.1
  have hs : pN S ≤ 500 := o.2.2.2
  have hr := e.2.2.2.2
  refine ⟨fun c => ?_, fun c => ⟨by rw [spRow, if_pos (by omega)], rfl⟩⟩
  rw [hz] at c
  have bad : ¬ ((0 ≤ i ∧ i < pN S) ∧ (0 ≤ w ∧ w ≤ 2)) → ((some (Sum.inl vBAD) : Option mRV) = some (.inl (spRow S i w)) ∧ h = h) := fun z => ⟨by rw [spRow, if_neg (by omega), if_neg z], rfl⟩
  have w0 : mWr (h 9 0 43 - 1) = (pN S : Int) - 1 := by rw [hz, mWr_of ⟨by omega, by omega⟩]
  refine mCall_is (c_M_isIn i 0 _ h) ?_
  refine ⟨fun c1 => bad (fun z => mB_eq0.mp c1 (by rw [w0]; omega)), fun c1 => ?_⟩
  have c1 := mB_ne0.mp c1
  rw [w0] at c1
  refine mCall_is (c_M_isIn w 0 2 h) ?_
  refine ⟨fun c2 => bad (fun z => mB_eq0.mp c2 z.2), fun c2 => ?_⟩
  have c2 := mB_ne0.mp c2
  obtain ⟨i', rfl⟩ := Int.eq_ofNat_of_zero_le c1.1
  obtain ⟨w', rfl⟩ := Int.eq_ofNat_of_zero_le c2.1
  obtain ⟨r1, r2, r3⟩ := hr i' (by omega)
  have w1 : mWr (mWr (3 * (i' : Int)) + (w' : Int)) = ((3 * i' + w' : Nat) : Int) := by
    rw [mWr_of (x := 3 * (i' : Int)) ⟨by omega, by omega⟩, mWr_of ⟨by omega, by omega⟩]
    omega
  refine ⟨⟨by rw [w1]; omega, by rw [w1]; omega⟩, ?_, rfl⟩
  rw [w1, Int.toNat_natCast, spRow, if_neg (by omega), if_pos ⟨⟨by omega, by omega⟩, c2⟩, Int.toNat_natCast]
  rcases (show w' = 0 ∨ w' = 1 ∨ w' = 2 by omega) with rfl | rfl | rfl
  · rw [if_pos (by decide), Nat.add_zero, r1]
  · rw [if_neg (by decide), if_pos (by decide), r2]
  · rw [if_neg (by decide), if_neg (by decide), r3]
theorem s_K_forge (h : mMem) (S : sS) (o : sOk S) (e : RC h S) (i p : Int) : mCon l g n_K_forge d [.inr (8, 0), .inl i, .inl p] h (fun r h' => r = some (.inl (spForge S i p).1) ∧ RC h' (spForge S i p).2 ∧ onlyC h h') := by
  refine e_K_forge (fun hv hm => ?_)
  refine mGo_wp h_K_forge 60 [] ?_
  have hz : h 6 0 3 = (pN S : Int) := e.2.2.2.1
  have hs : pN S ≤ 500 := o.2.2.2
  have hr := e.2.2.2.2
  refine ⟨fun c => ?_, fun c => by rw [spForge, if_pos (by omega)]; exact ⟨rfl, e, onlyC.rf⟩⟩
  rw [hz] at c
  have bad : ¬ ((0 ≤ i ∧ i < pN S) ∧ (0 ≤ p ∧ p ≤ 4095)) → ((some (Sum.inl vBAD) : Option mRV) = some (.inl (spForge S i p).1) ∧ RC h (spForge S i p).2 ∧ onlyC h h) := fun z => by
    rw [spForge, if_neg (by omega), if_neg z]
    exact ⟨rfl, e, onlyC.rf⟩
  refine ⟨fun c1 => bad (by omega), fun c1 => ⟨fun c2 => ?_, fun c2 => ⟨fun c3 => bad (by omega), fun c3 => ⟨fun c4 => ?_, fun c4 => bad (by omega)⟩⟩⟩⟩
  · rw [hz] at c2
    exact bad (by omega)
  · rw [hz] at c2
    refine ⟨⟨by omega, by omega⟩, ⟨by omega, by omega⟩, ?_⟩
    rw [spForge, if_neg (by omega), if_pos ⟨⟨c1, c2⟩, ⟨c3, c4⟩⟩]
    refine ⟨?_, ⟨isC_set (by decide) e.1, hisC_eq e.2.1 ?_ ?_ (fun t a k _ _ ht => ?_), ?_, ?_, fun x hx => ?_⟩, fun t a k ht => ?_⟩
    · rw [(hr i.toNat (by omega)).2.2]
    · rw [mSet_no (by simp)]
    · rw [mSet_no (by simp)]
    · rw [mSet_no (fun z => by omega)]
    · rw [mSet_no (by simp)]; exact e.2.2.1
    · rw [mSet_no (by simp)]; exact hz
    · refine ⟨?_, ?_, ?_⟩
      · rw [mSet_no (by simp)]; exact (hr x hx).1
      · rw [mSet_no (by simp)]; exact (hr x hx).2.1
      · show (if 33 = 33 ∧ (0 : Fin 8) = 0 ∧ x = i.toNat then p else h 33 0 x) = (if x = i.toNat then p else pB S x)
        by_cases hq : x = i.toNat
        · rw [if_pos ⟨rfl, rfl, hq⟩, if_pos hq]
        · rw [if_neg (fun z => hq z.2.2), if_neg hq]
          exact (hr x hx).2.2
    · rw [mSet_no (fun z => by omega)]
theorem s_M_forge (h : mMem) (S : sS) (o : sOk S) (e : RM h S) (i p : Int) : mCon l g n_M_forge (d + 1) [.inr (9, 0), .inl i, .inl p] h (fun r h' => r = some (.inl (spForge S i p).1) ∧ RM h' (spForge S i p).2 ∧ onlyM h h') := by
  refine e_M_forge (fun hv hm => ?_)
  refine mGo_wp h_M_forge 60 [] ?_
  have hz : h 9 0 43 = (pN S : Int) := e.2.2.2.1
  have hs : pN S ≤ 500 := o.2.2.2
  have hr := e.2.2.2.2
  refine ⟨fun c => ?_, fun c => by rw [spForge, if_pos (by omega)]; exact ⟨rfl, e, onlyM.rf⟩⟩
  rw [hz] at c
  have bad : ¬ ((0 ≤ i ∧ i < pN S) ∧ (0 ≤ p ∧ p ≤ 4095)) → ((some (Sum.inl vBAD) : Option mRV) = some (.inl (spForge S i p).1) ∧ RM h (spForge S i p).2 ∧ onlyM h h) := fun z => by
    rw [spForge, if_neg (by omega), if_neg z]
    exact ⟨rfl, e, onlyM.rf⟩
  have w0 : mWr (h 9 0 43 - 1) = (pN S : Int) - 1 := by rw [hz, mWr_of ⟨by omega, by omega⟩]
  refine mCall_is (c_M_isIn i 0 _ h) ?_
  refine ⟨fun c1 => bad (fun z => mB_eq0.mp c1 (by rw [w0]; omega)), fun c1 => ?_⟩
  have c1 := mB_ne0.mp c1
  rw [w0] at c1
  refine mCall_is (c_M_isIn p 0 4095 h) ?_
  refine ⟨fun c2 => ?_, fun c2 => bad (fun z => mB_eq0.mp c2 z.2)⟩
  have c2 := mB_ne0.mp c2
  obtain ⟨i', rfl⟩ := Int.eq_ofNat_of_zero_le c1.1
  have w1 : mWr (mWr (3 * (i' : Int)) + 2) = ((3 * i' + 2 : Nat) : Int) := by
    rw [mWr_of (x := 3 * (i' : Int)) ⟨by omega, by omega⟩, mWr_of ⟨by omega, by omega⟩]
    omega
  refine ⟨⟨by rw [w1]; omega, by rw [w1]; omega⟩, ⟨by rw [w1]; omega, by rw [w1]; omega⟩, ?_⟩
  rw [w1, Int.toNat_natCast, spForge, if_neg (by omega), if_pos ⟨⟨by omega, by omega⟩, c2⟩, Int.toNat_natCast]
  refine ⟨?_, ⟨isM_of e.1 ?_ ?_ (fun k => ?_) (fun k => ?_) (fun k => ?_), ⟨?_, e.2.1.2.1, fun q M hM => isB_out (fun x _ _ => ?_) (e.2.1.2.2 q M hM)⟩, ?_, ?_, fun x hx => ?_⟩, fun t a k ht => ?_⟩
  · rw [(hr i' (by omega)).2.2]
  · rw [mSet_no (by simp)]
  · rw [mSet_no (by simp)]
  · rw [mSet_no (by simp)]
  · rw [mSet_no (by simp)]
  · rw [mSet_no (by simp)]
  · rw [mSet_no (by simp)]; exact e.2.1.1
  · rw [mSet_no (by simp)]
  · rw [mSet_no (by simp)]; exact e.2.2.1
  · rw [mSet_no (by simp)]; exact hz
  · refine ⟨?_, ?_, ?_⟩
    · rw [mSet_no (fun z => absurd z.2.2 (by omega))]; exact (hr x hx).1
    · rw [mSet_no (fun z => absurd z.2.2 (by omega))]; exact (hr x hx).2.1
    · show (if 55 = 55 ∧ (0 : Fin 8) = 0 ∧ 3 * x + 2 = 3 * i' + 2 then p else h 55 0 (3 * x + 2)) = (if x = i' then p else pB S x)
      by_cases hq : x = i'
      · rw [if_pos ⟨rfl, rfl, by omega⟩, if_pos hq]
      · rw [if_neg (fun z => absurd z.2.2 (by omega)), if_neg hq]
        exact (hr x hx).2.2
  · rw [mSet_no (fun z => by omega)]
end Rows
end
section
abbrev dgF (N : nN) (q : Nat) (c : Int) : Nat → Bool := fun r => decide (r ≠ q ∧ nT N (jn q r) = c)
noncomputable def spDegree (N : nN) (q c : Int) : Int := if (0 ≤ q ∧ q < nP N) ∧ (c = -1 ∨ (0 ≤ c ∧ c < nC N)) then (cn (dgF N q.toNat c) (nP N) : Nat) else vBAD
section Deg
variable {l : Launch} {g : mG} {d : Nat}
theorem l_K_degree (N : nN) (h : mMem) (o : nOk N) (e : isC h 0 N) (q : Nat) (hq : q < nP N) (c : Int) : ∀ (n k : Nat), k + n = nP N → mGo l g (mMt n_K_degree) (d + 2) 30 [some (.inr (8, 0)), some (.inl q), some (.inl c), some (.inl (cn (dgF N q c) k : Nat)), some (.inl k)] [] h (mIs (some (.inl (cn (dgF N q c) (nP N) : Nat))) h) := by
  have hp := o.1.2
  intro n
  induction n with
  | zero =>
    intro k hk
    refine mGo_wp h_K_degree 60 [30] ?_
    refine ⟨fun z => ⟨?_, rfl⟩, fun z => ?_⟩
    · have : k = nP N := by omega
      rw [this]
    · rw [e.1] at z
      omega
  | succ n ih =>
    intro k hk
    have hc := cn_le (dgF N q c) k
    have qi := ih (k + 1) (by omega)
    refine mGo_wp h_K_degree 60 [30] ?_
    refine ⟨fun z => ?_, fun z => ⟨fun z2 => ?_, fun z2 => ?_⟩⟩
    · rw [e.1] at z
      omega
    · rw [cn_f (by simp; omega)] at qi
      show mGo l g _ _ 30 [_, _, _, _, some (.inl (mWr ((k : Int) + 1)))] [] _ _
      rw [mWr_of ⟨by omega, by omega⟩]
      exact qi
    · have hj := jn_lt q (by omega) k (by omega) (by omega)
      refine mCall_is (c_K_numberOf q k (by omega) (by omega) h) ?_
      refine ⟨⟨by omega, by omega⟩, ⟨fun z3 => ?_, fun z3 => ?_⟩⟩
      · rw [Int.toNat_natCast, e.2.2.2.2.1 _ hj] at z3
        rw [cn_f (by simp; intro _; exact z3)] at qi
        show mGo l g _ _ 30 [_, _, _, _, some (.inl (mWr ((k : Int) + 1)))] [] _ _
        rw [mWr_of ⟨by omega, by omega⟩]
        exact qi
      · rw [Int.toNat_natCast, e.2.2.2.2.1 _ hj] at z3
        rw [cn_t (by simp; exact ⟨by omega, z3⟩)] at qi
        show mGo l g _ _ 30 [_, _, _, some (.inl (mWr (((cn (dgF N q c) k : Nat) : Int) + 1))), some (.inl (mWr ((k : Int) + 1)))] [] _ _
        rw [mWr_of ⟨by omega, by omega⟩, mWr_of ⟨by omega, by omega⟩]
        exact qi
theorem c_K_degree (q c : Int) (N : nN) (h : mMem) (o : nOk N) (e : isC h 0 N) : mCon l g n_K_degree (d + 2) [.inr (8, 0), .inl q, .inl c] h (mIs (some (.inl (spDegree N q c))) h) := by
  refine e_K_degree (fun hv hm => ?_)
  refine mGo_wp h_K_degree 60 [30] ?_
  have bad : ¬ ((0 ≤ q ∧ q < nP N) ∧ (c = -1 ∨ (0 ≤ c ∧ c < nC N))) → ((some (Sum.inl vBAD) : Option mRV) = some (.inl (spDegree N q c)) ∧ h = h) := fun z => ⟨by rw [spDegree, if_neg z], rfl⟩
  refine mCall_is (c_Net_hasPoint 0 q h) ?_
  rw [e.1]
  refine ⟨fun c1 => bad (fun z => mB_eq0.mp c1 z.1), fun c1 => ?_⟩
  have c1 := mB_ne0.mp c1
  refine mCall_is (c_Net_hasColourOrBare 0 c h) ?_
  rw [e.2.1]
  refine ⟨fun c2 => ?_, fun c2 => bad (fun z => mB_eq0.mp c2 z.2)⟩
  have c2 := mB_ne0.mp c2
  obtain ⟨q', rfl⟩ := Int.eq_ofNat_of_zero_le c1.1
  rw [spDegree, if_pos ⟨c1, c2⟩, Int.toNat_natCast]
  exact l_K_degree N h o e q' (by omega) c (nP N) 0 (by omega)
theorem l_M_degree (N : nN) (h : mMem) (o : nOk N) (e : isM h N) (q : Nat) (hq : q < nP N) (c : Int) : ∀ (n k : Nat), k + n = nP N → mGo l g (mMt n_M_degree) (d + 2) 30 [some (.inr (9, 0)), some (.inl q), some (.inl c), some (.inl (cn (dgF N q c) k : Nat)), some (.inl k)] [] h (mIs (some (.inl (cn (dgF N q c) (nP N) : Nat))) h) := by
  have hp := o.1.2
  intro n
  induction n with
  | zero =>
    intro k hk
    refine mGo_wp h_M_degree 60 [30] ?_
    refine ⟨fun z => ⟨?_, rfl⟩, fun z => ?_⟩
    · have : k = nP N := by omega
      rw [this]
    · rw [e.1] at z
      omega
  | succ n ih =>
    intro k hk
    have hc := cn_le (dgF N q c) k
    have qi := ih (k + 1) (by omega)
    refine mGo_wp h_M_degree 60 [30] ?_
    refine ⟨fun z => ?_, fun z => ⟨fun z2 => ?_, fun z2 => ?_⟩⟩
    · rw [e.1] at z
      omega
    · rw [cn_f (by simp; omega)] at qi
      show mGo l g _ _ 30 [_, _, _, some (.inl (mWr (((cn (dgF N q c) k : Nat) : Int) + 0))), some (.inl (mWr ((k : Int) + 1)))] [] _ _
      rw [mWr_of ⟨by omega, by omega⟩, mWr_of ⟨by omega, by omega⟩]
      exact qi
    · have hj := jn_lt k (by omega) q (by omega) (by omega)
      refine mCall_is (c_M_join k q (by omega) (by omega) h) ?_
      refine ⟨⟨by omega, by omega⟩, ⟨fun z3 => ?_, fun z3 => ?_⟩⟩
      · rw [Int.toNat_natCast, e.2.2.2.2 _ hj, jn_comm k (by omega) q (by omega)] at z3
        rw [cn_f (by simp; intro _; exact z3)] at qi
        show mGo l g _ _ 30 [_, _, _, some (.inl (mWr (((cn (dgF N q c) k : Nat) : Int) + 0))), some (.inl (mWr ((k : Int) + 1)))] [] _ _
        rw [mWr_of ⟨by omega, by omega⟩, mWr_of ⟨by omega, by omega⟩]
        exact qi
      · rw [Int.toNat_natCast, e.2.2.2.2 _ hj, jn_comm k (by omega) q (by omega)] at z3
        rw [cn_t (by simp; exact ⟨by omega, z3⟩)] at qi
        show mGo l g _ _ 30 [_, _, _, some (.inl (mWr (((cn (dgF N q c) k : Nat) : Int) + 1))), some (.inl (mWr ((k : Int) + 1)))] [] _ _
        rw [mWr_of ⟨by omega, by omega⟩, mWr_of ⟨by omega, by omega⟩]
        exact qi
theorem c_M_degree (q c : Int) (N : nN) (h : mMem) (o : nOk N) (e : isM h N) : mCon l g n_M_degree (d + 2) [.inr (9, 0), .inl q, .inl c] h (mIs (some (.inl (spDegree N q c))) h) := by
  refine e_M_degree (fun hv hm => ?_)
  refine mGo_wp h_M_degree 60 [30] ?_
  have hp := o.1.2
  have hcc := o.2.1.2
  have bad : ¬ ((0 ≤ q ∧ q < nP N) ∧ (c = -1 ∨ (0 ≤ c ∧ c < nC N))) → ((some (Sum.inl vBAD) : Option mRV) = some (.inl (spDegree N q c)) ∧ h = h) := fun z => ⟨by rw [spDegree, if_neg z], rfl⟩
  refine mCall_is (c_M_isPoint q (nP N) (by omega) h e.1) ?_
  refine ⟨fun c1 => bad (fun z => mB_eq0.mp c1 z.1), fun c1 => ?_⟩
  have c1 := mB_ne0.mp c1
  refine mCall_is (c_M_isIn c (-1) _ h) ?_
  rw [e.2.1, mWr_of (x := (nC N : Int) - 1) ⟨by omega, by omega⟩]
  refine ⟨fun c2 => ?_, fun c2 => bad (fun z => mB_eq0.mp c2 (by omega))⟩
  have c2 := mB_ne0.mp c2
  obtain ⟨q', rfl⟩ := Int.eq_ofNat_of_zero_le c1.1
  rw [spDegree, if_pos ⟨c1, by omega⟩, Int.toNat_natCast]
  exact l_M_degree N h o e q' (by omega) c (nP N) 0 (by omega)
end Deg
end
section
theorem mGo_mono {l : Launch} {g : mG} {mi : mMi} {d pc : Nat} {xs : mXs} {st : List mRV} {h : mMem} {K K' : Option mRV → mMem → Prop} (k : mGo l g mi d pc xs st h K) (hk : ∀ v h', K v h' → K' v h') : mGo l g mi d pc xs st h K' := by
  intro p e s m args below meth c H locs ls C P D S L O T hT X
  obtain ⟨t, a, o, h1, h2, ⟨⟨v, h', e1, e2, e3⟩, e4⟩, h4⟩ := k p e s m args below meth c H locs ls C P D S L O T hT X
  exact ⟨t, a, o, h1, h2, ⟨⟨v, h', e1, hk v h' e2, e3⟩, e4⟩, h4⟩
theorem jn_last : ∀ p, p < 12 → ∀ k, k < p → jn k p = js p + k := by decide +kernel
theorem js_last : ∀ p, p < 12 → js p + p ≤ 66 := by decide +kernel
/-- the first k joins of point p are bare -/
def tCut (T : Nat → Int) (p k : Nat) : Nat → Int := fun j => if js p ≤ j ∧ j < js p + k then -1 else T j
theorem tCut_zero (T : Nat → Int) (p : Nat) : tCut T p 0 = T := by
  funext j
  unfold tCut
  rw [if_neg (by omega)]
theorem tCut_succ (T : Nat → Int) (p k : Nat) : tSet (tCut T p k) (js p + k) (-1) = tCut T p (k + 1) := by
  funext j
  unfold tSet tCut
  by_cases h1 : j = js p + k
  · rw [if_pos h1, if_pos (by omega)]
  · rw [if_neg h1]
    by_cases h2 : js p ≤ j ∧ j < js p + k
    · rw [if_pos h2, if_pos (by omega)]
    · rw [if_neg h2, if_neg (by omega)]
def nDrop (N : nN) : nN := (nP N - 1, nC N, nK N, nS N, tCut (nT N) (nP N - 1) (nP N - 1))
noncomputable def spDrop (S : sS) : Int × sS := if nP S.1 = 1 then (vNO, S) else ((nP S.1 - 1 : Nat), sTo S (nDrop S.1))
section Drop
variable {l : Launch} {g : mG} {d : Nat}
theorem l_Net_lose (N : nN) (h : mMem) (o : nOk N) (hp2 : 2 ≤ nP N) : ∀ (n k : Nat) (H : mMem), k + n = nP N - 1 → sameBut 0 h H → isC H 0 (nSetT N (tCut (nT N) (nP N - 1) k)) → mGo l g (mMt n_Net_loseLastPoint) (d + 2) 2 [some (.inr (4, 0)), some (.inl k)] [] H (fun r h' => r = none ∧ (∀ t a q, ¬ ((t = 4 ∨ t = 22 ∨ t = 23) ∧ a = 0) → h' t a q = h t a q) ∧ isC h' 0 (nDrop N)) := by
  have hp := o.1.2
  have hl := js_last (nP N - 1) (by omega)
  intro n
  induction n with
  | zero =>
    intro k H hk hs e
    refine mGo_wp h_Net_loseLastPoint 60 [2] ?_
    have w : mWr (H 4 0 0 - 1) = ((nP N - 1 : Nat) : Int) := by
      have e1 : H 4 0 0 = (nP N : Int) := e.1
      rw [e1, mWr_of ⟨by omega, by omega⟩]
      omega
    refine ⟨fun c => ?_, fun c => by rw [w] at c; omega⟩
    have : k = nP N - 1 := by omega
    subst this
    obtain ⟨n1, n2, n3, n4, n5, n6⟩ := e
    refine ⟨rfl, fun t a q hz => ?_, ?_, ?_, fun x hx => ?_, fun x hx => ?_, fun x hx => ?_, fun y hy x hx => ?_⟩
    · rw [mSet_no (fun z => hz ⟨Or.inl z.1, z.2.1⟩)]
      exact hs t a q (fun z => hz ⟨Or.inr z.1, z.2⟩)
    · rw [mSet_at, w]
      rfl
    · rw [mSet_no (by simp)]; exact n2
    · rw [mSet_no (by simp)]; exact n3 x hx
    · rw [mSet_no (by simp)]; exact n4 x hx
    · rw [mSet_no (by simp)]; exact n5 x hx
    · rw [mSet_no (by simp)]; exact n6 y hy x hx
  | succ n ih =>
    intro k H hk hs e
    refine mGo_wp h_Net_loseLastPoint 60 [2] ?_
    have w : mWr (H 4 0 0 - 1) = ((nP N - 1 : Nat) : Int) := by
      have e1 : H 4 0 0 = (nP N : Int) := e.1
      rw [e1, mWr_of ⟨by omega, by omega⟩]
      omega
    refine ⟨fun c => by rw [w] at c; omega, fun c => ?_⟩
    have jc : mCon l g n_K_numberOf (d + 1) [.inl (k : Int), .inl (mWr (H 4 0 0 - 1))] H (mIs (some (.inl (js (nP N - 1) + k : Nat))) H) := by
      rw [w, ← jn_last (nP N - 1) (by omega) k (by omega)]
      exact c_K_numberOf k (nP N - 1) (by omega) (by omega) H
    refine mCall_is jc ?_
    obtain ⟨n1, n2, n3, n4, n5, n6⟩ := id e
    have hT := o.2.2.2.1 (js (nP N - 1) + k) (by omega)
    have hcc := o.2.1.2
    have hb : -1 ≤ tCut (nT N) (nP N - 1) k (js (nP N - 1) + k) ∧ tCut (nT N) (nP N - 1) k (js (nP N - 1) + k) < 3 := by
      unfold tCut
      rw [if_neg (by omega)]
      omega
    refine mCall_on2 (c_Net_give 0 (js (nP N - 1) + k) (-1) (tCut (nT N) (nP N - 1) k) (by omega) (by decide) H (n5 _ (by omega)) hb n6) ?_
    rintro r2 h2 ⟨rfl, g1, g2, g3⟩
    show mGo l g _ _ 2 [_, some (.inl (mWr ((k : Int) + 1)))] [] _ _
    rw [mWr_of ⟨by omega, by omega⟩]
    refine ih (k + 1) h2 (by omega) (fun t a q hz => (g1 t a q hz).trans (hs t a q hz)) ⟨?_, ?_, fun x hx => ?_, fun x hx => ?_, fun x hx => ?_, ?_⟩
    · rw [g1 _ _ _ (by simp)]; exact n1
    · rw [g1 _ _ _ (by simp)]; exact n2
    · rw [g1 _ _ _ (by simp)]; exact n3 x hx
    · rw [g1 _ _ _ (by simp)]; exact n4 x hx
    · rw [g2, n5 x hx]
      show (if x = js (nP N - 1) + k then -1 else tCut (nT N) (nP N - 1) k x) = tCut (nT N) (nP N - 1) (k + 1) x
      rw [← tCut_succ]
      rfl
    · rw [tCut_succ] at g3
      exact g3
theorem c_Net_lose (N : nN) (h : mMem) (o : nOk N) (hp2 : 2 ≤ nP N) (e : isC h 0 N) : mCon l g n_Net_loseLastPoint (d + 2) [.inr (4, 0)] h (fun r h' => r = none ∧ (∀ t a q, ¬ ((t = 4 ∨ t = 22 ∨ t = 23) ∧ a = 0) → h' t a q = h t a q) ∧ isC h' 0 (nDrop N)) := by
  refine e_Net_loseLastPoint (fun hv hm => ?_)
  refine mGo_wp h_Net_loseLastPoint 60 [2] ?_
  refine l_Net_lose N h o hp2 (nP N - 1) 0 h (by omega) (fun _ _ _ _ => rfl) ?_
  rw [tCut_zero]
  exact e
theorem s_K_drop (h : mMem) (S : sS) (o : sOk S) (e : RC h S) : mCon l g n_K_drop (d + 4) [.inr (8, 0)] h (fun r h' => r = some (.inl (spDrop S).1) ∧ RC h' (spDrop S).2 ∧ onlyC h h') := by
  refine e_K_drop (fun hv hm => ?_)
  refine mGo_wp h_K_drop 60 [] ?_
  have hp := o.1.1
  refine ⟨fun c => ?_, fun c => ?_⟩
  · rw [e.1.1] at c
    rw [spDrop, if_neg (by omega)]
    refine mCall_on2 (s_remember h S o e) ?_
    rintro r1 h1 ⟨rfl, e1, q1⟩
    refine mCall_on2 (c_Net_lose S.1 h1 o.1 (by omega) e1.1) ?_
    rintro r2 h2 ⟨rfl, g1, g2⟩
    refine ⟨?_, ⟨g2, hisC_eq e1.2.1 (g1 _ _ _ (by simp)) (g1 _ _ _ (by simp)) (fun t i k i0 _ _ => g1 t i k (fun z => i0 z.2)), (g1 _ _ _ (by simp)).trans e1.2.2.1, (g1 _ _ _ (by simp)).trans e1.2.2.2.1, fun i hi => ?_⟩, fun t i k ht => (g1 t i k (fun z => by omega)).trans (q1 t i k ht)⟩
    · show some (Sum.inl (h2 4 0 0)) = _
      rw [g2.1]
      rfl
    · rw [g1 _ _ _ (by simp), g1 _ _ _ (by simp), g1 _ _ _ (by simp)]
      exact e1.2.2.2.2 i hi
  · rw [e.1.1] at c
    rw [spDrop, if_pos (by omega)]
    exact ⟨rfl, e, onlyC.rf⟩
theorem l_M_drop (p : Nat) (hp : p < 12) (h : mMem) (e : h 9 0 0 = p) : ∀ (n k : Nat), k + n = p → mGo l g (mMt n_M_drop) (d + 1) 27 [some (.inr (9, 0)), some (.inl k)] [] (mSeg h 42 0 (js p) k (fun _ => -1)) (mIs (some (.inl p)) (mSeg h 42 0 (js p) p (fun _ => -1))) := by
  have hl := js_last p hp
  intro n
  induction n with
  | zero =>
    intro k hk
    refine mGo_wp h_M_drop 60 [27] ?_
    have : k = p := by omega
    subst this
    have w : mSeg h 42 0 (js k) k (fun _ => -1) 9 0 0 = (k : Int) := by rw [mSeg_ne (by decide)]; exact e
    refine ⟨fun c => ⟨?_, rfl⟩, fun c => by rw [w] at c; omega⟩
    rw [w]
  | succ n ih =>
    intro k hk
    refine mGo_wp h_M_drop 60 [27] ?_
    have w : mSeg h 42 0 (js p) k (fun _ => -1) 9 0 0 = (p : Int) := by rw [mSeg_ne (by decide)]; exact e
    refine ⟨fun c => by rw [w] at c; omega, fun c => ?_⟩
    have jc : mCon l g n_M_join d [.inl (k : Int), .inl (mSeg h 42 0 (js p) k (fun _ => -1) 9 0 0)] (mSeg h 42 0 (js p) k (fun _ => -1)) (mIs (some (.inl (js p + k : Nat))) (mSeg h 42 0 (js p) k (fun _ => -1))) := by
      rw [w, ← jn_last p hp k (by omega)]
      exact c_M_join k p (by omega) (by omega) _
    refine mCall_is jc ?_
    refine ⟨⟨by omega, by omega⟩, ?_⟩
    have q := ih (k + 1) (by omega)
    rw [← mSeg_succ] at q
    show mGo l g _ _ 27 [_, some (.inl (mWr ((k : Int) + 1)))] [] (mSet _ 42 0 (Int.toNat ((js p + k : Nat) : Int)) (-1)) _
    rw [mWr_of ⟨by omega, by omega⟩, Int.toNat_natCast]
    exact q
theorem s_M_drop (h : mMem) (S : sS) (o : sOk S) (e : RM h S) : mCon l g n_M_drop (d + 1) [.inr (9, 0)] h (fun r h' => r = some (.inl (spDrop S).1) ∧ RM h' (spDrop S).2 ∧ onlyM h h') := by
  refine e_M_drop (fun hv hm => ?_)
  refine mGo_wp h_M_drop 60 [27] ?_
  have hp := o.1.1
  refine ⟨fun c => ?_, fun c => ?_⟩
  · rw [e.1.1] at c
    rw [spDrop, if_neg (by omega)]
    refine mCall_on2 (s_keep h S o e) ?_
    rintro r1 h1 ⟨rfl, e1, q1, -⟩
    have w : mWr (h1 9 0 0 - 1) = ((nP S.1 - 1 : Nat) : Int) := by
      rw [e1.1.1]
      show mWr ((nP S.1 : Int) - 1) = _
      rw [mWr_of ⟨by omega, by omega⟩]
      omega
    have q := l_M_drop (l := l) (g := g) (d := d) (nP S.1 - 1) (by omega) (mSet h1 9 0 0 (mWr (h1 9 0 0 - 1))) (by rw [mSet_at, w]) (nP S.1 - 1) 0 (by omega)
    rw [mSeg_zero] at q
    refine mGo_mono q ?_
    rintro v h2 ⟨rfl, rfl⟩
    obtain ⟨n1, n2, n3, n4, n5⟩ := id e1.1
    refine ⟨rfl, ⟨⟨?_, ?_, fun x hx => ?_, fun x hx => ?_, fun x hx => ?_⟩, ⟨?_, e1.2.1.2.1, fun y M hM => isB_out (fun x _ _ => ?_) (e1.2.1.2.2 y M hM)⟩, ?_, ?_, fun i hi => ?_⟩, fun t i x ht => ?_⟩
    · rw [mSeg_ne (by decide), mSet_at, w]
      rfl
    · rw [mSeg_ne (by decide), mSet_no (by simp)]; exact n2
    · rw [mSeg_ne (by decide), mSet_no (by simp)]; exact n3 x hx
    · rw [mSeg_ne (by decide), mSet_no (by simp)]; exact n4 x hx
    · show (if 42 = 42 ∧ (0 : Fin 8) = 0 ∧ js (nP S.1 - 1) ≤ x ∧ x < js (nP S.1 - 1) + (nP S.1 - 1) then (-1 : Int) else mSet h1 9 0 0 (mWr (h1 9 0 0 - 1)) 42 0 x) = (if js (nP S.1 - 1) ≤ x ∧ x < js (nP S.1 - 1) + (nP S.1 - 1) then -1 else nT S.1 x)
      by_cases hq : js (nP S.1 - 1) ≤ x ∧ x < js (nP S.1 - 1) + (nP S.1 - 1)
      · rw [if_pos ⟨rfl, rfl, hq⟩, if_pos hq]
      · rw [if_neg (fun z => hq z.2.2), if_neg hq, mSet_no (by simp)]
        exact n5 x hx
    · rw [mSeg_ne (by decide), mSet_no (by simp)]; exact e1.2.1.1
    · rw [mSeg_ne (by decide), mSet_no (by simp)]
    · rw [mSeg_ne (by decide), mSet_no (by simp)]; exact e1.2.2.1
    · rw [mSeg_ne (by decide), mSet_no (by simp)]; exact e1.2.2.2.1
    · rw [mSeg_ne (by decide), mSeg_ne (by decide), mSeg_ne (by decide), mSet_no (by simp), mSet_no (by simp), mSet_no (by simp)]
      exact e1.2.2.2.2 i hi
    · rw [mSeg_ne (by omega), mSet_no (fun z => by omega)]
      exact q1 t i x ht
  · rw [e.1.1] at c
    rw [spDrop, if_pos (by omega)]
    exact ⟨rfl, e, onlyM.rf⟩
end Drop
end
section
/-! the model's search for copies: what one point more brings -/
/-- the joins that point p brings to a row r, by the kind k and the length L of the whole row -/
def newE (k L : Nat) (r : List Nat) (p : Nat) : List Nat := match k with
  | 1 => r.map (fun q => jn q p)
  | 3 => if r.length = 0 then [] else [jn (r.getD 0 0) p]
  | 4 => if r.length = 0 then [] else if r.length = 1 then [jn (r.getD 0 0) p] else [jn (r.getD 0 0) p, jn (r.getD 1 0) p]
  | 5 => if r.length = 0 then [] else [jn (r.getD (r.length - 1) 0) p]
  | _ => if r.length = 0 then [] else if r.length = L - 1 then [jn (r.getD (r.length - 1) 0) p, jn p (r.getD 0 0)] else [jn (r.getD (r.length - 1) 0) p]
/-- whether the order lets point p follow -/
def ordP (k L : Nat) (r : List Nat) (p : Nat) : Prop := match k with
  | 1 => r.length = 0 ∨ r.getD (r.length - 1) 0 < p
  | 3 => r.length = 0 ∨ r.length = 1 ∨ r.getD (r.length - 1) 0 < p
  | 4 => r.length = 0 ∨ (r.length = 1 ∧ r.getD 0 0 < p) ∨ r.length = 2 ∨ (2 < r.length ∧ r.getD (r.length - 1) 0 < p)
  | 5 => r.length = 0 ∨ r.length ≠ L - 1 ∨ r.getD 0 0 < p
  | _ => r.length = 0 ∨ (r.getD 0 0 < p ∧ (r.length ≠ L - 1 ∨ r.getD 1 0 < p))
/-- how many joins of a list have not the colour c -/
def msN (T : Nat → Int) (c : Int) : List Nat → Nat
  | [] => 0
  | e :: es => (if T e = c then 0 else 1) + msN T c es
/-- the last of them, or what stood there -/
def msD (T : Nat → Int) (c : Int) (m : Int) : List Nat → Int
  | [] => m
  | e :: es => msD T c (if T e = c then m else e) es
/-- one join more in the model's search -/
def mAE (h : mMem) (T : Nat → Int) (c : Int) (em ms e : Nat) : mMem := if T e = c then mSet (mSet h 45 0 em e) 9 0 9 (em + 1 : Nat) else mSet (mSet (mSet (mSet h 45 0 em e) 9 0 9 (em + 1 : Nat)) 9 0 10 (ms + 1 : Nat)) 9 0 11 e
section Edges
variable {l : Launch} {g : mG} {d : Nat}
theorem c_M_addEdge (i j : Nat) (c : Int) (T : Nat → Int) (em ms mm : Nat) (hi : i < 12) (hj : j < 12) (hij : i ≠ j) (hem : em < 20) (hms : ms < 100) (h : mMem) (e1 : h 9 0 9 = em) (e2 : h 9 0 10 = ms) (e3 : h 9 0 12 = mm) (eT : ∀ k, k < 66 → h 42 0 k = T k) :
    mCon l g n_M_addEdge (d + 1) [.inr (9, 0), .inl c, .inl i, .inl j] h (mIs (some (.inl (mB (ms + msN T c [jn i j] ≤ mm)))) (mAE h T c em ms (jn i j))) := by
  refine e_M_addEdge (fun hv hm => ?_)
  refine mGo_wp h_M_addEdge 60 [28] ?_
  have hl := jn_lt i hi j hj hij
  have tail : ∀ (H : mMem) (x : Nat), H 9 0 10 = x → H 9 0 12 = mm → mGo l g (mMt n_M_addEdge) (d + 1) 55 [some (.inr (9, 0)), some (.inl c), some (.inl i), some (.inl j), some (.inl (jn i j : Nat))] [] H (mIs (some (.inl (mB (x ≤ mm)))) H) := by
    intro H x a b
    refine mGo_wp h_M_addEdge 60 [] ?_
    refine ⟨fun z => ?_, fun z => ?_⟩
    · rw [a, b] at z
      exact ⟨Or.inl rfl, by rw [mB_f (by omega)], rfl⟩
    · rw [a, b] at z
      exact ⟨Or.inr rfl, by rw [mB_t (by omega)], rfl⟩
  refine mCall_is (c_M_join i j hi hj h) ?_
  have w1 : mWr (mSet h 45 0 (Int.toNat (h 9 0 9)) ((jn i j : Nat) : Int) 9 0 9 + 1) = ((em + 1 : Nat) : Int) := by
    rw [mSet_no (by simp), e1, mWr_of ⟨by omega, by omega⟩]
    omega
  refine ⟨⟨by rw [e1]; omega, by rw [e1]; omega⟩, ?_⟩
  show mGo l g _ _ 28 [some (.inr (9, 0)), some (.inl c), some (.inl i), some (.inl j), some (.inl (jn i j : Nat))] [] (mSet (mSet h 45 0 (Int.toNat (h 9 0 9)) ((jn i j : Nat) : Int)) 9 0 9 (mWr (mSet h 45 0 (Int.toNat (h 9 0 9)) ((jn i j : Nat) : Int) 9 0 9 + 1))) _
  rw [w1, e1, Int.toNat_natCast]
  have rT : mSet (mSet h 45 0 em ((jn i j : Nat) : Int)) 9 0 9 ((em + 1 : Nat) : Int) 42 0 (Int.toNat ((jn i j : Nat) : Int)) = T (jn i j) := by
    rw [mSet_no (by simp), mSet_no (by simp), Int.toNat_natCast, eT _ hl]
  have r10 : mSet (mSet h 45 0 em ((jn i j : Nat) : Int)) 9 0 9 ((em + 1 : Nat) : Int) 9 0 10 = (ms : Int) := by
    rw [mSet_no (by simp), mSet_no (by simp), e2]
  have r12 : mSet (mSet h 45 0 em ((jn i j : Nat) : Int)) 9 0 9 ((em + 1 : Nat) : Int) 9 0 12 = (mm : Int) := by
    rw [mSet_no (by simp), mSet_no (by simp), e3]
  refine mGo_wp h_M_addEdge 60 [55] ?_
  refine ⟨⟨by omega, by omega⟩, ⟨fun z => ?_, fun z => ?_⟩⟩
  · rw [rT] at z
    have hN : msN T c [jn i j] = 0 := by
      show (if T (jn i j) = c then 0 else 1) + 0 = 0
      rw [if_pos z]
    rw [hN]
    unfold mAE
    rw [if_pos z]
    exact tail _ ms r10 r12
  · rw [rT] at z
    have hN : msN T c [jn i j] = 1 := by
      show (if T (jn i j) = c then 0 else 1) + 0 = 1
      rw [if_neg z]
    rw [hN]
    unfold mAE
    rw [if_neg z]
    have w2 : mWr (mSet (mSet h 45 0 em ((jn i j : Nat) : Int)) 9 0 9 ((em + 1 : Nat) : Int) 9 0 10 + 1) = ((ms + 1 : Nat) : Int) := by
      rw [r10, mWr_of ⟨by omega, by omega⟩]
      omega
    show mGo l g _ _ 55 _ [] (mSet (mSet (mSet (mSet h 45 0 em ((jn i j : Nat) : Int)) 9 0 9 ((em + 1 : Nat) : Int)) 9 0 10 (mWr (mSet (mSet h 45 0 em ((jn i j : Nat) : Int)) 9 0 9 ((em + 1 : Nat) : Int) 9 0 10 + 1))) 9 0 11 ((jn i j : Nat) : Int)) _
    rw [w2]
    refine tail _ (ms + 1) ?_ ?_
    · rw [mSet_no (by simp), mSet_at]
    · rw [mSet_no (by simp), mSet_no (by simp), r12]
end Edges
end
section
/-- the model's search, as far as it is -/
def sSt (h : mMem) (T : Nat → Int) (mm : Nat) (es : List Nat) (ms : Nat) (md : Int) : Prop := h 9 0 9 = es.length ∧ (∀ k, k < es.length → h 45 0 k = es.getD k 0) ∧ h 9 0 10 = ms ∧ h 9 0 11 = md ∧ h 9 0 12 = mm ∧ ∀ k, k < 66 → h 42 0 k = T k
def farE (h h' : mMem) : Prop := ∀ (t : Nat) (i : Fin 8) (k : Nat), ¬ ((t = 45 ∧ h 9 0 9 ≤ (k : Int)) ∨ (t = 9 ∧ (k = 9 ∨ k = 10 ∨ k = 11))) → h' t i k = h t i k
theorem farE.rf {h : mMem} : farE h h := fun _ _ _ _ => rfl
theorem farE.tr {h h1 h2 : mMem} (le : h 9 0 9 ≤ h1 9 0 9) (a : farE h h1) (b : farE h1 h2) : farE h h2 := fun t i k z => (b t i k (fun y => z (y.imp_left (fun w => ⟨w.1, Int.le_trans le w.2⟩)))).trans (a t i k z)
theorem msN_app (T : Nat → Int) (c : Int) : ∀ (a b : List Nat), msN T c (a ++ b) = msN T c a + msN T c b
  | [], b => by show msN T c b = 0 + _; omega
  | e :: a, b => by
    show (if T e = c then 0 else 1) + msN T c (a ++ b) = (if T e = c then 0 else 1) + msN T c a + msN T c b
    rw [msN_app T c a b]
    omega
theorem msD_app (T : Nat → Int) (c : Int) : ∀ (a b : List Nat) (m : Int), msD T c m (a ++ b) = msD T c (msD T c m a) b
  | [], b, m => rfl
  | e :: a, b, m => msD_app T c a b _
noncomputable def mBc (p : Prop) : Int := @mB p (Classical.propDecidable p)
theorem mBc_01 (p : Prop) : mBc p = 0 ∨ mBc p = 1 := @mB_01 p (Classical.propDecidable p)
theorem mBc_t {p : Prop} (h : p) : mBc p = 1 := @mB_t p (Classical.propDecidable p) h
theorem mBc_f {p : Prop} (h : ¬ p) : mBc p = 0 := @mB_f p (Classical.propDecidable p) h
theorem mBc_of (p : Prop) [Decidable p] : mBc p = mB p := @mB_congr p p (Classical.propDecidable p) _ Iff.rfl
theorem mBc_congr {p q : Prop} (h : p ↔ q) : mBc p = mBc q := @mB_congr p q (Classical.propDecidable p) (Classical.propDecidable q) h
theorem mBc_eq0 {p : Prop} : mBc p = 0 ↔ ¬ p := @mB_eq0 p (Classical.propDecidable p)
theorem mBc_ne0 {p : Prop} : mBc p ≠ 0 ↔ p := @mB_ne0 p (Classical.propDecidable p)
section Pt
variable {l : Launch} {g : mG} {d : Nat}
theorem getD_app1 (es : List Nat) (e : Nat) : (es ++ [e]).getD es.length 0 = e := by
  rw [List.getD_eq_getElem?_getD, List.getElem?_append_right (Nat.le_refl _), Nat.sub_self]
  rfl
theorem getD_app2 (es : List Nat) (e k : Nat) (hk : k < es.length) : (es ++ [e]).getD k 0 = es.getD k 0 := by
  rw [List.getD_eq_getElem?_getD, List.getElem?_append_left hk, ← List.getD_eq_getElem?_getD]
/-- one join more -/
theorem s_addEdge (i j : Nat) (c : Int) (T : Nat → Int) (mm ms : Nat) (es : List Nat) (md : Int) (hi : i < 12) (hj : j < 12) (hij : i ≠ j) (hem : es.length < 20) (hms : ms < 100) (h : mMem) (e : sSt h T mm es ms md) :
    mCon l g n_M_addEdge (d + 1) [.inr (9, 0), .inl c, .inl i, .inl j] h (fun r h' => r = some (.inl (mBc (ms + msN T c [jn i j] ≤ mm))) ∧ farE h h' ∧ sSt h' T mm (es ++ [jn i j]) (ms + msN T c [jn i j]) (msD T c md [jn i j])) := by
  obtain ⟨a1, a2, a3, a4, a5, a6⟩ := e
  refine mCon_mono (c_M_addEdge i j c T es.length ms mm hi hj hij hem hms h a1 a3 a5 a6) ?_
  rintro v h' ⟨rfl, rfl⟩
  rw [mBc_of]
  refine ⟨rfl, fun t x k hz => ?_, ?_⟩
  · unfold mAE
    split
    · rw [mSet_no (fun z => hz (Or.inr ⟨z.1, Or.inl z.2.2⟩)), mSet_no (fun z => hz (Or.inl ⟨z.1, by rw [a1, z.2.2]; exact Int.le_refl _⟩))]
    · rw [mSet_no (fun z => hz (Or.inr ⟨z.1, Or.inr (Or.inr z.2.2)⟩)), mSet_no (fun z => hz (Or.inr ⟨z.1, Or.inr (Or.inl z.2.2)⟩)), mSet_no (fun z => hz (Or.inr ⟨z.1, Or.inl z.2.2⟩)), mSet_no (fun z => hz (Or.inl ⟨z.1, by rw [a1, z.2.2]; exact Int.le_refl _⟩))]
  · have hlen : (es ++ [jn i j]).length = es.length + 1 := by simp
    by_cases hT : T (jn i j) = c
    · have hN : msN T c [jn i j] = 0 := by show (if T (jn i j) = c then 0 else 1) + 0 = 0; rw [if_pos hT]
      have hD : msD T c md [jn i j] = md := by show (if T (jn i j) = c then md else _) = md; rw [if_pos hT]
      rw [hN, hD]
      unfold mAE
      rw [if_pos hT]
      refine ⟨?_, fun k hk => ?_, ?_, ?_, ?_, fun k hk => ?_⟩
      · rw [mSet_at, hlen]
      · rw [mSet_no (by simp)]
        by_cases hq : k = es.length
        · rw [hq, mSet_at, getD_app1]
        · rw [mSet_no (fun z => hq z.2.2), getD_app2 _ _ _ (by omega)]
          exact a2 k (by omega)
      · rw [mSet_no (by simp), mSet_no (by simp)]; exact a3
      · rw [mSet_no (by simp), mSet_no (by simp)]; exact a4
      · rw [mSet_no (by simp), mSet_no (by simp)]; exact a5
      · rw [mSet_no (by simp), mSet_no (by simp)]; exact a6 k hk
    · have hN : msN T c [jn i j] = 1 := by show (if T (jn i j) = c then 0 else 1) + 0 = 1; rw [if_neg hT]
      have hD : msD T c md [jn i j] = (jn i j : Nat) := by show (if T (jn i j) = c then md else _) = _; rw [if_neg hT]
      rw [hN, hD]
      unfold mAE
      rw [if_neg hT]
      refine ⟨?_, fun k hk => ?_, ?_, ?_, ?_, fun k hk => ?_⟩
      · rw [mSet_no (by simp), mSet_no (by simp), mSet_at, hlen]
      · rw [mSet_no (by simp), mSet_no (by simp), mSet_no (by simp)]
        by_cases hq : k = es.length
        · rw [hq, mSet_at, getD_app1]
        · rw [mSet_no (fun z => hq z.2.2), getD_app2 _ _ _ (by omega)]
          exact a2 k (by omega)
      · rw [mSet_no (by simp), mSet_at]
      · rw [mSet_at]
      · rw [mSet_no (by simp), mSet_no (by simp), mSet_no (by simp), mSet_no (by simp)]; exact a5
      · rw [mSet_no (by simp), mSet_no (by simp), mSet_no (by simp), mSet_no (by simp)]; exact a6 k hk
end Pt
end
section
/-- the length of a row of a kind and size -/
def lenOf (k s : Int) : Int := if k = 3 then s + 1 else if k = 4 then s + 2 else s
def rowAt (h : mMem) (r : List Nat) : Prop := ∀ j, j < r.length → h 44 0 j = (r.getD j 0 : Nat)
/-- whether point p may follow -/
def okP (T : Nat → Int) (c : Int) (k L : Nat) (mm ms : Nat) (r : List Nat) (p : Nat) : Prop := ordP k L r p ∧ ms + msN T c (newE k L r p) ≤ mm
abbrev ptK (h : mMem) (T : Nat → Int) (c : Int) (k L mm ms : Nat) (es : List Nat) (md : Int) (r : List Nat) (p : Nat) : Option mRV → mMem → Prop := fun v h' => v = some (.inl (mBc (okP T c k L mm ms r p))) ∧ farE h h' ∧ (okP T c k L mm ms r p → sSt h' T mm (es ++ newE k L r p) (ms + msN T c (newE k L r p)) (msD T c md (newE k L r p)))
section Pts
variable {l : Launch} {g : mG} {d : Nat}
theorem c_M_lengthOf (c : Nat) (hc : c < 3) (k s : Int) (hs : 0 ≤ s ∧ s ≤ 6) (h : mMem) (e1 : h 40 0 c = k) (e2 : h 41 0 c = s) : mCon l g n_M_lengthOf d [.inr (9, 0), .inl c] h (mIs (some (.inl (lenOf k s))) h) := by
  refine e_M_lengthOf (fun hv hm => ?_)
  refine mGo_wp h_M_lengthOf 60 [] ?_
  have t : ((c : Int)).toNat = c := Int.toNat_natCast c
  unfold lenOf
  refine ⟨⟨by omega, by omega⟩, ⟨fun z => ⟨⟨by omega, by omega⟩, ⟨fun z2 => ⟨⟨by omega, by omega⟩, ?_, rfl⟩, fun z2 => ⟨⟨by omega, by omega⟩, ?_, rfl⟩⟩⟩, fun z => ⟨⟨by omega, by omega⟩, ?_, rfl⟩⟩⟩
  · rw [t, e1] at z z2
    rw [t, e2, if_neg z, if_neg z2]
  · rw [t, e1] at z z2
    rw [t, e2, if_neg z, if_pos z2, mWr_of ⟨by omega, by omega⟩]
  · rw [t, e1] at z
    rw [t, e2, if_pos z, mWr_of ⟨by omega, by omega⟩]
/-- a star's points -/
theorem s_addPoint3 (c : Nat) (hc : c < 3) (T : Nat → Int) (L mm ms : Nat) (es : List Nat) (md : Int) (r : List Nat) (p : Nat) (hp : p < 12) (hr : ∀ x ∈ r, x < 12) (hpr : p ∉ r) (hl : r.length ≤ 7) (hes : es.length < 18) (hms : ms < 50) (hle : ms ≤ mm) (h : mMem) (e : sSt h T mm es ms md) (er : rowAt h r) (ek : h 40 0 c = 3) :
    mCon l g n_M_addPoint (d + 2) [.inr (9, 0), .inl c, .inl r.length, .inl p] h (ptK h T c 3 L mm ms es md r p) := by
  refine e_M_addPoint (fun hv hm => ?_)
  refine mGo_wp h_M_addPoint 120 [] ?_
  have t : ((c : Int)).toNat = c := Int.toNat_natCast c
  refine ⟨⟨by omega, by omega⟩, ?_⟩
  rw [t, ek]
  refine ⟨fun _ => ⟨fun z => absurd rfl z, fun _ => ?_⟩, fun z => absurd z (by decide)⟩
  have jc : 0 < r.length → ordP 3 L r p → mCon l g n_M_addEdge (d + 1) [.inr (9, 0), .inl c, .inl (h 44 0 (Int.toNat 0)), .inl p] h (ptK h T c 3 L mm ms es md r p) := by
    intro h0 ho
    have hm0 : r.getD 0 0 ∈ r := by
      rw [List.getD_eq_getElem?_getD, List.getElem?_eq_getElem h0]
      exact List.getElem_mem h0
    have hne : newE 3 L r p = [jn (r.getD 0 0) p] := if_neg (by omega)
    rw [show h 44 0 (Int.toNat 0) = _ from er 0 h0]
    refine mCon_mono (s_addEdge (r.getD 0 0) p c T mm ms es md (hr _ hm0) hp (fun z => hpr (z ▸ hm0)) (by omega) (by omega) h e) ?_
    rintro v h' ⟨rfl, f1, f2⟩
    unfold ptK
    rw [hne]
    refine ⟨?_, f1, fun _ => f2⟩
    rw [mBc_congr]
    unfold okP
    rw [hne]
    exact ⟨fun z => ⟨ho, z⟩, fun z => z.2⟩
  refine ⟨fun z => ?_, fun z => ⟨fun z2 => ?_, fun z2 => ⟨⟨?_, ?_⟩, ⟨fun z3 => ?_, fun z3 => ?_⟩⟩⟩⟩
  · have hz : r.length = 0 := by omega
    have hne : newE 3 L r p = [] := if_pos hz
    have ok : okP T c 3 L mm ms r p := by
      unfold okP
      rw [hne]
      exact ⟨Or.inl hz, hle⟩
    refine ⟨Or.inr rfl, by rw [mBc_t ok], farE.rf, fun _ => ?_⟩
    rw [hne, List.append_nil]
    exact e
  · refine ⟨⟨by decide, by decide⟩, ?_⟩
    refine mCall_on2 (jc (by omega) (Or.inr (Or.inl (by omega)))) ?_
    rintro v h' ⟨rfl, f1, f2⟩
    refine ⟨fun y => ⟨Or.inl rfl, by rw [y], f1, f2⟩, fun y => ⟨Or.inr rfl, ?_, f1, f2⟩⟩
    rw [mBc_t (mBc_ne0.mp y)]
  · rw [mWr_of ⟨by omega, by omega⟩]
    omega
  · rw [mWr_of ⟨by omega, by omega⟩]
    omega
  · rw [mWr_of ⟨by omega, by omega⟩, show ((r.length : Int) - 1).toNat = r.length - 1 by omega, er (r.length - 1) (by omega)] at z3
    have no : ¬ okP T c 3 L mm ms r p := fun y => by
      rcases y.1 with y1 | y1 | y1 <;> omega
    exact ⟨Or.inl rfl, by rw [mBc_f no], farE.rf, fun y => absurd y no⟩
  · rw [mWr_of ⟨by omega, by omega⟩, show ((r.length : Int) - 1).toNat = r.length - 1 by omega, er (r.length - 1) (by omega)] at z3
    refine ⟨⟨by decide, by decide⟩, ?_⟩
    refine mCall_on2 (jc (by omega) (Or.inr (Or.inr (by omega)))) ?_
    rintro v h' ⟨rfl, f1, f2⟩
    refine ⟨fun y => ⟨Or.inl rfl, by rw [y], f1, f2⟩, fun y => ⟨Or.inr rfl, ?_, f1, f2⟩⟩
    rw [mBc_t (mBc_ne0.mp y)]
end Pts
end
section
theorem getD_mem {r : List Nat} {j : Nat} (hj : j < r.length) : r.getD j 0 ∈ r := by
  rw [List.getD_eq_getElem?_getD, List.getElem?_eq_getElem hj]
  exact List.getElem_mem hj
section Pts
variable {l : Launch} {g : mG} {d : Nat}
/-- a path's points -/
theorem s_addPoint5 (c : Nat) (hc : c < 3) (T : Nat → Int) (L mm ms : Nat) (es : List Nat) (md : Int) (r : List Nat) (p : Nat) (hp : p < 12) (hr : ∀ x ∈ r, x < 12) (hpr : p ∉ r) (hl : r.length ≤ 7) (hes : es.length < 18) (hms : ms < 50) (hle : ms ≤ mm) (h : mMem) (e : sSt h T mm es ms md) (er : rowAt h r) (ek : h 40 0 c = 5) (eL : h 41 0 c = L) (hL : 2 ≤ L ∧ L ≤ 6) :
    mCon l g n_M_addPoint (d + 2) [.inr (9, 0), .inl c, .inl r.length, .inl p] h (ptK h T c 5 L mm ms es md r p) := by
  refine e_M_addPoint (fun hv hm => ?_)
  refine mGo_wp h_M_addPoint 120 [] ?_
  have t : ((c : Int)).toNat = c := Int.toNat_natCast c
  refine ⟨⟨by omega, by omega⟩, ?_⟩
  rw [t, ek]
  refine ⟨fun _ => ⟨fun _ => ⟨fun _ => ?_, fun z => absurd z (by decide)⟩, fun z => absurd z (by decide)⟩, fun z => absurd z (by decide)⟩
  have lc : mCon l g n_M_lengthOf (d + 1) [.inr (9, 0), .inl (c : Int)] h (mIs (some (.inl (L : Int))) h) := by
    have q := c_M_lengthOf (l := l) (g := g) (d := d + 1) c hc 5 L (by omega) h ek eL
    unfold lenOf at q
    rw [if_neg (by decide), if_neg (by decide)] at q
    exact q
  have jc : 0 < r.length → ordP 5 L r p → mCon l g n_M_addEdge (d + 1) [.inr (9, 0), .inl c, .inl (h 44 0 (Int.toNat (mWr ((r.length : Int) - 1)))), .inl p] h (ptK h T c 5 L mm ms es md r p) := by
    intro h0 ho
    have hm0 := getD_mem (r := r) (j := r.length - 1) (by omega)
    have hne : newE 5 L r p = [jn (r.getD (r.length - 1) 0) p] := if_neg (by omega)
    rw [mWr_of ⟨by omega, by omega⟩, show ((r.length : Int) - 1).toNat = r.length - 1 by omega, er (r.length - 1) (by omega)]
    refine mCon_mono (s_addEdge (r.getD (r.length - 1) 0) p c T mm ms es md (hr _ hm0) hp (fun z => hpr (z ▸ hm0)) (by omega) (by omega) h e) ?_
    rintro v h' ⟨rfl, f1, f2⟩
    unfold ptK
    rw [hne]
    refine ⟨?_, f1, fun _ => f2⟩
    rw [mBc_congr]
    unfold okP
    rw [hne]
    exact ⟨fun z => ⟨ho, z⟩, fun z => z.2⟩
  refine ⟨fun z => ?_, fun z => ?_⟩
  · refine mCall_is lc ?_
    refine ⟨fun y => ⟨fun x => absurd rfl x, fun _ => ⟨fun _ => ⟨⟨?_, ?_⟩, ?_⟩, fun x => absurd rfl x⟩⟩, fun y => ⟨fun x => absurd rfl x, fun _ => ⟨fun x => absurd x (by decide), fun _ => ⟨⟨by decide, by decide⟩, ⟨fun w => ?_, fun w => ⟨⟨?_, ?_⟩, ?_⟩⟩⟩⟩⟩⟩
    · rw [mWr_of ⟨by omega, by omega⟩]
      omega
    · rw [mWr_of ⟨by omega, by omega⟩]
      omega
    · rw [mWr_of ⟨by omega, by omega⟩] at y
      refine mCall_on2 (jc (by omega) (Or.inr (Or.inl (by omega)))) ?_
      rintro v h' ⟨rfl, f1, f2⟩
      refine ⟨fun y => ⟨Or.inl rfl, by rw [y], f1, f2⟩, fun y => ⟨Or.inr rfl, ?_, f1, f2⟩⟩
      rw [mBc_t (mBc_ne0.mp y)]
    · rw [mWr_of ⟨by omega, by omega⟩] at y
      rw [show h 44 0 (Int.toNat 0) = _ from er 0 (by omega)] at w
      have no : ¬ okP T c 5 L mm ms r p := fun y => by
        rcases y.1 with y1 | y1 | y1 <;> omega
      exact ⟨Or.inl rfl, by rw [mBc_f no], farE.rf, fun y => absurd y no⟩
    · rw [mWr_of ⟨by omega, by omega⟩]
      omega
    · rw [mWr_of ⟨by omega, by omega⟩]
      omega
    · rw [show h 44 0 (Int.toNat 0) = _ from er 0 (by omega)] at w
      refine mCall_on2 (jc (by omega) (Or.inr (Or.inr (by omega)))) ?_
      rintro v h' ⟨rfl, f1, f2⟩
      refine ⟨fun y => ⟨Or.inl rfl, by rw [y], f1, f2⟩, fun y => ⟨Or.inr rfl, ?_, f1, f2⟩⟩
      rw [mBc_t (mBc_ne0.mp y)]
  · have hz : r.length = 0 := by omega
    have hne : newE 5 L r p = [] := if_pos hz
    have ok : okP T c 5 L mm ms r p := by
      unfold okP
      rw [hne]
      exact ⟨Or.inl hz, hle⟩
    refine ⟨Or.inr rfl, by rw [mBc_t ok], farE.rf, fun _ => ?_⟩
    rw [hne, List.append_nil]
    exact e
end Pts
end
section
section Pts
variable {l : Launch} {g : mG} {d : Nat}
theorem sSt_two {h : mMem} {T : Nat → Int} {c : Int} {mm ms : Nat} {es : List Nat} {md : Int} {a b : Nat} (e : sSt h T mm (es ++ [a] ++ [b]) (ms + msN T c [a] + msN T c [b]) (msD T c (msD T c md [a]) [b])) : sSt h T mm (es ++ [a, b]) (ms + msN T c [a, b]) (msD T c md [a, b]) := by
  have h1 : msN T c [a, b] = msN T c [a] + msN T c [b] := msN_app T c [a] [b]
  have h2 : msD T c md [a, b] = msD T c (msD T c md [a]) [b] := msD_app T c [a] [b] md
  rw [h1, h2, ← Nat.add_assoc]
  rw [List.append_assoc] at e
  exact e
/-- a book's points -/
theorem s_addPoint4 (c : Nat) (hc : c < 3) (T : Nat → Int) (L mm ms : Nat) (es : List Nat) (md : Int) (r : List Nat) (p : Nat) (hp : p < 12) (hr : ∀ x ∈ r, x < 12) (hpr : p ∉ r) (hl : r.length ≤ 7) (hes : es.length < 18) (hms : ms < 50) (hle : ms ≤ mm) (h : mMem) (e : sSt h T mm es ms md) (er : rowAt h r) (ek : h 40 0 c = 4) :
    mCon l g n_M_addPoint (d + 2) [.inr (9, 0), .inl c, .inl r.length, .inl p] h (ptK h T c 4 L mm ms es md r p) := by
  refine e_M_addPoint (fun hv hm => ?_)
  refine mGo_wp h_M_addPoint 120 [] ?_
  have t : ((c : Int)).toNat = c := Int.toNat_natCast c
  refine ⟨⟨by omega, by omega⟩, ?_⟩
  rw [t, ek]
  refine ⟨fun _ => ⟨fun _ => ⟨fun z => absurd rfl z, fun _ => ?_⟩, fun z => absurd z (by decide)⟩, fun z => absurd z (by decide)⟩
  have jc : 0 < r.length → mCon l g n_M_addEdge (d + 1) [.inr (9, 0), .inl c, .inl (h 44 0 (Int.toNat 0)), .inl p] h (fun v h' => v = some (.inl (mBc (ms + msN T c [jn (r.getD 0 0) p] ≤ mm))) ∧ farE h h' ∧ sSt h' T mm (es ++ [jn (r.getD 0 0) p]) (ms + msN T c [jn (r.getD 0 0) p]) (msD T c md [jn (r.getD 0 0) p])) := by
    intro h0
    have hm0 := getD_mem (r := r) (j := 0) h0
    rw [show h 44 0 (Int.toNat 0) = _ from er 0 h0]
    exact s_addEdge (r.getD 0 0) p c T mm ms es md (hr _ hm0) hp (fun z => hpr (z ▸ hm0)) (by omega) (by omega) h e
  have m1 : ∀ a : Nat, msN T c [a] ≤ 1 := fun a => by
    show (if T a = c then 0 else 1) + 0 ≤ 1
    split <;> omega
  have hsum : msN T c [jn (r.getD 0 0) p, jn (r.getD 1 0) p] = msN T c [jn (r.getD 0 0) p] + msN T c [jn (r.getD 1 0) p] := msN_app T c [_] [_]
  have hne2 : 2 ≤ r.length → newE 4 L r p = [jn (r.getD 0 0) p, jn (r.getD 1 0) p] := fun h0 => by
    show (if r.length = 0 then _ else if r.length = 1 then _ else _) = _
    rw [if_neg (by omega), if_neg (by omega)]
  have no2 : 2 ≤ r.length → mBc (ms + msN T c [jn (r.getD 0 0) p] ≤ mm) = 0 → ¬ okP T c 4 L mm ms r p := fun h0 hv y => by
    have y2 := y.2
    rw [hne2 h0, hsum] at y2
    exact mBc_eq0.mp hv (by omega)
  have jc2 : 2 ≤ r.length → ordP 4 L r p → ∀ h', farE h h' → sSt h' T mm (es ++ [jn (r.getD 0 0) p]) (ms + msN T c [jn (r.getD 0 0) p]) (msD T c md [jn (r.getD 0 0) p]) → mCon l g n_M_addEdge (d + 1) [.inr (9, 0), .inl c, .inl (h' 44 0 (Int.toNat 1)), .inl p] h' (ptK h T c 4 L mm ms es md r p) := by
    intro h0 ho h' f1 f2
    have hm1 := getD_mem (r := r) (j := 1) (by omega)
    have r1 : h' 44 0 (Int.toNat 1) = ((r.getD 1 0 : Nat) : Int) := by
      rw [f1 _ _ _ (by simp)]
      exact er 1 (by omega)
    rw [r1]
    have b0 := m1 (jn (r.getD 0 0) p)
    refine mCon_mono (s_addEdge (r.getD 1 0) p c T mm (ms + msN T c [jn (r.getD 0 0) p]) (es ++ [jn (r.getD 0 0) p]) (msD T c md [jn (r.getD 0 0) p]) (hr _ hm1) hp (fun z => hpr (z ▸ hm1)) (by simp; omega) (by omega) h' f2) ?_
    rintro v h2 ⟨rfl, g1, g2⟩
    unfold ptK
    rw [hne2 h0]
    refine ⟨?_, farE.tr (by rw [e.1, f2.1, List.length_append]; omega) f1 g1, fun _ => sSt_two g2⟩
    rw [mBc_congr]
    unfold okP
    rw [hne2 h0, hsum]
    exact ⟨fun z => ⟨ho, by omega⟩, fun z => by omega⟩
  refine ⟨fun z => ⟨fun z2 => ⟨fun z3 => ⟨⟨by decide, by decide⟩, ?_⟩, fun z3 => ⟨⟨?_, ?_⟩, ⟨fun z4 => ?_, fun z4 => ⟨⟨by decide, by decide⟩, ?_⟩⟩⟩⟩, fun z2 => ⟨⟨by decide, by decide⟩, ⟨fun z3 => ?_, fun z3 => ⟨⟨by decide, by decide⟩, ?_⟩⟩⟩⟩, fun z => ?_⟩
  · have ho : ordP 4 L r p := Or.inr (Or.inr (Or.inl (by omega)))
    refine mCall_on2 (jc (by omega)) ?_
    rintro v h' ⟨rfl, f1, f2⟩
    refine ⟨fun y => ?_, fun y => ⟨⟨by decide, by decide⟩, ?_⟩⟩
    · have no := no2 (by omega) y
      exact ⟨Or.inl rfl, by rw [mBc_f no], f1, fun y => absurd y no⟩
    · refine mCall_on2 (jc2 (by omega) ho h' f1 f2) ?_
      rintro v h2 ⟨rfl, g1, g2⟩
      refine ⟨fun y => ⟨Or.inl rfl, by rw [y], g1, g2⟩, fun y => ⟨Or.inr rfl, ?_, g1, g2⟩⟩
      rw [mBc_t (mBc_ne0.mp y)]
  · rw [mWr_of ⟨by omega, by omega⟩]
    omega
  · rw [mWr_of ⟨by omega, by omega⟩]
    omega
  · rw [mWr_of ⟨by omega, by omega⟩, show ((r.length : Int) - 1).toNat = r.length - 1 by omega, er (r.length - 1) (by omega)] at z4
    have no : ¬ okP T c 4 L mm ms r p := fun y => by
      rcases y.1 with y1 | y1 | y1 | y1 <;> omega
    exact ⟨Or.inl rfl, by rw [mBc_f no], farE.rf, fun y => absurd y no⟩
  · rw [mWr_of ⟨by omega, by omega⟩, show ((r.length : Int) - 1).toNat = r.length - 1 by omega, er (r.length - 1) (by omega)] at z4
    have ho : ordP 4 L r p := Or.inr (Or.inr (Or.inr ⟨by omega, by omega⟩))
    refine mCall_on2 (jc (by omega)) ?_
    rintro v h' ⟨rfl, f1, f2⟩
    refine ⟨fun y => ?_, fun y => ⟨⟨by decide, by decide⟩, ?_⟩⟩
    · have no := no2 (by omega) y
      exact ⟨Or.inl rfl, by rw [mBc_f no], f1, fun y => absurd y no⟩
    · refine mCall_on2 (jc2 (by omega) ho h' f1 f2) ?_
      rintro v h2 ⟨rfl, g1, g2⟩
      refine ⟨fun y => ⟨Or.inl rfl, by rw [y], g1, g2⟩, fun y => ⟨Or.inr rfl, ?_, g1, g2⟩⟩
      rw [mBc_t (mBc_ne0.mp y)]
  · rw [show h 44 0 (Int.toNat 0) = _ from er 0 (by omega)] at z3
    have no : ¬ okP T c 4 L mm ms r p := fun y => by
      rcases y.1 with y1 | y1 | y1 | y1 <;> omega
    exact ⟨Or.inl rfl, by rw [mBc_f no], farE.rf, fun y => absurd y no⟩
  · rw [show h 44 0 (Int.toNat 0) = _ from er 0 (by omega)] at z3
    have ho : ordP 4 L r p := Or.inr (Or.inl ⟨by omega, by omega⟩)
    have hne : newE 4 L r p = [jn (r.getD 0 0) p] := by
      show (if r.length = 0 then _ else if r.length = 1 then _ else _) = _
      rw [if_neg (by omega), if_pos (by omega)]
    have okq : okP T c 4 L mm ms r p ↔ ms + msN T c [jn (r.getD 0 0) p] ≤ mm := by
      unfold okP
      rw [hne]
      exact ⟨fun y => y.2, fun y => ⟨ho, y⟩⟩
    refine mCall_on2 (jc (by omega)) ?_
    rintro v h' ⟨rfl, f1, f2⟩
    have f3 : okP T c 4 L mm ms r p → sSt h' T mm (es ++ newE 4 L r p) (ms + msN T c (newE 4 L r p)) (msD T c md (newE 4 L r p)) := fun _ => by
      rw [hne]
      exact f2
    refine ⟨fun y => ⟨Or.inl rfl, ?_, f1, f3⟩, fun y => ⟨Or.inr rfl, ?_, f1, f3⟩⟩
    · rw [mBc_f (fun w => mBc_eq0.mp y (okq.mp w))]
    · rw [mBc_t (okq.mpr (mBc_ne0.mp y))]
  · have hz : r.length = 0 := by omega
    have hne : newE 4 L r p = [] := if_pos hz
    have ok : okP T c 4 L mm ms r p := by
      unfold okP
      rw [hne]
      exact ⟨Or.inl hz, hle⟩
    refine ⟨Or.inr rfl, by rw [mBc_t ok], farE.rf, fun _ => ?_⟩
    rw [hne, List.append_nil]
    exact e
end Pts
end
section
section Pts
variable {l : Launch} {g : mG} {d : Nat}
/-- a ring's points -/
theorem s_addPoint2 (c : Nat) (hc : c < 3) (T : Nat → Int) (L mm ms : Nat) (es : List Nat) (md : Int) (r : List Nat) (p : Nat) (hp : p < 12) (hr : ∀ x ∈ r, x < 12) (hpr : p ∉ r) (hl : r.length ≤ 7) (hes : es.length < 18) (hms : ms < 50) (hle : ms ≤ mm) (h : mMem) (e : sSt h T mm es ms md) (er : rowAt h r) (ek : h 40 0 c = 2) (eL : h 41 0 c = L) (hL : 3 ≤ L ∧ L ≤ 6) :
    mCon l g n_M_addPoint (d + 2) [.inr (9, 0), .inl c, .inl r.length, .inl p] h (ptK h T c 2 L mm ms es md r p) := by
  refine e_M_addPoint (fun hv hm => ?_)
  refine mGo_wp h_M_addPoint 120 [] ?_
  have t : ((c : Int)).toNat = c := Int.toNat_natCast c
  refine ⟨⟨by omega, by omega⟩, ?_⟩
  rw [t, ek]
  refine ⟨fun _ => ⟨fun _ => ⟨fun _ => ?_, fun z => absurd z (by decide)⟩, fun z => absurd z (by decide)⟩, fun z => absurd z (by decide)⟩
  have lc : mCon l g n_M_lengthOf (d + 1) [.inr (9, 0), .inl (c : Int)] h (mIs (some (.inl (L : Int))) h) := by
    have q := c_M_lengthOf (l := l) (g := g) (d := d + 1) c hc 2 L (by omega) h ek eL
    unfold lenOf at q
    rw [if_neg (by decide), if_neg (by decide)] at q
    exact q
  have m1 : ∀ a : Nat, msN T c [a] ≤ 1 := fun a => by
    show (if T a = c then 0 else 1) + 0 ≤ 1
    split <;> omega
  have jc : 0 < r.length → mCon l g n_M_addEdge (d + 1) [.inr (9, 0), .inl c, .inl (h 44 0 (Int.toNat (mWr ((r.length : Int) - 1)))), .inl p] h (fun v h' => v = some (.inl (mBc (ms + msN T c [jn (r.getD (r.length - 1) 0) p] ≤ mm))) ∧ farE h h' ∧ sSt h' T mm (es ++ [jn (r.getD (r.length - 1) 0) p]) (ms + msN T c [jn (r.getD (r.length - 1) 0) p]) (msD T c md [jn (r.getD (r.length - 1) 0) p])) := by
    intro h0
    have hm0 := getD_mem (r := r) (j := r.length - 1) (by omega)
    rw [mWr_of ⟨by omega, by omega⟩, show ((r.length : Int) - 1).toNat = r.length - 1 by omega, er (r.length - 1) (by omega)]
    exact s_addEdge (r.getD (r.length - 1) 0) p c T mm ms es md (hr _ hm0) hp (fun z => hpr (z ▸ hm0)) (by omega) (by omega) h e
  have hsum : msN T c [jn (r.getD (r.length - 1) 0) p, jn p (r.getD 0 0)] = msN T c [jn (r.getD (r.length - 1) 0) p] + msN T c [jn p (r.getD 0 0)] := msN_app T c [_] [_]
  have hneL : 0 < r.length → r.length = L - 1 → newE 2 L r p = [jn (r.getD (r.length - 1) 0) p, jn p (r.getD 0 0)] := fun h0 h1 => by
    show (if r.length = 0 then _ else if r.length = L - 1 then _ else _) = _
    rw [if_neg (by omega), if_pos h1]
  have hneM : 0 < r.length → r.length ≠ L - 1 → newE 2 L r p = [jn (r.getD (r.length - 1) 0) p] := fun h0 h1 => by
    show (if r.length = 0 then _ else if r.length = L - 1 then _ else _) = _
    rw [if_neg (by omega), if_neg h1]
  have jc2 : 0 < r.length → r.length = L - 1 → ordP 2 L r p → ∀ h', farE h h' → sSt h' T mm (es ++ [jn (r.getD (r.length - 1) 0) p]) (ms + msN T c [jn (r.getD (r.length - 1) 0) p]) (msD T c md [jn (r.getD (r.length - 1) 0) p]) → mCon l g n_M_addEdge (d + 1) [.inr (9, 0), .inl c, .inl p, .inl (h' 44 0 (Int.toNat 0))] h' (ptK h T c 2 L mm ms es md r p) := by
    intro h0 h1 ho h' f1 f2
    have hm1 := getD_mem (r := r) (j := 0) h0
    have r1 : h' 44 0 (Int.toNat 0) = ((r.getD 0 0 : Nat) : Int) := by
      rw [f1 _ _ _ (by simp)]
      exact er 0 h0
    rw [r1]
    have b0 := m1 (jn (r.getD (r.length - 1) 0) p)
    refine mCon_mono (s_addEdge p (r.getD 0 0) c T mm (ms + msN T c [jn (r.getD (r.length - 1) 0) p]) (es ++ [jn (r.getD (r.length - 1) 0) p]) (msD T c md [jn (r.getD (r.length - 1) 0) p]) hp (hr _ hm1) (fun z => hpr (z ▸ hm1)) (by simp; omega) (by omega) h' f2) ?_
    rintro v h2 ⟨rfl, g1, g2⟩
    unfold ptK
    rw [hneL h0 h1]
    refine ⟨?_, farE.tr (by rw [e.1, f2.1, List.length_append]; omega) f1 g1, fun _ => sSt_two g2⟩
    rw [mBc_congr]
    unfold okP
    rw [hneL h0 h1, hsum]
    exact ⟨fun z => ⟨ho, by omega⟩, fun z => by omega⟩
  refine ⟨fun z => ?_, fun z => ?_⟩
  · have h0 : 0 < r.length := by omega
    have g0 : h 44 0 (Int.toNat 0) = ((r.getD 0 0 : Nat) : Int) := er 0 h0
    refine mCall_is lc ?_
    refine ⟨fun y => ⟨fun _ => ⟨⟨by decide, by decide⟩, ⟨fun w => ?_, fun w => ⟨fun _ => ⟨⟨?_, ?_⟩, ?_⟩, fun x => absurd rfl x⟩⟩⟩, fun x => absurd x (by decide)⟩, fun y => ⟨fun _ => ⟨⟨by decide, by decide⟩, ⟨fun w => ?_, fun w => ⟨fun x => absurd x (by decide), fun _ => ⟨⟨by decide, by decide⟩, ⟨fun u => ?_, fun u => ⟨⟨?_, ?_⟩, ?_⟩⟩⟩⟩⟩⟩, fun x => absurd x (by decide)⟩⟩
    · rw [g0] at w
      have no : ¬ okP T c 2 L mm ms r p := fun y => by
        rcases y.1 with y1 | y1 <;> omega
      exact ⟨Or.inl rfl, by rw [mBc_f no], farE.rf, fun y => absurd y no⟩
    · rw [mWr_of ⟨by omega, by omega⟩]
      omega
    · rw [mWr_of ⟨by omega, by omega⟩]
      omega
    · rw [g0] at w
      rw [mWr_of ⟨by omega, by omega⟩] at y
      have hq : r.length ≠ L - 1 := by omega
      have hne := hneM h0 hq
      have okq : okP T c 2 L mm ms r p ↔ ms + msN T c [jn (r.getD (r.length - 1) 0) p] ≤ mm := by
        unfold okP
        rw [hne]
        exact ⟨fun y => y.2, fun y => ⟨Or.inr ⟨by omega, Or.inl hq⟩, y⟩⟩
      refine mCall_on2 (jc h0) ?_
      rintro v h' ⟨rfl, f1, f2⟩
      have f3 : okP T c 2 L mm ms r p → sSt h' T mm (es ++ newE 2 L r p) (ms + msN T c (newE 2 L r p)) (msD T c md (newE 2 L r p)) := fun _ => by
        rw [hne]
        exact f2
      refine ⟨fun y => ⟨Or.inl rfl, ?_, f1, f3⟩, fun y => ⟨fun _ => ⟨Or.inr rfl, ?_, f1, f3⟩, fun x => absurd rfl x⟩⟩
      · rw [mBc_f (fun w => mBc_eq0.mp y (okq.mp w))]
      · rw [mBc_t (okq.mpr (mBc_ne0.mp y))]
    · rw [g0] at w
      have no : ¬ okP T c 2 L mm ms r p := fun y => by
        rcases y.1 with y1 | y1 <;> omega
      exact ⟨Or.inl rfl, by rw [mBc_f no], farE.rf, fun y => absurd y no⟩
    · rw [mWr_of ⟨by omega, by omega⟩] at y
      rw [show h 44 0 (Int.toNat 1) = _ from er 1 (by omega)] at u
      have no : ¬ okP T c 2 L mm ms r p := fun y => by
        rcases y.1 with y1 | y1 <;> omega
      exact ⟨Or.inl rfl, by rw [mBc_f no], farE.rf, fun y => absurd y no⟩
    · rw [mWr_of ⟨by omega, by omega⟩]
      omega
    · rw [mWr_of ⟨by omega, by omega⟩]
      omega
    · rw [g0] at w
      rw [mWr_of ⟨by omega, by omega⟩] at y
      rw [show h 44 0 (Int.toNat 1) = _ from er 1 (by omega)] at u
      have hq : r.length = L - 1 := by omega
      have ho : ordP 2 L r p := Or.inr ⟨by omega, Or.inr (by omega)⟩
      refine mCall_on2 (jc h0) ?_
      rintro v h' ⟨rfl, f1, f2⟩
      refine ⟨fun y => ?_, fun y => ⟨fun x => absurd x (by decide), fun _ => ⟨⟨by decide, by decide⟩, ?_⟩⟩⟩
      · have no : ¬ okP T c 2 L mm ms r p := fun w => by
          have w2 := w.2
          rw [hneL h0 hq, hsum] at w2
          exact mBc_eq0.mp y (by omega)
        exact ⟨Or.inl rfl, by rw [mBc_f no], f1, fun y => absurd y no⟩
      · refine mCall_on2 (jc2 h0 hq ho h' f1 f2) ?_
        rintro v h2 ⟨rfl, g1, g2⟩
        refine ⟨fun y => ⟨Or.inl rfl, by rw [y], g1, g2⟩, fun y => ⟨Or.inr rfl, ?_, g1, g2⟩⟩
        rw [mBc_t (mBc_ne0.mp y)]
  · have hz : r.length = 0 := by omega
    have hne : newE 2 L r p = [] := if_pos hz
    have ok : okP T c 2 L mm ms r p := by
      unfold okP
      rw [hne]
      exact ⟨Or.inl hz, hle⟩
    refine ⟨Or.inr rfl, by rw [mBc_t ok], farE.rf, fun _ => ?_⟩
    rw [hne, List.append_nil]
    exact e
end Pts
end
section
section Pts
variable {l : Launch} {g : mG} {d : Nat}
theorem take_succ_map (r : List Nat) (k p : Nat) (hk : k < r.length) : (r.take (k + 1)).map (fun q => jn q p) = (r.take k).map (fun q => jn q p) ++ [jn (r.getD k 0) p] := by
  rw [List.take_succ, List.map_append, List.getElem?_eq_getElem hk, List.getD_eq_getElem?_getD, List.getElem?_eq_getElem hk]
  rfl
theorem msN_take (T : Nat → Int) (c : Int) (r : List Nat) (k p : Nat) : msN T c ((r.take k).map (fun q => jn q p)) ≤ msN T c (r.map (fun q => jn q p)) := by
  have h := msN_app T c ((r.take k).map (fun q => jn q p)) ((r.drop k).map (fun q => jn q p))
  rw [← List.map_append, List.take_append_drop] at h
  omega
theorem msN_len (T : Nat → Int) (c : Int) : ∀ es : List Nat, msN T c es ≤ es.length
  | [] => Nat.le_refl 0
  | e :: es => by
    have := msN_len T c es
    show (if T e = c then 0 else 1) + msN T c es ≤ es.length + 1
    split <;> omega
/-- the points of one that is all joined -/
theorem s_addPoint1 (c : Nat) (hc : c < 3) (T : Nat → Int) (L mm ms : Nat) (es : List Nat) (md : Int) (r : List Nat) (p : Nat) (hp : p < 12) (hr : ∀ x ∈ r, x < 12) (hpr : p ∉ r) (hl : r.length ≤ 7) (hes : es.length + r.length ≤ 20) (hms : ms < 50) (hle : ms ≤ mm) (h : mMem) (e : sSt h T mm es ms md) (er : rowAt h r) (ek : h 40 0 c = 1) :
    mCon l g n_M_addPoint (d + 2) [.inr (9, 0), .inl c, .inl r.length, .inl p] h (ptK h T c 1 L mm ms es md r p) := by
  have hne : newE 1 L r p = r.map (fun q => jn q p) := rfl
  have fin0 : ∀ (k : Nat) (H : mMem), k ≤ r.length → farE h H → ¬ okP T c 1 L mm ms r p → mGo l g (mMt n_M_addPoint) (d + 2) 40 [some (.inr (9, 0)), some (.inl c), some (.inl r.length), some (.inl p), some (.inl 1), some (.inl 0), some (.inl k)] [] H (ptK h T c 1 L mm ms es md r p) := by
    intro k H hk f no
    refine mGo_wp h_M_addPoint 120 [] ?_
    have fin : (0 : Int) = 0 ∨ (0 : Int) = 1 := Or.inl rfl
    exact ⟨fun _ => ⟨fin, by rw [mBc_f no], f, fun y => absurd y no⟩, fun _ => ⟨fun _ => ⟨fin, by rw [mBc_f no], f, fun y => absurd y no⟩, fun x => absurd rfl x⟩⟩
  have loop : ordP 1 L r p → ∀ (n k : Nat) (H : mMem), k + n = r.length → farE h H → sSt H T mm (es ++ (r.take k).map (fun q => jn q p)) (ms + msN T c ((r.take k).map (fun q => jn q p))) (msD T c md ((r.take k).map (fun q => jn q p))) → ms + msN T c ((r.take k).map (fun q => jn q p)) ≤ mm → mGo l g (mMt n_M_addPoint) (d + 2) 40 [some (.inr (9, 0)), some (.inl c), some (.inl r.length), some (.inl p), some (.inl 1), some (.inl 1), some (.inl k)] [] H (ptK h T c 1 L mm ms es md r p) := by
    intro ho n
    induction n with
    | zero =>
      intro k H hk f es1 hle1
      refine mGo_wp h_M_addPoint 120 [] ?_
      refine ⟨fun _ => ?_, fun z => by omega⟩
      have : k = r.length := by omega
      subst this
      rw [List.take_length] at es1 hle1
      have ok : okP T c 1 L mm ms r p := ⟨ho, hle1⟩
      exact ⟨Or.inr rfl, by rw [mBc_t ok], f, fun _ => es1⟩
    | succ n ih =>
      intro k H hk f es1 hle1
      refine mGo_wp h_M_addPoint 120 [40] ?_
      have hk1 : k < r.length := by omega
      have hm0 := getD_mem (r := r) (j := k) hk1
      have rk : H 44 0 (Int.toNat (k : Int)) = ((r.getD k 0 : Nat) : Int) := by
        rw [Int.toNat_natCast, f _ _ _ (by simp)]
        exact er k hk1
      have hlen := msN_len T c ((r.take k).map (fun q => jn q p))
      rw [List.length_map, List.length_take] at hlen
      refine ⟨fun z => by omega, fun _ => ⟨fun x => absurd x (by decide), fun _ => ⟨⟨by omega, by omega⟩, ?_⟩⟩⟩
      have jc : mCon l g n_M_addEdge (d + 1) [.inr (9, 0), .inl c, .inl (H 44 0 (Int.toNat (k : Int))), .inl p] H (fun v h' => v = some (.inl (mBc (ms + msN T c ((r.take k).map (fun q => jn q p)) + msN T c [jn (r.getD k 0) p] ≤ mm))) ∧ farE H h' ∧ sSt h' T mm (es ++ (r.take k).map (fun q => jn q p) ++ [jn (r.getD k 0) p]) (ms + msN T c ((r.take k).map (fun q => jn q p)) + msN T c [jn (r.getD k 0) p]) (msD T c (msD T c md ((r.take k).map (fun q => jn q p))) [jn (r.getD k 0) p])) := by
        rw [rk]
        exact s_addEdge (r.getD k 0) p c T mm _ _ _ (hr _ hm0) hp (fun z => hpr (z ▸ hm0)) (by rw [List.length_append, List.length_map, List.length_take]; omega) (by omega) H es1
      refine mCall_on2 jc ?_
      rintro v h' ⟨rfl, f1, f2⟩
      have eN : msN T c ((r.take (k + 1)).map (fun q => jn q p)) = msN T c ((r.take k).map (fun q => jn q p)) + msN T c [jn (r.getD k 0) p] := by rw [take_succ_map r k p hk1, msN_app]
      have eD : msD T c md ((r.take (k + 1)).map (fun q => jn q p)) = msD T c (msD T c md ((r.take k).map (fun q => jn q p))) [jn (r.getD k 0) p] := by rw [take_succ_map r k p hk1, msD_app]
      show mGo l g _ _ 40 [_, _, _, _, _, some (.inl (mBc _)), some (.inl (mWr ((k : Int) + 1)))] [] h' _
      rw [mWr_of ⟨by omega, by omega⟩]
      by_cases hq : ms + msN T c ((r.take k).map (fun q => jn q p)) + msN T c [jn (r.getD k 0) p] ≤ mm
      · rw [mBc_t hq]
        refine ih (k + 1) h' (by omega) (farE.tr (by rw [e.1, es1.1, List.length_append]; omega) f f1) ?_ (by rw [eN]; omega)
        rw [eN, eD, take_succ_map r k p hk1, ← List.append_assoc, ← Nat.add_assoc]
        exact f2
      · rw [mBc_f hq]
        refine fin0 (k + 1) h' (by omega) (farE.tr (by rw [e.1, es1.1, List.length_append]; omega) f f1) (fun y => hq ?_)
        have y2 := y.2
        rw [hne] at y2
        have := msN_take T c r (k + 1) p
        omega
  refine e_M_addPoint (fun hv hm => ?_)
  refine mGo_wp h_M_addPoint 120 [40] ?_
  have t : ((c : Int)).toNat = c := Int.toNat_natCast c
  have e0 : sSt h T mm (es ++ (r.take 0).map (fun q => jn q p)) (ms + msN T c ((r.take 0).map (fun q => jn q p))) (msD T c md ((r.take 0).map (fun q => jn q p))) := by
    show sSt h T mm (es ++ []) (ms + 0) md
    rw [List.append_nil]
    exact e
  refine ⟨⟨by omega, by omega⟩, ?_⟩
  rw [t, ek]
  refine ⟨fun z => absurd rfl z, fun _ => ⟨fun z => ?_, fun z => ⟨⟨?_, ?_⟩, ⟨fun w => ?_, fun w => ?_⟩⟩⟩⟩
  · exact loop (Or.inl (by omega)) r.length 0 h (by omega) farE.rf e0 hle
  · rw [mWr_of ⟨by omega, by omega⟩]
    omega
  · rw [mWr_of ⟨by omega, by omega⟩]
    omega
  · rw [mWr_of ⟨by omega, by omega⟩, show ((r.length : Int) - 1).toNat = r.length - 1 by omega, er (r.length - 1) (by omega)] at w
    have no : ¬ okP T c 1 L mm ms r p := fun y => by
      rcases y.1 with y1 | y1 <;> omega
    exact fin0 0 h (by omega) farE.rf no
  · rw [mWr_of ⟨by omega, by omega⟩, show ((r.length : Int) - 1).toNat = r.length - 1 by omega, er (r.length - 1) (by omega)] at w
    exact loop (Or.inr (by omega)) r.length 0 h (by omega) farE.rf e0 hle
end Pts
end
section
/-- the bits of a row's points -/
def bitR (r : List Nat) : Nat → Nat
  | 0 => 0
  | j + 1 => bitR r j ||| 2 ^ (r.getD j 0)
theorem bitR_lt (r : List Nat) (hr : ∀ x ∈ r, x < 12) : ∀ j, j ≤ r.length → bitR r j < 4096
  | 0, _ => by show 0 < 4096; decide
  | j + 1, hj => by
    have h1 := bitR_lt r hr j (by omega)
    have h2 : 2 ^ (r.getD j 0) < 2 ^ 12 := Nat.pow_lt_pow_right (by decide) (hr _ (getD_mem (by omega)))
    exact Nat.or_lt_two_pow (n := 12) h1 h2
section Take
variable {l : Launch} {g : mG} {d : Nat}
theorem l_M_bitsOf (r : List Nat) (hr : ∀ x ∈ r, x < 12) (hl : r.length ≤ 7) (h : mMem) (er : rowAt h r) : ∀ (n k : Nat), k + n = r.length → mGo l g (mMt n_M_bitsOf) d 4 [some (.inr (9, 0)), some (.inl r.length), some (.inl (bitR r k : Nat)), some (.inl k)] [] h (mIs (some (.inl (bitR r r.length : Nat))) h) := by
  intro n
  induction n with
  | zero =>
    intro k hk
    refine mGo_wp h_M_bitsOf 40 [4] ?_
    have : k = r.length := by omega
    subst this
    exact ⟨fun _ => ⟨rfl, rfl⟩, fun z => by omega⟩
  | succ n ih =>
    intro k hk
    refine mGo_wp h_M_bitsOf 40 [4] ?_
    refine ⟨fun z => by omega, fun _ => ⟨⟨by omega, by omega⟩, ?_⟩⟩
    have q := ih (k + 1) (by omega)
    have hb := bitR_lt r hr k (by omega)
    have hx := hr _ (getD_mem (r := r) (j := k) (by omega))
    have h2 : 2 ^ (r.getD k 0) < 2 ^ 12 := Nat.pow_lt_pow_right (by decide) hx
    show mGo l g _ _ 4 [_, _, some (.inl (mOr ((bitR r k : Nat) : Int) (mShl 1 (h 44 0 (Int.toNat (k : Int)))))), some (.inl (mWr ((k : Int) + 1)))] [] _ _
    rw [mWr_of ⟨by omega, by omega⟩, Int.toNat_natCast, er k (by omega), mShl_1 _ (by omega), mOr_nat (by omega) (by omega)]
    exact q
theorem c_M_bitsOf (r : List Nat) (hr : ∀ x ∈ r, x < 12) (hl : r.length ≤ 7) (h : mMem) (er : rowAt h r) : mCon l g n_M_bitsOf d [.inr (9, 0), .inl r.length] h (mIs (some (.inl (bitR r r.length : Nat))) h) := by
  refine e_M_bitsOf (fun hv hm => ?_)
  refine mGo_wp h_M_bitsOf 40 [4] ?_
  exact l_M_bitsOf r hr hl h er r.length 0 (by omega)
end Take
end
section
/-! what stays right behind a call -/
theorem jn_js : ∀ p, p < 13 → ∀ a, a < p → ∀ b, b < p → a ≠ b → jn a b < js p := by decide +kernel
theorem hpush_mem {Ls : List nN} {N M : nN} (h : M ∈ hpush Ls N) : M ∈ Ls ∨ M = N := by
  unfold hpush at h
  split at h
  · rcases List.mem_append.mp h with z | z
    · exact Or.inl (List.mem_of_mem_tail z)
    · exact Or.inr (List.mem_singleton.mp z)
  · rcases List.mem_append.mp h with z | z
    · exact Or.inl z
    · exact Or.inr (List.mem_singleton.mp z)
theorem sOk_to {S : sS} {N : nN} (o : sOk S) (hN : nOk N) : sOk (sTo S N) := by
  refine ⟨hN, fun M hM => ?_, ?_, Nat.zero_le _⟩
  · rcases hpush_mem hM with z | z
    · exact o.2.1 M z
    · rw [z]; exact o.1
  · show (hpush S.2.1 S.1).length ≤ 6
    rw [(hpush_get (N := S.1) o.2.2.1).1]
    split <;> omega
theorem nOk_tone {N : nN} (o : nOk N) {k : Nat} {v : Int} (hk : k < js (nP N)) (hv : -1 ≤ v ∧ v < nC N) : nOk (nSetT N (tSet (nT N) k v)) := by
  obtain ⟨o1, o2, o3, o4, o5⟩ := o
  refine ⟨o1, o2, o3, fun j hj => ?_, fun j h1 h2 => ?_⟩
  · show -1 ≤ (if j = k then v else nT N j) ∧ (if j = k then v else nT N j) < nC N
    split
    · exact hv
    · exact o4 j hj
  · have h1 : js (nP N) ≤ j := h1
    show (if j = k then v else nT N j) = -1
    rw [if_neg (by omega)]
    exact o5 j h1 h2
theorem sOk_paint {S : sS} (o : sOk S) (a b v : Int) : sOk (spPaint S a b v).2 := by
  unfold spPaint
  split
  · next h =>
    have hp := o.1.1.2
    have hc := o.1.2.1.1
    refine sOk_to o (nOk_tone o.1 ?_ ?_)
    · exact jn_js (nP S.1) (by omega) a.toNat (by omega) b.toNat (by omega) (by omega)
    · omega
  · exact o
theorem sOk_target {S : sS} (o : sOk S) (q k s : Int) : sOk (spTarget S q k s).2 := by
  unfold spTarget
  split
  · next h =>
    obtain ⟨o1, o2, o3, o4, o5⟩ := o.1
    refine sOk_to o ⟨o1, o2, fun j hj => ?_, o4, o5⟩
    show szOk (if j = q.toNat then k else nK S.1 j) (if j = q.toNat then s else nS S.1 j)
    by_cases hq : j = q.toNat
    · rw [if_pos hq, if_pos hq]
      exact h.2.2
    · rw [if_neg hq, if_neg hq]
      exact o3 j hj
  · exact o
theorem sOk_net {S : sS} (o : sOk S) (n c : Int) : sOk (spNet S n c).2 := by
  unfold spNet
  split
  · next h =>
    obtain ⟨o1, o2, o3, o4, o5⟩ := o.1
    refine sOk_to o ⟨⟨?_, ?_⟩, ⟨?_, ?_⟩, fun j hj => ?_, fun j _ => ?_, fun j _ _ => rfl⟩
    · show 1 ≤ n.toNat
      omega
    · show n.toNat ≤ 12
      omega
    · show 2 ≤ c.toNat
      omega
    · show c.toNat ≤ 3
      omega
    · show szOk ((if c.toNat = 2 then tSet (nK S.1) 2 0 else nK S.1) j) ((if c.toNat = 2 then tSet (nS S.1) 2 0 else nS S.1) j)
      by_cases hc : c.toNat = 2
      · rw [if_pos hc, if_pos hc]
        show szOk (if j = 2 then 0 else nK S.1 j) (if j = 2 then 0 else nS S.1 j)
        by_cases hj2 : j = 2
        · rw [if_pos hj2, if_pos hj2]
          exact Or.inl ⟨rfl, rfl⟩
        · rw [if_neg hj2, if_neg hj2]
          exact o3 j hj
      · rw [if_neg hc, if_neg hc]
        exact o3 j hj
    · show -1 ≤ (-1 : Int) ∧ (-1 : Int) < (c.toNat : Int)
      omega
  · exact o
theorem js_step : ∀ p, p < 12 → js (p + 1) = js p + p := by decide +kernel
theorem sOk_drop {S : sS} (o : sOk S) : sOk (spDrop S).2 := by
  unfold spDrop
  split
  · exact o
  · next h =>
    obtain ⟨o1, o2, o3, o4, o5⟩ := o.1
    have hs := js_step (nP S.1 - 1) (by omega)
    rw [show nP S.1 - 1 + 1 = nP S.1 by omega] at hs
    refine sOk_to o ⟨⟨?_, ?_⟩, o2, o3, fun j hj => ?_, fun j h1 h2 => ?_⟩
    · show 1 ≤ nP S.1 - 1
      omega
    · show nP S.1 - 1 ≤ 12
      omega
    · show -1 ≤ (if js (nP S.1 - 1) ≤ j ∧ j < js (nP S.1 - 1) + (nP S.1 - 1) then -1 else nT S.1 j) ∧ (if js (nP S.1 - 1) ≤ j ∧ j < js (nP S.1 - 1) + (nP S.1 - 1) then -1 else nT S.1 j) < nC S.1
      split
      · omega
      · exact o4 j hj
    · have h1 : js (nP S.1 - 1) ≤ j := h1
      show (if js (nP S.1 - 1) ≤ j ∧ j < js (nP S.1 - 1) + (nP S.1 - 1) then -1 else nT S.1 j) = -1
      by_cases hq : j < js (nP S.1 - 1) + (nP S.1 - 1)
      · rw [if_pos ⟨h1, hq⟩]
      · rw [if_neg (fun z => hq z.2)]
        exact o5 j (by omega) h2
theorem sOk_forge {S : sS} (o : sOk S) (i p : Int) : sOk (spForge S i p).2 := by
  unfold spForge
  split
  · exact o
  · split
    · exact o
    · exact o
theorem sOk_undo {S : sS} (o : sOk S) : sOk (spUndo S).2 := by
  unfold spUndo
  cases hr : S.2.1.reverse with
  | nil => exact o
  | cons N r =>
    have hm : ∀ M ∈ N :: r, M ∈ S.2.1 := fun M hM => by
      rw [← hr] at hM
      exact List.mem_reverse.mp hM
    have hl : S.2.1.length = r.length + 1 := by
      rw [← List.length_reverse, hr]
      rfl
    refine ⟨o.2.1 N (hm N List.mem_cons_self), fun M hM => o.2.1 M (hm M (List.mem_cons_of_mem _ (List.mem_reverse.mp hM))), ?_, Nat.zero_le _⟩
    show r.reverse.length ≤ 6
    rw [List.length_reverse]
    have := o.2.2.1
    omega
end
section
section Take
variable {l : Launch} {g : mG} {d : Nat}
theorem c_M_take0 (h : mMem) (m : Int) (tot : Nat) (ht : tot < 1000000000) (e1 : h 9 0 13 = 0) (e2 : h 9 0 14 = tot) : mCon l g n_M_take d [.inr (9, 0), .inl m] h (mIs none (mSet h 9 0 14 (tot + 1 : Nat))) := by
  refine e_M_take (fun hv hm => ?_)
  refine mGo_wp h_M_take 60 [84] ?_
  have w : mWr (h 9 0 14 + 1) = ((tot + 1 : Nat) : Int) := by
    rw [e2, mWr_of ⟨by omega, by omega⟩]
    omega
  refine ⟨fun _ => ?_, fun z => absurd (z.symm.trans e1) (by decide)⟩
  show mGo l g _ _ 84 _ [] (mSet h 9 0 14 (mWr (h 9 0 14 + 1))) _
  rw [w]
  refine mGo_wp h_M_take 60 [] ?_
  have r13 : mSet h 9 0 14 ((tot + 1 : Nat) : Int) 9 0 13 = 0 := by rw [mSet_no (by simp)]; exact e1
  refine ⟨fun _ => ⟨fun _ => ⟨rfl, rfl⟩, fun z => absurd (z.symm.trans r13) (by decide)⟩, fun z => absurd (z.symm.trans r13) (by decide)⟩
/-- the first copy is laid down -/
def mTk1 (h : mMem) (tot : Nat) (r : List Nat) (k : Nat) : mMem := mSeg (mSet (mSet (mSet h 9 0 14 (tot + 1 : Nat)) 9 0 15 1) 9 0 17 r.length) 46 0 0 k (fun j => (r.getD j 0 : Nat))
theorem mTk1_9 {h : mMem} {tot : Nat} {r : List Nat} {k q : Nat} (hq : q ≠ 14 ∧ q ≠ 15 ∧ q ≠ 17) : mTk1 h tot r k 9 0 q = h 9 0 q := by
  unfold mTk1
  rw [mSeg_ne (by decide), mSet_no (fun z => hq.2.2 z.2.2), mSet_no (fun z => hq.2.1 z.2.2), mSet_no (fun z => hq.1 z.2.2)]
theorem mTk1_44 {h : mMem} {tot : Nat} {r : List Nat} {k q : Nat} : mTk1 h tot r k 44 0 q = h 44 0 q := by
  unfold mTk1
  rw [mSeg_ne (by decide), mSet_no (by simp), mSet_no (by simp), mSet_no (by simp)]
theorem l_M_take1 (h : mMem) (tot : Nat) (r : List Nat) (hl : r.length ≤ 7) (er : rowAt h r) (e1 : h 9 0 13 = 1) : ∀ (n k : Nat), k + n = r.length → mGo l g (mMt n_M_take) d 104 [some (.inr (9, 0)), some (.inl r.length), some (.inl k)] [] (mTk1 h tot r k) (mIs none (mTk1 h tot r r.length)) := by
  intro n
  induction n with
  | zero =>
    intro k hk
    refine mGo_wp h_M_take 60 [104] ?_
    have : k = r.length := by omega
    subst this
    have r13 : mTk1 h tot r r.length 9 0 13 = 1 := by rw [mTk1_9 (by decide)]; exact e1
    exact ⟨fun _ => ⟨fun _ => ⟨rfl, rfl⟩, fun z => absurd (z.symm.trans r13) (by decide)⟩, fun z => by omega⟩
  | succ n ih =>
    intro k hk
    refine mGo_wp h_M_take 60 [104] ?_
    refine ⟨fun z => by omega, fun _ => ⟨⟨by omega, by omega⟩, ⟨by omega, by omega⟩, ?_⟩⟩
    have q := ih (k + 1) (by omega)
    show mGo l g _ _ 104 [_, _, some (.inl (mWr ((k : Int) + 1)))] [] (mSet (mTk1 h tot r k) 46 0 (Int.toNat (k : Int)) (mTk1 h tot r k 44 0 (Int.toNat (k : Int)))) _
    rw [mWr_of ⟨by omega, by omega⟩, Int.toNat_natCast, mTk1_44, er k (by omega)]
    unfold mTk1 at q ⊢
    rw [← mSeg_succ, Nat.zero_add] at q
    exact q
theorem c_M_take1 (h : mMem) (tot : Nat) (ht : tot < 1000000000) (r : List Nat) (hl : r.length ≤ 7) (er : rowAt h r) (e1 : h 9 0 13 = 1) (e2 : h 9 0 14 = tot) : mCon l g n_M_take d [.inr (9, 0), .inl r.length] h (mIs none (mTk1 h tot r r.length)) := by
  refine e_M_take (fun hv hm => ?_)
  refine mGo_wp h_M_take 60 [84] ?_
  have w : mWr (h 9 0 14 + 1) = ((tot + 1 : Nat) : Int) := by
    rw [e2, mWr_of ⟨by omega, by omega⟩]
    omega
  refine ⟨fun _ => ?_, fun z => absurd (z.symm.trans e1) (by decide)⟩
  show mGo l g _ _ 84 _ [] (mSet h 9 0 14 (mWr (h 9 0 14 + 1))) _
  rw [w]
  refine mGo_wp h_M_take 60 [104] ?_
  have r13 : mSet h 9 0 14 ((tot + 1 : Nat) : Int) 9 0 13 = 1 := by rw [mSet_no (by simp)]; exact e1
  refine ⟨fun z => absurd r13 z, fun _ => ⟨Or.inr rfl, ?_⟩⟩
  have q := l_M_take1 (l := l) (g := g) (d := d) h tot r hl er e1 r.length 0 (by omega)
  unfold mTk1 at q ⊢
  rw [mSeg_zero] at q
  exact q
end Take
end
section
theorem mSet_self {h : mMem} {t : Nat} {i : Fin 8} {k : Nat} {v : Int} (e : h t i k = v) : mSet h t i k v = h := by
  funext t' i' k'
  unfold mSet
  split
  · next z =>
    obtain ⟨rfl, rfl, rfl⟩ := z
    exact e.symm
  · rfl
theorem mSet_set (h : mMem) (t : Nat) (i : Fin 8) (k : Nat) (v w : Int) : mSet (mSet h t i k v) t i k w = mSet h t i k w := by
  funext t' i' k'
  dsimp only [mSet]
  split
  · rfl
  · rfl
section Take
variable {l : Launch} {g : mG} {d : Nat}
/-- whether a join is among the first k -/
noncomputable def hasE (es : List Nat) (wj : Int) (k : Nat) : Int := mBc (∃ j, j < k ∧ ((es.getD j 0 : Nat) : Int) = wj)
theorem l_M_take3 (h : mMem) (m : Int) (es : List Nat) (wj : Int) (hl : es.length ≤ 20) (e1 : h 9 0 9 = es.length) (e2 : ∀ j, j < es.length → h 45 0 j = (es.getD j 0 : Nat)) (e3 : h 9 0 21 = wj) : ∀ (n k : Nat), k + n = es.length → mGo l g (mMt n_M_take) d 149 [some (.inr (9, 0)), some (.inl m), some (.inl k)] [] (mSet h 9 0 15 (hasE es wj k)) (mIs none (mSet h 9 0 15 (hasE es wj es.length))) := by
  have f9 : ∀ (v : Int) (q : Nat), q ≠ 15 → mSet h 9 0 15 v 9 0 q = h 9 0 q := fun v q hq => mSet_no (fun z => hq z.2.2)
  intro n
  induction n with
  | zero =>
    intro k hk
    refine mGo_wp h_M_take 60 [149] ?_
    have : k = es.length := by omega
    subst this
    exact ⟨fun _ => ⟨rfl, rfl⟩, fun z => by rw [f9 _ 9 (by decide), e1] at z; omega⟩
  | succ n ih =>
    intro k hk
    refine mGo_wp h_M_take 60 [149] ?_
    have q := ih (k + 1) (by omega)
    refine ⟨fun z => by rw [f9 _ 9 (by decide), e1] at z; omega, fun _ => ⟨fun z => ⟨Or.inr rfl, ?_⟩, fun z => ⟨⟨by omega, by omega⟩, ⟨fun y => ⟨Or.inl rfl, ?_⟩, fun y => ⟨Or.inr rfl, ?_⟩⟩⟩⟩⟩
    · rw [mSet_at] at z
      have hz : hasE es wj (k + 1) = 1 := by
        obtain ⟨j, h1, h2⟩ := mBc_ne0.mp z
        exact mBc_t ⟨j, by omega, h2⟩
      rw [hz] at q
      show mGo l g _ _ 149 [_, _, some (.inl (mWr ((k : Int) + 1)))] [] (mSet (mSet h 9 0 15 (hasE es wj k)) 9 0 15 1) _
      rw [mSet_set, mWr_of ⟨by omega, by omega⟩]
      exact q
    · rw [mSet_at] at z
      rw [f9 _ 21 (by decide), e3, mSet_no (by simp), Int.toNat_natCast, e2 k (by omega)] at y
      have hz : hasE es wj (k + 1) = 0 := by
        refine mBc_f ?_
        rintro ⟨j, h1, h2⟩
        by_cases hj : j = k
        · subst hj; exact y h2
        · exact mBc_eq0.mp z ⟨j, by omega, h2⟩
      rw [hz] at q
      show mGo l g _ _ 149 [_, _, some (.inl (mWr ((k : Int) + 1)))] [] (mSet (mSet h 9 0 15 (hasE es wj k)) 9 0 15 0) _
      rw [mSet_set, mWr_of ⟨by omega, by omega⟩]
      exact q
    · rw [f9 _ 21 (by decide), e3, mSet_no (by simp), Int.toNat_natCast, e2 k (by omega)] at y
      have hz : hasE es wj (k + 1) = 1 := mBc_t ⟨k, by omega, y⟩
      rw [hz] at q
      show mGo l g _ _ 149 [_, _, some (.inl (mWr ((k : Int) + 1)))] [] (mSet (mSet h 9 0 15 (hasE es wj k)) 9 0 15 1) _
      rw [mSet_set, mWr_of ⟨by omega, by omega⟩]
      exact q
end Take
end
section
section Take
variable {l : Launch} {g : mG} {d : Nat}
noncomputable def mTk3 (h : mMem) (tot : Nat) (r es : List Nat) (wb wj : Int) : mMem := if ((bitR r r.length : Nat) : Int) = wb then mSet (mSet h 9 0 14 (tot + 1 : Nat)) 9 0 15 (hasE es wj es.length) else mSet h 9 0 14 (tot + 1 : Nat)
theorem c_M_take3 (h : mMem) (tot : Nat) (ht : tot < 1000000000) (r es : List Nat) (wb wj : Int) (hr : ∀ x ∈ r, x < 12) (hl : r.length ≤ 7) (hle : es.length ≤ 20) (er : rowAt h r) (e0 : h 9 0 13 = 3) (e1 : h 9 0 9 = es.length) (e2 : ∀ j, j < es.length → h 45 0 j = (es.getD j 0 : Nat)) (e3 : h 9 0 21 = wj) (e4 : h 9 0 14 = tot) (e5 : h 9 0 15 = 0) (e6 : h 9 0 20 = wb) : mCon l g n_M_take (d + 1) [.inr (9, 0), .inl r.length] h (mIs none (mTk3 h tot r es wb wj)) := by
  refine e_M_take (fun hv hm => ?_)
  refine mGo_wp h_M_take 60 [84] ?_
  have w : mWr (h 9 0 14 + 1) = ((tot + 1 : Nat) : Int) := by
    rw [e4, mWr_of ⟨by omega, by omega⟩]
    omega
  refine ⟨fun _ => ?_, fun z => absurd (z.symm.trans e0) (by decide)⟩
  show mGo l g _ _ 84 _ [] (mSet h 9 0 14 (mWr (h 9 0 14 + 1))) _
  rw [w]
  have f9 : ∀ q, q ≠ 14 → mSet h 9 0 14 ((tot + 1 : Nat) : Int) 9 0 q = h 9 0 q := fun q hq => mSet_no (fun z => hq z.2.2)
  have r13 : mSet h 9 0 14 ((tot + 1 : Nat) : Int) 9 0 13 = 3 := (f9 13 (by decide)).trans e0
  have er1 : rowAt (mSet h 9 0 14 ((tot + 1 : Nat) : Int)) r := fun j hj => by
    rw [mSet_no (by simp)]
    exact er j hj
  refine mGo_wp h_M_take 60 [149] ?_
  refine ⟨fun _ => ⟨fun z => absurd r13 z, fun _ => ?_⟩, fun z => absurd (z.symm.trans r13) (by decide)⟩
  refine mCall_is (c_M_bitsOf r hr hl _ er1) ?_
  refine ⟨fun z => ?_, fun z => ?_⟩
  · rw [f9 20 (by decide), e6] at z
    unfold mTk3
    rw [if_neg z]
    exact ⟨rfl, rfl⟩
  · rw [f9 20 (by decide), e6] at z
    unfold mTk3
    rw [if_pos z]
    have q := l_M_take3 (l := l) (g := g) (d := d + 1) (mSet h 9 0 14 ((tot + 1 : Nat) : Int)) (r.length : Nat) es wj hle ((f9 9 (by decide)).trans e1) (fun j hj => by rw [mSet_no (by simp)]; exact e2 j hj) ((f9 21 (by decide)).trans e3) es.length 0 (by omega)
    have hz : hasE es wj 0 = 0 := mBc_f (fun z => by obtain ⟨j, h1, -⟩ := z; omega)
    rw [hz, mSet_self ((f9 15 (by decide)).trans e5)] at q
    exact q
end Take
end
section
theorem mSeg_upd {h : mMem} {t : Nat} {i : Fin 8} {n : Nat} {f : Nat → Int} {e : Nat} {v : Int} (he : e < n) : mSet (mSeg h t i 0 n f) t i e v = mSeg h t i 0 n (tSet f e v) := by
  funext t' i' q
  dsimp only [mSet, mSeg, tSet]
  by_cases h1 : t' = t ∧ i' = i
  · obtain ⟨rfl, rfl⟩ := h1
    by_cases h2 : q = e
    · subst h2
      rw [if_pos ⟨rfl, rfl, rfl⟩, if_pos ⟨rfl, rfl, by omega, by omega⟩, if_pos (by omega)]
    · rw [if_neg (fun z => h2 z.2.2)]
      by_cases h3 : 0 ≤ q ∧ q < 0 + n
      · rw [if_pos ⟨rfl, rfl, h3⟩, if_pos ⟨rfl, rfl, h3⟩, if_neg (by omega)]
      · rw [if_neg (fun z => h3 z.2.2), if_neg (fun z => h3 z.2.2)]
  · rw [if_neg (fun z => h1 ⟨z.1, z.2.1⟩), if_neg (fun z => h1 ⟨z.1, z.2.1⟩), if_neg (fun z => h1 ⟨z.1, z.2.1⟩)]
theorem mSeg_self (h : mMem) (t : Nat) (i : Fin 8) (n : Nat) : mSeg h t i 0 n (h t i) = h := by
  funext t' i' q
  dsimp only [mSeg]
  split
  · next z =>
    obtain ⟨rfl, rfl, -⟩ := z
    rw [Nat.sub_zero]
  · rfl
/-- each join of a list counted once more -/
def thF (f : Nat → Int) : List Nat → Nat → Int
  | [] => f
  | e :: es => thF (tSet f e (f e + 1)) es
theorem thF_app (f : Nat → Int) : ∀ (a b : List Nat), thF f (a ++ b) = thF (thF f a) b
  | [], _ => rfl
  | e :: a, b => thF_app _ a b
theorem thF_bd (f : Nat → Int) (B : Int) : ∀ (es : List Nat) (g : Nat → Int), (∀ k, 0 ≤ g k ∧ g k ≤ B) → ∀ k, 0 ≤ thF g es k ∧ thF g es k ≤ B + es.length
  | [], g, h, k => by
    have := h k
    show 0 ≤ g k ∧ g k ≤ B + 0
    omega
  | e :: es, g, h, k => by
    have q := thF_bd f (B + 1) es (tSet g e (g e + 1)) (fun j => by
      have h1 := h j
      have h2 := h e
      show 0 ≤ (if j = e then g e + 1 else g j) ∧ (if j = e then g e + 1 else g j) ≤ B + 1
      split <;> omega) k
    show 0 ≤ thF (tSet g e (g e + 1)) es k ∧ thF (tSet g e (g e + 1)) es k ≤ B + (es.length + 1 : Nat)
    omega
section Take
variable {l : Launch} {g : mG} {d : Nat}
theorem c_M_take2g (h : mMem) (m : Int) (md : Nat) (hmd : md < 66) (v : Int) (hv0 : 0 ≤ v ∧ v < 1000000000) (e0 : h 9 0 13 = 2) (e1 : h 9 0 10 = 1) (e2 : h 9 0 11 = md) (e3 : h 48 0 md = v) : mCon l g n_M_take d [.inr (9, 0), .inl m] h (mIs none (mSet h 48 0 md (v + 1))) := by
  refine e_M_take (fun hv hm => ?_)
  refine mGo_wp h_M_take 60 [] ?_
  refine ⟨fun z => absurd e0 z, fun _ => ⟨fun z => absurd e1 z, fun _ => ⟨⟨by rw [e2]; omega, by rw [e2]; omega⟩, ⟨by rw [e2]; omega, by rw [e2]; omega⟩, rfl, ?_⟩⟩⟩
  show mSet h 48 0 (Int.toNat (h 9 0 11)) (mWr (h 48 0 (Int.toNat (h 9 0 11)) + 1)) = _
  rw [e2, Int.toNat_natCast, e3, mWr_of ⟨by omega, by omega⟩]
theorem l_M_take2 (h : mMem) (m : Int) (es : List Nat) (F : Nat → Int) (hF : ∀ k, 0 ≤ F k ∧ F k ≤ 1000000000) (hl : es.length ≤ 20) (hes : ∀ x ∈ es, x < 66) (e1 : h 9 0 9 = es.length) (e2 : ∀ j, j < es.length → h 45 0 j = (es.getD j 0 : Nat)) : ∀ (n k : Nat), k + n = es.length → mGo l g (mMt n_M_take) d 44 [some (.inr (9, 0)), some (.inl m), some (.inl k)] [] (mSeg h 47 0 0 66 (thF F (es.take k))) (mIs none (mSeg h 47 0 0 66 (thF F es))) := by
  intro n
  induction n with
  | zero =>
    intro k hk
    refine mGo_wp h_M_take 60 [44] ?_
    have : k = es.length := by omega
    subst this
    rw [List.take_length]
    exact ⟨fun _ => ⟨rfl, rfl⟩, fun z => by rw [mSeg_ne (by decide), e1] at z; omega⟩
  | succ n ih =>
    intro k hk
    refine mGo_wp h_M_take 60 [44] ?_
    have q := ih (k + 1) (by omega)
    have hx := hes _ (getD_mem (r := es) (j := k) (by omega))
    have re : mSeg h 47 0 0 66 (thF F (es.take k)) 45 0 (Int.toNat (k : Int)) = ((es.getD k 0 : Nat) : Int) := by
      rw [mSeg_ne (by decide), Int.toNat_natCast]
      exact e2 k (by omega)
    refine ⟨fun z => by rw [mSeg_ne (by decide), e1] at z; omega, fun _ => ⟨⟨by omega, by omega⟩, ⟨by rw [re]; omega, by rw [re]; omega⟩, ⟨by rw [re]; omega, by rw [re]; omega⟩, ?_⟩⟩
    show mGo l g _ _ 44 [_, _, some (.inl (mWr ((k : Int) + 1)))] [] (mSet (mSeg h 47 0 0 66 (thF F (es.take k))) 47 0 (Int.toNat (mSeg h 47 0 0 66 (thF F (es.take k)) 45 0 (Int.toNat (k : Int)))) (mWr (mSeg h 47 0 0 66 (thF F (es.take k)) 47 0 (Int.toNat (mSeg h 47 0 0 66 (thF F (es.take k)) 45 0 (Int.toNat (k : Int)))) + 1))) _
    have hb := thF_bd F 1000000000 (es.take k) F hF (es.getD k 0)
    have hlt : (es.take k).length ≤ 20 := by rw [List.length_take]; omega
    rw [re, Int.toNat_natCast, mSeg_in0 hx, mWr_of (x := (k : Int) + 1) ⟨by omega, by omega⟩, mWr_of ⟨by omega, by omega⟩, mSeg_upd hx]
    have ht : es.take (k + 1) = es.take k ++ [es.getD k 0] := by
      rw [List.take_succ, List.getD_eq_getElem?_getD, List.getElem?_eq_getElem (show k < es.length by omega)]
      rfl
    rw [ht, thF_app] at q
    exact q
end Take
end
section
theorem mSeg_same {h : mMem} {t : Nat} {i : Fin 8} {n : Nat} {f : Nat → Int} (e : ∀ k, k < n → f k = h t i k) : mSeg h t i 0 n f = h := by
  funext t' i' q
  dsimp only [mSeg]
  split
  · next z =>
    obtain ⟨rfl, rfl, -, z⟩ := z
    rw [Nat.sub_zero]
    exact e q (by omega)
  · rfl
section Take
variable {l : Launch} {g : mG} {d : Nat}
theorem c_M_take2t (h : mMem) (m : Int) (tot : Nat) (ht : tot < 1000000000) (es : List Nat) (F : Nat → Int) (hF : ∀ k, 0 ≤ F k ∧ F k ≤ 1000000000) (eF : ∀ k, k < 66 → F k = h 47 0 k) (hl : es.length ≤ 20) (hes : ∀ x ∈ es, x < 66) (e0 : h 9 0 13 = 2) (e3 : h 9 0 10 ≠ 1) (e4 : h 9 0 14 = tot) (e1 : h 9 0 9 = es.length) (e2 : ∀ j, j < es.length → h 45 0 j = (es.getD j 0 : Nat)) : mCon l g n_M_take d [.inr (9, 0), .inl m] h (mIs none (mSeg (mSet h 9 0 14 (tot + 1 : Nat)) 47 0 0 66 (thF F es))) := by
  refine e_M_take (fun hv hm => ?_)
  refine mGo_wp h_M_take 60 [44] ?_
  have w : mWr (h 9 0 14 + 1) = ((tot + 1 : Nat) : Int) := by
    rw [e4, mWr_of ⟨by omega, by omega⟩]
    omega
  refine ⟨fun z => absurd e0 z, fun _ => ⟨fun _ => ?_, fun z => absurd z e3⟩⟩
  show mGo l g _ _ 44 [_, _, some (.inl 0)] [] (mSet h 9 0 14 (mWr (h 9 0 14 + 1))) _
  rw [w]
  have q := l_M_take2 (l := l) (g := g) (d := d) (mSet h 9 0 14 ((tot + 1 : Nat) : Int)) m es F hF hl hes (by rw [mSet_no (by simp)]; exact e1) (fun j hj => by rw [mSet_no (by simp)]; exact e2 j hj) es.length 0 (by omega)
  have hs : mSeg (mSet h 9 0 14 ((tot + 1 : Nat) : Int)) 47 0 0 66 (thF F (es.take 0)) = mSet h 9 0 14 ((tot + 1 : Nat) : Int) := by
    refine mSeg_same (fun k hk => ?_)
    rw [mSet_no (by simp)]
    exact eF k hk
  rw [hs] at q
  exact q
end Take
end
section
theorem bit_at_0 : ∀ p, p < 12 → ∀ u, u < 512 → mAnd (mShr ((u + 0 : Nat) : Int) ((p : Nat) : Int)) 1 = (if (u + 0).testBit p then 1 else 0) := by decide +kernel
theorem bit_at_1 : ∀ p, p < 12 → ∀ u, u < 512 → mAnd (mShr ((u + 512 : Nat) : Int) ((p : Nat) : Int)) 1 = (if (u + 512).testBit p then 1 else 0) := by decide +kernel
theorem bit_at_2 : ∀ p, p < 12 → ∀ u, u < 512 → mAnd (mShr ((u + 1024 : Nat) : Int) ((p : Nat) : Int)) 1 = (if (u + 1024).testBit p then 1 else 0) := by decide +kernel
theorem bit_at_3 : ∀ p, p < 12 → ∀ u, u < 512 → mAnd (mShr ((u + 1536 : Nat) : Int) ((p : Nat) : Int)) 1 = (if (u + 1536).testBit p then 1 else 0) := by decide +kernel
theorem bit_at_4 : ∀ p, p < 12 → ∀ u, u < 512 → mAnd (mShr ((u + 2048 : Nat) : Int) ((p : Nat) : Int)) 1 = (if (u + 2048).testBit p then 1 else 0) := by decide +kernel
theorem bit_at_5 : ∀ p, p < 12 → ∀ u, u < 512 → mAnd (mShr ((u + 2560 : Nat) : Int) ((p : Nat) : Int)) 1 = (if (u + 2560).testBit p then 1 else 0) := by decide +kernel
theorem bit_at_6 : ∀ p, p < 12 → ∀ u, u < 512 → mAnd (mShr ((u + 3072 : Nat) : Int) ((p : Nat) : Int)) 1 = (if (u + 3072).testBit p then 1 else 0) := by decide +kernel
theorem bit_at_7 : ∀ p, p < 12 → ∀ u, u < 512 → mAnd (mShr ((u + 3584 : Nat) : Int) ((p : Nat) : Int)) 1 = (if (u + 3584).testBit p then 1 else 0) := by decide +kernel
/-- the bit of a point -/
theorem bit_at (u p : Nat) (hu : u < 4096) (hp : p < 12) : mAnd (mShr (u : Int) (p : Int)) 1 = (if u.testBit p then 1 else 0) := by
  rcases (show u < 512 ∨ (512 ≤ u ∧ u < 1024) ∨ (1024 ≤ u ∧ u < 1536) ∨ (1536 ≤ u ∧ u < 2048) ∨ (2048 ≤ u ∧ u < 2560) ∨ (2560 ≤ u ∧ u < 3072) ∨ (3072 ≤ u ∧ u < 3584) ∨ (3584 ≤ u ∧ u < 4096) by omega) with h | h | h | h | h | h | h | h
  · have q := bit_at_0 p hp (u - 0) (by omega)
    rw [show u - 0 + 0 = u by omega] at q
    exact q
  · have q := bit_at_1 p hp (u - 512) (by omega)
    rw [show u - 512 + 512 = u by omega] at q
    exact q
  · have q := bit_at_2 p hp (u - 1024) (by omega)
    rw [show u - 1024 + 1024 = u by omega] at q
    exact q
  · have q := bit_at_3 p hp (u - 1536) (by omega)
    rw [show u - 1536 + 1536 = u by omega] at q
    exact q
  · have q := bit_at_4 p hp (u - 2048) (by omega)
    rw [show u - 2048 + 2048 = u by omega] at q
    exact q
  · have q := bit_at_5 p hp (u - 2560) (by omega)
    rw [show u - 2560 + 2560 = u by omega] at q
    exact q
  · have q := bit_at_6 p hp (u - 3072) (by omega)
    rw [show u - 3072 + 3072 = u by omega] at q
    exact q
  · have q := bit_at_7 p hp (u - 3584) (by omega)
    rw [show u - 3584 + 3584 = u by omega] at q
    exact q
end
section
/-! a proposition as a boolean; the rows of a kind, all of them, in order -/
noncomputable def qB (p : Prop) : Bool := @decide p (Classical.propDecidable p)
theorem qB_iff {p : Prop} : qB p = true ↔ p := @decide_eq_true_iff p (Classical.propDecidable p)
theorem qB_t {p : Prop} (h : p) : qB p = true := qB_iff.mpr h
theorem qB_f {p : Prop} (h : ¬ p) : qB p = false := by
  cases e : qB p with
  | false => rfl
  | true => exact absurd (qB_iff.mp e) h
theorem qB_no {p : Prop} (h : ¬ p) : ¬ qB p = true := fun z => h (qB_iff.mp z)
theorem qB_congr {p q : Prop} (h : p ↔ q) : qB p = qB q := by
  by_cases hp : p
  · rw [qB_t hp, qB_t (h.mp hp)]
  · rw [qB_f hp, qB_f (fun z => hp (h.mpr z))]
abbrev rE : Type := List Nat × List Nat
noncomputable def rowsF (k L n : Nat) : Nat → List Nat → List Nat → List rE
  | 0, r, es => [(r, es)]
  | j + 1, r, es => (List.range' 0 n).flatMap (fun p => if qB (p ∉ r ∧ ordP k L r p) = true then rowsF k L n j (r ++ [p]) (es ++ newE k L r p) else [])
noncomputable def takesF (T : Nat → Int) (c : Int) (mm k L n j : Nat) (r es : List Nat) : List rE := (rowsF k L n j r es).filter (fun x => decide (msN T c x.2 ≤ mm))
/-- the part of them with the next point from p on -/
noncomputable def takesP (T : Nat → Int) (c : Int) (mm k L n j : Nat) (r es : List Nat) (p m : Nat) : List rE := (List.range' p m).flatMap (fun p => if qB (p ∉ r ∧ okP T c k L mm (msN T c es) r p) = true then takesF T c mm k L n j (r ++ [p]) (es ++ newE k L r p) else [])
theorem rowsF_ms (T : Nat → Int) (c : Int) (k L n : Nat) : ∀ (j : Nat) (r es : List Nat) (x : rE), x ∈ rowsF k L n j r es → msN T c es ≤ msN T c x.2
  | 0, r, es, x, hx => by
    have : x = (r, es) := List.mem_singleton.mp hx
    rw [this]
    exact Nat.le_refl _
  | j + 1, r, es, x, hx => by
    obtain ⟨p, hp, h1⟩ := List.mem_flatMap.mp hx
    split at h1
    · have := rowsF_ms T c k L n j _ _ x h1
      rw [msN_app] at this
      omega
    · cases h1
theorem takesF_succ (T : Nat → Int) (c : Int) (mm k L n j : Nat) (r es : List Nat) : takesF T c mm k L n (j + 1) r es = takesP T c mm k L n j r es 0 n := by
  unfold takesF takesP
  show List.filter _ ((List.range' 0 n).flatMap _) = _
  rw [List.filter_flatMap]
  refine congrArg (fun f => (List.range' 0 n).flatMap f) (funext fun p => ?_)
  by_cases h1 : p ∉ r ∧ ordP k L r p
  · rw [if_pos (qB_t h1)]
    by_cases h2 : msN T c es + msN T c (newE k L r p) ≤ mm
    · rw [if_pos (qB_t ⟨h1.1, h1.2, h2⟩)]
      rfl
    · rw [if_neg (qB_no (fun z => h2 z.2.2))]
      refine List.filter_eq_nil_iff.mpr (fun x hx => ?_)
      have := rowsF_ms T c k L n j _ _ x hx
      rw [msN_app] at this
      simp only [decide_eq_true_eq]
      omega
  · rw [if_neg (qB_no h1), if_neg (qB_no (fun z => h1 ⟨z.1, z.2.1⟩))]
    rfl
theorem takesF_zero {T : Nat → Int} {c : Int} {mm k L n : Nat} {r es : List Nat} (h : msN T c es ≤ mm) : takesF T c mm k L n 0 r es = [(r, es)] := by
  show List.filter _ [(r, es)] = _
  rw [List.filter_cons_of_pos (by simpa using h)]
  rfl
theorem takesP_zero (T : Nat → Int) (c : Int) (mm k L n j : Nat) (r es : List Nat) (p : Nat) : takesP T c mm k L n j r es p 0 = [] := rfl
theorem takesP_no {T : Nat → Int} {c : Int} {mm k L n j : Nat} {r es : List Nat} {p m : Nat} (h : ¬ (p ∉ r ∧ okP T c k L mm (msN T c es) r p)) : takesP T c mm k L n j r es p (m + 1) = takesP T c mm k L n j r es (p + 1) m := by
  unfold takesP
  rw [List.range'_succ, List.flatMap_cons, if_neg (qB_no h), List.nil_append]
theorem takesP_yes {T : Nat → Int} {c : Int} {mm k L n j : Nat} {r es : List Nat} {p m : Nat} (h : p ∉ r ∧ okP T c k L mm (msN T c es) r p) : takesP T c mm k L n j r es p (m + 1) = takesF T c mm k L n j (r ++ [p]) (es ++ newE k L r p) ++ takesP T c mm k L n j r es (p + 1) m := by
  unfold takesP
  rw [List.range'_succ, List.flatMap_cons, if_pos (qB_t h)]
/-- rows taken one by one until a stop -/
noncomputable def goA {A : Type} (stop : A → Prop) (step : A → List Nat → List Nat → A) : A → List rE → A
  | a, [] => a
  | a, x :: xs => if qB (stop a) = true then a else goA stop step (step a x.1 x.2) xs
theorem goA_stop {A : Type} {stop : A → Prop} {step : A → List Nat → List Nat → A} {a : A} (h : stop a) : ∀ xs, goA stop step a xs = a
  | [] => rfl
  | x :: xs => by
    show (if qB (stop a) = true then a else _) = a
    rw [if_pos (qB_t h)]
theorem goA_app {A : Type} (stop : A → Prop) (step : A → List Nat → List Nat → A) : ∀ (xs ys : List rE) (a : A), goA stop step a (xs ++ ys) = goA stop step (goA stop step a xs) ys
  | [], ys, a => rfl
  | x :: xs, ys, a => by
    show (if qB (stop a) = true then a else _) = goA stop step (if qB (stop a) = true then a else _) ys
    by_cases h : stop a
    · rw [if_pos (qB_t h), if_pos (qB_t h), goA_stop h]
    · rw [if_neg (qB_no h), if_neg (qB_no h)]
      exact goA_app stop step xs ys _
/-! the joins that a point brings -/
theorem jn_inj2 {a b c e : Nat} (ha : a < 12) (hb : b < 12) (hc : c < 12) (he : e < 12) (h1 : a ≠ b) (h2 : c ≠ e) (h : jn a b = jn c e) : (a = c ∧ b = e) ∨ (a = e ∧ b = c) := by
  obtain ⟨x1, x2⟩ := jn_inj a ha b hb h1
  obtain ⟨y1, y2⟩ := jn_inj c hc e he h2
  rw [h] at x1 x2
  omega
theorem nodup_getD {r : List Nat} (h : r.Nodup) {i j : Nat} (hij : i < j) (hj : j < r.length) : r.getD i 0 ≠ r.getD j 0 := by
  have := (List.pairwise_iff_getElem.mp h) i j (by omega) hj hij
  rw [List.getD_eq_getElem?_getD, List.getD_eq_getElem?_getD, List.getElem?_eq_getElem (by omega), List.getElem?_eq_getElem hj]
  exact this
abbrev kOk (k L : Nat) : Prop := (k = 1 ∧ 2 ≤ L ∧ L ≤ 6) ∨ (k = 2 ∧ 3 ≤ L ∧ L ≤ 5) ∨ (k = 3 ∧ 2 ≤ L ∧ L ≤ 7) ∨ (k = 4 ∧ 3 ≤ L ∧ L ≤ 6) ∨ (k = 5 ∧ 2 ≤ L ∧ L ≤ 5)
theorem newE_mem {k L : Nat} (hk : kOk k L) {r : List Nat} {p e : Nat} (hr : ∀ x ∈ r, x < 12) (hp : p < 12) (he : e ∈ newE k L r p) : ∃ q ∈ r, e = jn q p := by
  rcases hk with ⟨rfl, -⟩ | ⟨rfl, -⟩ | ⟨rfl, -⟩ | ⟨rfl, -⟩ | ⟨rfl, -⟩
  · obtain ⟨q, hq, rfl⟩ := List.mem_map.mp (show e ∈ r.map (fun q => jn q p) from he)
    exact ⟨q, hq, rfl⟩
  · have he : e ∈ (if r.length = 0 then [] else if r.length = L - 1 then [jn (r.getD (r.length - 1) 0) p, jn p (r.getD 0 0)] else [jn (r.getD (r.length - 1) 0) p]) := he
    by_cases h0 : r.length = 0
    · rw [if_pos h0] at he; cases he
    · rw [if_neg h0] at he
      by_cases h1 : r.length = L - 1
      · rw [if_pos h1, List.mem_cons, List.mem_singleton] at he
        rcases he with rfl | rfl
        · exact ⟨_, getD_mem (by omega), rfl⟩
        · have hm := getD_mem (r := r) (j := 0) (by omega)
          exact ⟨_, hm, jn_comm _ hp _ (hr _ hm)⟩
      · rw [if_neg h1, List.mem_singleton] at he
        exact ⟨_, getD_mem (by omega), he⟩
  · have he : e ∈ (if r.length = 0 then [] else [jn (r.getD 0 0) p]) := he
    by_cases h0 : r.length = 0
    · rw [if_pos h0] at he; cases he
    · rw [if_neg h0, List.mem_singleton] at he
      exact ⟨_, getD_mem (by omega), he⟩
  · have he : e ∈ (if r.length = 0 then [] else if r.length = 1 then [jn (r.getD 0 0) p] else [jn (r.getD 0 0) p, jn (r.getD 1 0) p]) := he
    by_cases h0 : r.length = 0
    · rw [if_pos h0] at he; cases he
    · rw [if_neg h0] at he
      by_cases h1 : r.length = 1
      · rw [if_pos h1, List.mem_singleton] at he
        exact ⟨_, getD_mem (by omega), he⟩
      · rw [if_neg h1, List.mem_cons, List.mem_singleton] at he
        rcases he with rfl | rfl
        · exact ⟨_, getD_mem (by omega), rfl⟩
        · exact ⟨_, getD_mem (by omega), rfl⟩
  · have he : e ∈ (if r.length = 0 then [] else [jn (r.getD (r.length - 1) 0) p]) := he
    by_cases h0 : r.length = 0
    · rw [if_pos h0] at he; cases he
    · rw [if_neg h0, List.mem_singleton] at he
      exact ⟨_, getD_mem (by omega), he⟩
theorem nodup_two {a b : Nat} (h : a ≠ b) : ([a, b] : List Nat).Nodup := by
  rw [List.nodup_cons, List.mem_singleton]
  exact ⟨h, by simp⟩
theorem newE_nodup {k L : Nat} (hk : kOk k L) {r : List Nat} {p : Nat} (hr : ∀ x ∈ r, x < 12) (hp : p < 12) (hpr : p ∉ r) (hn : r.Nodup) : (newE k L r p).Nodup := by
  have two : ∀ a ∈ r, ∀ b ∈ r, a ≠ b → jn a p ≠ jn b p := fun a ha b hb hab z => by
    rcases jn_inj2 (hr a ha) hp (hr b hb) hp (fun y => hpr (y ▸ ha)) (fun y => hpr (y ▸ hb)) z with y | y
    · exact hab y.1
    · exact hpr (y.1 ▸ ha)
  rcases hk with ⟨rfl, -⟩ | ⟨rfl, hL, -⟩ | ⟨rfl, -⟩ | ⟨rfl, -⟩ | ⟨rfl, -⟩
  · show (r.map (fun q => jn q p)).Nodup
    rw [List.nodup_iff_pairwise_ne, List.pairwise_map]
    exact List.Pairwise.imp_of_mem (fun ha hb hne => two _ ha _ hb hne) hn
  · show (if r.length = 0 then [] else if r.length = L - 1 then [jn (r.getD (r.length - 1) 0) p, jn p (r.getD 0 0)] else [jn (r.getD (r.length - 1) 0) p]).Nodup
    split
    · exact List.nodup_nil
    · split
      · have hm := getD_mem (r := r) (j := 0) (by omega)
        rw [jn_comm p hp _ (hr _ hm)]
        exact nodup_two (two _ (getD_mem (by omega)) _ hm (fun z => nodup_getD hn (i := 0) (j := r.length - 1) (by omega) (by omega) z.symm))
      · simp
  · show (if r.length = 0 then [] else [jn (r.getD 0 0) p]).Nodup
    split
    · exact List.nodup_nil
    · simp
  · show (if r.length = 0 then [] else if r.length = 1 then [jn (r.getD 0 0) p] else [jn (r.getD 0 0) p, jn (r.getD 1 0) p]).Nodup
    split
    · exact List.nodup_nil
    · split
      · simp
      · exact nodup_two (two _ (getD_mem (by omega)) _ (getD_mem (by omega)) (nodup_getD hn (by omega) (by omega)))
  · show (if r.length = 0 then [] else [jn (r.getD (r.length - 1) 0) p]).Nodup
    split
    · exact List.nodup_nil
    · simp
theorem newE_len {k L : Nat} (hk : kOk k L) {r : List Nat} {p : Nat} : (k = 1 → (newE k L r p).length = r.length) ∧ (k ≠ 1 → (newE k L r p).length ≤ 2) := by
  rcases hk with ⟨rfl, -⟩ | ⟨rfl, -⟩ | ⟨rfl, -⟩ | ⟨rfl, -⟩ | ⟨rfl, -⟩
  · exact ⟨fun _ => List.length_map _, fun z => absurd rfl z⟩
  · refine ⟨fun z => absurd z (by decide), fun _ => ?_⟩
    show (if r.length = 0 then [] else if r.length = L - 1 then [jn (r.getD (r.length - 1) 0) p, jn p (r.getD 0 0)] else [jn (r.getD (r.length - 1) 0) p]).length ≤ 2
    split
    · simp
    · split <;> simp
  · refine ⟨fun z => absurd z (by decide), fun _ => ?_⟩
    show (if r.length = 0 then [] else [jn (r.getD 0 0) p]).length ≤ 2
    split <;> simp
  · refine ⟨fun z => absurd z (by decide), fun _ => ?_⟩
    show (if r.length = 0 then [] else if r.length = 1 then [jn (r.getD 0 0) p] else [jn (r.getD 0 0) p, jn (r.getD 1 0) p]).length ≤ 2
    split
    · simp
    · split <;> simp
  · refine ⟨fun z => absurd z (by decide), fun _ => ?_⟩
    show (if r.length = 0 then [] else [jn (r.getD (r.length - 1) 0) p]).length ≤ 2
    split <;> simp
def rOk (k : Nat) (r es : List Nat) : Prop := (∀ x ∈ r, x < 12) ∧ r.Nodup ∧ es.Nodup ∧ (∀ e ∈ es, ∃ a ∈ r, ∃ b ∈ r, a ≠ b ∧ e = jn a b) ∧ (k = 1 → 2 * es.length ≤ r.length * (r.length - 1)) ∧ (k ≠ 1 → es.length ≤ 2 * r.length)
theorem rOk_nil (k : Nat) : rOk k [] [] := ⟨fun _ h => (by cases h), List.nodup_nil, List.nodup_nil, fun _ h => (by cases h), fun _ => Nat.le_refl _, fun _ => Nat.le_refl _⟩
theorem rOk_add {k L : Nat} (hk : kOk k L) {r es : List Nat} {p : Nat} (o : rOk k r es) (hp : p < 12) (hpr : p ∉ r) : rOk k (r ++ [p]) (es ++ newE k L r p) := by
  obtain ⟨o1, o2, o3, o4, o5, o6⟩ := o
  refine ⟨fun x hx => ?_, ?_, ?_, fun e he => ?_, fun z => ?_, fun z => ?_⟩
  · rcases List.mem_append.mp hx with h | h
    · exact o1 x h
    · rw [List.mem_singleton.mp h]; exact hp
  · refine List.nodup_append.mpr ⟨o2, by simp, fun a ha b hb => ?_⟩
    rw [List.mem_singleton.mp hb]
    exact fun z => hpr (z ▸ ha)
  · refine List.nodup_append.mpr ⟨o3, newE_nodup hk o1 hp hpr o2, fun a ha b hb z => ?_⟩
    obtain ⟨x, hx, y, hy, hxy, e1⟩ := o4 a ha
    obtain ⟨q, hq, e2⟩ := newE_mem hk o1 hp hb
    rw [e1, e2] at z
    rcases jn_inj2 (o1 x hx) (o1 y hy) (o1 q hq) hp hxy (fun w => hpr (w ▸ hq)) z with w | w
    · exact hpr (w.2 ▸ hy)
    · exact hpr (w.1 ▸ hx)
  · rcases List.mem_append.mp he with h | h
    · obtain ⟨x, hx, y, hy, w⟩ := o4 e h
      exact ⟨x, List.mem_append_left _ hx, y, List.mem_append_left _ hy, w⟩
    · obtain ⟨q, hq, e2⟩ := newE_mem hk o1 hp h
      exact ⟨q, List.mem_append_left _ hq, p, List.mem_append_right _ (by simp), fun w => hpr (w ▸ hq), e2⟩
  · have h1 := o5 z
    have h2 := (newE_len hk (r := r) (p := p)).1 z
    rw [List.length_append, List.length_append, h2]
    show 2 * (es.length + r.length) ≤ (r.length + 1) * (r.length + 1 - 1)
    rw [Nat.add_sub_cancel]
    cases hl : r.length with
    | zero => rw [hl] at h1; omega
    | succ m =>
      rw [hl, Nat.add_sub_cancel] at h1
      have e1 : (m + 1) * m = m * m + m := by rw [Nat.add_mul]; omega
      have e2 : (m + 1 + 1) * (m + 1) = m * m + 3 * m + 2 := by
        rw [Nat.mul_add, Nat.add_mul, Nat.add_mul]; omega
      omega
  · have h1 := o6 z
    have h2 := (newE_len hk (r := r) (p := p)).2 z
    rw [List.length_append, List.length_append]
    show es.length + _ ≤ 2 * (r.length + 1)
    omega
theorem rOk_len {k L : Nat} (hk : kOk k L) {r es : List Nat} (o : rOk k r es) (hl : r.length ≤ L) : es.length ≤ 18 := by
  obtain ⟨o1, o2, o3, o4, o5, o6⟩ := o
  by_cases z : k = 1
  · have h1 := o5 z
    have hL : r.length ≤ 6 := by rcases hk with h | h | h | h | h <;> omega
    have : r.length * (r.length - 1) ≤ 6 * 5 := Nat.mul_le_mul hL (by omega)
    omega
  · have h1 := o6 z
    have hL : r.length ≤ 7 := by rcases hk with h | h | h | h | h <;> omega
    omega
theorem rOk_66 {k : Nat} {r es : List Nat} (o : rOk k r es) {e : Nat} (he : e ∈ es) : e < 66 := by
  obtain ⟨a, ha, b, hb, hab, rfl⟩ := o.2.2.2.1 e he
  exact jn_lt a (o.1 a ha) b (o.1 b hb) hab
end
section
/-! the model's go, for any way of taking a row -/
def farR (h h' : mMem) : Prop := ∀ t i k, ¬ (t = 44 ∨ t = 45 ∨ (t = 9 ∧ (k = 9 ∨ k = 10 ∨ k = 11))) → h' t i k = h t i k
def farK (h h' : mMem) : Prop := ∀ t i k, ¬ (t = 46 ∨ t = 47 ∨ t = 48 ∨ (t = 9 ∧ (k = 14 ∨ k = 15 ∨ k = 17))) → h' t i k = h t i k
def farT (h h' : mMem) : Prop := ∀ t i k, ¬ (t = 44 ∨ t = 45 ∨ t = 46 ∨ t = 47 ∨ t = 48 ∨ (t = 9 ∧ (k = 9 ∨ k = 10 ∨ k = 11 ∨ k = 14 ∨ k = 15 ∨ k = 17))) → h' t i k = h t i k
theorem farT.rf {h : mMem} : farT h h := fun _ _ _ _ => rfl
theorem farT.tr {h h1 h2 : mMem} (a : farT h h1) (b : farT h1 h2) : farT h h2 := fun t i k z => (b t i k z).trans (a t i k z)
theorem farT.ofR {h h1 : mMem} (a : farR h h1) : farT h h1 := fun t i k z => a t i k (fun y => z (by omega))
theorem farT.ofK {h h1 : mMem} (a : farK h h1) : farT h h1 := fun t i k z => a t i k (fun y => z (by omega))
theorem farR.ofE {h h1 : mMem} (a : farE h h1) : farR h h1 := fun t i k z => a t i k (fun y => z (by omega))
section Go
variable {l : Launch} {g : mG} {d : Nat}
theorem s_addPoint (c : Nat) (hc : c < 3) (T : Nat → Int) (k L : Nat) (s : Int) (hk : kOk k L) (hs : lenOf k s = L) (mm ms : Nat) (es : List Nat) (md : Int) (r : List Nat) (p : Nat) (hp : p < 12) (o : rOk k r es) (hpr : p ∉ r) (hl : r.length < L) (hms : ms < 50) (hle : ms ≤ mm) (h : mMem) (e : sSt h T mm es ms md) (er : rowAt h r) (ek : h 40 0 c = k) (eS : h 41 0 c = s) :
    mCon l g n_M_addPoint (d + 2) [.inr (9, 0), .inl c, .inl r.length, .inl p] h (ptK h T c k L mm ms es md r p) := by
  have o5 := o.2.2.2.2.1
  have o6 := o.2.2.2.2.2
  rcases hk with ⟨rfl, h1, h2⟩ | ⟨rfl, h1, h2⟩ | ⟨rfl, h1, h2⟩ | ⟨rfl, h1, h2⟩ | ⟨rfl, h1, h2⟩
  · have q := o5 rfl
    have q2 : r.length * (r.length - 1) ≤ 5 * 4 := Nat.mul_le_mul (by omega) (by omega)
    exact s_addPoint1 c hc T L mm ms es md r p hp o.1 hpr (by omega) (by omega) hms hle h e er ek
  · have q := o6 (by decide)
    have hs : (if ((2 : Nat) : Int) = 3 then s + 1 else if ((2 : Nat) : Int) = 4 then s + 2 else s) = L := hs
    rw [if_neg (by decide), if_neg (by decide)] at hs
    exact s_addPoint2 c hc T L mm ms es md r p hp o.1 hpr (by omega) (by omega) hms hle h e er ek (eS.trans hs) (by omega)
  · have q := o6 (by decide)
    exact s_addPoint3 c hc T L mm ms es md r p hp o.1 hpr (by omega) (by omega) hms hle h e er ek
  · have q := o6 (by decide)
    exact s_addPoint4 c hc T L mm ms es md r p hp o.1 hpr (by omega) (by omega) hms hle h e er ek
  · have q := o6 (by decide)
    have hs : (if ((5 : Nat) : Int) = 3 then s + 1 else if ((5 : Nat) : Int) = 4 then s + 2 else s) = L := hs
    rw [if_neg (by decide), if_neg (by decide)] at hs
    exact s_addPoint5 c hc T L mm ms es md r p hp o.1 hpr (by omega) (by omega) hms hle h e er ek (eS.trans hs) (by omega)
theorem goA_sz {A : Type} {stop : A → Prop} {step : A → List Nat → List Nat → A} {sz : A → Nat} (hz : ∀ a r es, sz (step a r es) ≤ sz a + 1) : ∀ (xs : List rE) (a : A), sz (goA stop step a xs) ≤ sz a + xs.length
  | [], a => Nat.le_refl _
  | x :: xs, a => by
    show sz (if qB (stop a) = true then a else _) ≤ sz a + (xs.length + 1)
    split
    · omega
    · have h1 := goA_sz (stop := stop) hz xs (step a x.1 x.2)
      have h2 := hz a x.1 x.2
      omega
theorem rowAt_add {h : mMem} {r : List Nat} {p : Nat} (e : rowAt h r) : rowAt (mSet h 44 0 r.length p) (r ++ [p]) := by
  intro j hj
  rw [List.length_append] at hj
  have hj : j < r.length + 1 := hj
  by_cases hq : j = r.length
  · rw [hq, mSet_at, getD_app1]
  · rw [mSet_no (fun z => hq z.2.2), getD_app2 _ _ _ (by omega)]
    exact e j (by omega)
theorem rowAt_cut {h : mMem} {r : List Nat} {p : Nat} (e : rowAt h (r ++ [p])) : rowAt h r := by
  intro j hj
  rw [e j (by rw [List.length_append]; omega), getD_app2 _ _ _ hj]
theorem or_bit {u p : Nat} {r : List Nat} (hu : ∀ q, u.testBit q = true ↔ q ∈ r) : ∀ q, (u ||| 2 ^ p).testBit q = true ↔ q ∈ r ++ [p] := by
  intro q
  rw [Nat.testBit_or, Nat.testBit_two_pow, Bool.or_eq_true, hu q, List.mem_append, List.mem_singleton, decide_eq_true_eq]
  exact ⟨fun z => z.imp_right Eq.symm, fun z => z.imp_right Eq.symm⟩
theorem s_go {A : Type} (c : Nat) (hc : c < 3) (T : Nat → Int) (k L n mm : Nat) (s m0 : Int) (hk : kOk k L) (hs : lenOf k s = L) (hs0 : 0 ≤ s ∧ s ≤ 6) (hn : n ≤ 12) (hmm : mm ≤ 1)
    (Ctx : mMem → Prop) (Inv : A → mMem → Prop) (stop : A → Prop) (step : A → List Nat → List Nat → A) (sz : A → Nat) (B : Nat)
    (c1 : ∀ h, Ctx h → h 9 0 0 = n ∧ h 40 0 c = k ∧ h 41 0 c = s) (c2 : ∀ h h', farT h h' → Ctx h → Ctx h')
    (i1 : ∀ a h h', farR h h' → Inv a h → Inv a h') (i2 : ∀ a h, Inv a h → h 9 0 15 = mBc (stop a))
    (tk : ∀ a h r es, Ctx h → Inv a h → ¬ stop a → sz a < B → rOk k r es → r.length = L → sSt h T mm es (msN T c es) (msD T c m0 es) → rowAt h r → msN T c es ≤ mm → mCon l g n_M_take (d + 1) [.inr (9, 0), .inl r.length] h (fun v h' => v = none ∧ Inv (step a r es) h' ∧ farK h h'))
    (hz : ∀ a r es, sz (step a r es) ≤ sz a + 1) :
    ∀ (j : Nat) (r es : List Nat) (used : Nat) (h : mMem) (a : A), r.length + j = L → rOk k r es → used < 4096 → (∀ q, used.testBit q = true ↔ q ∈ r) → Ctx h → Inv a h → ¬ stop a → sSt h T mm es (msN T c es) (msD T c m0 es) → msN T c es ≤ mm → rowAt h r → sz a + (takesF T c mm k L n j r es).length ≤ B →
    mCon l g n_M_go (d + 3 + j) [.inr (9, 0), .inl c, .inl r.length, .inl used] h (fun v h' => v = none ∧ Inv (goA stop step a (takesF T c mm k L n j r es)) h' ∧ farT h h' ∧ sSt h' T mm es (msN T c es) (msD T c m0 es) ∧ rowAt h' r) := by
  have hL7 : L ≤ 7 := by rcases hk with h | h | h | h | h <;> omega
  intro j
  induction j with
  | zero =>
    intro r es used h a hL o hu hub Cx I ns S ms er hB
    show mCon l g n_M_go (d + 2 + 1) _ _ _
    rw [takesF_zero ms] at hB ⊢
    refine e_M_go (fun hv hm => ?_)
    refine mGo_wp h_M_go 120 [] ?_
    refine mCall_is (c_M_lengthOf c hc k s hs0 h (c1 h Cx).2.1 (c1 h Cx).2.2) ?_
    rw [hs]
    refine ⟨fun z => absurd (by omega) z, fun _ => ?_⟩
    refine mCall_on2 (mCon_lift (by omega) (tk a h r es Cx I ns (by have : ([(r, es)] : List rE).length = 1 := rfl; omega) o (by omega) S er ms)) ?_
    rintro v h' ⟨rfl, f1, f2⟩
    refine ⟨rfl, ?_, farT.ofK f2, ?_, fun q hq => ?_⟩
    · show Inv (if qB (stop a) = true then a else step a r es) h'
      rw [if_neg (qB_no ns)]
      exact f1
    · obtain ⟨a1, a2, a3, a4, a5, a6⟩ := S
      exact ⟨(f2 _ _ _ (by decide)).trans a1, fun q hq => (f2 _ _ _ (by omega)).trans (a2 q hq), (f2 _ _ _ (by decide)).trans a3, (f2 _ _ _ (by decide)).trans a4, (f2 _ _ _ (by decide)).trans a5, fun q hq => (f2 _ _ _ (by omega)).trans (a6 q hq)⟩
    · exact (f2 _ _ _ (by omega)).trans (er q hq)
  | succ j ih =>
    intro r es used h a hL o hu hub Cx I ns S ms er hB
    show mCon l g n_M_go (d + 3 + j + 1) _ _ _
    rw [takesF_succ] at hB ⊢
    have hes : es.length ≤ 18 := rOk_len hk o (by omega)
    have loop : ∀ (m p : Nat) (x5 x6 x7 : Option mRV) (h1 : mMem) (a1 : A), p + m = n → farT h h1 → Inv a1 h1 → sSt h1 T mm es (msN T c es) (msD T c m0 es) → rowAt h1 r → sz a1 + (takesP T c mm k L n j r es p m).length ≤ B → goA stop step a1 (takesP T c mm k L n j r es p m) = goA stop step a (takesP T c mm k L n j r es 0 n) →
        mGo l g (mMt n_M_go) (d + 3 + j + 1) 18 [some (.inr (9, 0)), some (.inl c), some (.inl r.length), some (.inl used), some (.inl p), x5, x6, x7] [] h1 (fun v h' => v = none ∧ Inv (goA stop step a (takesP T c mm k L n j r es 0 n)) h' ∧ farT h h' ∧ sSt h' T mm es (msN T c es) (msD T c m0 es) ∧ rowAt h' r) := by
      intro m
      induction m with
      | zero =>
        intro p x5 x6 x7 h1 a1 hp f I1 S1 er1 hB1 hA
        refine mGo_wp h_M_go 120 [18] ?_
        have cn := (c1 h1 (c2 h h1 f Cx)).1
        refine ⟨fun _ => ⟨rfl, ?_, f, S1, er1⟩, fun z => by rw [cn] at z; omega⟩
        rw [← hA]
        exact I1
      | succ m ihm =>
        intro p x5 x6 x7 h1 a1 hp f I1 S1 er1 hB1 hA
        have Cx1 := c2 h h1 f Cx
        obtain ⟨cn, ck, cs⟩ := c1 h1 Cx1
        refine mGo_wp h_M_go 120 [18, 94] ?_
        have hbit := bit_at used p hu (by omega)
        refine ⟨fun z => by rw [cn] at z; omega, fun _ => ⟨fun z => ⟨rfl, ?_, f, S1, er1⟩, fun z => ⟨fun y => ?_, fun y => ?_⟩⟩⟩
        · rw [i2 a1 h1 I1] at z
          rw [← hA, goA_stop (mBc_ne0.mp z)]
          exact I1
        · rw [hbit] at y
          have hpr : p ∈ r := by
            by_cases hb : used.testBit p = true
            · exact (hub p).mp hb
            · rw [if_neg hb] at y; exact absurd rfl y
          rw [takesP_no (fun z => z.1 hpr)] at hB1 hA
          show mGo l g _ _ 18 [_, _, _, _, some (.inl (mWr ((p : Int) + 1))), _, _, _] [] h1 _
          rw [mWr_of ⟨by omega, by omega⟩]
          exact ihm (p + 1) x5 x6 x7 h1 a1 (by omega) f I1 S1 er1 hB1 hA
        · rw [hbit] at y
          have hpr : p ∉ r := fun w => by
            rw [if_pos ((hub p).mpr w)] at y
            exact absurd y (by decide)
          have ns1 : ¬ stop a1 := by
            rw [i2 a1 h1 I1] at z
            exact mBc_eq0.mp z
          have tail : ∀ (h2 : mMem) (a2 : A) (v9 v10 v11 : Int), v9 = es.length → v10 = msN T c es → v11 = msD T c m0 es → farT h h2 → Inv a2 h2 → (∀ q, q < es.length → h2 45 0 q = es.getD q 0) → h2 9 0 12 = mm → (∀ q, q < 66 → h2 42 0 q = T q) → rowAt h2 r → sz a2 + (takesP T c mm k L n j r es (p + 1) m).length ≤ B → goA stop step a2 (takesP T c mm k L n j r es (p + 1) m) = goA stop step a (takesP T c mm k L n j r es 0 n) →
              mGo l g (mMt n_M_go) (d + 3 + j + 1) 94 [some (.inr (9, 0)), some (.inl c), some (.inl r.length), some (.inl used), some (.inl p), some (.inl v9), some (.inl v10), some (.inl v11)] [] h2 (fun v h' => v = none ∧ Inv (goA stop step a (takesP T c mm k L n j r es 0 n)) h' ∧ farT h h' ∧ sSt h' T mm es (msN T c es) (msD T c m0 es) ∧ rowAt h' r) := by
            intro h2 a2 v9 v10 v11 e9 e10 e11 f2 I2 s45 s12 s42 er2 hB2 hA2
            refine mGo_wp h_M_go 120 [18] ?_
            show mGo l g _ _ 18 [_, _, _, _, some (.inl (mWr ((p : Int) + 1))), _, _, _] [] (mSet (mSet (mSet h2 9 0 9 v9) 9 0 10 v10) 9 0 11 v11) _
            rw [mWr_of ⟨by omega, by omega⟩]
            have fr : farR h2 (mSet (mSet (mSet h2 9 0 9 v9) 9 0 10 v10) 9 0 11 v11) := fun t i q hq => by
              rw [mSet_no (fun w => hq (by omega)), mSet_no (fun w => hq (by omega)), mSet_no (fun w => hq (by omega))]
            refine ihm (p + 1) _ _ _ _ a2 (by omega) (f2.tr (farT.ofR fr)) (i1 a2 _ _ fr I2) ⟨?_, fun q hq => ?_, ?_, ?_, ?_, fun q hq => ?_⟩ (fun q hq => ?_) hB2 hA2
            · rw [mSet_no (by simp), mSet_no (by simp), mSet_at, e9]
            · rw [mSet_no (by simp), mSet_no (by simp), mSet_no (by simp), s45 q hq]
            · rw [mSet_no (by simp), mSet_at, e10]
            · rw [mSet_at, e11]
            · rw [mSet_no (by simp), mSet_no (by simp), mSet_no (by simp), s12]
            · rw [mSet_no (by simp), mSet_no (by simp), mSet_no (by simp), s42 q hq]
            · rw [mSet_no (by simp), mSet_no (by simp), mSet_no (by simp), er2 q hq]
          refine mCall_on2 (mCon_lift (by omega) (s_addPoint (d := d) c hc T k L s hk hs mm (msN T c es) es (msD T c m0 es) r p (by omega) o hpr (by omega) (by omega) ms h1 S1 er1 ck cs)) ?_
          rintro v h2 ⟨rfl, f2, f3⟩
          obtain ⟨a1', a2', a3', a4', a5', a6'⟩ := id S1
          have fR := farR.ofE f2
          refine ⟨fun y2 => ?_, fun y2 => ⟨⟨by omega, by omega⟩, ?_⟩⟩
          · have no := mBc_eq0.mp y2
            rw [takesP_no (fun w => no w.2)] at hB1 hA
            refine tail h2 a1 _ _ _ a1' a3' a4' (f.tr (farT.ofR fR)) (i1 a1 _ _ fR I1) (fun q hq => ?_) ((f2 _ _ _ (by simp)).trans a5') (fun q hq => (f2 _ _ _ (by simp)).trans (a6' q hq)) (fun q hq => (f2 _ _ _ (by simp)).trans (er1 q hq)) hB1 hA
            rw [f2 _ _ _ (by rw [a1']; simp; omega)]
            exact a2' q hq
          · have ok := mBc_ne0.mp y2
            rw [takesP_yes ⟨hpr, ok⟩] at hB1 hA
            rw [List.length_append] at hB1
            rw [goA_app] at hA
            have S2 := f3 ok
            rw [← msN_app, ← msD_app] at S2
            have o2 := rOk_add hk o (show p < 12 by omega) hpr
            have hp2 : 2 ^ p < 2 ^ 12 := Nat.pow_lt_pow_right (by decide) (show p < 12 by omega)
            have fr3 : farR h2 (mSet h2 44 0 r.length (p : Int)) := fun t i q hq => by
              rw [mSet_no (fun w => hq (by omega))]
            have q := ih (r ++ [p]) (es ++ newE k L r p) (used ||| 2 ^ p) (mSet h2 44 0 r.length (p : Int)) a1 (by rw [List.length_append]; show r.length + 1 + j = L; omega) o2 (Nat.or_lt_two_pow (n := 12) hu hp2) (or_bit hub) (c2 _ _ (f.tr ((farT.ofR fR).tr (farT.ofR fr3))) Cx) (i1 _ _ _ fr3 (i1 _ _ _ fR I1)) ns1 (by
              obtain ⟨b1, b2, b3, b4, b5, b6⟩ := S2
              exact ⟨(mSet_no (by simp)).trans b1, fun q hq => (mSet_no (by simp)).trans (b2 q hq), (mSet_no (by simp)).trans b3, (mSet_no (by simp)).trans b4, (mSet_no (by simp)).trans b5, fun q hq => (mSet_no (by simp)).trans (b6 q hq)⟩) (by rw [msN_app]; exact ok.2) (rowAt_add (fun q hq => (f2 _ _ _ (by simp)).trans (er1 q hq))) (by omega)
            have w1 : mWr ((r.length : Int) + 1) = (((r ++ [p]).length : Nat) : Int) := by
              rw [mWr_of ⟨by omega, by omega⟩, List.length_append]
              rfl
            have w2 : mOr (used : Int) (mShl 1 (p : Int)) = ((used ||| 2 ^ p : Nat) : Int) := by
              rw [mShl_1 _ (by omega), mOr_nat (by omega) (by omega)]
            rw [← w1, ← w2] at q
            refine mCall_on2 q ?_
            rintro v h4 ⟨rfl, g1, g2, ⟨b1, b2, b3, b4, b5, b6⟩, g4⟩
            refine tail h4 _ _ _ _ a1' a3' a4' (f.tr ((farT.ofR fR).tr ((farT.ofR fr3).tr g2))) g1 (fun q hq => ?_) b5 b6 (rowAt_cut g4) ?_ hA
            · have w := b2 q (by rw [List.length_append]; omega)
              rw [w, List.getD_eq_getElem?_getD, List.getElem?_append_left hq, ← List.getD_eq_getElem?_getD]
            · have := goA_sz (stop := stop) hz (takesF T c mm k L n j (r ++ [p]) (es ++ newE k L r p)) a1
              omega
    refine e_M_go (fun hv hm => ?_)
    refine mGo_wp h_M_go 120 [18] ?_
    refine mCall_is (c_M_lengthOf c hc k s hs0 h (c1 h Cx).2.1 (c1 h Cx).2.2) ?_
    rw [hs]
    refine ⟨fun _ => ?_, fun z => absurd z (by omega)⟩
    exact loop n 0 _ _ _ h a (by omega) farT.rf I S er hB rfl
end Go
end
section
/-! the copies of a net; the model's look -/
abbrev nkk (N : nN) (c : Nat) : Nat := (nK N c).toNat
abbrev nln (N : nN) (c : Nat) : Nat := (lenOf (nK N c) (nS N c)).toNat
noncomputable def cpL (N : nN) (c mm : Nat) : List rE := if nK N c = 0 then [] else takesF (nT N) c mm (nkk N c) (nln N c) (nP N) (nln N c) [] []
theorem kOk_of {k s : Int} (h : szOk k s) (h0 : k ≠ 0) : kOk k.toNat (lenOf k s).toNat ∧ (k.toNat : Int) = k ∧ ((lenOf k s).toNat : Int) = lenOf k s ∧ 0 ≤ s ∧ s ≤ 6 := by
  unfold lenOf
  rcases h with ⟨rfl, h1⟩ | ⟨rfl, h1, h2⟩ | ⟨rfl, h1, h2⟩ | ⟨rfl, h1, h2⟩ | ⟨rfl, h1, h2⟩ | ⟨rfl, h1, h2⟩
  · exact absurd rfl h0
  · rw [if_neg (by decide), if_neg (by decide)]
    exact ⟨Or.inl ⟨rfl, by omega, by omega⟩, rfl, by omega, by omega, by omega⟩
  · rw [if_neg (by decide), if_neg (by decide)]
    exact ⟨Or.inr (Or.inl ⟨rfl, by omega, by omega⟩), rfl, by omega, by omega, by omega⟩
  · rw [if_pos rfl]
    exact ⟨Or.inr (Or.inr (Or.inl ⟨rfl, by omega, by omega⟩)), rfl, by omega, by omega, by omega⟩
  · rw [if_neg (by decide), if_pos rfl]
    exact ⟨Or.inr (Or.inr (Or.inr (Or.inl ⟨rfl, by omega, by omega⟩))), rfl, by omega, by omega, by omega⟩
  · rw [if_neg (by decide), if_neg (by decide)]
    exact ⟨Or.inr (Or.inr (Or.inr (Or.inr ⟨rfl, by omega, by omega⟩))), rfl, by omega, by omega, by omega⟩
theorem kOk_le {k L : Nat} (h : kOk k L) : L ≤ 7 := by rcases h with h | h | h | h | h <;> omega
theorem flatMap_len {f : Nat → List rE} {B : Nat} (hf : ∀ p, (f p).length ≤ B) : ∀ m p, ((List.range' p m).flatMap f).length ≤ m * B
  | 0, p => by show 0 ≤ _; omega
  | m + 1, p => by
    rw [List.range'_succ, List.flatMap_cons, List.length_append, Nat.add_mul, Nat.one_mul]
    have h1 := flatMap_len hf m (p + 1)
    have h2 := hf p
    omega
theorem rowsF_len (k L n : Nat) (hn : n ≤ 12) : ∀ (j : Nat) (r es : List Nat), (rowsF k L n j r es).length ≤ 12 ^ j
  | 0, r, es => Nat.le_refl 1
  | j + 1, r, es => by
    have h1 := flatMap_len (f := fun p => if qB (p ∉ r ∧ ordP k L r p) = true then rowsF k L n j (r ++ [p]) (es ++ newE k L r p) else []) (B := 12 ^ j) (fun p => by
      split
      · exact rowsF_len k L n hn j _ _
      · exact Nat.zero_le _) n 0
    have h2 : n * 12 ^ j ≤ 12 * 12 ^ j := Nat.mul_le_mul_right _ hn
    rw [Nat.pow_succ, Nat.mul_comm]
    exact Nat.le_trans h1 h2
theorem cpL_len {N : nN} (hn : nP N ≤ 12) {c : Nat} (hs : szOk (nK N c) (nS N c)) (mm : Nat) : (cpL N c mm).length ≤ 35831808 := by
  unfold cpL
  split
  · exact Nat.zero_le _
  · next h0 =>
    obtain ⟨k1, -⟩ := kOk_of hs h0
    have hL : nln N c ≤ 7 := kOk_le k1
    refine Nat.le_trans (List.length_filter_le _ _) (Nat.le_trans (rowsF_len _ _ _ hn _ _ _) ?_)
    exact Nat.pow_le_pow_right (by decide) hL
def farX (h h' : mMem) : Prop := ∀ (t : Nat) (i : Fin 8) (k : Nat), ¬ ((44 ≤ t ∧ t ≤ 48) ∨ (t = 9 ∧ ((9 ≤ k ∧ k ≤ 15) ∨ k = 17))) → h' t i k = h t i k
theorem farX.rf {h : mMem} : farX h h := fun _ _ _ _ => rfl
theorem farX.tr {h h1 h2 : mMem} (a : farX h h1) (b : farX h1 h2) : farX h h2 := fun t i k z => (b t i k z).trans (a t i k z)
theorem farX.ofT {h h1 : mMem} (a : farT h h1) : farX h h1 := fun t i k z => a t i k (fun y => z (by omega))
theorem isM_farX {h h' : mMem} {N : nN} (e : isM h N) (f : farX h h') : isM h' N :=
  ⟨(f _ _ _ (by decide)).trans e.1, (f _ _ _ (by decide)).trans e.2.1, fun k hk => (f _ _ _ (by omega)).trans (e.2.2.1 k hk), fun k hk => (f _ _ _ (by omega)).trans (e.2.2.2.1 k hk), fun k hk => (f _ _ _ (by omega)).trans (e.2.2.2.2 k hk)⟩
section Look
variable {l : Launch} {g : mG} {d : Nat}
theorem s_look {A : Type} (c : Nat) (hc : c < 3) (N : nN) (hn : nP N ≤ 12) (hsz : szOk (nK N c) (nS N c)) (task mm : Nat) (hmm : mm ≤ 1) (h : mMem) (e : isM h N)
    (Inv : A → mMem → Prop) (stop : A → Prop) (step : A → List Nat → List Nat → A) (sz : A → Nat) (B : Nat) (a0 : A)
    (i1 : ∀ a h h', farR h h' → Inv a h → Inv a h') (i2 : ∀ a h, Inv a h → h 9 0 15 = mBc (stop a))
    (tk : nK N c ≠ 0 → ∀ (a : A) (h' : mMem) (r es : List Nat), h' 9 0 13 = task → farX h h' → Inv a h' → ¬ stop a → sz a < B → rOk (nkk N c) r es → r.length = nln N c → sSt h' (nT N) mm es (msN (nT N) c es) (msD (nT N) c (h 9 0 11) es) → rowAt h' r → msN (nT N) c es ≤ mm → mCon l g n_M_take (d + 1) [.inr (9, 0), .inl r.length] h' (fun v h2 => v = none ∧ Inv (step a r es) h2 ∧ farK h' h2))
    (hz : ∀ a r es, sz (step a r es) ≤ sz a + 1) (hB : sz a0 + 35831808 ≤ B) (ns : ¬ stop a0)
    (I0 : ∀ h', farX h h' → (∀ t i k, t = 46 ∨ t = 47 ∨ t = 48 ∨ (t = 9 ∧ k = 17) → h' t i k = h t i k) → h' 9 0 14 = 0 → h' 9 0 15 = 0 → Inv a0 h') :
    mCon l g n_M_look (d + 11) [.inr (9, 0), .inl c, .inl task, .inl mm] h (fun v h' => v = none ∧ Inv (goA stop step a0 (cpL N c mm)) h' ∧ farX h h') := by
  refine e_M_look (fun hv hm => ?_)
  refine mGo_wp h_M_look 120 [30] ?_
  refine ⟨Or.inl rfl, ?_⟩
  show mGo l g (mMt n_M_look) (d + 11) 30 [some (.inr (9, 0)), some (.inl (c : Int)), some (.inl (task : Int)), some (.inl (mm : Int))] [] (mSet (mSet (mSet (mSet (mSet (mSet h 9 0 13 task) 9 0 12 mm) 9 0 14 0) 9 0 15 0) 9 0 9 0) 9 0 10 0) _
  have fb : farX h (mSet (mSet (mSet (mSet (mSet (mSet h 9 0 13 task) 9 0 12 mm) 9 0 14 0) 9 0 15 0) 9 0 9 0) 9 0 10 0) := fun t i k z => by
    rw [mSet_no (fun y => z (by omega)), mSet_no (fun y => z (by omega)), mSet_no (fun y => z (by omega)), mSet_no (fun y => z (by omega)), mSet_no (fun y => z (by omega)), mSet_no (fun y => z (by omega))]
  have q13 : mSet (mSet (mSet (mSet (mSet (mSet h 9 0 13 task) 9 0 12 mm) 9 0 14 0) 9 0 15 0) 9 0 9 0) 9 0 10 0 9 0 13 = task := by
    rw [mSet_no (by simp), mSet_no (by simp), mSet_no (by simp), mSet_no (by simp), mSet_no (by simp), mSet_at]
  have q12 : mSet (mSet (mSet (mSet (mSet (mSet h 9 0 13 task) 9 0 12 mm) 9 0 14 0) 9 0 15 0) 9 0 9 0) 9 0 10 0 9 0 12 = mm := by
    rw [mSet_no (by simp), mSet_no (by simp), mSet_no (by simp), mSet_no (by simp), mSet_at]
  have q14 : mSet (mSet (mSet (mSet (mSet (mSet h 9 0 13 task) 9 0 12 mm) 9 0 14 0) 9 0 15 0) 9 0 9 0) 9 0 10 0 9 0 14 = 0 := by
    rw [mSet_no (by simp), mSet_no (by simp), mSet_no (by simp), mSet_at]
  have q15 : mSet (mSet (mSet (mSet (mSet (mSet h 9 0 13 task) 9 0 12 mm) 9 0 14 0) 9 0 15 0) 9 0 9 0) 9 0 10 0 9 0 15 = 0 := by
    rw [mSet_no (by simp), mSet_no (by simp), mSet_at]
  have q9 : mSet (mSet (mSet (mSet (mSet (mSet h 9 0 13 task) 9 0 12 mm) 9 0 14 0) 9 0 15 0) 9 0 9 0) 9 0 10 0 9 0 9 = 0 := by
    rw [mSet_no (by simp), mSet_at]
  have q10 : mSet (mSet (mSet (mSet (mSet (mSet h 9 0 13 task) 9 0 12 mm) 9 0 14 0) 9 0 15 0) 9 0 9 0) 9 0 10 0 9 0 10 = 0 := mSet_at _ _ _ _ _
  have q11 : mSet (mSet (mSet (mSet (mSet (mSet h 9 0 13 task) 9 0 12 mm) 9 0 14 0) 9 0 15 0) 9 0 9 0) 9 0 10 0 9 0 11 = h 9 0 11 := by
    rw [mSet_no (by simp), mSet_no (by simp), mSet_no (by simp), mSet_no (by simp), mSet_no (by simp), mSet_no (by simp)]
  have Ib := I0 _ fb (fun t i k z => by
    rw [mSet_no (fun y => by omega), mSet_no (fun y => by omega), mSet_no (fun y => by omega), mSet_no (fun y => by omega), mSet_no (fun y => by omega), mSet_no (fun y => by omega)]) q14 q15
  have eb := isM_farX e fb
  generalize mSet (mSet (mSet (mSet (mSet (mSet h 9 0 13 task) 9 0 12 mm) 9 0 14 0) 9 0 15 0) 9 0 9 0) 9 0 10 0 = hb at *
  refine mGo_wp h_M_look 120 [] ?_
  have ek : hb 40 0 (Int.toNat (c : Int)) = nK N c := eb.2.2.1 c hc
  refine ⟨⟨by omega, by omega⟩, ⟨fun z => ?_, fun z => ?_⟩⟩
  · rw [ek] at z
    refine ⟨rfl, ?_, fb⟩
    unfold cpL
    rw [if_pos z]
    exact Ib
  · rw [ek] at z
    obtain ⟨k1, k2, k3, k4, k5⟩ := kOk_of hsz z
    have hL : nln N c ≤ 7 := kOk_le k1
    have hlen := cpL_len hn hsz mm
    unfold cpL at hlen ⊢
    rw [if_neg z] at hlen ⊢
    have S0 : sSt hb (nT N) mm [] (msN (nT N) c []) (msD (nT N) c (h 9 0 11) []) := ⟨q9, fun q hq => (by cases hq), q10, q11, q12, fun q hq => eb.2.2.2.2 q hq⟩
    have q := s_go (l := l) (g := g) (d := d) c hc (nT N) (nkk N c) (nln N c) (nP N) mm (nS N c) (h 9 0 11) k1 (by rw [k2, k3]) ⟨k4, k5⟩ hn hmm (fun h' => farX h h' ∧ h' 9 0 13 = task) Inv stop step sz B
      (fun h' y => by
        have e' := isM_farX e y.1
        exact ⟨e'.1, (e'.2.2.1 c hc).trans k2.symm, e'.2.2.2.1 c hc⟩)
      (fun h1 h2 f y => ⟨y.1.tr (farX.ofT f), (f _ _ _ (by decide)).trans y.2⟩) i1 i2
      (fun a h' r es y I n1 n2 o1 o2 S er ms => tk z a h' r es y.2 y.1 I n1 n2 o1 o2 S er ms) hz (nln N c) [] [] 0 hb a0 (by simp) (rOk_nil _) (by decide) (fun q => by simp) ⟨fb, q13⟩ Ib ns S0 (Nat.zero_le _) (fun j hj => (by cases hj)) (by omega)
    refine mCall_on2 (mCon_lift (by omega) q) ?_
    rintro v h' ⟨rfl, g1, g2, -, -⟩
    exact ⟨rfl, g1, fb.tr (farX.ofT g2)⟩
end Look
end
section
/-! the model's look, task by task; hasCopy, copiesOf, isClear, clashes -/
def scrM (h h' : mMem) : Prop := ∀ (t : Nat) (i : Fin 8) (k : Nat), ¬ ((44 ≤ t ∧ t ≤ 54) ∨ t = 56 ∨ (t = 9 ∧ k ≠ 0 ∧ k ≠ 1 ∧ k ≠ 6 ∧ k ≠ 38 ∧ k ≠ 43)) → h' t i k = h t i k
theorem scrM.rf {h : mMem} : scrM h h := fun _ _ _ _ => rfl
theorem scrM.tr {h h1 h2 : mMem} (a : scrM h h1) (b : scrM h1 h2) : scrM h h2 := fun t i k z => (b t i k z).trans (a t i k z)
theorem scrM.ofX {h h1 : mMem} (a : farX h h1) : scrM h h1 := fun t i k z => a t i k (fun y => z (by omega))
theorem scrM.only {h h1 : mMem} (a : scrM h h1) : onlyM h h1 := fun t i k z => a t i k (fun y => z (by omega))
theorem isM_scr {h h' : mMem} {N : nN} (e : isM h N) (f : scrM h h') : isM h' N :=
  ⟨(f _ _ _ (by decide)).trans e.1, (f _ _ _ (by decide)).trans e.2.1, fun k hk => (f _ _ _ (by omega)).trans (e.2.2.1 k hk), fun k hk => (f _ _ _ (by omega)).trans (e.2.2.2.1 k hk), fun k hk => (f _ _ _ (by omega)).trans (e.2.2.2.2 k hk)⟩
theorem RM_scr {h h' : mMem} {S : sS} (e : RM h S) (q : scrM h h') : RM h' S := by
  obtain ⟨a, ⟨b1, b2, b3⟩, c, d1, d2⟩ := e
  refine ⟨isM_scr a q, ⟨(q _ _ _ (by decide)).trans b1, b2, fun e N hN => isB_out (fun x _ _ => q 43 0 x (by omega)) (b3 e N hN)⟩, (q _ _ _ (by decide)).trans c, (q _ _ _ (by decide)).trans d1, fun i hi => ?_⟩
  rw [q 55 0 _ (by omega), q 55 0 _ (by omega), q 55 0 _ (by omega)]
  exact d2 i hi
theorem goA_len : ∀ (xs : List rE) (a : Nat), goA (fun _ : Nat => False) (fun a _ _ => a + 1) a xs = a + xs.length
  | [], a => rfl
  | x :: xs, a => by
    show (if qB False = true then a else goA _ _ (a + 1) xs) = a + (xs.length + 1)
    rw [if_neg (qB_no id), goA_len xs (a + 1)]
    omega
abbrev aFst : Type := Nat × Option (List Nat)
theorem goA_fst (xs : List rE) : goA (fun a : aFst => a.2 ≠ none) (fun a r _ => (a.1 + 1, some r)) (0, none) xs = (match xs with
    | [] => (0, none)
    | x :: _ => (1, some x.1)) := by
  cases xs with
  | nil => rfl
  | cons x xs =>
    show (if qB (((0, none) : aFst).2 ≠ none) = true then _ else goA _ _ (1, some x.1) xs) = _
    rw [if_neg (qB_no (fun z => z rfl)), goA_stop (by simp)]
abbrev aIs : Type := Nat × Prop
theorem goA_is (wb wj : Int) : ∀ (xs : List rE) (n : Nat), (goA (fun a : aIs => a.2) (fun a r es => (a.1 + 1, ((bitR r r.length : Nat) : Int) = wb ∧ ∃ e ∈ es, ((e : Nat) : Int) = wj)) (n, False) xs).2 ↔ ∃ x ∈ xs, ((bitR x.1 x.1.length : Nat) : Int) = wb ∧ ∃ e ∈ x.2, ((e : Nat) : Int) = wj
  | [], n => ⟨fun z => z.elim, fun ⟨x, hx, _⟩ => by cases hx⟩
  | x :: xs, n => by
    show (if qB (((n, False) : aIs).2) = true then _ else goA _ _ (n + 1, _) xs).2 ↔ _
    rw [if_neg (qB_no (fun z => z))]
    by_cases hx : ((bitR x.1 x.1.length : Nat) : Int) = wb ∧ ∃ e ∈ x.2, ((e : Nat) : Int) = wj
    · rw [goA_stop (show ((n + 1, ((bitR x.1 x.1.length : Nat) : Int) = wb ∧ ∃ e ∈ x.2, ((e : Nat) : Int) = wj) : aIs).2 from hx)]
      exact ⟨fun _ => ⟨x, List.mem_cons_self, hx⟩, fun _ => hx⟩
    · have e1 : (((bitR x.1 x.1.length : Nat) : Int) = wb ∧ ∃ e ∈ x.2, ((e : Nat) : Int) = wj) = False := eq_false hx
      rw [e1, goA_is wb wj xs (n + 1)]
      constructor
      · rintro ⟨y, hy, z⟩
        exact ⟨y, List.mem_cons_of_mem _ hy, z⟩
      · rintro ⟨y, hy, z⟩
        rcases List.mem_cons.mp hy with rfl | hy
        · exact absurd z hx
        · exact ⟨y, hy, z⟩
theorem hasE_all (es : List Nat) (wj : Int) : hasE es wj es.length = mBc (∃ e ∈ es, ((e : Nat) : Int) = wj) := by
  unfold hasE
  refine mBc_congr ⟨?_, ?_⟩
  · rintro ⟨j, hj, z⟩
    exact ⟨_, getD_mem hj, z⟩
  · rintro ⟨e, he, z⟩
    obtain ⟨j, hj, rfl⟩ := List.getElem_of_mem he
    refine ⟨j, hj, ?_⟩
    rw [List.getD_eq_getElem?_getD, List.getElem?_eq_getElem hj]
    exact z
section Tasks
variable {l : Launch} {g : mG} {d : Nat}
theorem look0 (c : Nat) (hc : c < 3) (N : nN) (hn : nP N ≤ 12) (hsz : szOk (nK N c) (nS N c)) (h : mMem) (e : isM h N) :
    mCon l g n_M_look (d + 11) [.inr (9, 0), .inl c, .inl 0, .inl 0] h (fun v h' => v = none ∧ h' 9 0 14 = (cpL N c 0).length ∧ farX h h') := by
  have q := s_look (l := l) (g := g) (d := d) c hc N hn hsz 0 0 (by omega) h e (fun (a : Nat) h' => h' 9 0 14 = a ∧ h' 9 0 15 = 0) (fun _ => False) (fun a _ _ => a + 1) (fun a => a) 1000000000 0
    (fun a h1 h2 f z => ⟨(f _ _ _ (by decide)).trans z.1, (f _ _ _ (by decide)).trans z.2⟩) (fun a h1 z => by rw [z.2, mBc_f id])
    (fun _ a h1 r es t1 f z _ hz o1 o2 S er ms => mCon_mono (c_M_take0 (d := d + 1) h1 r.length a hz t1 z.1) (by
      rintro v h2 ⟨rfl, rfl⟩
      exact ⟨rfl, ⟨mSet_at _ _ _ _ _, (mSet_no (by simp)).trans z.2⟩, fun t i k y => mSet_no (fun w => y (by omega))⟩))
    (fun a r es => Nat.le_refl _) (by decide) id (fun h1 f _ z1 z2 => ⟨z1, z2⟩)
  refine mCon_mono q ?_
  rintro v h' ⟨rfl, ⟨z1, -⟩, f⟩
  rw [goA_len, Nat.zero_add] at z1
  exact ⟨rfl, z1, f⟩
theorem look1 (c : Nat) (hc : c < 3) (N : nN) (hn : nP N ≤ 12) (hsz : szOk (nK N c) (nS N c)) (h : mMem) (e : isM h N) :
    mCon l g n_M_look (d + 11) [.inr (9, 0), .inl c, .inl 1, .inl 0] h (fun v h' => v = none ∧ h' 9 0 15 = mBc (cpL N c 0 ≠ []) ∧ (∀ x xs, cpL N c 0 = x :: xs → h' 9 0 17 = x.1.length ∧ ∀ j, j < x.1.length → h' 46 0 j = (x.1.getD j 0 : Nat)) ∧ farX h h') := by
  have q := s_look (l := l) (g := g) (d := d) c hc N hn hsz 1 0 (by omega) h e (fun (a : aFst) h' => h' 9 0 14 = a.1 ∧ h' 9 0 15 = mBc (a.2 ≠ none) ∧ ∀ r, a.2 = some r → h' 9 0 17 = r.length ∧ ∀ j, j < r.length → h' 46 0 j = (r.getD j 0 : Nat)) (fun a => a.2 ≠ none) (fun a r _ => (a.1 + 1, some r)) (fun a => a.1) 1000000000 (0, none)
    (fun a h1 h2 f z => ⟨(f _ _ _ (by decide)).trans z.1, (f _ _ _ (by decide)).trans z.2.1, fun r hr => ⟨(f _ _ _ (by decide)).trans (z.2.2 r hr).1, fun j hj => (f _ _ _ (by omega)).trans ((z.2.2 r hr).2 j hj)⟩⟩) (fun a h1 z => z.2.1)
    (fun k0 a h1 r es t1 f z _ hz o1 o2 S er ms => mCon_mono (c_M_take1 (d := d + 1) h1 a.1 hz r (by rw [o2]; exact kOk_le (kOk_of hsz k0).1) er t1 z.1) (by
      rintro v h2 ⟨rfl, rfl⟩
      refine ⟨rfl, ⟨?_, ?_, fun r' hr => ?_⟩, fun t i k y => ?_⟩
      · unfold mTk1
        rw [mSeg_ne (by decide), mSet_no (by simp), mSet_no (by simp), mSet_at]
      · unfold mTk1
        rw [mSeg_ne (by decide), mSet_no (by simp), mSet_at, mBc_t (by simp)]
      · obtain rfl : r = r' := Option.some.inj hr
        unfold mTk1
        refine ⟨by rw [mSeg_ne (by decide), mSet_at], fun j hj => mSeg_in0 hj⟩
      · unfold mTk1
        rw [mSeg_ne (by omega), mSet_no (fun w => y (by omega)), mSet_no (fun w => y (by omega)), mSet_no (fun w => y (by omega))]))
    (fun a r es => Nat.le_refl _) (by decide) (fun z => z rfl) (fun h1 f _ z1 z2 => ⟨z1, by rw [z2, mBc_f (fun z => z rfl)], fun r hr => by cases hr⟩)
  refine mCon_mono q ?_
  rintro v h' ⟨rfl, ⟨-, z2, z3⟩, f⟩
  rw [goA_fst] at z2 z3
  refine ⟨rfl, ?_, fun x xs hx => ?_, f⟩
  · rw [z2]
    refine mBc_congr ?_
    cases cpL N c 0 with
    | nil => simp
    | cons x xs => simp
  · rw [hx] at z3
    exact z3 x.1 rfl
theorem look3 (c : Nat) (hc : c < 3) (N : nN) (hn : nP N ≤ 12) (hsz : szOk (nK N c) (nS N c)) (wb wj : Int) (h : mMem) (e : isM h N) (eb : h 9 0 20 = wb) (ej : h 9 0 21 = wj) :
    mCon l g n_M_look (d + 11) [.inr (9, 0), .inl c, .inl 3, .inl 0] h (fun v h' => v = none ∧ h' 9 0 15 = mBc (∃ x ∈ cpL N c 0, ((bitR x.1 x.1.length : Nat) : Int) = wb ∧ ∃ e ∈ x.2, ((e : Nat) : Int) = wj) ∧ farX h h') := by
  have q := s_look (l := l) (g := g) (d := d) c hc N hn hsz 3 0 (by omega) h e (fun (a : aIs) h' => h' 9 0 14 = a.1 ∧ h' 9 0 15 = mBc a.2) (fun a => a.2) (fun a r es => (a.1 + 1, ((bitR r r.length : Nat) : Int) = wb ∧ ∃ e ∈ es, ((e : Nat) : Int) = wj)) (fun a => a.1) 1000000000 (0, False)
    (fun a h1 h2 f z => ⟨(f _ _ _ (by decide)).trans z.1, (f _ _ _ (by decide)).trans z.2⟩) (fun a h1 z => z.2)
    (fun k0 a h1 r es t1 f z ns hz o1 o2 S er ms => mCon_mono (c_M_take3 (d := d) h1 a.1 hz r es wb wj o1.1 (by rw [o2]; exact kOk_le (kOk_of hsz k0).1) (by have := rOk_len (kOk_of hsz k0).1 o1 (Nat.le_of_eq o2); omega) er t1 S.1 S.2.1 ((f _ _ _ (by decide)).trans ej) z.1 (by rw [z.2, mBc_f ns]) ((f _ _ _ (by decide)).trans eb)) (by
      rintro v h2 ⟨rfl, rfl⟩
      unfold mTk3
      by_cases hb : ((bitR r r.length : Nat) : Int) = wb
      · rw [if_pos hb, hasE_all]
        refine ⟨rfl, ⟨?_, ?_⟩, fun t i k y => ?_⟩
        · rw [mSet_no (by simp), mSet_at]
        · rw [mSet_at]
          exact mBc_congr ⟨fun w => ⟨hb, w⟩, fun w => w.2⟩
        · rw [mSet_no (fun w => y (by omega)), mSet_no (fun w => y (by omega))]
      · rw [if_neg hb]
        refine ⟨rfl, ⟨mSet_at _ _ _ _ _, ?_⟩, fun t i k y => mSet_no (fun w => y (by omega))⟩
        rw [mSet_no (by simp), z.2]
        exact mBc_congr ⟨fun w => absurd w ns, fun w => absurd w.1 hb⟩))
    (fun a r es => Nat.le_refl _) (by decide) id (fun h1 f _ z1 z2 => ⟨z1, by rw [z2, mBc_f id]⟩)
  refine mCon_mono q ?_
  rintro v h' ⟨rfl, ⟨-, z2⟩, f⟩
  refine ⟨rfl, ?_, f⟩
  rw [z2]
  exact mBc_congr (goA_is wb wj _ 0)
theorem c_M_copiesOf (c : Nat) (hc : c < 3) (N : nN) (hn : nP N ≤ 12) (hsz : szOk (nK N c) (nS N c)) (h : mMem) (e : isM h N) :
    mCon l g n_M_copiesOf (d + 12) [.inr (9, 0), .inl c] h (fun v h' => v = some (.inl ((cpL N c 0).length : Nat)) ∧ farX h h') := by
  refine e_M_copiesOf (fun hv hm => ?_)
  refine mGo_wp h_M_copiesOf 40 [] ?_
  refine mCall_on2 (look0 c hc N hn hsz h e) ?_
  rintro v h' ⟨rfl, z, f⟩
  refine ⟨?_, f⟩
  rw [z]
theorem c_M_hasCopy (c : Nat) (hc : c < 3) (N : nN) (hn : nP N ≤ 12) (hsz : szOk (nK N c) (nS N c)) (h : mMem) (e : isM h N) :
    mCon l g n_M_hasCopy (d + 12) [.inr (9, 0), .inl c] h (fun v h' => v = some (.inl (mBc (cpL N c 0 ≠ []))) ∧ (∀ x xs, cpL N c 0 = x :: xs → h' 9 0 17 = x.1.length ∧ ∀ j, j < x.1.length → h' 46 0 j = (x.1.getD j 0 : Nat)) ∧ farX h h') := by
  refine e_M_hasCopy (fun hv hm => ?_)
  refine mGo_wp h_M_hasCopy 40 [] ?_
  refine mCall_on2 (look1 c hc N hn hsz h e) ?_
  rintro v h' ⟨rfl, z, z2, f⟩
  have z1 : (h' 9 0 15 = 0 ∨ h' 9 0 15 = 1) := by rw [z]; exact mBc_01 _
  refine ⟨z1, ?_, z2, f⟩
  rw [z]
end Tasks
end
section
/-! the model's isClear, clashes, clear, copies, copy, count -/
def sm (f : Nat → Nat) : Nat → Nat
  | 0 => 0
  | n + 1 => sm f n + f n
theorem sm_le {f : Nat → Nat} {B : Nat} : ∀ n, (∀ k, k < n → f k ≤ B) → sm f n ≤ n * B
  | 0, _ => by show 0 ≤ _; omega
  | n + 1, h => by
    have h1 := sm_le n (fun k hk => h k (by omega))
    have h2 := h n (by omega)
    show sm f n + f n ≤ (n + 1) * B
    rw [Nat.add_mul, Nat.one_mul]
    omega
def nClear (N : nN) : Prop := ∀ c, c < nC N → cpL N c 0 = []
noncomputable def nClash (N : nN) : Nat := sm (fun c => (cpL N c 0).length) (nC N)
theorem cpL_le {N : nN} (o : nOk N) {c : Nat} (hc : c < 3) : (cpL N c 0).length ≤ 35831808 := cpL_len o.1.2 (o.2.2.1 c hc) 0
theorem nClash_part {N : nN} (o : nOk N) {k : Nat} (hk : k ≤ nC N) : sm (fun c => (cpL N c 0).length) k ≤ 107495424 := by
  have hc := o.2.1.2
  have := sm_le (f := fun c => (cpL N c 0).length) (B := 35831808) k (fun c hc => cpL_le o (by omega))
  have h2 : k * 35831808 ≤ 3 * 35831808 := Nat.mul_le_mul_right _ (by omega)
  omega
section MClear
variable {l : Launch} {g : mG} {d : Nat}
theorem l_M_isClear (N : nN) (o : nOk N) (h : mMem) (e : isM h N) : ∀ (n c : Nat) (h1 : mMem), c + n = nC N → farX h h1 → (∀ c', c' < c → cpL N c' 0 = []) → mGo l g (mMt n_M_isClear) (d + 13) 2 [some (.inr (9, 0)), some (.inl c)] [] h1 (fun v h' => v = some (.inl (mBc (nClear N))) ∧ farX h h') := by
  have hC := o.2.1.2
  intro n
  induction n with
  | zero =>
    intro c h1 hc f hz
    refine mGo_wp h_M_isClear 40 [2] ?_
    have e1 := (isM_farX e f).2.1
    refine ⟨fun _ => ⟨Or.inr rfl, ?_, f⟩, fun z => by rw [e1] at z; omega⟩
    rw [mBc_t (p := nClear N) (fun c' hc' => hz c' (by omega))]
  | succ n ih =>
    intro c h1 hc f hz
    refine mGo_wp h_M_isClear 40 [2] ?_
    have e2 := isM_farX e f
    have e1 := e2.2.1
    refine ⟨fun z => by rw [e1] at z; omega, fun _ => ?_⟩
    refine mCall_on2 (c_M_hasCopy c (by omega) N o.1.2 (o.2.2.1 c (by omega)) h1 e2) ?_
    rintro v h' ⟨rfl, -, f2⟩
    refine ⟨fun z => ?_, fun z => ⟨Or.inl rfl, ?_, f.tr f2⟩⟩
    · show mGo l g _ _ 2 [_, some (.inl (mWr ((c : Int) + 1)))] [] h' _
      rw [mWr_of ⟨by omega, by omega⟩]
      refine ih (c + 1) h' (by omega) (f.tr f2) (fun c' hc' => ?_)
      by_cases hq : c' = c
      · rw [hq]
        exact Classical.not_not.mp (mBc_eq0.mp z)
      · exact hz c' (by omega)
    · rw [mBc_f (fun w => mBc_ne0.mp z (w c (by omega)))]
theorem c_M_isClear (N : nN) (o : nOk N) (h : mMem) (e : isM h N) : mCon l g n_M_isClear (d + 13) [.inr (9, 0)] h (fun v h' => v = some (.inl (mBc (nClear N))) ∧ farX h h') := by
  refine e_M_isClear (fun hv hm => ?_)
  refine mGo_wp h_M_isClear 40 [2] ?_
  exact l_M_isClear N o h e (nC N) 0 h (by omega) farX.rf (fun c' hc' => by omega)
theorem l_M_clashes (N : nN) (o : nOk N) (h : mMem) (e : isM h N) : ∀ (n c : Nat) (h1 : mMem), c + n = nC N → farX h h1 → mGo l g (mMt n_M_clashes) (d + 13) 4 [some (.inr (9, 0)), some (.inl (sm (fun c => (cpL N c 0).length) c : Nat)), some (.inl c)] [] h1 (fun v h' => v = some (.inl (nClash N : Nat)) ∧ farX h h') := by
  have hC := o.2.1.2
  intro n
  induction n with
  | zero =>
    intro c h1 hc f
    refine mGo_wp h_M_clashes 40 [4] ?_
    have e1 := (isM_farX e f).2.1
    have : c = nC N := by omega
    subst this
    exact ⟨fun _ => ⟨rfl, f⟩, fun z => by rw [e1] at z; omega⟩
  | succ n ih =>
    intro c h1 hc f
    refine mGo_wp h_M_clashes 40 [4] ?_
    have e2 := isM_farX e f
    have e1 := e2.2.1
    refine ⟨fun z => by rw [e1] at z; omega, fun _ => ?_⟩
    refine mCall_on2 (c_M_copiesOf c (by omega) N o.1.2 (o.2.2.1 c (by omega)) h1 e2) ?_
    rintro v h' ⟨rfl, f2⟩
    have b1 := nClash_part o (k := c) (by omega)
    have b2 := cpL_le o (c := c) (by omega)
    show mGo l g _ _ 4 [_, some (.inl (mWr (((sm (fun c => (cpL N c 0).length) c : Nat) : Int) + ((cpL N c 0).length : Nat)))), some (.inl (mWr ((c : Int) + 1)))] [] h' _
    rw [mWr_of ⟨by omega, by omega⟩, mWr_of ⟨by omega, by omega⟩]
    exact ih (c + 1) h' (by omega) (f.tr f2)
theorem c_M_clashes (N : nN) (o : nOk N) (h : mMem) (e : isM h N) : mCon l g n_M_clashes (d + 13) [.inr (9, 0)] h (fun v h' => v = some (.inl (nClash N : Nat)) ∧ farX h h') := by
  refine e_M_clashes (fun hv hm => ?_)
  refine mGo_wp h_M_clashes 40 [4] ?_
  exact l_M_clashes N o h e (nC N) 0 h (by omega) farX.rf
noncomputable def spClear (N : nN) : Int := mBc (nClear N)
noncomputable def spCopies (N : nN) (q : Int) : Int := if 0 ≤ q ∧ q < nC N then ((cpL N q.toNat 0).length : Nat) else vBAD
noncomputable def fstAt (xs : List rE) (i : Int) : Int := match xs with
  | [] => vNONE
  | x :: _ => if i < x.1.length then (x.1.getD i.toNat 0 : Nat) else vNONE
noncomputable def spCopy (N : nN) (q i : Int) : Int := if (0 ≤ q ∧ q < nC N) ∧ 0 ≤ i then fstAt (cpL N q.toNat 0) i else vBAD
noncomputable def spCount (S : sS) (w : Int) : Int := if w = 0 then nP S.1 else if w = 1 then nC S.1 else if w = 2 then nBare S.1 else if w = 3 then nClash S.1 else if w = 4 then S.2.1.length else if w = 5 then S.2.2.2.1 else vBAD
abbrev ansM (h : mMem) (S : sS) (a : Int) : Option mRV → mMem → Prop := fun r h' => r = some (.inl a) ∧ RM h' S ∧ onlyM h h'
theorem ansM_X {h h' : mMem} {S : sS} (e : RM h S) (f : farX h h') : RM h' S ∧ onlyM h h' := ⟨RM_scr e (scrM.ofX f), (scrM.ofX f).only⟩
theorem s_M_clear (h : mMem) (S : sS) (o : sOk S) (e : RM h S) : mCon l g n_M_clear (d + 14) [.inr (9, 0)] h (ansM h S (spClear S.1)) := by
  refine e_M_clear (fun hv hm => ?_)
  refine mGo_wp h_M_clear 40 [] ?_
  refine mCall_on2 (c_M_isClear S.1 o.1 h e.1) ?_
  rintro v h' ⟨rfl, f⟩
  unfold spClear
  refine ⟨fun z => ⟨?_, ansM_X e f⟩, fun z => ⟨?_, ansM_X e f⟩⟩
  · rw [z]
  · rw [mBc_t (mBc_ne0.mp z)]
theorem s_M_copies (q : Int) (h : mMem) (S : sS) (o : sOk S) (e : RM h S) : mCon l g n_M_copies (d + 13) [.inr (9, 0), .inl q] h (ansM h S (spCopies S.1 q)) := by
  refine e_M_copies (fun hv hm => ?_)
  refine mGo_wp h_M_copies 40 [] ?_
  have hC := o.1.2.1.2
  refine mCall_is (c_M_isColour q (nC S.1) (by omega) h e.1.2.1) ?_
  refine ⟨fun z => ?_, fun z => ?_⟩
  · exact ⟨by rw [spCopies, if_neg (mB_eq0.mp z)], e, onlyM.rf⟩
  · have c := mB_ne0.mp z
    obtain ⟨q', rfl⟩ := Int.eq_ofNat_of_zero_le c.1
    refine mCall_on2 (c_M_copiesOf q' (by omega) S.1 o.1.1.2 (o.1.2.2.1 q' (by omega)) h e.1) ?_
    rintro v h' ⟨rfl, f⟩
    exact ⟨by rw [spCopies, if_pos c, Int.toNat_natCast], ansM_X e f⟩
theorem cpL_row {N : nN} (o : nOk N) {c : Nat} (hc : c < 3) {mm : Nat} {x : rE} (hx : x ∈ cpL N c mm) : x.1.length = nln N c ∧ x.1.length ≤ 7 ∧ (∀ y ∈ x.1, y < nP N) ∧ rOk (nkk N c) x.1 x.2 := by
  unfold cpL at hx
  split at hx
  · cases hx
  · next h0 =>
    obtain ⟨k1, -⟩ := kOk_of (o.2.2.1 c hc) h0
    have hn := o.1.2
    have gen : ∀ (j : Nat) (r es : List Nat) (x : rE), x ∈ rowsF (nkk N c) (nln N c) (nP N) j r es → rOk (nkk N c) r es → (∀ y ∈ r, y < nP N) → x.1.length = r.length + j ∧ (∀ y ∈ x.1, y < nP N) ∧ rOk (nkk N c) x.1 x.2 := by
      intro j
      induction j with
      | zero =>
        intro r es x hx o1 o2
        have : x = (r, es) := List.mem_singleton.mp hx
        subst this
        exact ⟨rfl, o2, o1⟩
      | succ j ih =>
        intro r es x hx o1 o2
        obtain ⟨p, hp, h1⟩ := List.mem_flatMap.mp hx
        have hp2 : p < nP N := by
          have := List.mem_range'_1.mp hp
          omega
        split at h1
        · next hq =>
          obtain ⟨r1, r2⟩ := qB_iff.mp hq
          obtain ⟨w1, w2, w3⟩ := ih _ _ x h1 (rOk_add k1 o1 (by omega) r1) (fun y hy => by
            rcases List.mem_append.mp hy with w | w
            · exact o2 y w
            · rw [List.mem_singleton.mp w]; exact hp2)
          refine ⟨?_, w2, w3⟩
          rw [w1, List.length_append]
          show r.length + 1 + j = r.length + (j + 1)
          omega
        · cases h1
    obtain ⟨w1, w2, w3⟩ := gen _ _ _ x (List.mem_filter.mp hx).1 (rOk_nil _) (fun y hy => by cases hy)
    have w1 : x.1.length = nln N c := by rw [w1]; exact Nat.zero_add _
    exact ⟨w1, by rw [w1]; exact kOk_le k1, w2, w3⟩
theorem s_M_copy (q i : Int) (h : mMem) (S : sS) (o : sOk S) (e : RM h S) : mCon l g n_M_copy (d + 13) [.inr (9, 0), .inl q, .inl i] h (ansM h S (spCopy S.1 q i)) := by
  refine e_M_copy (fun hv hm => ?_)
  refine mGo_wp h_M_copy 40 [15] ?_
  have hC := o.1.2.1.2
  refine mCall_is (c_M_isColour q (nC S.1) (by omega) h e.1.2.1) ?_
  refine ⟨fun z => ?_, fun z => ⟨fun z2 => ?_, fun z2 => ?_⟩⟩
  · exact ⟨by rw [spCopy, if_neg (fun w => mB_eq0.mp z w.1)], e, onlyM.rf⟩
  · have c := mB_ne0.mp z
    obtain ⟨q', rfl⟩ := Int.eq_ofNat_of_zero_le c.1
    refine mGo_wp h_M_copy 40 [] ?_
    refine mCall_on2 (c_M_hasCopy q' (by omega) S.1 o.1.1.2 (o.1.2.2.1 q' (by omega)) h e.1) ?_
    rintro v h' ⟨rfl, w, f⟩
    unfold spCopy
    rw [if_pos ⟨c, z2⟩, Int.toNat_natCast]
    cases hx : cpL S.1 q' 0 with
    | nil => exact ⟨fun _ => ⟨rfl, ansM_X e f⟩, fun y => absurd (mBc_f (fun y => y rfl)) y⟩
    | cons x xs =>
      obtain ⟨w1, w2⟩ := w x xs hx
      have hl := (cpL_row o.1 (show q' < 3 by omega) (x := x) (mm := 0) (by rw [hx]; exact List.mem_cons_self)).2.1
      refine ⟨fun y => absurd (by simp) (mBc_eq0.mp y), fun _ => ⟨fun y => ?_, fun y => ?_⟩⟩
      · rw [w1] at y
        exact ⟨by unfold fstAt; dsimp only; rw [if_neg (by omega)], ansM_X e f⟩
      · rw [w1] at y
        refine ⟨⟨z2, by omega⟩, ?_, ansM_X e f⟩
        rw [w2 i.toNat (by omega)]
        unfold fstAt
        dsimp only
        rw [if_pos y]
  · exact ⟨by rw [spCopy, if_neg (fun w => by omega)], e, onlyM.rf⟩
theorem s_M_count (w : Int) (h : mMem) (S : sS) (o : sOk S) (e : RM h S) : mCon l g n_M_count (d + 14) [.inr (9, 0), .inl w] h (ansM h S (spCount S w)) := by
  refine e_M_count (fun hv hm => ?_)
  refine mGo_wp h_M_count 40 [] ?_
  unfold spCount
  refine ⟨⟨fun z => ?_, fun z => ?_, fun z => ?_, fun z => ?_, fun z => ?_, fun z => ?_, trivial⟩, fun z => ?_⟩
  · rw [if_pos z]
    exact ⟨by rw [e.1.1], e, onlyM.rf⟩
  · rw [if_neg (by omega), if_pos (by omega)]
    exact ⟨by rw [e.1.2.1], e, onlyM.rf⟩
  · rw [if_neg (by omega), if_neg (by omega), if_pos (by omega)]
    refine mCall_is (c_M_bare S.1 h o.1 e.1) ?_
    exact ⟨rfl, e, onlyM.rf⟩
  · rw [if_neg (by omega), if_neg (by omega), if_neg (by omega), if_pos (by omega)]
    refine mCall_on2 (c_M_clashes S.1 o.1 h e.1) ?_
    rintro v h' ⟨rfl, f⟩
    exact ⟨rfl, ansM_X e f⟩
  · rw [if_neg (by omega), if_neg (by omega), if_neg (by omega), if_neg (by omega), if_pos (by omega)]
    exact ⟨by rw [e.2.1.1], e, onlyM.rf⟩
  · rw [if_neg (by omega), if_neg (by omega), if_neg (by omega), if_neg (by omega), if_neg (by omega), if_pos (by omega)]
    exact ⟨by rw [e.2.2.2.1], e, onlyM.rf⟩
  · have z : w < 0 ∨ 0 + ((6 : Nat) : Int) ≤ w := z
    rw [if_neg (by omega), if_neg (by omega), if_neg (by omega), if_neg (by omega), if_neg (by omega), if_neg (by omega)]
    exact ⟨rfl, e, onlyM.rf⟩
end MClear
end
section
/-! the count of bits, choosing, the masks -/
def bc (x : Nat) : Nat := cn (fun q => x.testBit q) 12
def pc1 (x : Int) : Int := mWr (x - mAnd (mUsh x 1) 1431655765)
def pc2 (x : Int) : Int := mWr (mAnd x 858993459 + mAnd (mUsh x 2) 858993459)
def pc3 (x : Int) : Int := mAnd (mWr (x + mUsh x 4)) 252645135
def pc4 (x : Int) : Int := mWr (x + mUsh x 8)
def pc5 (x : Int) : Int := mAnd (mWr (x + mUsh x 16)) 63
theorem pop_0 : ∀ u, u < 512 → pc5 (pc4 (pc3 (pc2 (pc1 ((u + 0 : Nat) : Int))))) = (bc (u + 0) : Nat) := by decide +kernel
theorem pop_1 : ∀ u, u < 512 → pc5 (pc4 (pc3 (pc2 (pc1 ((u + 512 : Nat) : Int))))) = (bc (u + 512) : Nat) := by decide +kernel
theorem pop_2 : ∀ u, u < 512 → pc5 (pc4 (pc3 (pc2 (pc1 ((u + 1024 : Nat) : Int))))) = (bc (u + 1024) : Nat) := by decide +kernel
theorem pop_3 : ∀ u, u < 512 → pc5 (pc4 (pc3 (pc2 (pc1 ((u + 1536 : Nat) : Int))))) = (bc (u + 1536) : Nat) := by decide +kernel
theorem pop_4 : ∀ u, u < 512 → pc5 (pc4 (pc3 (pc2 (pc1 ((u + 2048 : Nat) : Int))))) = (bc (u + 2048) : Nat) := by decide +kernel
theorem pop_5 : ∀ u, u < 512 → pc5 (pc4 (pc3 (pc2 (pc1 ((u + 2560 : Nat) : Int))))) = (bc (u + 2560) : Nat) := by decide +kernel
theorem pop_6 : ∀ u, u < 512 → pc5 (pc4 (pc3 (pc2 (pc1 ((u + 3072 : Nat) : Int))))) = (bc (u + 3072) : Nat) := by decide +kernel
theorem pop_7 : ∀ u, u < 512 → pc5 (pc4 (pc3 (pc2 (pc1 ((u + 3584 : Nat) : Int))))) = (bc (u + 3584) : Nat) := by decide +kernel
theorem pop_at (u : Nat) (hu : u < 4096) : pc5 (pc4 (pc3 (pc2 (pc1 (u : Int))))) = (bc u : Nat) := by
  rcases (show u < 512 ∨ (512 ≤ u ∧ u < 1024) ∨ (1024 ≤ u ∧ u < 1536) ∨ (1536 ≤ u ∧ u < 2048) ∨ (2048 ≤ u ∧ u < 2560) ∨ (2560 ≤ u ∧ u < 3072) ∨ (3072 ≤ u ∧ u < 3584) ∨ (3584 ≤ u ∧ u < 4096) by omega) with h | h | h | h | h | h | h | h
  · have q := pop_0 (u - 0) (by omega)
    rw [show u - 0 + 0 = u by omega] at q
    exact q
  · have q := pop_1 (u - 512) (by omega)
    rw [show u - 512 + 512 = u by omega] at q
    exact q
  · have q := pop_2 (u - 1024) (by omega)
    rw [show u - 1024 + 1024 = u by omega] at q
    exact q
  · have q := pop_3 (u - 1536) (by omega)
    rw [show u - 1536 + 1536 = u by omega] at q
    exact q
  · have q := pop_4 (u - 2048) (by omega)
    rw [show u - 2048 + 2048 = u by omega] at q
    exact q
  · have q := pop_5 (u - 2560) (by omega)
    rw [show u - 2560 + 2560 = u by omega] at q
    exact q
  · have q := pop_6 (u - 3072) (by omega)
    rw [show u - 3072 + 3072 = u by omega] at q
    exact q
  · have q := pop_7 (u - 3584) (by omega)
    rw [show u - 3584 + 3584 = u by omega] at q
    exact q
section Bits2
variable {l : Launch} {g : mG} {d : Nat}
theorem c_Int_bitCount (u : Nat) (hu : u < 4096) (h : mMem) : mCon l g n_Int_bitCount d [.inl u] h (mIs (some (.inl (bc u : Nat))) h) := by
  refine e_Int_bitCount (fun hv hm => ?_)
  refine mGo_wp h_Int_bitCount 80 [] ?_
  refine ⟨?_, rfl⟩
  show some (Sum.inl (pc5 (pc4 (pc3 (pc2 (pc1 (u : Int))))))) = _
  rw [pop_at u hu]
end Bits2
end
section
/-! choosing, masks, candidates in order -/
def bn : Nat → Nat → Nat
  | _, 0 => 1
  | 0, _ + 1 => 0
  | n + 1, k + 1 => bn n k + bn n (k + 1)
theorem bn_zero : ∀ n k, n < k → bn n k = 0
  | 0, k + 1, _ => rfl
  | n + 1, k + 1, h => by
    show bn n k + bn n (k + 1) = 0
    rw [bn_zero n k (by omega), bn_zero n (k + 1) (by omega)]
theorem chI_bn : ∀ f, f < 13 → ∀ s, s < 8 → chI ((f : Nat) : Int) s = (bn f s : Nat) := by decide +kernel
theorem chI_step : ∀ f, f < 13 → ∀ k, k < 8 → mDiv (mWr (chI ((f : Nat) : Int) k * mWr (((f : Nat) : Int) - ((k : Nat) : Int)))) (mWr (((k : Nat) : Int) + 1)) = chI ((f : Nat) : Int) (k + 1) := by decide +kernel
theorem bn_le : ∀ f, f < 13 → ∀ s, s < 8 → bn f s ≤ 1000 := by decide +kernel
section Choose
variable {l : Launch} {g : mG} {d : Nat}
theorem l_K_choose (f s : Nat) (hf : f < 13) (hs : s < 8) (h : mMem) : ∀ (n k : Nat), k + n = s → mGo l g (mMt n_K_choose) d 4 [some (.inl f), some (.inl s), some (.inl (chI f k)), some (.inl k)] [] h (mIs (some (.inl (bn f s : Nat))) h) := by
  intro n
  induction n with
  | zero =>
    intro k hk
    refine mGo_wp h_K_choose 40 [4] ?_
    refine ⟨fun _ => ⟨?_, rfl⟩, fun z => by omega⟩
    rw [← chI_bn f hf s hs, show k = s by omega]
  | succ n ih =>
    intro k hk
    refine mGo_wp h_K_choose 40 [4] ?_
    have q := ih (k + 1) (by omega)
    refine ⟨fun z => by omega, fun _ => ⟨?_, ?_⟩⟩
    · rw [mWr_of ⟨by omega, by omega⟩]
      omega
    · show mGo l g _ _ 4 [_, _, some (.inl (mDiv (mWr (chI (f : Int) k * mWr ((f : Int) - (k : Int)))) (mWr ((k : Int) + 1)))), some (.inl (mWr ((k : Int) + 1)))] [] _ _
      rw [chI_step f hf k (by omega), mWr_of ⟨by omega, by omega⟩]
      exact q
theorem c_K_choose (f s : Nat) (hf : f < 13) (hs : s < 8) (h : mMem) : mCon l g n_K_choose d [.inl f, .inl s] h (mIs (some (.inl (bn f s : Nat))) h) := by
  refine e_K_choose (fun hv hm => ?_)
  refine mGo_wp h_K_choose 40 [4] ?_
  exact l_K_choose f s hf hs h s 0 (by omega)
theorem c_K_above (p : Int) (h : mMem) : mCon l g n_K_above d [.inl p] h (mIs (some (.inl (mShl (-2) p))) h) := by
  refine e_K_above (fun hv hm => ?_)
  refine mGo_wp h_K_above 40 [] ?_
  exact ⟨rfl, rfl⟩
end Choose
theorem bit_far {x q : Nat} (hx : x < 4096) (hq : 12 ≤ q) : x.testBit q = false := Nat.testBit_lt_two_pow (Nat.lt_of_lt_of_le hx (Nat.pow_le_pow_right (n := 2) (by decide) hq))
theorem mAnd_bits (x : Nat) (hx : x < 4096) (y : Int) : ∃ z : Nat, mAnd (x : Int) y = (z : Int) ∧ z < 4096 ∧ ∀ q, z.testBit q = (x.testBit q && (Int32.ofInt y).toBitVec.getLsbD q) := by
  have hle : x &&& (Int32.ofInt y).toBitVec.toNat ≤ x := Nat.and_le_left
  refine ⟨x &&& (Int32.ofInt y).toBitVec.toNat, ?_, by omega, fun q => by rw [Nat.testBit_and]; rfl⟩
  unfold mAnd
  refine mBv_to (by omega) _ ?_
  show ((Int32.ofInt (x : Int)).toBitVec &&& (Int32.ofInt y).toBitVec).toNat = _
  rw [mBv, BitVec.toNat_and, BitVec.toNat_ofNat, Nat.mod_eq_of_lt (by omega)]
theorem above_bit : ∀ p, p < 12 → ∀ q, q < 12 → (Int32.ofInt (mShl (-2) ((p : Nat) : Int))).toBitVec.getLsbD q = decide (p < q) := by decide +kernel
theorem ones_bit : ∀ q, q < 12 → (Int32.ofInt (-1)).toBitVec.getLsbD q = true := by decide +kernel
theorem and_above {x p : Nat} (hx : x < 4096) (hp : p < 12) : ∃ z : Nat, mAnd (x : Int) (mShl (-2) (p : Int)) = (z : Int) ∧ z < 4096 ∧ ∀ q, z.testBit q = true ↔ (x.testBit q = true ∧ p < q) := by
  obtain ⟨z, h1, h2, h3⟩ := mAnd_bits x hx (mShl (-2) (p : Int))
  refine ⟨z, h1, h2, fun q => ?_⟩
  by_cases hq : q < 12
  · rw [h3 q, above_bit p hp q hq, Bool.and_eq_true, decide_eq_true_eq]
  · rw [bit_far h2 (by omega), bit_far hx (by omega)]
    simp
theorem and_not {x t : Nat} (hx : x < 4096) (ht : t < 4096) : ∃ z : Nat, mAnd (x : Int) (mXor (t : Int) (-1)) = (z : Int) ∧ z < 4096 ∧ ∀ q, z.testBit q = true ↔ (x.testBit q = true ∧ ¬ t.testBit q = true) := by
  obtain ⟨z, h1, h2, h3⟩ := mAnd_bits x hx (mXor (t : Int) (-1))
  refine ⟨z, h1, h2, fun q => ?_⟩
  by_cases hq : q < 12
  · rw [h3 q, Bool.and_eq_true]
    have e1 : (Int32.ofInt (mXor (t : Int) (-1))).toBitVec.getLsbD q = !t.testBit q := by
      unfold mXor
      rw [Int32.ofInt_toInt]
      show ((Int32.ofInt (t : Int)).toBitVec ^^^ (Int32.ofInt (-1)).toBitVec).getLsbD q = _
      rw [BitVec.getLsbD_xor, ones_bit q hq, mBv]
      have : (BitVec.ofNat 32 t).getLsbD q = t.testBit q := by
        rw [BitVec.getLsbD_ofNat]
        simp
        omega
      rw [this]
      cases t.testBit q <;> rfl
    rw [e1]
    simp
  · rw [bit_far h2 (by omega), bit_far hx (by omega)]
    simp
theorem and_and {x y : Nat} (hx : x < 4096) (hy : y < 4096) : ∃ z : Nat, mAnd (x : Int) (y : Int) = (z : Int) ∧ z < 4096 ∧ ∀ q, z.testBit q = true ↔ (x.testBit q = true ∧ y.testBit q = true) := by
  have hle : x &&& y ≤ x := Nat.and_le_left
  refine ⟨x &&& y, mAnd_nat (by omega) (by omega), by omega, fun q => ?_⟩
  rw [Nat.testBit_and, Bool.and_eq_true]
/-- the candidates from a point on, in order -/
noncomputable def lst (C : Nat → Prop) (lo m : Nat) : List Nat := (List.range' lo m).filter (fun q => qB (C q))
theorem lst_yes {C : Nat → Prop} {lo m : Nat} (h : C lo) : lst C lo (m + 1) = lo :: lst C (lo + 1) m := by
  unfold lst
  rw [List.range'_succ, List.filter_cons_of_pos (p := fun q => qB (C q)) (qB_t h)]
theorem lst_no {C : Nat → Prop} {lo m : Nat} (h : ¬ C lo) : lst C lo (m + 1) = lst C (lo + 1) m := by
  unfold lst
  rw [List.range'_succ, List.filter_cons_of_neg (p := fun q => qB (C q)) (qB_no h)]
theorem lst_app (C : Nat → Prop) (lo : Nat) : ∀ a b, lst C lo (a + b) = lst C lo a ++ lst C (lo + a) b := by
  intro a b
  unfold lst
  rw [← List.filter_append, List.range'_append_1]
theorem lst_mem {C : Nat → Prop} {lo m q : Nat} : q ∈ lst C lo m ↔ (lo ≤ q ∧ q < lo + m) ∧ C q := by
  unfold lst
  rw [List.mem_filter, List.mem_range'_1, qB_iff]
theorem cn_lst {f : Nat → Bool} : ∀ n, cn f n = (lst (fun q => f q = true) 0 n).length
  | 0 => rfl
  | n + 1 => by
    rw [lst_app _ 0 n 1, List.length_append, Nat.zero_add, ← cn_lst n]
    show cn f n + (if f n = true then 1 else 0) = _
    by_cases h : f n = true
    · rw [if_pos h, lst_yes h]
      rfl
    · rw [if_neg h, lst_no h]
      rfl
theorem cn_more {f : Nat → Bool} {n : Nat} : ∀ m, (∀ q, n ≤ q → f q = false) → cn f (n + m) = cn f n
  | 0, _ => rfl
  | m + 1, h => by
    show cn f (n + m) + (if f (n + m) = true then 1 else 0) = _
    rw [h (n + m) (by omega), if_neg (by decide), cn_more m h]
    rfl
theorem lst_congr {C D : Nat → Prop} (h : ∀ q, C q ↔ D q) (lo m : Nat) : lst C lo m = lst D lo m := by
  unfold lst
  refine congrArg (fun f => List.filter f (List.range' lo m)) (funext fun q => qB_congr (h q))
/-- the bits of the candidates, counted -/
theorem bc_lst {x n : Nat} {C : Nat → Prop} (hn : n ≤ 12) (h : ∀ q, x.testBit q = true ↔ C q) (hC : ∀ q, C q → q < n) : bc x = (lst C 0 n).length := by
  unfold bc
  have e1 := cn_more (f := fun q => x.testBit q) (n := n) (12 - n) (fun q hq => by
    cases hb : x.testBit q with
    | false => rfl
    | true =>
      have := hC q ((h q).mp hb)
      omega)
  rw [show n + (12 - n) = 12 by omega] at e1
  rw [e1, cn_lst]
  rw [lst_congr (D := C) (fun q => h q)]
/-- rows whose further points are any candidates, rising -/
def isFree (T : Nat → Int) (c : Int) (k L n : Nat) (r : List Nat) (C : Nat → Prop) (j : Nat) : Prop := ∀ s : List Nat, s.length < j → List.Pairwise (· < ·) s → (∀ x ∈ s, C x) → ∀ q, q < n → ((q ∉ r ++ s ∧ okP T c k L 0 0 (r ++ s) q) ↔ (C q ∧ ∀ x ∈ s, x < q))
theorem free_count {T : Nat → Int} {c : Int} {k L n : Nat} {r : List Nat} {C : Nat → Prop} {J : Nat} (F : isFree T c k L n r C J) : ∀ (j lo : Nat) (s es : List Nat), s.length + j = J → List.Pairwise (· < ·) s → (∀ x ∈ s, C x) → (∀ x ∈ s, x < lo) → (∀ q, lo ≤ q → ∀ x ∈ s, x < q) → (∀ q, q < lo → C q → ∃ x ∈ s, q ≤ x) → lo ≤ n → msN T c es = 0 →
    (takesF T c 0 k L n j (r ++ s) es).length = bn (lst C lo (n - lo)).length j ∧ (j ≤ (lst C lo (n - lo)).length → ∃ es' xs, takesF T c 0 k L n j (r ++ s) es = (r ++ s ++ (lst C lo (n - lo)).take j, es') :: xs) := by
  intro j
  induction j with
  | zero =>
    intro lo s es hJ hw hs h1 h2 h3 hlo ms
    rw [takesF_zero (by omega)]
    exact ⟨by cases (lst C lo (n - lo)).length <;> rfl, fun _ => ⟨es, [], by rw [List.take_zero, List.append_nil]⟩⟩
  | succ j ih =>
    intro lo s es hJ hw hs h1 h2 h3 hlo ms
    rw [takesF_succ]
    have skip : ∀ m, m ≤ lo → takesP T c 0 k L n j (r ++ s) es (lo - m) (m + (n - lo)) = takesP T c 0 k L n j (r ++ s) es lo (n - lo) := by
      intro m
      induction m with
      | zero => intro _; rw [Nat.zero_add, Nat.sub_zero]
      | succ m ihm =>
        intro hm
        rw [show m + 1 + (n - lo) = m + (n - lo) + 1 by omega, takesP_no, show lo - (m + 1) + 1 = lo - m by omega]
        · exact ihm (by omega)
        · rw [ms]
          intro z
          have w := (F s (by omega) hw hs (lo - (m + 1)) (by omega)).mp z
          obtain ⟨x, hx, hq⟩ := h3 (lo - (m + 1)) (by omega) w.1
          have := w.2 x hx
          omega
    have e0 := skip lo (Nat.le_refl _)
    rw [Nat.sub_self, show lo + (n - lo) = n by omega] at e0
    rw [e0]
    have run : ∀ m p, lo ≤ p → p + m = n → (takesP T c 0 k L n j (r ++ s) es p m).length = bn (lst C p m).length (j + 1) ∧ (j + 1 ≤ (lst C p m).length → ∃ es' xs, takesP T c 0 k L n j (r ++ s) es p m = (r ++ s ++ (lst C p m).take (j + 1), es') :: xs) := by
      intro m
      induction m with
      | zero =>
        intro p hp hm
        exact ⟨rfl, fun z => absurd z (by show ¬ j + 1 ≤ 0; omega)⟩
      | succ m ihm =>
        intro p hp hm
        have w := F s (by omega) hw hs p (by omega)
        by_cases hC : C p
        · have ok := w.mpr ⟨hC, h2 p hp⟩
          have ok' : p ∉ r ++ s ∧ okP T c k L 0 (msN T c es) (r ++ s) p := by rw [ms]; exact ok
          rw [takesP_yes ok', lst_yes hC]
          have ms2 : msN T c (es ++ newE k L (r ++ s) p) = 0 := by
            have := ok.2.2
            rw [msN_app, ms]
            omega
          have hmem : ∀ x ∈ s ++ [p], x ∈ s ∨ x = p := fun x hx => by
            rcases List.mem_append.mp hx with y | y
            · exact Or.inl y
            · exact Or.inr (List.mem_singleton.mp y)
          obtain ⟨q1, q2⟩ := ih (p + 1) (s ++ [p]) (es ++ newE k L (r ++ s) p) (by rw [List.length_append]; show s.length + 1 + j = J; omega)
            (List.pairwise_append.mpr ⟨hw, by simp, fun a ha b hb => by rw [List.mem_singleton.mp hb]; exact Nat.lt_of_lt_of_le (h1 a ha) hp⟩) (fun x hx => (hmem x hx).elim (hs x) (fun y => y ▸ hC)) (fun x hx => (hmem x hx).elim (fun y => by have := h1 x y; omega) (fun y => by omega)) (fun q hq x hx => (hmem x hx).elim (fun y => by have := h1 x y; omega) (fun y => by omega))
            (fun q hq _ => ⟨p, List.mem_append_right _ (by simp), by omega⟩) (by omega) ms2
          obtain ⟨i1, i2⟩ := ihm (p + 1) (by omega) (by omega)
          rw [← List.append_assoc, show n - (p + 1) = m by omega] at q1 q2
          refine ⟨?_, fun z => ?_⟩
          · rw [List.length_append, q1, i1]
            rfl
          · have z : j + 1 ≤ (lst C (p + 1) m).length + 1 := z
            obtain ⟨es', xs, e1⟩ := q2 (by omega)
            refine ⟨es', xs ++ takesP T c 0 k L n j (r ++ s) es (p + 1) m, ?_⟩
            rw [e1]
            show (r ++ s ++ [p] ++ (lst C (p + 1) m).take j, es') :: _ = (r ++ s ++ (p :: (lst C (p + 1) m).take j), es') :: _
            rw [List.append_assoc (r ++ s) [p]]
            rfl
        · have no : ¬ (p ∉ r ++ s ∧ okP T c k L 0 (msN T c es) (r ++ s) p) := by
            rw [ms]
            exact fun z => hC (w.mp z).1
          rw [takesP_no no, lst_no hC]
          exact ihm (p + 1) (by omega) (by omega)
    exact run (n - lo) lo (Nat.le_refl _) (by omega)
end
section
/-! candidates: what may follow a row, by kind -/
theorem msN0 {T : Nat → Int} {c : Int} : ∀ {es : List Nat}, msN T c es = 0 ↔ ∀ e ∈ es, T e = c
  | [] => ⟨fun _ _ he => (List.not_mem_nil he).elim, fun _ => rfl⟩
  | e :: es => by
    show (if T e = c then 0 else 1) + msN T c es = 0 ↔ _
    have ih := msN0 (T := T) (c := c) (es := es)
    constructor
    · intro h x hx
      have h1 : T e = c := by
        by_cases y : T e = c
        · exact y
        · rw [if_neg y] at h; omega
      rcases List.mem_cons.mp hx with rfl | hx
      · exact h1
      · exact ih.mp (by omega) x hx
    · intro h
      rw [if_pos (h e List.mem_cons_self), ih.mpr (fun x hx => h x (List.mem_cons_of_mem _ hx))]
theorem ok0 {T : Nat → Int} {c : Int} {k L : Nat} {r : List Nat} {q : Nat} : okP T c k L 0 0 r q ↔ ordP k L r q ∧ ∀ e ∈ newE k L r q, T e = c := by
  unfold okP
  rw [← msN0 (T := T) (c := c)]
  exact ⟨fun h => ⟨h.1, by omega⟩, fun h => ⟨h.1, by omega⟩⟩
abbrev cdP (T : Nat → Int) (c : Int) (k L n : Nat) (r : List Nat) (q : Nat) : Prop := q < n ∧ q ∉ r ∧ okP T c k L 0 0 r q
theorem app_len (r : List Nat) (p : Nat) : (r ++ [p]).length = r.length + 1 := by rw [List.length_append]; rfl
theorem lastD (r : List Nat) (p : Nat) : (r ++ [p]).getD (r.length + 1 - 1) 0 = p := by
  rw [Nat.add_sub_cancel]
  exact getD_app1 r p
theorem ord_nil {k L : Nat} {q : Nat} : ordP k L [] q := by
  unfold ordP
  split <;> exact Or.inl rfl
theorem newE_nil {k L : Nat} {q : Nat} : newE k L [] q = [] := by
  unfold newE
  split <;> rfl
theorem cd_nil {T : Nat → Int} {c : Int} {k L n : Nat} {q : Nat} : cdP T c k L n [] q ↔ q < n := by
  refine ⟨fun h => h.1, fun h => ⟨h, by simp, ok0.mpr ⟨ord_nil, ?_⟩⟩⟩
  rw [newE_nil]
  exact fun e he => by cases he
theorem cd_all {T : Nat → Int} {c : Int} {L n : Nat} {r : List Nat} {p q : Nat} (hp : cdP T c 1 L n r p) : cdP T c 1 L n (r ++ [p]) q ↔ (cdP T c 1 L n r q ∧ T (jn p q) = c) ∧ p < q := by
  have o1 : r.length = 0 ∨ r.getD (r.length - 1) 0 < p := (ok0.mp hp.2.2).1
  constructor
  · rintro ⟨h1, h2, h3⟩
    obtain ⟨h4, h5⟩ := ok0.mp h3
    have h4 : (r ++ [p]).length = 0 ∨ (r ++ [p]).getD ((r ++ [p]).length - 1) 0 < q := h4
    rw [app_len, lastD] at h4
    have h5 : ∀ e ∈ (r ++ [p]).map (fun x => jn x q), T e = c := h5
    have hpq : p < q := by omega
    refine ⟨⟨⟨h1, fun z => h2 (List.mem_append_left _ z), ok0.mpr ⟨?_, fun e he => ?_⟩⟩, ?_⟩, hpq⟩
    · show r.length = 0 ∨ r.getD (r.length - 1) 0 < q
      omega
    · have he : e ∈ r.map (fun x => jn x q) := he
      refine h5 e ?_
      rw [List.map_append]
      exact List.mem_append_left _ he
    · exact h5 _ (List.mem_map.mpr ⟨p, List.mem_append_right _ (by simp), rfl⟩)
  · rintro ⟨⟨⟨h1, h2, h3⟩, h4⟩, h5⟩
    refine ⟨h1, fun z => ?_, ok0.mpr ⟨?_, fun e he => ?_⟩⟩
    · rcases List.mem_append.mp z with y | y
      · exact h2 y
      · have := List.mem_singleton.mp y; omega
    · show (r ++ [p]).length = 0 ∨ (r ++ [p]).getD ((r ++ [p]).length - 1) 0 < q
      rw [app_len, lastD]
      omega
    · have he : e ∈ (r ++ [p]).map (fun x => jn x q) := he
      rw [List.map_append] at he
      rcases List.mem_append.mp he with y | y
      · exact (ok0.mp h3).2 e y
      · obtain ⟨x, hx, rfl⟩ := List.mem_map.mp y
        rw [List.mem_singleton.mp hx]
        exact h4
theorem cd_star {T : Nat → Int} {c : Int} {L n : Nat} {p q : Nat} : cdP T c 3 L n [p] q ↔ q < n ∧ q ≠ p ∧ T (jn p q) = c := by
  constructor
  · rintro ⟨h1, h2, h3⟩
    refine ⟨h1, fun z => h2 (by simp [z]), (ok0.mp h3).2 _ ?_⟩
    show jn p q ∈ [jn p q]
    simp
  · rintro ⟨h1, h2, h3⟩
    refine ⟨h1, fun z => h2 (List.mem_singleton.mp z), ok0.mpr ⟨Or.inr (Or.inl rfl), fun e he => ?_⟩⟩
    have he : e ∈ [jn p q] := he
    rw [List.mem_singleton.mp he]
    exact h3
theorem cd_book0 {T : Nat → Int} {c : Int} {L n : Nat} {p q : Nat} : cdP T c 4 L n [p] q ↔ (q < n ∧ q ≠ p ∧ T (jn p q) = c) ∧ p < q := by
  constructor
  · rintro ⟨h1, h2, h3⟩
    obtain ⟨h4, h5⟩ := ok0.mp h3
    have h4 : (1 = 0) ∨ (1 = 1 ∧ p < q) ∨ (1 = 2) ∨ (2 < 1 ∧ _) := h4
    refine ⟨⟨h1, fun z => h2 (by simp [z]), h5 _ ?_⟩, by omega⟩
    show jn p q ∈ [jn p q]
    simp
  · rintro ⟨⟨h1, h2, h3⟩, h4⟩
    refine ⟨h1, fun z => h2 (List.mem_singleton.mp z), ok0.mpr ⟨Or.inr (Or.inl ⟨rfl, h4⟩), fun e he => ?_⟩⟩
    have he : e ∈ [jn p q] := he
    rw [List.mem_singleton.mp he]
    exact h3
theorem cd_book1 {T : Nat → Int} {c : Int} {L n : Nat} {a p q : Nat} : cdP T c 4 L n [a, p] q ↔ (q < n ∧ q ≠ p ∧ T (jn p q) = c) ∧ (q ≠ a ∧ T (jn a q) = c) := by
  constructor
  · rintro ⟨h1, h2, h3⟩
    obtain ⟨h4, h5⟩ := ok0.mp h3
    have h5 : ∀ e ∈ [jn a q, jn p q], T e = c := h5
    exact ⟨⟨h1, fun z => h2 (by simp [z]), h5 _ (by simp)⟩, fun z => h2 (by simp [z]), h5 _ (by simp)⟩
  · rintro ⟨⟨h1, h2, h3⟩, h4, h5⟩
    refine ⟨h1, fun z => ?_, ok0.mpr ⟨Or.inr (Or.inr (Or.inl rfl)), fun e he => ?_⟩⟩
    · rcases List.mem_cons.mp z with y | y
      · exact h4 y
      · exact h2 (List.mem_singleton.mp y)
    · have he : e ∈ [jn a q, jn p q] := he
      rcases List.mem_cons.mp he with rfl | y
      · exact h5
      · rw [List.mem_singleton.mp y]
        exact h3
theorem cd_path {T : Nat → Int} {c : Int} {L n : Nat} {r : List Nat} {p q : Nat} : cdP T c 5 L n (r ++ [p]) q ↔ ((q < n ∧ T (jn p q) = c) ∧ q ∉ r ++ [p]) ∧ (r.length + 1 = L - 1 → (r ++ [p]).getD 0 0 < q) := by
  have hne : newE 5 L (r ++ [p]) q = [jn p q] := by
    show (if (r ++ [p]).length = 0 then [] else [jn ((r ++ [p]).getD ((r ++ [p]).length - 1) 0) q]) = _
    rw [app_len, if_neg (by omega), lastD]
  constructor
  · rintro ⟨h1, h2, h3⟩
    obtain ⟨h4, h5⟩ := ok0.mp h3
    rw [hne] at h5
    have h4 : (r ++ [p]).length = 0 ∨ (r ++ [p]).length ≠ L - 1 ∨ (r ++ [p]).getD 0 0 < q := h4
    rw [app_len] at h4
    exact ⟨⟨⟨h1, h5 _ (by simp)⟩, h2⟩, fun z => by omega⟩
  · rintro ⟨⟨⟨h1, h2⟩, h3⟩, h4⟩
    refine ⟨h1, h3, ok0.mpr ⟨?_, fun e he => ?_⟩⟩
    · show (r ++ [p]).length = 0 ∨ (r ++ [p]).length ≠ L - 1 ∨ (r ++ [p]).getD 0 0 < q
      rw [app_len]
      by_cases z : r.length + 1 = L - 1
      · exact Or.inr (Or.inr (h4 z))
      · exact Or.inr (Or.inl z)
    · rw [hne] at he
      rw [List.mem_singleton.mp he]
      exact h2
theorem cd_ringm {T : Nat → Int} {c : Int} {L n : Nat} {r : List Nat} {p q : Nat} (hL : r.length + 1 ≠ L - 1) : cdP T c 2 L n (r ++ [p]) q ↔ ((q < n ∧ T (jn p q) = c) ∧ (r ++ [p]).getD 0 0 < q) ∧ q ∉ r ++ [p] := by
  have hne : newE 2 L (r ++ [p]) q = [jn p q] := by
    show (if (r ++ [p]).length = 0 then [] else if (r ++ [p]).length = L - 1 then _ else [jn ((r ++ [p]).getD ((r ++ [p]).length - 1) 0) q]) = _
    rw [app_len, if_neg (by omega), if_neg hL, lastD]
  constructor
  · rintro ⟨h1, h2, h3⟩
    obtain ⟨h4, h5⟩ := ok0.mp h3
    rw [hne] at h5
    have h4 : (r ++ [p]).length = 0 ∨ ((r ++ [p]).getD 0 0 < q ∧ ((r ++ [p]).length ≠ L - 1 ∨ (r ++ [p]).getD 1 0 < q)) := h4
    rw [app_len] at h4
    exact ⟨⟨⟨h1, h5 _ (by simp)⟩, by omega⟩, h2⟩
  · rintro ⟨⟨⟨h1, h2⟩, h3⟩, h4⟩
    refine ⟨h1, h4, ok0.mpr ⟨?_, fun e he => ?_⟩⟩
    · show (r ++ [p]).length = 0 ∨ ((r ++ [p]).getD 0 0 < q ∧ ((r ++ [p]).length ≠ L - 1 ∨ (r ++ [p]).getD 1 0 < q))
      rw [app_len]
      exact Or.inr ⟨h3, Or.inl hL⟩
    · rw [hne] at he
      rw [List.mem_singleton.mp he]
      exact h2
theorem cd_ringl {T : Nat → Int} {c : Int} {L n : Nat} {r : List Nat} {p q : Nat} (hL : r.length + 1 = L - 1) : cdP T c 2 L n (r ++ [p]) q ↔ ((((q < n ∧ T (jn p q) = c) ∧ (r ++ [p]).getD 0 0 < q) ∧ q ∉ r ++ [p]) ∧ T (jn q ((r ++ [p]).getD 0 0)) = c) ∧ (r ++ [p]).getD 1 0 < q := by
  have hne : newE 2 L (r ++ [p]) q = [jn p q, jn q ((r ++ [p]).getD 0 0)] := by
    show (if (r ++ [p]).length = 0 then [] else if (r ++ [p]).length = L - 1 then [jn ((r ++ [p]).getD ((r ++ [p]).length - 1) 0) q, jn q ((r ++ [p]).getD 0 0)] else _) = _
    rw [app_len, if_neg (by omega), if_pos hL, lastD]
  constructor
  · rintro ⟨h1, h2, h3⟩
    obtain ⟨h4, h5⟩ := ok0.mp h3
    rw [hne] at h5
    have h4 : (r ++ [p]).length = 0 ∨ ((r ++ [p]).getD 0 0 < q ∧ ((r ++ [p]).length ≠ L - 1 ∨ (r ++ [p]).getD 1 0 < q)) := h4
    rw [app_len] at h4
    exact ⟨⟨⟨⟨⟨h1, h5 _ (by simp)⟩, by omega⟩, h2⟩, h5 _ (by simp)⟩, by omega⟩
  · rintro ⟨⟨⟨⟨⟨h1, h2⟩, h3⟩, h4⟩, h5⟩, h6⟩
    refine ⟨h1, h4, ok0.mpr ⟨?_, fun e he => ?_⟩⟩
    · show (r ++ [p]).length = 0 ∨ ((r ++ [p]).getD 0 0 < q ∧ ((r ++ [p]).length ≠ L - 1 ∨ (r ++ [p]).getD 1 0 < q))
      exact Or.inr ⟨h3, Or.inr h6⟩
    · rw [hne] at he
      rcases List.mem_cons.mp he with rfl | y
      · exact h2
      · rw [List.mem_singleton.mp y]
        exact h5
/-- the number of points up to which the finder goes one by one -/
def frK (k L : Nat) : Nat := if k = 3 then 1 else if k = 4 then 2 else L - 1
theorem ends_lt {s : List Nat} {q : Nat} (hp : List.Pairwise (· < ·) s) : (∀ x ∈ s, x < q) ↔ (s.length = 0 ∨ s.getD (s.length - 1) 0 < q) := by
  constructor
  · intro h
    by_cases z : s.length = 0
    · exact Or.inl z
    · exact Or.inr (h _ (getD_mem (by omega)))
  · intro h x hx
    obtain ⟨j, hj, rfl⟩ := List.getElem_of_mem hx
    rcases h with h | h
    · omega
    · by_cases e : j = s.length - 1
      · subst e
        rw [List.getD_eq_getElem?_getD, List.getElem?_eq_getElem hj] at h
        exact h
      · have := (List.pairwise_iff_getElem.mp hp) j (s.length - 1) hj (by omega) (by omega)
        rw [List.getD_eq_getElem?_getD, List.getElem?_eq_getElem (by omega)] at h
        exact Nat.lt_trans this h
end
section
theorem len_two : ∀ {r : List Nat}, r.length = 2 → ∃ a b, r = [a, b]
  | [a, b], _ => ⟨a, b, rfl⟩
theorem free_of {T : Nat → Int} {c : Int} {k L n : Nat} {r : List Nat} (hk : kOk k L) (hr : r.length = frK k L) : isFree T c k L n r (cdP T c k L n r) (L - r.length) := by
  intro s hs hw hC q hq
  cases s with
  | nil =>
    rw [List.append_nil]
    exact ⟨fun z => ⟨⟨hq, z⟩, fun x hx => (List.not_mem_nil hx).elim⟩, fun z => z.1.2⟩
  | cons x s =>
    have hs : s.length + 1 < L - r.length := hs
    rcases hk with ⟨rfl, h1, h2⟩ | ⟨rfl, h1, h2⟩ | ⟨rfl, h1, h2⟩ | ⟨rfl, h1, h2⟩ | ⟨rfl, h1, h2⟩
    · have hr : r.length = L - 1 := hr
      omega
    · have hr : r.length = L - 1 := hr
      omega
    · obtain ⟨m, rfl⟩ := List.length_eq_one_iff.mp (show r.length = 1 from hr)
      rw [cd_star, ends_lt hw]
      constructor
      · rintro ⟨g1, g2⟩
        obtain ⟨g3, g4⟩ := ok0.mp g2
        refine ⟨⟨hq, fun z => g1 (by simp [z]), g4 _ ?_⟩, Or.inr ?_⟩
        · show jn m q ∈ (if s.length + 1 + 1 = 0 then [] else [jn m q])
          rw [if_neg (by omega)]
          simp
        · have g3 : s.length + 1 + 1 = 0 ∨ s.length + 1 + 1 = 1 ∨ (x :: s).getD s.length 0 < q := g3
          show (x :: s).getD s.length 0 < q
          omega
      · rintro ⟨⟨g1, g2, g3⟩, g4⟩
        have g4 : s.length + 1 = 0 ∨ (x :: s).getD s.length 0 < q := g4
        have g5 := (ends_lt (q := q) hw).mpr g4
        refine ⟨fun z => ?_, ok0.mpr ⟨Or.inr (Or.inr ?_), fun e he => ?_⟩⟩
        · rcases List.mem_cons.mp z with y | y
          · exact g2 y
          · have := g5 q y; omega
        · show (x :: s).getD s.length 0 < q
          omega
        · have he : e ∈ (if s.length + 1 + 1 = 0 then [] else [jn m q]) := he
          rw [if_neg (by omega)] at he
          rw [List.mem_singleton.mp he]
          exact g3
    · obtain ⟨a, b, rfl⟩ := len_two (show r.length = 2 from hr)
      rw [cd_book1, ends_lt hw]
      constructor
      · rintro ⟨g1, g2⟩
        obtain ⟨g3, g4⟩ := ok0.mp g2
        have g4 : ∀ e ∈ (if s.length + 1 + 1 + 1 = 0 then [] else if s.length + 1 + 1 + 1 = 1 then [jn a q] else [jn a q, jn b q]), T e = c := g4
        rw [if_neg (by omega), if_neg (by omega)] at g4
        refine ⟨⟨⟨hq, fun z => g1 (by simp [z]), g4 _ (by simp)⟩, fun z => g1 (by simp [z]), g4 _ (by simp)⟩, Or.inr ?_⟩
        have g3 : s.length + 1 + 1 + 1 = 0 ∨ (s.length + 1 + 1 + 1 = 1 ∧ a < q) ∨ s.length + 1 + 1 + 1 = 2 ∨ (2 < s.length + 1 + 1 + 1 ∧ (x :: s).getD s.length 0 < q) := g3
        show (x :: s).getD s.length 0 < q
        omega
      · rintro ⟨⟨⟨g1, g2, g3⟩, g6, g7⟩, g4⟩
        have g4 : s.length + 1 = 0 ∨ (x :: s).getD s.length 0 < q := g4
        have g5 := (ends_lt (q := q) hw).mpr g4
        refine ⟨fun z => ?_, ok0.mpr ⟨Or.inr (Or.inr (Or.inr ?_)), fun e he => ?_⟩⟩
        · rcases List.mem_cons.mp z with y | y
          · exact g6 y
          · rcases List.mem_cons.mp y with y | y
            · exact g2 y
            · have := g5 q y; omega
        · show 2 < s.length + 1 + 1 + 1 ∧ (x :: s).getD s.length 0 < q
          omega
        · have he : e ∈ (if s.length + 1 + 1 + 1 = 0 then [] else if s.length + 1 + 1 + 1 = 1 then [jn a q] else [jn a q, jn b q]) := he
          rw [if_neg (by omega), if_neg (by omega)] at he
          rcases List.mem_cons.mp he with rfl | y
          · exact g7
          · rw [List.mem_singleton.mp y]
            exact g3
    · have hr : r.length = L - 1 := hr
      omega
theorem jn_ge : ∀ n, n < 13 → ∀ a, a < 12 → ∀ q, q < 12 → a ≠ q → n ≤ q → js n ≤ jn a q := by decide +kernel
/-- joins of points that are not there are bare -/
def farB (T : Nat → Int) (n : Nat) : Prop := ∀ k, js n ≤ k → k < 66 → T k = -1
theorem farB_lt {T : Nat → Int} {n c : Nat} (hn : n ≤ 12) (f : farB T n) {a q : Nat} (ha : a < 12) (hq : q < 12) (h : a ≠ q) (e : T (jn a q) = (c : Nat)) : q < n := by
  by_cases z : q < n
  · exact z
  · have := f _ (jn_ge n (by omega) a ha q hq h (by omega)) (jn_lt a ha q hq h)
    omega
def fSt (h : mMem) (T : Nat → Int) (c k L n : Nat) : Prop := h 1 0 1 = L ∧ h 1 0 2 = k ∧ h 1 0 3 = n ∧ ∀ q, q < 12 → h 25 0 q = nr T c q
def rowF (h : mMem) (r : List Nat) : Prop := ∀ j, j < r.length → h 24 0 j = (r.getD j 0 : Nat)
def farF (h h' : mMem) : Prop := ∀ (t : Nat) (i : Fin 8) (k : Nat), ¬ (t = 1 ∨ t = 24 ∨ t = 25) → h' t i k = h t i k
theorem farF.rf {h : mMem} : farF h h := fun _ _ _ _ => rfl
theorem farF.tr {h h1 h2 : mMem} (a : farF h h1) (b : farF h1 h2) : farF h h2 := fun t i k z => (b t i k z).trans (a t i k z)
theorem isC_farF {h h' : mMem} {i : Fin 8} {N : nN} (e : isC h i N) (f : farF h h') : isC h' i N := isC_eq e (fun t k ht => f t i k (by omega))
theorem tab102 {k s : Int} (h : szOk k s) : s + (mTab 102).getD k.toNat 0 = lenOf k s := by
  unfold lenOf
  rcases h with ⟨rfl, h1⟩ | ⟨rfl, h1, h2⟩ | ⟨rfl, h1, h2⟩ | ⟨rfl, h1, h2⟩ | ⟨rfl, h1, h2⟩ | ⟨rfl, h1, h2⟩
  · show s + 0 = _
    rw [if_neg (by decide), if_neg (by decide)]; omega
  · show s + 0 = _
    rw [if_neg (by decide), if_neg (by decide)]; omega
  · show s + 0 = _
    rw [if_neg (by decide), if_neg (by decide)]; omega
  · show s + 1 = _
    rw [if_pos rfl]
  · show s + 2 = _
    rw [if_neg (by decide), if_pos rfl]
  · show s + 0 = _
    rw [if_neg (by decide), if_neg (by decide)]; omega
section Finder
variable {l : Launch} {g : mG} {d : Nat}
theorem c_Net_copyLength (i : Fin 8) (c : Nat) (hc : c < 3) (N : nN) (hsz : szOk (nK N c) (nS N c)) (h : mMem) (e : isC h i N) : mCon l g n_Net_copyLength d [.inr (4, i), .inl c] h (mIs (some (.inl (lenOf (nK N c) (nS N c)))) h) := by
  refine e_Net_copyLength (fun hv hm => ?_)
  refine mGo_wp h_Net_copyLength 40 [] ?_
  have t : ((c : Int)).toNat = c := Int.toNat_natCast c
  have ek := e.2.2.1 c hc
  have es := e.2.2.2.1 c hc
  have hb : 0 ≤ nK N c ∧ nK N c ≤ 5 ∧ 0 ≤ lenOf (nK N c) (nS N c) ∧ lenOf (nK N c) (nS N c) ≤ 100 := by
    unfold lenOf
    rcases hsz with h | h | h | h | h | h <;> (split <;> first | omega | (split <;> omega))
  refine ⟨⟨by omega, by omega⟩, ⟨by omega, by omega⟩, ⟨by rw [t, ek]; omega, by rw [t, ek]; omega⟩, ?_, rfl⟩
  rw [t, ek, es, tab102 hsz, mWr_of ⟨by omega, by omega⟩]
theorem c_Net_copyNears (i : Fin 8) (c t : Nat) (hc : c < 3) (ht : t = 25 ∨ t = 26) (h : mMem) : mCon l g n_Net_copyNears (d + 1) [.inr (4, i), .inl c, .inr (t, 0)] h (mIs none (mCpy h (23, i) (t, 0) (c * 12) 0 12)) := by
  refine e_Net_copyNears (fun hv hm => ?_)
  refine mGo_wp h_Net_copyNears 40 [] ?_
  have w : mWr ((c : Int) * 12) = ((c * 12 : Nat) : Int) := by rw [mWr_of ⟨by omega, by omega⟩]; omega
  rcases ht with rfl | rfl
  · refine ⟨⟨by rw [w]; omega, by decide, by decide, by rw [w]; omega, by decide⟩, rfl, ?_⟩
    rw [w]
    rfl
  · refine ⟨⟨by rw [w]; omega, by decide, by decide, by rw [w]; omega, by decide⟩, rfl, ?_⟩
    rw [w]
    rfl
theorem c_Finder_lookAt (i : Fin 8) (c : Nat) (hc : c < 3) (N : nN) (hsz : szOk (nK N c) (nS N c)) (h : mMem) (e : isC h i N) : mCon l g n_Finder_lookAt (d + 2) [.inr (1, 0), .inr (4, i), .inl c] h (fun v h' => v = none ∧ h' 1 0 1 = lenOf (nK N c) (nS N c) ∧ h' 1 0 2 = nK N c ∧ h' 1 0 3 = nP N ∧ (∀ q, q < 12 → h' 25 0 q = nr (nT N) c q) ∧ farF h h') := by
  refine e_Finder_lookAt (fun hv hm => ?_)
  refine mGo_wp h_Finder_lookAt 40 [] ?_
  have t : ((c : Int)).toNat = c := Int.toNat_natCast c
  have ek := e.2.2.1 c hc
  refine ⟨⟨by omega, by omega⟩, ?_⟩
  have e1 : isC (mSet h 1 0 2 (h 20 i ((c : Int)).toNat)) i N := isC_eq e (fun t k ht => mSet_no (fun z => by omega))
  refine mCall_is (c_Net_copyLength i c hc N hsz _ e1) ?_
  refine mCall_is (c_Net_copyNears i c 25 hc (Or.inl rfl) _) ?_
  refine ⟨rfl, ?_, ?_, ?_, fun q hq => ?_, fun t i k z => ?_⟩
  · show (if _ then _ else _) = _
    rw [if_neg (by decide), mSet_no (by simp), mSet_at]
  · show (if _ then _ else _) = _
    rw [if_neg (by decide), mSet_no (by simp), mSet_no (by simp), mSet_at, t, ek]
  · show (if _ then _ else _) = _
    rw [if_neg (by decide), mSet_at, mSet_no (by simp), mSet_no (by simp), e.1]
  · show (if _ then _ else _) = _
    rw [if_pos ⟨rfl, rfl, by omega, by omega⟩, mSet_no (by simp), mSet_no (by simp), mSet_no (by simp)]
    exact e.2.2.2.2.2 c hc q hq
  · show (if _ then _ else _) = _
    rw [if_neg (fun w => z (Or.inr (Or.inr w.1))), mSet_no (fun w => z (Or.inl w.1)), mSet_no (fun w => z (Or.inl w.1)), mSet_no (fun w => z (Or.inl w.1))]
theorem c_Finder_isRestFree (x : Int) (k L : Nat) (hL : 1 ≤ L ∧ L ≤ 10) (h : mMem) (e1 : h 1 0 1 = L) (e2 : h 1 0 2 = k) : mCon l g n_Finder_isRestFree d [.inr (1, 0), .inl x] h (mIs (some (.inl (mB ((L : Int) - 1 ≤ x ∨ (k = 3 ∧ 1 ≤ x) ∨ (k = 4 ∧ 2 ≤ x))))) h) := by
  refine e_Finder_isRestFree (fun hv hm => ?_)
  refine mGo_wp h_Finder_isRestFree 60 [] ?_
  have w : mWr (h 1 0 1 - 1) = (L : Int) - 1 := by rw [e1, mWr_of ⟨by omega, by omega⟩]
  refine ⟨fun z => ⟨Or.inr rfl, by rw [mB_t (by omega)], rfl⟩, fun z => ⟨fun z2 => ⟨fun z3 => ⟨Or.inl rfl, by rw [mB_f (by omega)], rfl⟩, fun z3 => ⟨fun z4 => ⟨Or.inl rfl, by rw [mB_f (by omega)], rfl⟩, fun z4 => ⟨Or.inr rfl, by rw [mB_t (by omega)], rfl⟩⟩⟩, fun z2 => ⟨fun z3 => ⟨Or.inr rfl, by rw [mB_t (by omega)], rfl⟩, fun z3 => ⟨fun z4 => ⟨Or.inl rfl, by rw [mB_f (by omega)], rfl⟩, fun z4 => ⟨fun z5 => ⟨Or.inl rfl, by rw [mB_f (by omega)], rfl⟩, fun z5 => ⟨Or.inr rfl, by rw [mB_t (by omega)], rfl⟩⟩⟩⟩⟩⟩
theorem c_Net_pointBits (i : Fin 8) (n : Nat) (hn : n ≤ 12) (h : mMem) (e : h 4 i 0 = n) : mCon l g n_Net_pointBits d [.inr (4, i)] h (mIs (some (.inl ((2 ^ n - 1 : Nat) : Int))) h) := by
  refine e_Net_pointBits (fun hv hm => ?_)
  refine mGo_wp h_Net_pointBits 40 [] ?_
  have hp : 2 ^ n ≤ 2 ^ 12 := Nat.pow_le_pow_right (by decide) hn
  have h1 : 1 ≤ 2 ^ n := Nat.one_le_two_pow
  refine ⟨?_, rfl⟩
  rw [e, mShl_1 n (by omega), mWr_of ⟨by omega, by omega⟩, Int.natCast_sub h1]
  rfl
end Finder
end
section
section Cands
variable {l : Launch} {g : mG} {d : Nat}
theorem near_bit {T : Nat → Int} {c n : Nat} (hn : n ≤ 12) (f : farB T n) {p q : Nat} (hp : p < 12) : (nr T c p).testBit q = true ↔ (q < n ∧ T (jn p q) = (c : Nat)) ∧ q ≠ p := by
  rw [nr_bit, decide_eq_true_eq]
  constructor
  · rintro ⟨h1, h2, h3⟩
    exact ⟨⟨farB_lt hn f hp h1 (fun z => h2 z.symm) h3, h3⟩, h2⟩
  · rintro ⟨⟨h1, h2⟩, h3⟩
    exact ⟨by omega, h3, h2⟩
theorem c_Finder_candidatesAfter (c : Nat) (T : Nat → Int) (k L n : Nat) (hk : kOk k L) (hn : n ≤ 12) (fb : farB T n) (r : List Nat) (p : Nat) (hr : ∀ x ∈ r ++ [p], x < 12) (hd : r.length + 1 < L) (h3 : k = 3 → r.length = 0) (h4 : k = 4 → r.length ≤ 1) (cand taken : Nat) (hcl : cand < 4096) (hcb : ∀ q, cand.testBit q = true ↔ cdP T c k L n r q) (hpc : cdP T c k L n r p) (htl : taken < 4096) (htb : ∀ q, taken.testBit q = true ↔ q ∈ r ++ [p]) (h : mMem) (e : fSt h T c k L n) (er : rowF h (r ++ [p])) :
    mCon l g n_Finder_candidatesAfter (d + 1) [.inr (1, 0), .inl r.length, .inl cand, .inl taken] h (fun v h' => h' = h ∧ ∃ z : Nat, v = some (.inl z) ∧ z < 4096 ∧ ∀ q, z.testBit q = true ↔ cdP T c k L n (r ++ [p]) q) := by
  obtain ⟨e1, e2, e3, e4⟩ := e
  have hL7 := kOk_le hk
  have hp12 : p < 12 := hr p (List.mem_append_right _ (by simp))
  have el : h 24 0 (Int.toNat (r.length : Int)) = (p : Int) := by
    rw [Int.toNat_natCast, er r.length (by rw [app_len]; omega), getD_app1]
  have e0 : h 24 0 (Int.toNat 0) = ((r ++ [p]).getD 0 0 : Nat) := er 0 (by rw [app_len]; omega)
  have h0 : (r ++ [p]).getD 0 0 < 12 := hr _ (getD_mem (by rw [app_len]; omega))
  have ep : h 25 0 (Int.toNat (p : Int)) = nr T c p := by rw [Int.toNat_natCast, e4 p hp12]
  have wl : mWr (h 1 0 1 - 1) = (L : Int) - 1 := by rw [e1, mWr_of ⟨by omega, by omega⟩]
  have wd : mWr ((r.length : Int) + 1) = (r.length : Int) + 1 := mWr_of ⟨by omega, by omega⟩
  have nb := fun q => near_bit (T := T) (c := c) (q := q) hn fb hp12
  have hpr : p ∈ r ++ [p] := List.mem_append_right _ (by simp)
  have main : ∀ (lc : Int) (x6 : Option mRV), lc = mB (r.length + 1 = L - 1) → mGo l g (mMt n_Finder_candidatesAfter) (d + 1) 27 [some (.inr (1, 0)), some (.inl r.length), some (.inl cand), some (.inl taken), some (.inl p), some (.inl lc), x6] [] h (fun v h' => h' = h ∧ ∃ z : Nat, v = some (.inl z) ∧ z < 4096 ∧ ∀ q, z.testBit q = true ↔ cdP T c k L n (r ++ [p]) q) := by
    intro lc x6 hlc
    refine mGo_wp h_Finder_candidatesAfter 120 [] ?_
    rcases hk with ⟨rfl, k1, k2⟩ | ⟨rfl, k1, k2⟩ | ⟨rfl, k1, k2⟩ | ⟨rfl, k1, k2⟩ | ⟨rfl, k1, k2⟩
    · refine ⟨⟨fun _ => ⟨⟨by omega, by omega⟩, ?_⟩, fun z => absurd (e2.symm.trans z) (by decide), fun z => absurd (e2.symm.trans z) (by decide), fun z => absurd (e2.symm.trans z) (by decide), fun z => absurd (e2.symm.trans z) (by decide), trivial⟩, fun z => by rw [e2] at z; exact absurd z (by decide)⟩
      refine mCall_is (c_K_above _ _) ?_
      obtain ⟨z1, a1, a2, a3⟩ := and_and hcl (nr_lt T c p)
      obtain ⟨z2, b1, b2, b3⟩ := and_above a2 hp12
      refine ⟨rfl, z2, ?_, b2, fun q => ?_⟩
      · rw [ep, a1, b1]
      · rw [b3, a3, hcb, nb, cd_all hpc]
        exact ⟨fun w => ⟨⟨w.1.1, w.1.2.1.2⟩, w.2⟩, fun w => ⟨⟨w.1.1, ⟨w.1.1.1, w.1.2⟩, by omega⟩, w.2⟩⟩
    · refine ⟨⟨fun z => absurd (e2.symm.trans z) (by decide), fun _ => ⟨⟨by omega, by omega⟩, ⟨by decide, by decide⟩, ?_⟩, fun z => absurd (e2.symm.trans z) (by decide), fun z => absurd (e2.symm.trans z) (by decide), fun z => absurd (e2.symm.trans z) (by decide), trivial⟩, fun z => by rw [e2] at z; exact absurd z (by decide)⟩
      refine mCall_is (c_K_above _ _) ?_
      obtain ⟨z1, a1, a2, a3⟩ := and_above (nr_lt T c p) h0
      obtain ⟨z2, b1, b2, b3⟩ := and_not a2 htl
      have w1 : mAnd (mAnd (h 25 0 (Int.toNat (p : Int))) (mShl (-2) (h 24 0 (Int.toNat 0)))) (mXor (taken : Int) (-1)) = (z2 : Int) := by rw [ep, e0, a1, b1]
      have mid : ∀ q, z2.testBit q = true ↔ ((q < n ∧ T (jn p q) = (c : Nat)) ∧ (r ++ [p]).getD 0 0 < q) ∧ q ∉ r ++ [p] := fun q => by
        rw [b3, a3, nb, htb]
        exact ⟨fun w => ⟨⟨w.1.1.1, w.1.2⟩, w.2⟩, fun w => ⟨⟨⟨w.1.1, fun y => w.2 (y ▸ hpr)⟩, w.1.2⟩, w.2⟩⟩
      refine ⟨fun y => ?_, fun y => ?_⟩
      · have y : lc = 0 := y
        rw [hlc] at y
        have y := mB_eq0.mp y
        refine ⟨rfl, z2, ?_, b2, fun q => ?_⟩
        · rw [w1]
        · rw [mid, cd_ringm y]
      · have y : lc ≠ 0 := y
        rw [hlc] at y
        have y := mB_ne0.mp y
        have en : h 25 0 (Int.toNat (h 24 0 (Int.toNat 0))) = nr T c ((r ++ [p]).getD 0 0) := by rw [e0, Int.toNat_natCast, e4 _ h0]
        have h1 : (r ++ [p]).getD 1 0 < 12 := hr _ (getD_mem (by rw [app_len]; omega))
        have e1' : h 24 0 (Int.toNat 1) = ((r ++ [p]).getD 1 0 : Nat) := er 1 (by rw [app_len]; omega)
        refine ⟨⟨by decide, by decide⟩, ⟨by rw [e0]; omega, by rw [e0]; omega⟩, ⟨by decide, by decide⟩, ?_⟩
        refine mCall_is (c_K_above _ _) ?_
        obtain ⟨z3, c1, c2, c3⟩ := and_and b2 (nr_lt T c ((r ++ [p]).getD 0 0))
        obtain ⟨z4, d1, d2, d3⟩ := and_above c2 h1
        refine ⟨rfl, z4, ?_, d2, fun q => ?_⟩
        · rw [w1, en, c1, e1', d1]
        · rw [d3, c3, mid, near_bit hn fb h0, cd_ringl y]
          constructor
          · rintro ⟨⟨w, w2⟩, w3⟩
            refine ⟨⟨w, ?_⟩, w3⟩
            rw [jn_comm q (by omega) _ h0]
            exact w2.1.2
          · rintro ⟨⟨w, w2⟩, w3⟩
            rw [jn_comm q (by omega) _ h0] at w2
            exact ⟨⟨w, ⟨w.1.1.1, w2⟩, by omega⟩, w3⟩
    · obtain rfl : r = [] := List.length_eq_zero_iff.mp (h3 rfl)
      refine ⟨⟨fun z => absurd (e2.symm.trans z) (by decide), fun z => absurd (e2.symm.trans z) (by decide), fun _ => ⟨⟨by omega, by omega⟩, ?_⟩, fun z => absurd (e2.symm.trans z) (by decide), fun z => absurd (e2.symm.trans z) (by decide), trivial⟩, fun z => by rw [e2] at z; exact absurd z (by decide)⟩
      refine ⟨rfl, nr T c p, ?_, nr_lt T c p, fun q => ?_⟩
      · rw [ep]
      · rw [nb]
        show _ ↔ cdP T c 3 L n [p] q
        rw [cd_star]
        exact ⟨fun w => ⟨w.1.1, w.2, w.1.2⟩, fun w => ⟨⟨w.1, w.2.2⟩, w.2.1⟩⟩
    · have hr1 := h4 rfl
      refine ⟨⟨fun z => absurd (e2.symm.trans z) (by decide), fun z => absurd (e2.symm.trans z) (by decide), fun z => absurd (e2.symm.trans z) (by decide), fun _ => ⟨fun y => ⟨⟨by omega, by omega⟩, ⟨by decide, by decide⟩, ⟨by rw [e0]; omega, by rw [e0]; omega⟩, ?_⟩, fun y => ⟨⟨by omega, by omega⟩, ?_⟩⟩, fun z => absurd (e2.symm.trans z) (by decide), trivial⟩, fun z => by rw [e2] at z; exact absurd z (by decide)⟩
      · obtain ⟨a, rfl⟩ := List.length_eq_one_iff.mp (show r.length = 1 by omega)
        have en : h 25 0 (Int.toNat (h 24 0 (Int.toNat 0))) = nr T c a := by rw [e0, Int.toNat_natCast, e4 _ h0]; rfl
        have ha : a < 12 := h0
        obtain ⟨z1, a1, a2, a3⟩ := and_and (nr_lt T c p) (nr_lt T c a)
        refine ⟨rfl, z1, ?_, a2, fun q => ?_⟩
        · rw [ep, en, a1]
        · rw [a3, nb, near_bit hn fb ha]
          show _ ↔ cdP T c 4 L n [a, p] q
          rw [cd_book1]
          exact ⟨fun w => ⟨⟨w.1.1.1, w.1.2, w.1.1.2⟩, w.2.2, w.2.1.2⟩, fun w => ⟨⟨⟨w.1.1, w.1.2.2⟩, w.1.2.1⟩, ⟨w.1.1, w.2.2⟩, w.2.1⟩⟩
      · obtain rfl : r = [] := List.length_eq_zero_iff.mp (by omega)
        refine mCall_is (c_K_above _ _) ?_
        obtain ⟨z1, a1, a2, a3⟩ := and_above (nr_lt T c p) hp12
        refine ⟨rfl, z1, ?_, a2, fun q => ?_⟩
        · rw [ep, a1]
        · rw [a3, nb]
          show _ ↔ cdP T c 4 L n [p] q
          rw [cd_book0]
          exact ⟨fun w => ⟨⟨w.1.1.1, w.1.2, w.1.1.2⟩, w.2⟩, fun w => ⟨⟨⟨w.1.1, w.1.2.2⟩, w.1.2.1⟩, w.2⟩⟩
    · obtain ⟨z1, a1, a2, a3⟩ := and_not (nr_lt T c p) htl
      have mid : ∀ q, z1.testBit q = true ↔ (q < n ∧ T (jn p q) = (c : Nat)) ∧ q ∉ r ++ [p] := fun q => by
        rw [a3, nb, htb]
        exact ⟨fun w => ⟨w.1.1, w.2⟩, fun w => ⟨⟨w.1, fun y => w.2 (y ▸ hpr)⟩, w.2⟩⟩
      refine ⟨⟨fun z => absurd (e2.symm.trans z) (by decide), fun z => absurd (e2.symm.trans z) (by decide), fun z => absurd (e2.symm.trans z) (by decide), fun z => absurd (e2.symm.trans z) (by decide), fun _ => ⟨fun y => ⟨⟨by omega, by omega⟩, ?_⟩, fun y => ⟨⟨by omega, by omega⟩, ⟨by decide, by decide⟩, ?_⟩⟩, trivial⟩, fun z => by rw [e2] at z; exact absurd z (by decide)⟩
      · have y : lc = 0 := y
        rw [hlc] at y
        have y := mB_eq0.mp y
        refine ⟨rfl, z1, ?_, a2, fun q => ?_⟩
        · rw [ep, a1]
        · rw [mid, cd_path]
          exact ⟨fun w => ⟨w, fun w2 => absurd w2 y⟩, fun w => w.1⟩
      · have y : lc ≠ 0 := y
        rw [hlc] at y
        have y := mB_ne0.mp y
        refine mCall_is (c_K_above _ _) ?_
        obtain ⟨z2, b1, b2, b3⟩ := and_above a2 h0
        refine ⟨rfl, z2, ?_, b2, fun q => ?_⟩
        · rw [ep, a1, e0, b1]
        · rw [b3, mid, cd_path]
          exact ⟨fun w => ⟨w.1, fun _ => w.2⟩, fun w => ⟨w.1, w.2 y⟩⟩
  refine e_Finder_candidatesAfter (fun hv hm => ?_)
  refine mGo_wp h_Finder_candidatesAfter 120 [27] ?_
  refine ⟨⟨by omega, by omega⟩, ?_⟩
  rw [el]
  refine ⟨fun y => ?_, fun y => ?_⟩
  · exact main 0 none (by rw [mB_f]; intro w; rw [wl, wd] at y; omega)
  · exact main 1 none (by rw [mB_t]; rw [wl, wd] at y; omega)
end Cands
end
section
theorem getD_left {a b : List Nat} {i : Nat} (h : i < a.length) : (a ++ b).getD i 0 = a.getD i 0 := by
  rw [List.getD_eq_getElem?_getD, List.getElem?_append_left h, ← List.getD_eq_getElem?_getD]
theorem getD_right {a b : List Nat} {i : Nat} : (a ++ b).getD (a.length + i) 0 = b.getD i 0 := by
  rw [List.getD_eq_getElem?_getD, List.getElem?_append_right (by omega), Nat.add_sub_cancel_left, ← List.getD_eq_getElem?_getD]
theorem getD_take {a : List Nat} {i j : Nat} (h : i < j) : (a.take j).getD i 0 = a.getD i 0 := by
  rw [List.getD_eq_getElem?_getD, List.getElem?_take_of_lt h, ← List.getD_eq_getElem?_getD]
def farW (m : Nat) (h h' : mMem) : Prop := ∀ (t : Nat) (i : Fin 8) (q : Nat), ¬ (t = 24 ∧ m ≤ q) → h' t i q = h t i q
theorem farW.rf {m : Nat} {h : mMem} : farW m h h := fun _ _ _ _ => rfl
theorem farW.tr {m : Nat} {h h1 h2 : mMem} (a : farW m h h1) (b : farW m h1 h2) : farW m h h2 := fun t i k z => (b t i k z).trans (a t i k z)
theorem farW.le {m m' : Nat} {h h1 : mMem} (hm : m ≤ m') (a : farW m' h h1) : farW m h h1 := fun t i k z => a t i k (fun y => z ⟨y.1, by omega⟩)
theorem farW.F {m : Nat} {h h1 : mMem} (a : farW m h h1) : farF h h1 := fun t i k z => a t i k (fun y => z (Or.inr (Or.inl y.1)))
theorem fSt_W {m : Nat} {h h1 : mMem} {T : Nat → Int} {c k L n : Nat} (e : fSt h T c k L n) (a : farW m h h1) : fSt h1 T c k L n :=
  ⟨(a _ _ _ (by simp)).trans e.1, (a _ _ _ (by simp)).trans e.2.1, (a _ _ _ (by simp)).trans e.2.2.1, fun q hq => (a _ _ _ (by simp)).trans (e.2.2.2 q hq)⟩
theorem rowF_W {h h1 : mMem} {r : List Nat} (e : rowF h r) (a : farW r.length h h1) : rowF h1 r := fun j hj => (a _ _ _ (by simp; omega)).trans (e j hj)
theorem rowF_add {h : mMem} {r : List Nat} {p : Nat} (e : rowF h r) : rowF (mSet h 24 0 r.length p) (r ++ [p]) := by
  intro j hj
  rw [app_len] at hj
  by_cases hq : j = r.length
  · rw [hq, mSet_at, getD_app1]
  · rw [mSet_no (fun z => hq z.2.2), getD_app2 _ _ _ (by omega)]
    exact e j (by omega)
theorem rest_iff {k L : Nat} (hk : kOk k L) (x : Nat) : ((L : Int) - 1 ≤ x ∨ (k = 3 ∧ 1 ≤ (x : Int)) ∨ (k = 4 ∧ 2 ≤ (x : Int))) ↔ frK k L ≤ x := by
  unfold frK
  rcases hk with ⟨rfl, h1, h2⟩ | ⟨rfl, h1, h2⟩ | ⟨rfl, h1, h2⟩ | ⟨rfl, h1, h2⟩ | ⟨rfl, h1, h2⟩
  · rw [if_neg (by decide), if_neg (by decide)]; omega
  · rw [if_neg (by decide), if_neg (by decide)]; omega
  · rw [if_pos rfl]; omega
  · rw [if_neg (by decide), if_pos rfl]; omega
  · rw [if_neg (by decide), if_neg (by decide)]; omega
theorem frK_le {k L : Nat} (hk : kOk k L) : frK k L ≤ L - 1 ∧ 1 ≤ L ∧ (k = 3 → frK k L = 1) ∧ (k = 4 → frK k L = 2) := by
  unfold frK
  rcases hk with ⟨rfl, h1, h2⟩ | ⟨rfl, h1, h2⟩ | ⟨rfl, h1, h2⟩ | ⟨rfl, h1, h2⟩ | ⟨rfl, h1, h2⟩
  · rw [if_neg (by decide), if_neg (by decide)]; omega
  · rw [if_neg (by decide), if_neg (by decide)]; omega
  · rw [if_pos rfl]; omega
  · rw [if_neg (by decide), if_pos rfl]; omega
  · rw [if_neg (by decide), if_neg (by decide)]; omega
section Count
variable {l : Launch} {g : mG} {d : Nat}
theorem c_Finder_takeLeast (dp L n cand : Nat) (hL : dp ≤ L ∧ L ≤ 7) (hn : n ≤ 12) (hcl : cand < 4096) (C : Nat → Prop) (hcb : ∀ q, cand.testBit q = true ↔ C q) (h : mMem) (e1 : h 1 0 1 = L) (e3 : h 1 0 3 = n) :
    mCon l g n_Finder_takeLeast d [.inr (1, 0), .inl dp, .inl cand] h (fun v h' => v = some (.inl (mBc (L - dp ≤ (lst C 0 n).length))) ∧ (L - dp ≤ (lst C 0 n).length → ∀ i, i < L - dp → h' 24 0 (dp + i) = ((lst C 0 n).getD i 0 : Nat)) ∧ farW dp h h') := by
  have tail : ∀ (p : Nat) (h1 : mMem), p ≤ n → (p = n ∨ (lst C 0 p).length = L - dp) → (lst C 0 p).length ≤ L - dp → (∀ i, i < (lst C 0 p).length → h1 24 0 (dp + i) = ((lst C 0 p).getD i 0 : Nat)) → farW dp h h1 →
      mGo l g (mMt n_Finder_takeLeast) d 49 [some (.inr (1, 0)), some (.inl dp), some (.inl cand), some (.inl (dp + (lst C 0 p).length : Nat)), some (.inl p)] [] h1 (fun v h' => v = some (.inl (mBc (L - dp ≤ (lst C 0 n).length))) ∧ (L - dp ≤ (lst C 0 n).length → ∀ i, i < L - dp → h' 24 0 (dp + i) = ((lst C 0 n).getD i 0 : Nat)) ∧ farW dp h h') := by
    intro p h1 hp hor hle hw f
    refine mGo_wp h_Finder_takeLeast 60 [] ?_
    have e1' : h1 1 0 1 = L := (f _ _ _ (by simp)).trans e1
    have ha := lst_app C 0 p (n - p)
    rw [show p + (n - p) = n by omega, Nat.zero_add] at ha
    have hlen : (lst C 0 n).length = (lst C 0 p).length + (lst C p (n - p)).length := by rw [ha, List.length_append]
    refine ⟨fun z => ?_, fun z => ?_⟩
    · rw [e1'] at z
      have hz : (lst C 0 n).length < L - dp := by
        rcases hor with rfl | y
        · omega
        · omega
      exact ⟨Or.inl rfl, by rw [mBc_f (by omega)], fun y => by omega, f⟩
    · rw [e1'] at z
      refine ⟨Or.inr rfl, by rw [mBc_t (by omega)], fun _ i hi => ?_, f⟩
      rw [hw i (by omega), ha, getD_left (by omega)]
  have loop : ∀ (m p : Nat) (h1 : mMem), p + m = n → (lst C 0 p).length ≤ L - dp → (∀ i, i < (lst C 0 p).length → h1 24 0 (dp + i) = ((lst C 0 p).getD i 0 : Nat)) → farW dp h h1 →
      mGo l g (mMt n_Finder_takeLeast) d 5 [some (.inr (1, 0)), some (.inl dp), some (.inl cand), some (.inl (dp + (lst C 0 p).length : Nat)), some (.inl p)] [] h1 (fun v h' => v = some (.inl (mBc (L - dp ≤ (lst C 0 n).length))) ∧ (L - dp ≤ (lst C 0 n).length → ∀ i, i < L - dp → h' 24 0 (dp + i) = ((lst C 0 n).getD i 0 : Nat)) ∧ farW dp h h') := by
    intro m
    induction m with
    | zero =>
      intro p h1 hp hle hw f
      refine mGo_wp h_Finder_takeLeast 60 [5, 49] ?_
      have e3' : h1 1 0 3 = n := (f _ _ _ (by simp)).trans e3
      refine ⟨fun _ => ?_, fun z => by rw [e3'] at z; omega⟩
      exact tail p h1 (by omega) (Or.inl (by omega)) hle hw f
    | succ m ih =>
      intro p h1 hp hle hw f
      refine mGo_wp h_Finder_takeLeast 60 [5, 49] ?_
      have e3' : h1 1 0 3 = n := (f _ _ _ (by simp)).trans e3
      have e1' : h1 1 0 1 = L := (f _ _ _ (by simp)).trans e1
      have hbit := bit_at cand p hcl (by omega)
      refine ⟨fun z => by rw [e3'] at z; omega, fun _ => ⟨fun z => ?_, fun z => ⟨fun y => ?_, fun y => ⟨⟨by omega, by rw [e1'] at z; omega⟩, ?_⟩⟩⟩⟩
      · rw [e1'] at z
        exact tail p h1 (by omega) (Or.inr (by omega)) hle hw f
      · rw [hbit] at y
        have hC : ¬ C p := fun w => by
          rw [if_pos ((hcb p).mpr w)] at y
          exact y rfl
        have e0 : lst C 0 (p + 1) = lst C 0 p := by
          rw [lst_app, Nat.zero_add, lst_no hC]
          exact List.append_nil _
        have q := ih (p + 1) h1 (by omega)
        rw [e0] at q
        show mGo l g _ _ 5 [_, _, _, _, some (.inl (mWr ((p : Int) + 1)))] [] h1 _
        rw [mWr_of ⟨by omega, by omega⟩]
        exact q hle hw f
      · rw [hbit] at y
        rw [e1'] at z
        have hC : C p := by
          by_cases hb : cand.testBit p = true
          · exact (hcb p).mp hb
          · rw [if_neg hb] at y
            exact absurd y (by decide)
        have e0 : lst C 0 (p + 1) = lst C 0 p ++ [p] := by
          rw [lst_app, Nat.zero_add, lst_yes hC]
          rfl
        have q := ih (p + 1) (mSet h1 24 0 (dp + (lst C 0 p).length) p) (by omega)
        rw [e0, app_len] at q
        show mGo l g _ _ 5 [_, _, _, some (.inl (mWr (((dp + (lst C 0 p).length : Nat) : Int) + 1))), some (.inl (mWr ((p : Int) + 1)))] [] (mSet h1 24 0 (Int.toNat ((dp + (lst C 0 p).length : Nat) : Int)) (p : Int)) _
        rw [mWr_of ⟨by omega, by omega⟩, mWr_of ⟨by omega, by omega⟩, Int.toNat_natCast]
        refine q (by omega) (fun i hi => ?_) (f.tr (fun t j k w => mSet_no (fun x => w ⟨x.1, by omega⟩)))
        by_cases hq : i = (lst C 0 p).length
        · rw [hq, mSet_at, getD_app1]
        · rw [mSet_no (fun x => hq (by omega)), getD_app2 _ _ _ (by omega)]
          exact hw i (by omega)
  refine e_Finder_takeLeast (fun hv hm => ?_)
  refine mGo_wp h_Finder_takeLeast 60 [5] ?_
  exact loop n 0 h (by omega) (Nat.zero_le _) (fun i hi => absurd hi (Nat.not_lt_zero i)) farW.rf
theorem takes_len (T : Nat → Int) (c : Int) (k L n : Nat) (hn : n ≤ 12) (j : Nat) (hj : j ≤ 7) (r es : List Nat) : (takesF T c 0 k L n j r es).length ≤ 35831808 :=
  Nat.le_trans (List.length_filter_le _ _) (Nat.le_trans (rowsF_len k L n hn j r es) (show 12 ^ j ≤ 12 ^ 7 from Nat.pow_le_pow_right (by decide) hj))
theorem takes_zero {T : Nat → Int} {c : Int} {k L n : Nat} {r : List Nat} {C : Nat → Prop} (hk : kOk k L) (hr : r.length = frK k L) (hC : ∀ q, C q ↔ cdP T c k L n r q) (es : List Nat) (ms : msN T c es = 0) :
    (takesF T c 0 k L n (L - r.length) r es).length = bn (lst C 0 n).length (L - r.length) ∧ (L - r.length ≤ (lst C 0 n).length → ∃ es' xs, takesF T c 0 k L n (L - r.length) r es = (r ++ (lst C 0 n).take (L - r.length), es') :: xs) := by
  have q := free_count (free_of (T := T) (c := c) (n := n) hk hr) (L - r.length) 0 [] es (Nat.zero_add _) List.Pairwise.nil (fun x hx => (List.not_mem_nil hx).elim) (fun x hx => (List.not_mem_nil hx).elim) (fun _ _ x hx => (List.not_mem_nil hx).elim) (fun q hq _ => absurd hq (Nat.not_lt_zero q)) (Nat.zero_le n) ms
  rw [List.append_nil, Nat.sub_zero, ← lst_congr hC] at q
  exact q
theorem c_countFrom (c : Nat) (T : Nat → Int) (k L n : Nat) (hk : kOk k L) (hn : n ≤ 12) (fb : farB T n) : ∀ (i : Nat) (r es : List Nat) (cand used : Nat) (h : mMem), r.length + i = frK k L → (∀ x ∈ r, x < n) → cand < 4096 → (∀ q, cand.testBit q = true ↔ cdP T c k L n r q) → used < 4096 → (∀ q, used.testBit q = true ↔ q ∈ r) → msN T c es = 0 → fSt h T c k L n → rowF h r →
    mCon l g n_Finder_countFrom (d + 2 + i) [.inr (1, 0), .inl r.length, .inl cand, .inl used] h (fun v h' => v = some (.inl ((takesF T c 0 k L n (L - r.length) r es).length : Nat)) ∧ farW r.length h h') := by
  have hL7 := kOk_le hk
  obtain ⟨fr1, fr2, fr3, fr4⟩ := frK_le hk
  intro i
  induction i with
  | zero =>
    intro r es cand used h hr hx hcl hcb hul hub ms e er
    show mCon l g n_Finder_countFrom (d + 1 + 1) _ _ _
    obtain ⟨e1, e2, e3, e4⟩ := e
    have hr' : r.length = frK k L := by omega
    refine e_Finder_countFrom (fun hv hm => ?_)
    refine mGo_wp h_Finder_countFrom 120 [] ?_
    refine mCall_is (c_Finder_isRestFree r.length k L ⟨fr2, by omega⟩ h e1 e2) ?_
    rw [mB_congr (rest_iff hk r.length), mB_t (by omega)]
    refine ⟨fun z => absurd z (by decide), fun _ => ?_⟩
    refine mCall_is (c_Int_bitCount cand hcl h) ?_
    have hb : bc cand ≤ 12 := cn_le _ 12
    have w : mWr (h 1 0 1 - (r.length : Int)) = ((L - r.length : Nat) : Int) := by rw [e1, mWr_of ⟨by omega, by omega⟩]; omega
    have q := c_K_choose (l := l) (g := g) (d := d + 1) (bc cand) (L - r.length) (by omega) (by omega) h
    rw [← w] at q
    refine mCall_is q ?_
    refine ⟨?_, farW.rf⟩
    rw [(takes_zero hk hr' (fun q => Iff.rfl) es ms).1, bc_lst hn hcb (fun q hq => hq.1)]
  | succ i ih =>
    intro r es cand used h hr hx hcl hcb hul hub ms e er
    show mCon l g n_Finder_countFrom (d + 2 + i + 1) _ _ _
    obtain ⟨j, hj⟩ : ∃ j, L - r.length = j + 1 := ⟨L - r.length - 1, by omega⟩
    rw [hj, takesF_succ]
    have hbd : (takesP T c 0 k L n j r es 0 n).length ≤ 35831808 := by
      rw [← takesF_succ]
      exact takes_len T c k L n hn (j + 1) (by omega) r es
    have loop : ∀ (m p : Nat) (x6 : Option mRV) (s : Nat) (h1 : mMem), p + m = n → farW r.length h h1 → s + (takesP T c 0 k L n j r es p m).length = (takesP T c 0 k L n j r es 0 n).length →
        mGo l g (mMt n_Finder_countFrom) (d + 2 + i + 1) 28 [some (.inr (1, 0)), some (.inl r.length), some (.inl cand), some (.inl used), some (.inl s), some (.inl p), x6] [] h1 (fun v h' => v = some (.inl ((takesP T c 0 k L n j r es 0 n).length : Nat)) ∧ farW r.length h h') := by
      intro m
      induction m with
      | zero =>
        intro p x6 s h1 hp f hs
        refine mGo_wp h_Finder_countFrom 120 [28] ?_
        have e3' := (fSt_W e f).2.2.1
        refine ⟨fun _ => ⟨?_, f⟩, fun z => by rw [e3'] at z; omega⟩
        rw [← hs]
        rfl
      | succ m ihm =>
        intro p x6 s h1 hp f hs
        refine mGo_wp h_Finder_countFrom 120 [28] ?_
        have eF := fSt_W e f
        obtain ⟨e1', e2', e3', e4'⟩ := id eF
        have hbit := bit_at cand p hcl (by omega)
        refine ⟨fun z => by rw [e3'] at z; omega, fun _ => ⟨fun y => ?_, fun y => ⟨⟨by omega, by omega⟩, ?_⟩⟩⟩
        · rw [hbit] at y
          have hC : ¬ cdP T c k L n r p := fun w => by
            rw [if_pos ((hcb p).mpr w)] at y
            exact y rfl
          rw [takesP_no (fun w => hC ⟨by omega, w.1, by rw [ms] at w; exact w.2⟩)] at hs
          show mGo l g _ _ 28 [_, _, _, _, _, some (.inl (mWr ((p : Int) + 1))), _] [] h1 _
          rw [mWr_of ⟨by omega, by omega⟩]
          exact ihm (p + 1) x6 s h1 (by omega) f hs
        · rw [hbit] at y
          have hC : cdP T c k L n r p := by
            by_cases hb : cand.testBit p = true
            · exact (hcb p).mp hb
            · rw [if_neg hb] at y
              exact absurd y (by decide)
          have hp2 : 2 ^ p < 2 ^ 12 := Nat.pow_lt_pow_right (by decide) (show p < 12 by omega)
          have ht2 : used ||| 2 ^ p < 4096 := Nat.or_lt_two_pow (n := 12) hul hp2
          have wt : mOr (used : Int) (mShl 1 (p : Int)) = ((used ||| 2 ^ p : Nat) : Int) := by rw [mShl_1 _ (by omega), mOr_nat (by omega) (by omega)]
          have wd : mWr ((r.length : Int) + 1) = (((r ++ [p]).length : Nat) : Int) := by rw [mWr_of ⟨by omega, by omega⟩, app_len]; rfl
          have f2 : farW r.length h1 (mSet h1 24 0 r.length (p : Int)) := fun t a q w => mSet_no (fun x => w ⟨x.1, by omega⟩)
          have er2 := rowF_add (p := p) (rowF_W er f)
          have hx2 : ∀ x ∈ r ++ [p], x < n := fun x hx' => by
            rcases List.mem_append.mp hx' with w | w
            · exact hx x w
            · rw [List.mem_singleton.mp w]; omega
          have qc := c_Finder_candidatesAfter (l := l) (g := g) (d := d + 1 + i) c T k L n hk hn fb r p (fun x hx' => by have := hx2 x hx'; omega) (by omega) (fun z => by have := fr3 z; omega) (fun z => by have := fr4 z; omega) cand (used ||| 2 ^ p) hcl hcb hC ht2 (or_bit hub) (mSet h1 24 0 r.length (p : Int)) (fSt_W eF f2) er2
          rw [← wt] at qc
          refine mCall_on2 (mCon_lift (by omega) qc) ?_
          rintro v h2 ⟨rfl, z, rfl, z1, z2⟩
          have ms2 : msN T c (es ++ newE k L r p) = 0 := by
            have := hC.2.2.2
            rw [msN_app, ms]
            omega
          have qi := ih (r ++ [p]) (es ++ newE k L r p) z (used ||| 2 ^ p) (mSet h1 24 0 r.length (p : Int)) (by rw [app_len]; omega) hx2 z1 z2 ht2 (or_bit hub) ms2 (fSt_W eF f2) er2
          rw [← wt, ← wd] at qi
          refine mCall_on2 qi ?_
          rintro v h3 ⟨rfl, f3⟩
          have hok : p ∉ r ∧ okP T c k L 0 (msN T c es) r p := by rw [ms]; exact hC.2
          rw [takesP_yes hok, List.length_append] at hs
          have hjj : L - (r ++ [p]).length = j := by rw [app_len]; omega
          show mGo l g _ _ 28 [_, _, _, _, some (.inl (mWr ((s : Int) + ((takesF T c 0 k L n (L - (r ++ [p]).length) (r ++ [p]) (es ++ newE k L r p)).length : Nat)))), some (.inl (mWr ((p : Int) + 1))), _] [] h3 _
          rw [hjj, mWr_of (x := (p : Int) + 1) ⟨by omega, by omega⟩, mWr_of ⟨by omega, by omega⟩]
          have q := ihm (p + 1) (some (.inl (mOr (used : Int) (mShl 1 (p : Int))))) (s + (takesF T c 0 k L n j (r ++ [p]) (es ++ newE k L r p)).length) h3 (by omega) (f.tr (f2.tr (farW.le (by rw [app_len]; omega) f3))) (by omega)
          exact q
    refine e_Finder_countFrom (fun hv hm => ?_)
    refine mGo_wp h_Finder_countFrom 120 [28] ?_
    refine mCall_is (c_Finder_isRestFree r.length k L ⟨fr2, by omega⟩ h e.1 e.2.1) ?_
    rw [mB_congr (rest_iff hk r.length), mB_f (by omega)]
    refine ⟨fun _ => ?_, fun z => absurd rfl z⟩
    exact loop n 0 none 0 h (by omega) farW.rf (Nat.zero_add _)
end Count
end
section
section Find
variable {l : Launch} {g : mG} {d : Nat}
theorem c_findFrom (c : Nat) (T : Nat → Int) (k L n : Nat) (hk : kOk k L) (hn : n ≤ 12) (fb : farB T n) : ∀ (i : Nat) (r es : List Nat) (cand used : Nat) (h : mMem), r.length + i = frK k L → (∀ x ∈ r, x < n) → cand < 4096 → (∀ q, cand.testBit q = true ↔ cdP T c k L n r q) → used < 4096 → (∀ q, used.testBit q = true ↔ q ∈ r) → msN T c es = 0 → fSt h T c k L n → rowF h r →
    mCon l g n_Finder_findFrom (d + 2 + i) [.inr (1, 0), .inl r.length, .inl cand, .inl used] h (fun v h' => v = some (.inl (mBc (takesF T c 0 k L n (L - r.length) r es ≠ []))) ∧ (∀ x xs, takesF T c 0 k L n (L - r.length) r es = x :: xs → rowF h' x.1) ∧ farW r.length h h') := by
  have hL7 := kOk_le hk
  obtain ⟨fr1, fr2, fr3, fr4⟩ := frK_le hk
  intro i
  induction i with
  | zero =>
    intro r es cand used h hr hx hcl hcb hul hub ms e er
    show mCon l g n_Finder_findFrom (d + 1 + 1) _ _ _
    obtain ⟨e1, e2, e3, e4⟩ := e
    have hr' : r.length = frK k L := by omega
    refine e_Finder_findFrom (fun hv hm => ?_)
    refine mGo_wp h_Finder_findFrom 120 [] ?_
    refine mCall_is (c_Finder_isRestFree r.length k L ⟨fr2, by omega⟩ h e1 e2) ?_
    rw [mB_congr (rest_iff hk r.length), mB_t (by omega)]
    refine ⟨fun z => absurd z (by decide), fun _ => ?_⟩
    refine mCall_on2 (c_Finder_takeLeast r.length L n cand ⟨by omega, hL7⟩ hn hcl (cdP T c k L n r) hcb h e1 e3) ?_
    rintro v h' ⟨rfl, w, f⟩
    obtain ⟨t1, t2⟩ := takes_zero (n := n) hk hr' (fun q => Iff.rfl) es ms
    have key : takesF T c 0 k L n (L - r.length) r es ≠ [] ↔ L - r.length ≤ (lst (cdP T c k L n r) 0 n).length := by
      constructor
      · intro z
        by_cases y : L - r.length ≤ (lst (cdP T c k L n r) 0 n).length
        · exact y
        · rw [bn_zero _ _ (by omega)] at t1
          exact absurd (List.length_eq_zero_iff.mp t1) z
      · intro z y
        obtain ⟨es', xs, w2⟩ := t2 z
        rw [y] at w2
        cases w2
    refine ⟨mBc_01 _, ?_, fun x xs hxs => ?_, f⟩
    · rw [mBc_congr key]
    · have hz := key.mp (by rw [hxs]; simp)
      obtain ⟨es', xs', w2⟩ := t2 hz
      have hx1 : x.1 = r ++ (lst (cdP T c k L n r) 0 n).take (L - r.length) := by
        rw [hxs] at w2
        rw [(List.cons.inj w2).1]
      rw [hx1]
      intro j hj
      rw [List.length_append, List.length_take] at hj
      by_cases hq : j < r.length
      · rw [getD_left hq, f _ _ _ (by simp; omega)]
        exact er j hq
      · have hj2 : j = r.length + (j - r.length) := by omega
        rw [hj2, getD_right, getD_take (by omega)]
        exact w hz (j - r.length) (by omega)
  | succ i ih =>
    intro r es cand used h hr hx hcl hcb hul hub ms e er
    show mCon l g n_Finder_findFrom (d + 2 + i + 1) _ _ _
    obtain ⟨j, hj⟩ : ∃ j, L - r.length = j + 1 := ⟨L - r.length - 1, by omega⟩
    rw [hj, takesF_succ]
    have loop : ∀ (m p : Nat) (x5 : Option mRV) (h1 : mMem), p + m = n → farW r.length h h1 → takesP T c 0 k L n j r es p m = takesP T c 0 k L n j r es 0 n →
        mGo l g (mMt n_Finder_findFrom) (d + 2 + i + 1) 18 [some (.inr (1, 0)), some (.inl r.length), some (.inl cand), some (.inl used), some (.inl p), x5] [] h1 (fun v h' => v = some (.inl (mBc (takesP T c 0 k L n j r es 0 n ≠ []))) ∧ (∀ x xs, takesP T c 0 k L n j r es 0 n = x :: xs → rowF h' x.1) ∧ farW r.length h h') := by
      intro m
      induction m with
      | zero =>
        intro p x5 h1 hp f hs
        refine mGo_wp h_Finder_findFrom 120 [18] ?_
        have e3' := (fSt_W e f).2.2.1
        rw [← hs, takesP_zero]
        exact ⟨fun _ => ⟨Or.inl rfl, by rw [mBc_f (fun z => z rfl)], (fun x xs hxs => by cases hxs), f⟩, fun z => by rw [e3'] at z; omega⟩
      | succ m ihm =>
        intro p x5 h1 hp f hs
        refine mGo_wp h_Finder_findFrom 120 [18] ?_
        have eF := fSt_W e f
        obtain ⟨e1', e2', e3', e4'⟩ := id eF
        have hbit := bit_at cand p hcl (by omega)
        refine ⟨fun z => by rw [e3'] at z; omega, fun _ => ⟨fun y => ?_, fun y => ⟨⟨by omega, by omega⟩, ?_⟩⟩⟩
        · rw [hbit] at y
          have hC : ¬ cdP T c k L n r p := fun w => by
            rw [if_pos ((hcb p).mpr w)] at y
            exact y rfl
          rw [takesP_no (fun w => hC ⟨by omega, w.1, by rw [ms] at w; exact w.2⟩)] at hs
          show mGo l g _ _ 18 [_, _, _, _, some (.inl (mWr ((p : Int) + 1))), _] [] h1 _
          rw [mWr_of ⟨by omega, by omega⟩]
          exact ihm (p + 1) x5 h1 (by omega) f hs
        · rw [hbit] at y
          have hC : cdP T c k L n r p := by
            by_cases hb : cand.testBit p = true
            · exact (hcb p).mp hb
            · rw [if_neg hb] at y
              exact absurd y (by decide)
          have hp2 : 2 ^ p < 2 ^ 12 := Nat.pow_lt_pow_right (by decide) (show p < 12 by omega)
          have ht2 : used ||| 2 ^ p < 4096 := Nat.or_lt_two_pow (n := 12) hul hp2
          have wt : mOr (used : Int) (mShl 1 (p : Int)) = ((used ||| 2 ^ p : Nat) : Int) := by rw [mShl_1 _ (by omega), mOr_nat (by omega) (by omega)]
          have wd : mWr ((r.length : Int) + 1) = (((r ++ [p]).length : Nat) : Int) := by rw [mWr_of ⟨by omega, by omega⟩, app_len]; rfl
          have f2 : farW r.length h1 (mSet h1 24 0 r.length (p : Int)) := fun t a q w => mSet_no (fun x => w ⟨x.1, by omega⟩)
          have er2 := rowF_add (p := p) (rowF_W er f)
          have hx2 : ∀ x ∈ r ++ [p], x < n := fun x hx' => by
            rcases List.mem_append.mp hx' with w | w
            · exact hx x w
            · rw [List.mem_singleton.mp w]; omega
          have qc := c_Finder_candidatesAfter (l := l) (g := g) (d := d + 1 + i) c T k L n hk hn fb r p (fun x hx' => by have := hx2 x hx'; omega) (by omega) (fun z => by have := fr3 z; omega) (fun z => by have := fr4 z; omega) cand (used ||| 2 ^ p) hcl hcb hC ht2 (or_bit hub) (mSet h1 24 0 r.length (p : Int)) (fSt_W eF f2) er2
          rw [← wt] at qc
          refine mCall_on2 (mCon_lift (by omega) qc) ?_
          rintro v h2 ⟨rfl, z, rfl, z1, z2⟩
          have ms2 : msN T c (es ++ newE k L r p) = 0 := by
            have := hC.2.2.2
            rw [msN_app, ms]
            omega
          have qi := ih (r ++ [p]) (es ++ newE k L r p) z (used ||| 2 ^ p) (mSet h1 24 0 r.length (p : Int)) (by rw [app_len]; omega) hx2 z1 z2 ht2 (or_bit hub) ms2 (fSt_W eF f2) er2
          rw [← wt, ← wd] at qi
          refine mCall_on2 qi ?_
          rintro v h3 ⟨rfl, f4, f3⟩
          have hok : p ∉ r ∧ okP T c k L 0 (msN T c es) r p := by rw [ms]; exact hC.2
          rw [takesP_yes hok] at hs
          have hjj : L - (r ++ [p]).length = j := by rw [app_len]; omega
          rw [hjj] at f4 ⊢
          have f5 := f.tr (f2.tr (farW.le (m := r.length) (by rw [app_len]; omega) f3))
          refine ⟨fun y => ?_, fun y => ?_⟩
          · have hnil := Classical.not_not.mp (mBc_eq0.mp y)
            rw [hnil, List.nil_append] at hs
            show mGo l g _ _ 18 [_, _, _, _, some (.inl (mWr ((p : Int) + 1))), _] [] h3 _
            rw [mWr_of ⟨by omega, by omega⟩]
            exact ihm (p + 1) _ h3 (by omega) f5 hs
          · have hnn := mBc_ne0.mp y
            cases hxx : takesF T c 0 k L n j (r ++ [p]) (es ++ newE k L r p) with
            | nil => exact absurd hxx hnn
            | cons x xs =>
              rw [hxx] at hs f4
              rw [← hs]
              refine ⟨Or.inr rfl, by rw [mBc_t (by simp)], fun x' xs' hxs => ?_, f5⟩
              have := (List.cons.inj hxs).1
              rw [← this]
              exact f4 x xs rfl
    refine e_Finder_findFrom (fun hv hm => ?_)
    refine mGo_wp h_Finder_findFrom 120 [18] ?_
    refine mCall_is (c_Finder_isRestFree r.length k L ⟨fr2, by omega⟩ h e.1 e.2.1) ?_
    rw [mB_congr (rest_iff hk r.length), mB_f (by omega)]
    refine ⟨fun _ => ?_, fun z => absurd rfl z⟩
    exact loop n 0 none h (by omega) farW.rf rfl
theorem c_Finder_findFirst (i : Fin 8) (c : Nat) (N : nN) (o : nOk N) (hc : c < 3) (h : mMem) (e : isC h i N) : mCon l g n_Finder_findFirst (d + 9) [.inr (1, 0), .inr (4, i), .inl c] h (fun v h' => v = some (.inl (mBc (cpL N c 0 ≠ []))) ∧ (∀ x xs, cpL N c 0 = x :: xs → rowF h' x.1 ∧ h' 1 0 1 = x.1.length) ∧ farF h h') := by
  refine e_Finder_findFirst (fun hv hm => ?_)
  refine mGo_wp h_Finder_findFirst 60 [] ?_
  have hsz := o.2.2.1 c hc
  refine mCall_on2 (mCon_lift (by omega) (c_Finder_lookAt (d := d) i c hc N hsz h e)) ?_
  rintro v h1 ⟨rfl, e1, e2, e3, e4, f1⟩
  refine ⟨fun z => ?_, fun z => ?_⟩
  · rw [e2] at z
    have hnil : cpL N c 0 = [] := by unfold cpL; rw [if_pos z]
    rw [hnil]
    exact ⟨Or.inl rfl, by rw [mBc_f (fun z => z rfl)], (fun x xs hxs => by cases hxs), f1⟩
  · rw [e2] at z
    obtain ⟨k1, k2, k3, k4, k5⟩ := kOk_of hsz z
    have hcp : cpL N c 0 = takesF (nT N) c 0 (nkk N c) (nln N c) (nP N) (nln N c) [] [] := by unfold cpL; rw [if_neg z]
    have hn := o.1.2
    have hp2 : 2 ^ nP N ≤ 2 ^ 12 := Nat.pow_le_pow_right (by decide) hn
    have k1 : kOk (nkk N c) (nln N c) := k1
    have fr := frK_le k1
    have hL7 := kOk_le k1
    refine mCall_is (c_Net_pointBits i (nP N) hn h1 (isC_farF e f1).1) ?_
    have q := c_findFrom (l := l) (g := g) (d := d) c (nT N) (nkk N c) (nln N c) (nP N) k1 hn o.2.2.2.2 (frK (nkk N c) (nln N c)) [] [] (2 ^ nP N - 1) 0 h1 (Nat.zero_add _) (fun x hx => (List.not_mem_nil hx).elim) (by omega) (fun q => by rw [Nat.testBit_two_pow_sub_one, decide_eq_true_eq, cd_nil]) (by decide) (fun q => by simp) rfl ⟨by rw [e1, k3], by rw [e2, k2], e3, e4⟩ (fun j hj => absurd hj (Nat.not_lt_zero j))
    refine mCall_on2 (mCon_lift (by omega) q) ?_
    rintro v h2 ⟨rfl, g1, g2⟩
    rw [show nln N c - ([] : List Nat).length = nln N c from rfl, ← hcp] at g1 ⊢
    have gg : ∀ x xs, cpL N c 0 = x :: xs → rowF h2 x.1 ∧ h2 1 0 1 = x.1.length := fun x xs hxs => by
      refine ⟨g1 x xs hxs, ?_⟩
      rw [(cpL_row o hc (x := x) (mm := 0) (by rw [hxs]; exact List.mem_cons_self)).1, g2 _ _ _ (by simp), e1, k3]
    refine ⟨fun y => ⟨Or.inl rfl, by rw [y], gg, f1.tr g2.F⟩, fun y => ⟨Or.inr rfl, ?_, gg, f1.tr g2.F⟩⟩
    rw [mBc_t (mBc_ne0.mp y)]
theorem c_Finder_howMany (i : Fin 8) (c : Nat) (N : nN) (o : nOk N) (hc : c < 3) (h : mMem) (e : isC h i N) : mCon l g n_Finder_howMany (d + 9) [.inr (1, 0), .inr (4, i), .inl c] h (fun v h' => v = some (.inl ((cpL N c 0).length : Nat)) ∧ farF h h') := by
  refine e_Finder_howMany (fun hv hm => ?_)
  refine mGo_wp h_Finder_howMany 60 [] ?_
  have hsz := o.2.2.1 c hc
  refine mCall_on2 (mCon_lift (by omega) (c_Finder_lookAt (d := d) i c hc N hsz h e)) ?_
  rintro v h1 ⟨rfl, e1, e2, e3, e4, f1⟩
  refine ⟨fun z => ?_, fun z => ?_⟩
  · rw [e2] at z
    obtain ⟨k1, k2, k3, k4, k5⟩ := kOk_of hsz z
    have hcp : cpL N c 0 = takesF (nT N) c 0 (nkk N c) (nln N c) (nP N) (nln N c) [] [] := by unfold cpL; rw [if_neg z]
    have hn := o.1.2
    have hp2 : 2 ^ nP N ≤ 2 ^ 12 := Nat.pow_le_pow_right (by decide) hn
    have k1 : kOk (nkk N c) (nln N c) := k1
    have fr := frK_le k1
    have hL7 := kOk_le k1
    refine mCall_is (c_Net_pointBits i (nP N) hn h1 (isC_farF e f1).1) ?_
    have q := c_countFrom (l := l) (g := g) (d := d) c (nT N) (nkk N c) (nln N c) (nP N) k1 hn o.2.2.2.2 (frK (nkk N c) (nln N c)) [] [] (2 ^ nP N - 1) 0 h1 (Nat.zero_add _) (fun x hx => (List.not_mem_nil hx).elim) (by omega) (fun q => by rw [Nat.testBit_two_pow_sub_one, decide_eq_true_eq, cd_nil]) (by decide) (fun q => by simp) rfl ⟨by rw [e1, k3], by rw [e2, k2], e3, e4⟩ (fun j hj => absurd hj (Nat.not_lt_zero j))
    refine mCall_on2 (mCon_lift (by omega) q) ?_
    rintro v h2 ⟨rfl, g2⟩
    rw [show nln N c - ([] : List Nat).length = nln N c from rfl, ← hcp]
    exact ⟨rfl, f1.tr g2.F⟩
  · rw [e2] at z
    have hnil : cpL N c 0 = [] := by unfold cpL; rw [if_pos z]
    rw [hnil]
    exact ⟨rfl, f1⟩
theorem l_Finder_hasAny (i : Fin 8) (N : nN) (o : nOk N) (h : mMem) (e : isC h i N) : ∀ (n c : Nat) (h1 : mMem), c + n = nC N → farF h h1 → (∀ c', c' < c → cpL N c' 0 = []) → mGo l g (mMt n_Finder_hasAny) (d + 10) 2 [some (.inr (1, 0)), some (.inr (4, i)), some (.inl c)] [] h1 (fun v h' => v = some (.inl (mBc (¬ nClear N))) ∧ farF h h') := by
  have hC := o.2.1.2
  intro n
  induction n with
  | zero =>
    intro c h1 hc f hz
    refine mGo_wp h_Finder_hasAny 40 [2] ?_
    have e1 := (isC_farF e f).2.1
    refine ⟨fun _ => ⟨Or.inl rfl, ?_, f⟩, fun z => by rw [e1] at z; omega⟩
    rw [mBc_f (fun z => z (fun c' hc' => hz c' (by omega)))]
  | succ n ih =>
    intro c h1 hc f hz
    refine mGo_wp h_Finder_hasAny 40 [2] ?_
    have e2 := isC_farF e f
    have e1 := e2.2.1
    refine ⟨fun z => by rw [e1] at z; omega, fun _ => ?_⟩
    refine mCall_on2 (c_Finder_findFirst i c N o (by omega) h1 e2) ?_
    rintro v h' ⟨rfl, -, f2⟩
    refine ⟨fun z => ?_, fun z => ⟨Or.inr rfl, ?_, f.tr f2⟩⟩
    · show mGo l g _ _ 2 [_, _, some (.inl (mWr ((c : Int) + 1)))] [] h' _
      rw [mWr_of ⟨by omega, by omega⟩]
      refine ih (c + 1) h' (by omega) (f.tr f2) (fun c' hc' => ?_)
      by_cases hq : c' = c
      · rw [hq]
        exact Classical.not_not.mp (mBc_eq0.mp z)
      · exact hz c' (by omega)
    · rw [mBc_t (p := ¬ nClear N) (fun w => mBc_ne0.mp z (w c (by omega)))]
theorem c_Finder_hasAny (i : Fin 8) (N : nN) (o : nOk N) (h : mMem) (e : isC h i N) : mCon l g n_Finder_hasAny (d + 10) [.inr (1, 0), .inr (4, i)] h (fun v h' => v = some (.inl (mBc (¬ nClear N))) ∧ farF h h') := by
  refine e_Finder_hasAny (fun hv hm => ?_)
  refine mGo_wp h_Finder_hasAny 40 [2] ?_
  exact l_Finder_hasAny i N o h e (nC N) 0 h (by omega) farF.rf (fun c' hc' => by omega)
theorem l_Finder_clashes (i : Fin 8) (N : nN) (o : nOk N) (h : mMem) (e : isC h i N) : ∀ (n c : Nat) (h1 : mMem), c + n = nC N → farF h h1 → mGo l g (mMt n_Finder_clashes) (d + 10) 4 [some (.inr (1, 0)), some (.inr (4, i)), some (.inl (sm (fun c => (cpL N c 0).length) c : Nat)), some (.inl c)] [] h1 (fun v h' => v = some (.inl (nClash N : Nat)) ∧ farF h h') := by
  have hC := o.2.1.2
  intro n
  induction n with
  | zero =>
    intro c h1 hc f
    refine mGo_wp h_Finder_clashes 40 [4] ?_
    have e1 := (isC_farF e f).2.1
    have : c = nC N := by omega
    subst this
    exact ⟨fun _ => ⟨rfl, f⟩, fun z => by rw [e1] at z; omega⟩
  | succ n ih =>
    intro c h1 hc f
    refine mGo_wp h_Finder_clashes 40 [4] ?_
    have e2 := isC_farF e f
    have e1 := e2.2.1
    refine ⟨fun z => by rw [e1] at z; omega, fun _ => ?_⟩
    refine mCall_on2 (c_Finder_howMany i c N o (by omega) h1 e2) ?_
    rintro v h' ⟨rfl, f2⟩
    have b1 := nClash_part o (k := c) (by omega)
    have b2 := cpL_le o (c := c) (by omega)
    show mGo l g _ _ 4 [_, _, some (.inl (mWr (((sm (fun c => (cpL N c 0).length) c : Nat) : Int) + ((cpL N c 0).length : Nat)))), some (.inl (mWr ((c : Int) + 1)))] [] h' _
    rw [mWr_of ⟨by omega, by omega⟩, mWr_of ⟨by omega, by omega⟩]
    exact ih (c + 1) h' (by omega) (f.tr f2)
theorem c_Finder_clashes (i : Fin 8) (N : nN) (o : nOk N) (h : mMem) (e : isC h i N) : mCon l g n_Finder_clashes (d + 10) [.inr (1, 0), .inr (4, i)] h (fun v h' => v = some (.inl (nClash N : Nat)) ∧ farF h h') := by
  refine e_Finder_clashes (fun hv hm => ?_)
  refine mGo_wp h_Finder_clashes 40 [4] ?_
  exact l_Finder_clashes i N o h e (nC N) 0 h (by omega) farF.rf
end Find
end
section
/-! the class's clear, copies, copy, count -/
def scrC (h h' : mMem) : Prop := ∀ (t : Nat) (i : Fin 8) (k : Nat), ¬ (t = 0 ∨ t = 1 ∨ t = 2 ∨ t = 5 ∨ t = 7 ∨ (24 ≤ t ∧ t ≤ 30) ∨ ((t = 4 ∨ (20 ≤ t ∧ t ≤ 23)) ∧ i = 1)) → h' t i k = h t i k
theorem scrC.rf {h : mMem} : scrC h h := fun _ _ _ _ => rfl
theorem scrC.tr {h h1 h2 : mMem} (a : scrC h h1) (b : scrC h1 h2) : scrC h h2 := fun t i k z => (b t i k z).trans (a t i k z)
theorem scrC.ofF {h h1 : mMem} (a : farF h h1) : scrC h h1 := fun t i k z => a t i k (fun y => z (by omega))
theorem scrC.only {h h1 : mMem} (a : scrC h h1) : onlyC h h1 := fun t i k z => a t i k (fun y => by omega)
theorem isC_scr {h h' : mMem} {i : Fin 8} {N : nN} (e : isC h i N) (hi : i ≠ 1) (f : scrC h h') : isC h' i N := isC_eq e (fun t k ht => f t i k (fun y => by
  rcases y with y | y | y | y | y | y | y
  · omega
  · omega
  · omega
  · omega
  · omega
  · omega
  · exact hi y.2))
theorem RC_scr {h h' : mMem} {S : sS} (e : RC h S) (q : scrC h h') : RC h' S := by
  obtain ⟨a, b, c, d1, d2⟩ := e
  have qn : ∀ (t : Nat) (i : Fin 8) (k : Nat), i ≠ 1 → t = 4 ∨ t = 20 ∨ t = 21 ∨ t = 22 ∨ t = 23 → h' t i k = h t i k := fun t i k hi ht => q t i k (fun y => by
    rcases y with y | y | y | y | y | y | y
    · omega
    · omega
    · omega
    · omega
    · omega
    · omega
    · exact hi y.2)
  refine ⟨isC_eq a (fun t k ht => qn t 0 k (by decide) ht), hisC_eq b (q 3 0 0 (by omega)) (q 3 0 2 (by omega)) (fun t i k _ hi ht => qn t i k hi ht), (q 8 0 7 (by omega)).trans c, (q 6 0 3 (by omega)).trans d1, fun i hi => ?_⟩
  rw [q 31 0 _ (by omega), q 32 0 _ (by omega), q 33 0 _ (by omega)]
  exact d2 i hi
abbrev ansC (h : mMem) (S : sS) (a : Int) : Option mRV → mMem → Prop := fun r h' => r = some (.inl a) ∧ RC h' S ∧ onlyC h h'
theorem ansC_F {h h' : mMem} {S : sS} (e : RC h S) (f : farF h h') : RC h' S ∧ onlyC h h' := ⟨RC_scr e (scrC.ofF f), (scrC.ofF f).only⟩
section KClear
variable {l : Launch} {g : mG} {d : Nat}
theorem s_K_clear (h : mMem) (S : sS) (o : sOk S) (e : RC h S) : mCon l g n_K_clear (d + 11) [.inr (8, 0)] h (ansC h S (spClear S.1)) := by
  refine e_K_clear (fun hv hm => ?_)
  refine mGo_wp h_K_clear 40 [] ?_
  refine mCall_on2 (c_Finder_hasAny 0 S.1 o.1 h e.1) ?_
  rintro v h' ⟨rfl, f⟩
  unfold spClear
  refine ⟨fun z => ⟨?_, ansC_F e f⟩, fun z => ⟨?_, ansC_F e f⟩⟩
  · rw [mBc_t (Classical.not_not.mp (mBc_eq0.mp z))]
  · rw [mBc_f (mBc_ne0.mp z)]
theorem s_K_copies (q : Int) (h : mMem) (S : sS) (o : sOk S) (e : RC h S) : mCon l g n_K_copies (d + 10) [.inr (8, 0), .inl q] h (ansC h S (spCopies S.1 q)) := by
  refine e_K_copies (fun hv hm => ?_)
  refine mGo_wp h_K_copies 40 [] ?_
  have hC := o.1.2.1.2
  refine mCall_is (c_Net_hasColour 0 q h) ?_
  refine ⟨fun z => ?_, fun z => ?_⟩
  · rw [mB_eq0, e.1.2.1] at z
    exact ⟨by rw [spCopies, if_neg z], e, onlyC.rf⟩
  · have c := mB_ne0.mp z
    rw [e.1.2.1] at c
    obtain ⟨q', rfl⟩ := Int.eq_ofNat_of_zero_le c.1
    refine mCall_on2 (c_Finder_howMany 0 q' S.1 o.1 (by omega) h e.1) ?_
    rintro v h' ⟨rfl, f⟩
    exact ⟨by rw [spCopies, if_pos c, Int.toNat_natCast], ansC_F e f⟩
theorem s_K_copy (q i : Int) (h : mMem) (S : sS) (o : sOk S) (e : RC h S) : mCon l g n_K_copy (d + 10) [.inr (8, 0), .inl q, .inl i] h (ansC h S (spCopy S.1 q i)) := by
  refine e_K_copy (fun hv hm => ?_)
  refine mGo_wp h_K_copy 40 [18] ?_
  have hC := o.1.2.1.2
  refine mCall_is (c_Net_hasColour 0 q h) ?_
  refine ⟨fun z => ?_, fun z => ⟨fun z2 => ?_, fun z2 => ?_⟩⟩
  · rw [mB_eq0, e.1.2.1] at z
    exact ⟨by rw [spCopy, if_neg (fun w => z w.1)], e, onlyC.rf⟩
  · have c := mB_ne0.mp z
    rw [e.1.2.1] at c
    obtain ⟨q', rfl⟩ := Int.eq_ofNat_of_zero_le c.1
    refine mGo_wp h_K_copy 40 [] ?_
    refine mCall_on2 (c_Finder_findFirst 0 q' S.1 o.1 (by omega) h e.1) ?_
    rintro v h' ⟨rfl, w, f⟩
    unfold spCopy
    rw [if_pos ⟨c, z2⟩, Int.toNat_natCast]
    cases hx : cpL S.1 q' 0 with
    | nil => exact ⟨fun _ => ⟨rfl, ansC_F e f⟩, fun y => absurd (mBc_f (fun y => y rfl)) y⟩
    | cons x xs =>
      obtain ⟨w2, w1⟩ := w x xs hx
      have hl := (cpL_row o.1 (show q' < 3 by omega) (x := x) (mm := 0) (by rw [hx]; exact List.mem_cons_self)).2.1
      refine ⟨fun y => absurd (by simp) (mBc_eq0.mp y), fun _ => ⟨fun y => ?_, fun y => ?_⟩⟩
      · rw [w1] at y
        refine ⟨⟨z2, by omega⟩, ?_, ansC_F e f⟩
        rw [w2 i.toNat (by omega)]
        unfold fstAt
        dsimp only
        rw [if_pos y]
      · rw [w1] at y
        exact ⟨by unfold fstAt; dsimp only; rw [if_neg (by omega)], ansC_F e f⟩
  · exact ⟨by rw [spCopy, if_neg (fun w => by omega)], e, onlyC.rf⟩
theorem s_K_count (w : Int) (h : mMem) (S : sS) (o : sOk S) (e : RC h S) : mCon l g n_K_count (d + 11) [.inr (8, 0), .inl w] h (ansC h S (spCount S w)) := by
  refine e_K_count (fun hv hm => ?_)
  refine mGo_wp h_K_count 40 [] ?_
  unfold spCount
  refine ⟨⟨fun z => ?_, fun z => ?_, fun z => ?_, fun z => ?_, fun z => ?_, fun z => ?_, trivial⟩, fun z => ?_⟩
  · rw [if_pos z]
    exact ⟨by rw [e.1.1], e, onlyC.rf⟩
  · rw [if_neg (by omega), if_pos (by omega)]
    exact ⟨by rw [e.1.2.1], e, onlyC.rf⟩
  · rw [if_neg (by omega), if_neg (by omega), if_pos (by omega)]
    refine mCall_is (c_Net_bareCount 0 S.1 h o.1 e.1) ?_
    exact ⟨rfl, e, onlyC.rf⟩
  · rw [if_neg (by omega), if_neg (by omega), if_neg (by omega), if_pos (by omega)]
    refine mCall_on2 (c_Finder_clashes 0 S.1 o.1 h e.1) ?_
    rintro v h' ⟨rfl, f⟩
    exact ⟨rfl, ansC_F e f⟩
  · rw [if_neg (by omega), if_neg (by omega), if_neg (by omega), if_neg (by omega), if_pos (by omega)]
    obtain ⟨nx, b1, b2, b3, b4⟩ := e.2.1
    exact ⟨by rw [b3], e, onlyC.rf⟩
  · rw [if_neg (by omega), if_neg (by omega), if_neg (by omega), if_neg (by omega), if_neg (by omega), if_pos (by omega)]
    exact ⟨by rw [e.2.2.2.1], e, onlyC.rf⟩
  · have z : w < 0 ∨ 0 + ((6 : Nat) : Int) ≤ w := z
    rw [if_neg (by omega), if_neg (by omega), if_neg (by omega), if_neg (by omega), if_neg (by omega), if_neg (by omega)]
    exact ⟨rfl, e, onlyC.rf⟩
end KClear
end
section
/-! triangles -/
theorem sm_add (f : Nat → Nat) (a : Nat) : ∀ b, sm f (a + b) = sm f a + sm (fun i => f (a + i)) b
  | 0 => rfl
  | b + 1 => by
    show sm f (a + b) + f (a + b) = sm f a + (sm (fun i => f (a + i)) b + f (a + b))
    rw [sm_add f a b]
    omega
theorem sm_congr {f g : Nat → Nat} : ∀ n, (∀ k, k < n → f k = g k) → sm f n = sm g n
  | 0, _ => rfl
  | n + 1, h => by
    show sm f n + f n = sm g n + g n
    rw [sm_congr n (fun k hk => h k (by omega)), h n (by omega)]
theorem sm_plus (f g : Nat → Nat) : ∀ n, sm (fun k => f k + g k) n = sm f n + sm g n
  | 0 => rfl
  | n + 1 => by
    show sm (fun k => f k + g k) n + (f n + g n) = sm f n + f n + (sm g n + g n)
    rw [sm_plus f g n]
    omega
theorem sm_zero : ∀ n, sm (fun _ => 0) n = 0
  | 0 => rfl
  | n + 1 => by
    show sm (fun _ => 0) n + 0 = 0
    rw [sm_zero n]
theorem sm_pairs (F : Nat → Nat → Nat) : ∀ n, sm (fun j => sm (fun i => F i j) j) n = sm (fun i => sm (fun j => if i < j then F i j else 0) n) n
  | 0 => rfl
  | n + 1 => by
    show sm (fun j => sm (fun i => F i j) j) n + sm (fun i => F i n) n = sm (fun i => sm (fun j => if i < j then F i j else 0) n + (if i < n then F i n else 0)) n + (sm (fun j => if n < j then F n j else 0) n + (if n < n then F n n else 0))
    rw [sm_pairs F n, sm_plus, if_neg (Nat.lt_irrefl n), sm_congr (f := fun j => if n < j then F n j else 0) (g := fun _ => 0) n (fun k hk => if_neg (by omega)), sm_zero, sm_congr (f := fun i => if i < n then F i n else 0) (g := fun i => F i n) n (fun k hk => if_pos hk)]
    omega
theorem js_succ : ∀ n, n < 12 → js (n + 1) = js n + n := by decide +kernel
theorem jlo_js : ∀ j, j < 12 → ∀ i, i < j → jlo (js j + i) = i ∧ jhi (js j + i) = j := by decide +kernel
theorem sm_joins (F : Nat → Nat → Nat) : ∀ n, n ≤ 12 → sm (fun k => F (jlo k) (jhi k)) (js n) = sm (fun j => sm (fun i => F i j) j) n
  | 0, _ => rfl
  | n + 1, hn => by
    rw [js_succ n (by omega), sm_add, sm_joins F n (by omega)]
    show _ = sm (fun j => sm (fun i => F i j) j) n + sm (fun i => F i n) n
    rw [sm_congr (f := fun i => F (jlo (js n + i)) (jhi (js n + i))) (g := fun i => F i n) n (fun k hk => by
      obtain ⟨a, b⟩ := jlo_js n (by omega) k hk
      rw [a, b])]
def triB (N : nN) (i j k : Nat) : Bool := decide (j < k ∧ 0 ≤ nT N (jn i j) ∧ nT N (jn i k) = nT N (jn i j) ∧ nT N (jn j k) = nT N (jn i j))
def triF (N : nN) (i j : Nat) : Nat := cn (triB N i j) (nP N)
def nTri (N : nN) : Nat := sm (fun k => triF N (jlo k) (jhi k)) (js (nP N))
theorem cn_none {f : Nat → Bool} : ∀ n, (∀ k, k < n → f k = false) → cn f n = 0
  | 0, _ => rfl
  | n + 1, h => by
    show cn f n + (if f n = true then 1 else 0) = 0
    rw [cn_none n (fun k hk => h k (by omega)), h n (by omega), if_neg (by decide)]
theorem triF_le (N : nN) (o : nOk N) (i j : Nat) : triF N i j ≤ 12 := Nat.le_trans (cn_le _ _) o.1.2
section Tri
variable {l : Launch} {g : mG} {d : Nat}
theorem l_K_tri (N : nN) (o : nOk N) (h : mMem) (e : isC h 0 N) : ∀ (n k : Nat) (x3 x4 : Option mRV), k + n = js (nP N) → mGo l g (mMt n_K_triangles) (d + 1) 4 [some (.inr (8, 0)), some (.inl (sm (fun k => triF N (jlo k) (jhi k)) k : Nat)), some (.inl k), x3, x4] [] h (mIs (some (.inl (nTri N : Nat))) h) := by
  have hp := o.1.2
  have hj := js_le (nP N) (by omega)
  intro n
  induction n with
  | zero =>
    intro k x3 x4 hk
    refine mGo_wp h_K_triangles 120 [4] ?_
    refine mCall_is (c_Net_joinCount 0 (nP N) (by omega) h e.1) ?_
    refine ⟨fun _ => ⟨?_, rfl⟩, fun z => by omega⟩
    rw [show k = js (nP N) by omega]
    rfl
  | succ n ih =>
    intro k x3 x4 hk
    have tb := jlo_tab k (by omega)
    have hk66 : k < 66 := by omega
    have b1 : sm (fun k => triF N (jlo k) (jhi k)) k ≤ k * 12 := sm_le k (fun q _ => triF_le N o _ _)
    have b2 := triF_le N o (jlo k) (jhi k)
    have ttk := o.2.2.2.1 k hk66
    have next : ∀ (y3 y4 : Option mRV), mGo l g (mMt n_K_triangles) (d + 1) 4 [some (.inr (8, 0)), some (.inl (sm (fun k => triF N (jlo k) (jhi k)) k + triF N (jlo k) (jhi k) : Nat)), some (.inl (k + 1 : Nat)), y3, y4] [] h (mIs (some (.inl (nTri N : Nat))) h) := fun y3 y4 => ih (k + 1) y3 y4 (by omega)
    have inner : ∀ (m t : Nat), jhi k < t → t + m = max (nP N) (jhi k + 1) → mGo l g (mMt n_K_triangles) (d + 1) 34 [some (.inr (8, 0)), some (.inl (sm (fun k => triF N (jlo k) (jhi k)) k + cn (triB N (jlo k) (jhi k)) t : Nat)), some (.inl k), some (.inl (nT N k)), some (.inl t)] [] h (mIs (some (.inl (nTri N : Nat))) h) := by
      have hhi : jhi k < nP N := by
        by_cases z : jhi k < nP N
        · exact z
        · have := jn_ge (nP N) (by omega) (jlo k) (by omega) (jhi k) tb.2.2.2.1 (by omega) (by omega)
          omega
      have hmax : max (nP N) (jhi k + 1) = nP N := by omega
      rw [hmax]
      intro m
      induction m with
      | zero =>
        intro t ht htn
        refine mGo_wp h_K_triangles 120 [4] ?_
        refine ⟨fun _ => ?_, fun z => by rw [e.1] at z; omega⟩
        rw [show t = nP N by omega]
        have q := next (some (.inl (nT N k))) (some (.inl ((nP N : Nat) : Int)))
        show mGo l g _ _ 4 [_, _, some (.inl (mWr ((k : Int) + 1))), _, _] [] _ _
        rw [mWr_of ⟨by omega, by omega⟩]
        exact q
      | succ m ihm =>
        intro t ht htn
        refine mGo_wp h_K_triangles 120 [4, 34] ?_
        have c1 := cn_le (triB N (jlo k) (jhi k)) t
        have j1 := jn_lt (jlo k) (by omega) t (by omega) (by omega)
        have j2 := jn_lt (jhi k) (by omega) t (by omega) (by omega)
        have tk : ((k : Int)).toNat = k := Int.toNat_natCast k
        have hfin : ∀ (s : Nat), s = cn (triB N (jlo k) (jhi k)) (t + 1) → mGo l g (mMt n_K_triangles) (d + 1) 34 [some (.inr (8, 0)), some (.inl (sm (fun k => triF N (jlo k) (jhi k)) k + s : Nat)), some (.inl k), some (.inl (nT N k)), some (.inl (mWr ((t : Int) + 1)))] [] h (mIs (some (.inl (nTri N : Nat))) h) := by
          intro s hs
          rw [hs, mWr_of ⟨by omega, by omega⟩]
          exact ihm (t + 1) (by omega) (by omega)
        have hno : ¬ (triB N (jlo k) (jhi k) t = true) → mGo l g (mMt n_K_triangles) (d + 1) 34 [some (.inr (8, 0)), some (.inl (sm (fun k => triF N (jlo k) (jhi k)) k + cn (triB N (jlo k) (jhi k)) t : Nat)), some (.inl k), some (.inl (nT N k)), some (.inl (mWr ((t : Int) + 1)))] [] h (mIs (some (.inl (nTri N : Nat))) h) := fun z => hfin _ (cn_f z).symm
        refine ⟨fun z => by rw [e.1] at z; omega, fun _ => ⟨fun z => ?_, fun z => ⟨⟨by omega, by omega⟩, ?_⟩⟩⟩
        · have z : nT N k = -1 := z
          have hz : triF N (jlo k) (jhi k) = cn (triB N (jlo k) (jhi k)) t := by
            have hb : ∀ q, triB N (jlo k) (jhi k) q = false := fun q => by
              unfold triB
              refine decide_eq_false (fun w => ?_)
              rw [tb.2.2.2.2] at w
              omega
            unfold triF
            rw [cn_none _ (fun q _ => hb q), cn_none _ (fun q _ => hb q)]
          have q := next (some (.inl (nT N k))) (some (.inl (t : Int)))
          rw [hz] at q
          show mGo l g _ _ 4 [_, _, some (.inl (mWr ((k : Int) + 1))), _, _] [] _ _
          rw [mWr_of ⟨by omega, by omega⟩]
          exact q
        · have z : nT N k ≠ -1 := z
          rw [tk, tb.1]
          refine mCall_is (c_K_numberOf (jlo k) t (by omega) (by omega) h) ?_
          have r1 : h 22 0 (Int.toNat ((jn (jlo k) t : Nat) : Int)) = nT N (jn (jlo k) t) := by rw [Int.toNat_natCast, e.2.2.2.2.1 _ j1]
          refine ⟨⟨by omega, by omega⟩, ⟨fun y => ?_, fun y => ⟨⟨by omega, by omega⟩, ?_⟩⟩⟩
          · rw [r1] at y
            refine hno (fun w => y ?_)
            unfold triB at w
            rw [decide_eq_true_eq, tb.2.2.2.2] at w
            exact w.2.2.1
          · rw [r1] at y
            have y : nT N (jn (jlo k) t) = nT N k := y
            rw [tk, tb.2.1]
            refine mCall_is (c_K_numberOf (jhi k) t (by omega) (by omega) h) ?_
            have r2 : h 22 0 (Int.toNat ((jn (jhi k) t : Nat) : Int)) = nT N (jn (jhi k) t) := by rw [Int.toNat_natCast, e.2.2.2.2.1 _ j2]
            refine ⟨⟨by omega, by omega⟩, ⟨fun x => ?_, fun x => ?_⟩⟩
            · rw [r2] at x
              refine hno (fun w => x ?_)
              unfold triB at w
              rw [decide_eq_true_eq, tb.2.2.2.2] at w
              exact w.2.2.2
            · rw [r2] at x
              have x : nT N (jn (jhi k) t) = nT N k := x
              have hb : triB N (jlo k) (jhi k) t = true := by
                unfold triB
                rw [decide_eq_true_eq, tb.2.2.2.2]
                exact ⟨ht, by omega, y, x⟩
              have q := hfin _ (cn_t hb).symm
              show mGo l g _ _ 34 [_, some (.inl (mWr (((sm (fun k => triF N (jlo k) (jhi k)) k + cn (triB N (jlo k) (jhi k)) t : Nat) : Int) + 1))), _, _, _] [] _ _
              rw [mWr_of (x := ((sm (fun k => triF N (jlo k) (jhi k)) k + cn (triB N (jlo k) (jhi k)) t : Nat) : Int) + 1) ⟨by omega, by omega⟩]
              exact q
    refine mGo_wp h_K_triangles 120 [4, 34] ?_
    refine mCall_is (c_Net_joinCount 0 (nP N) (by omega) h e.1) ?_
    refine ⟨fun z => by omega, fun _ => ⟨⟨by omega, by omega⟩, ⟨by omega, by omega⟩, ?_⟩⟩
    have tk : ((k : Int)).toNat = k := Int.toNat_natCast k
    have q := inner (max (nP N) (jhi k + 1) - (jhi k + 1)) (jhi k + 1) (by omega) (by omega)
    rw [cn_none (jhi k + 1) (fun q hq => by unfold triB; exact decide_eq_false (fun w => by omega))] at q
    show mGo l g _ _ 34 [_, _, _, some (.inl (h 22 0 ((k : Int)).toNat)), some (.inl (mWr ((mTab 104).getD ((k : Int)).toNat 0 + 1)))] [] _ _
    rw [tk, e.2.2.2.2.1 k hk66, tb.2.1, mWr_of ⟨by omega, by omega⟩]
    exact q
theorem c_K_triangles (N : nN) (o : nOk N) (h : mMem) (e : isC h 0 N) : mCon l g n_K_triangles (d + 1) [.inr (8, 0)] h (mIs (some (.inl (nTri N : Nat))) h) := by
  refine e_K_triangles (fun hv hm => ?_)
  refine mGo_wp h_K_triangles 120 [4] ?_
  exact l_K_tri N o h e (js (nP N)) 0 none none (by omega)
def triG (N : nN) (i j : Nat) : Nat := if i < j then triF N i j else 0
theorem triG_le (N : nN) (o : nOk N) (i j : Nat) : triG N i j ≤ 12 := by
  unfold triG
  split
  · exact triF_le N o i j
  · omega
theorem tri_eq (N : nN) (o : nOk N) : sm (fun i => sm (triG N i) (nP N)) (nP N) = nTri N := by
  unfold nTri
  rw [sm_joins (triF N) (nP N) o.1.2, sm_pairs (triF N) (nP N)]
  rfl
theorem l_M_tri (N : nN) (o : nOk N) (h : mMem) (e : isM h N) : ∀ (n i : Nat) (x3 x4 x5 : Option mRV), i + n = nP N → mGo l g (mMt n_M_triangles) (d + 1) 4 [some (.inr (9, 0)), some (.inl (sm (fun i => sm (triG N i) (nP N)) i : Nat)), some (.inl i), x3, x4, x5] [] h (mIs (some (.inl (nTri N : Nat))) h) := by
  have hp := o.1.2
  intro n
  induction n with
  | zero =>
    intro i x3 x4 x5 hi
    refine mGo_wp h_M_triangles 120 [4] ?_
    refine ⟨fun _ => ⟨?_, rfl⟩, fun z => by rw [e.1] at z; omega⟩
    rw [show i = nP N by omega, tri_eq N o]
  | succ n ih =>
    intro i x3 x4 x5 hi
    have b0 : sm (fun i => sm (triG N i) (nP N)) i ≤ i * 144 := sm_le i (fun q _ => by
      have := sm_le (f := triG N q) (B := 12) (nP N) (fun k _ => triG_le N o q k)
      omega)
    have mid : ∀ (m j : Nat) (y4 y5 : Option mRV), i < j → j + m = nP N → mGo l g (mMt n_M_triangles) (d + 1) 16 [some (.inr (9, 0)), some (.inl (sm (fun i => sm (triG N i) (nP N)) i + sm (triG N i) j : Nat)), some (.inl i), some (.inl j), y4, y5] [] h (mIs (some (.inl (nTri N : Nat))) h) := by
      intro m
      induction m with
      | zero =>
        intro j y4 y5 hij hj
        refine mGo_wp h_M_triangles 120 [4] ?_
        refine ⟨fun _ => ?_, fun z => by rw [e.1] at z; omega⟩
        have q := ih (i + 1) (some (.inl (j : Int))) y4 y5 (by omega)
        show mGo l g _ _ 4 [_, _, some (.inl (mWr ((i : Int) + 1))), _, _, _] [] _ _
        rw [mWr_of ⟨by omega, by omega⟩, show j = nP N by omega]
        rw [show j = nP N by omega] at q
        exact q
      | succ m ihm =>
        intro j y4 y5 hij hj
        have b1 : sm (triG N i) j ≤ j * 12 := sm_le j (fun k _ => triG_le N o i k)
        have jj := jn_lt i (by omega) j (by omega) (by omega)
        have inner : ∀ (m2 t : Nat) (y5 : Option mRV), j < t → t + m2 = nP N → mGo l g (mMt n_M_triangles) (d + 1) 29 [some (.inr (9, 0)), some (.inl (sm (fun i => sm (triG N i) (nP N)) i + sm (triG N i) j + cn (triB N i j) t : Nat)), some (.inl i), some (.inl j), some (.inl t), y5] [] h (mIs (some (.inl (nTri N : Nat))) h) := by
          intro m2
          induction m2 with
          | zero =>
            intro t y5 ht htn
            refine mGo_wp h_M_triangles 120 [16] ?_
            refine ⟨fun _ => ?_, fun z => by rw [e.1] at z; omega⟩
            have q := ihm (j + 1) (some (.inl (t : Int))) y5 (by omega) (by omega)
            have e1 : sm (triG N i) (j + 1) = sm (triG N i) j + cn (triB N i j) t := by
              show sm (triG N i) j + triG N i j = _
              unfold triG
              rw [if_pos hij, show t = nP N by omega]
              rfl
            rw [e1, ← Nat.add_assoc] at q
            show mGo l g _ _ 16 [_, _, _, some (.inl (mWr ((j : Int) + 1))), _, _] [] _ _
            rw [mWr_of ⟨by omega, by omega⟩]
            exact q
          | succ m2 ihi =>
            intro t y5 ht htn
            refine mGo_wp h_M_triangles 120 [29] ?_
            have c1 := cn_le (triB N i j) t
            have j1 := jn_lt i (by omega) t (by omega) (by omega)
            have j2 := jn_lt j (by omega) t (by omega) (by omega)
            have r0 : h 42 0 (Int.toNat ((jn i j : Nat) : Int)) = nT N (jn i j) := by rw [Int.toNat_natCast, e.2.2.2.2 _ jj]
            have r1 : h 42 0 (Int.toNat ((jn i t : Nat) : Int)) = nT N (jn i t) := by rw [Int.toNat_natCast, e.2.2.2.2 _ j1]
            have r2 : h 42 0 (Int.toNat ((jn j t : Nat) : Int)) = nT N (jn j t) := by rw [Int.toNat_natCast, e.2.2.2.2 _ j2]
            have hno : ∀ v5 : Int, ¬ (triB N i j t = true) → mGo l g (mMt n_M_triangles) (d + 1) 29 [some (.inr (9, 0)), some (.inl (mWr (((sm (fun i => sm (triG N i) (nP N)) i + sm (triG N i) j + cn (triB N i j) t : Nat) : Int) + 0))), some (.inl i), some (.inl j), some (.inl (mWr ((t : Int) + 1))), some (.inl v5)] [] h (mIs (some (.inl (nTri N : Nat))) h) := fun v5 z => by
              rw [mWr_of (x := (t : Int) + 1) ⟨by omega, by omega⟩, mWr_of ⟨by omega, by omega⟩, Int.add_zero]
              have q := ihi (t + 1) (some (.inl v5)) (by omega) (by omega)
              rw [cn_f z] at q
              exact q
            refine ⟨fun z => by rw [e.1] at z; omega, fun _ => ?_⟩
            refine mCall_is (c_M_join i j (by omega) (by omega) h) ?_
            refine ⟨⟨by omega, by omega⟩, ?_⟩
            rw [r0]
            refine ⟨fun z => ?_, fun z => ?_⟩
            · refine hno _ (fun w => ?_)
              unfold triB at w
              rw [decide_eq_true_eq] at w
              omega
            · refine mCall_is (c_M_join i t (by omega) (by omega) h) ?_
              refine ⟨⟨by omega, by omega⟩, ⟨fun y => ?_, fun y => ?_⟩⟩
              · rw [r1] at y
                refine hno _ (fun w => y ?_)
                unfold triB at w
                rw [decide_eq_true_eq] at w
                exact w.2.2.1
              · rw [r1] at y
                refine mCall_is (c_M_join j t (by omega) (by omega) h) ?_
                refine ⟨⟨by omega, by omega⟩, ⟨fun x => ?_, fun x => ?_⟩⟩
                · rw [r2] at x
                  refine hno _ (fun w => x ?_)
                  unfold triB at w
                  rw [decide_eq_true_eq] at w
                  exact w.2.2.2
                · rw [r2] at x
                  have hb : triB N i j t = true := by
                    unfold triB
                    rw [decide_eq_true_eq]
                    exact ⟨ht, z, y, x⟩
                  have q := ihi (t + 1) (some (.inl (nT N (jn i j)))) (by omega) (by omega)
                  rw [cn_t hb] at q
                  show mGo l g _ _ 29 [_, some (.inl (mWr (((sm (fun i => sm (triG N i) (nP N)) i + sm (triG N i) j + cn (triB N i j) t : Nat) : Int) + 1))), _, _, some (.inl (mWr ((t : Int) + 1))), _] [] _ _
                  rw [mWr_of (x := (t : Int) + 1) ⟨by omega, by omega⟩, mWr_of ⟨by omega, by omega⟩]
                  exact q
        refine mGo_wp h_M_triangles 120 [29] ?_
        refine ⟨fun z => by rw [e.1] at z; omega, fun _ => ?_⟩
        have q := inner (nP N - (j + 1)) (j + 1) y5 (by omega) (by omega)
        rw [cn_none (j + 1) (fun q hq => by unfold triB; exact decide_eq_false (fun w => by omega))] at q
        show mGo l g _ _ 29 [_, _, _, _, some (.inl (mWr ((j : Int) + 1))), _] [] _ _
        rw [mWr_of ⟨by omega, by omega⟩]
        exact q
    refine mGo_wp h_M_triangles 120 [16] ?_
    refine ⟨fun z => by rw [e.1] at z; omega, fun _ => ?_⟩
    have q := mid (nP N - (i + 1)) (i + 1) x4 x5 (by omega) (by omega)
    rw [sm_congr (f := triG N i) (g := fun _ => 0) (i + 1) (fun k hk => if_neg (by omega)), sm_zero] at q
    show mGo l g _ _ 16 [_, _, _, some (.inl (mWr ((i : Int) + 1))), _, _] [] _ _
    rw [mWr_of ⟨by omega, by omega⟩]
    exact q
theorem c_M_triangles (N : nN) (o : nOk N) (h : mMem) (e : isM h N) : mCon l g n_M_triangles (d + 1) [.inr (9, 0)] h (mIs (some (.inl (nTri N : Nat))) h) := by
  refine e_M_triangles (fun hv hm => ?_)
  refine mGo_wp h_M_triangles 120 [4] ?_
  exact l_M_tri N o h e (nP N) 0 none none none (by omega)
end Tri
end
section
/-! the net replaced; colourings turned round -/
def chgM (h h' : mMem) : Prop := ∀ (t : Nat) (i : Fin 8) (k : Nat), ¬ ((40 ≤ t ∧ t ≤ 42) ∨ (44 ≤ t ∧ t ≤ 54) ∨ t = 56 ∨ (t = 9 ∧ k ≠ 6 ∧ k ≠ 38 ∧ k ≠ 43)) → h' t i k = h t i k
def chgC (h h' : mMem) : Prop := ∀ (t : Nat) (i : Fin 8) (k : Nat), ¬ (t = 0 ∨ t = 1 ∨ t = 2 ∨ t = 5 ∨ t = 7 ∨ (24 ≤ t ∧ t ≤ 30) ∨ ((t = 4 ∨ (20 ≤ t ∧ t ≤ 23)) ∧ (i = 0 ∨ i = 1))) → h' t i k = h t i k
theorem chgM.rf {h : mMem} : chgM h h := fun _ _ _ _ => rfl
theorem chgM.tr {h h1 h2 : mMem} (a : chgM h h1) (b : chgM h1 h2) : chgM h h2 := fun t i k z => (b t i k z).trans (a t i k z)
theorem chgC.rf {h : mMem} : chgC h h := fun _ _ _ _ => rfl
theorem chgC.tr {h h1 h2 : mMem} (a : chgC h h1) (b : chgC h1 h2) : chgC h h2 := fun t i k z => (b t i k z).trans (a t i k z)
theorem chgM.only {h h1 : mMem} (a : chgM h h1) : onlyM h h1 := fun t i k z => a t i k (fun y => z (by omega))
theorem chgC.only {h h1 : mMem} (a : chgC h h1) : onlyC h h1 := fun t i k z => a t i k (fun y => by omega)
theorem chgM.ofS {h h1 : mMem} (a : scrM h h1) : chgM h h1 := fun t i k z => a t i k (fun y => z (by omega))
theorem chgC.ofS {h h1 : mMem} (a : scrC h h1) : chgC h h1 := fun t i k z => a t i k (fun y => z (by
  rcases y with y | y | y | y | y | y | y
  · exact Or.inl y
  · exact Or.inr (Or.inl y)
  · exact Or.inr (Or.inr (Or.inl y))
  · exact Or.inr (Or.inr (Or.inr (Or.inl y)))
  · exact Or.inr (Or.inr (Or.inr (Or.inr (Or.inl y))))
  · exact Or.inr (Or.inr (Or.inr (Or.inr (Or.inr (Or.inl y)))))
  · exact Or.inr (Or.inr (Or.inr (Or.inr (Or.inr (Or.inr ⟨y.1, Or.inr y.2⟩)))))))
theorem RM_new {h h' : mMem} {S : sS} {N : nN} (e : RM h S) (q : chgM h h') (eN : isM h' N) : RM h' (N, S.2) := by
  obtain ⟨a, ⟨b1, b2, b3⟩, c, d1, d2⟩ := e
  refine ⟨eN, ⟨(q _ _ _ (by decide)).trans b1, b2, fun e N hN => isB_out (fun x _ _ => q 43 0 x (by omega)) (b3 e N hN)⟩, (q _ _ _ (by decide)).trans c, (q _ _ _ (by decide)).trans d1, fun i hi => ?_⟩
  rw [q 55 0 _ (by omega), q 55 0 _ (by omega), q 55 0 _ (by omega)]
  exact d2 i hi
theorem RC_new {h h' : mMem} {S : sS} {N : nN} (e : RC h S) (q : chgC h h') (eN : isC h' 0 N) : RC h' (N, S.2) := by
  obtain ⟨a, b, c, d1, d2⟩ := e
  refine ⟨eN, hisC_eq b (q 3 0 0 (by omega)) (q 3 0 2 (by omega)) (fun t i k i0 i1 ht => q t i k (fun y => ?_)), (q 8 0 7 (by omega)).trans c, (q 6 0 3 (by omega)).trans d1, fun i hi => ?_⟩
  · rcases y with y | y | y | y | y | y | y
    · omega
    · omega
    · omega
    · omega
    · omega
    · omega
    · exact y.2.elim i0 i1
  · rw [q 31 0 _ (by omega), q 32 0 _ (by omega), q 33 0 _ (by omega)]
    exact d2 i hi
def dst (n k : Nat) : Nat := min (jhi k - jlo k) (n - (jhi k - jlo k))
def tuV (n C t k : Nat) : Int := ((t / pw C (dst n k - 1) % C : Nat) : Int)
def tuT (n C t : Nat) (T : Nat → Int) : Nat → Int := fun k => if k < js n then tuV n C t k else T k
abbrev turnN (N : nN) (t : Nat) : nN := nSetT N (tuT (nP N) (nC N) t (nT N))
theorem dst_bd : ∀ n, n < 13 → ∀ k, k < 66 → k < js n → 1 ≤ dst n k ∧ dst n k ≤ n / 2 := by decide +kernel
theorem pw_mul : ∀ C, C < 4 → ∀ e, e < 6 → pw C (e + 1) = pw C e * C := by decide +kernel
theorem pw_pos : ∀ C, C < 4 → 1 ≤ C → ∀ e, e < 7 → 1 ≤ pw C e := by decide +kernel
theorem tuV_bd (n C t k : Nat) (hC : 1 ≤ C) : 0 ≤ tuV n C t k ∧ tuV n C t k < C := by
  have := Nat.mod_lt (t / pw C (dst n k - 1)) hC
  unfold tuV
  omega
theorem nOk_turn {N : nN} (o : nOk N) (t : Nat) : nOk (turnN N t) := by
  obtain ⟨o1, o2, o3, o4, o5⟩ := o
  refine ⟨o1, o2, o3, fun k hk => ?_, fun k h1 h2 => ?_⟩
  · show -1 ≤ (if k < js (nP N) then tuV (nP N) (nC N) t k else nT N k) ∧ (if k < js (nP N) then tuV (nP N) (nC N) t k else nT N k) < nC N
    have := tuV_bd (nP N) (nC N) t k (by omega)
    split
    · omega
    · exact o4 k hk
  · have h1 : js (nP N) ≤ k := h1
    show (if k < js (nP N) then tuV (nP N) (nC N) t k else nT N k) = -1
    rw [if_neg (by omega)]
    exact o5 k h1 h2
theorem tuT_again (n C t s : Nat) (T : Nat → Int) : tuT n C t (tuT n C s T) = tuT n C t T := by
  funext k
  unfold tuT
  split
  · rfl
  · rfl
section Turn
variable {l : Launch} {g : mG} {d : Nat}
theorem dst_calc : ∀ n, n < 13 → ∀ j, j < n → ∀ i, i < j → dst n (js j + i) = (if j - i < n - j + i then j - i else n - j + i) := by decide +kernel
theorem c_M_layTurned (n C t : Nat) (hn : n ≤ 12) (hC : 2 ≤ C ∧ C ≤ 3) (ht : t < 2147483648) (h : mMem) (e1 : h 9 0 0 = n) (e2 : h 9 0 1 = C) : mCon l g n_M_layTurned (d + 1) [.inr (9, 0), .inl t] h (mIs none (mSeg h 42 0 0 (js n) (tuV n C t))) := by
  have loop : ∀ (m j : Nat) (x3 x4 : Option mRV), 1 ≤ j → j + m = max n 1 → mGo l g (mMt n_M_layTurned) (d + 1) 2 [some (.inr (9, 0)), some (.inl t), some (.inl j), x3, x4] [] (mSeg h 42 0 0 (js j) (tuV n C t)) (mIs none (mSeg h 42 0 0 (js n) (tuV n C t))) := by
    intro m
    induction m with
    | zero =>
      intro j x3 x4 h1 hj
      refine mGo_wp h_M_layTurned 120 [2] ?_
      have r0 : mSeg h 42 0 0 (js j) (tuV n C t) 9 0 0 = n := by rw [mSeg_ne (by decide), e1]
      refine ⟨fun _ => ⟨rfl, ?_⟩, fun z => by rw [r0] at z; omega⟩
      by_cases h0 : n = 0
      · rw [h0, show j = 1 by omega]
        rfl
      · rw [show j = n by omega]
    | succ m ih =>
      intro j x3 x4 h1 hj
      have hjn : j < n := by omega
      have inner : ∀ (m2 i : Nat) (x4 : Option mRV), i + m2 = j → mGo l g (mMt n_M_layTurned) (d + 1) 12 [some (.inr (9, 0)), some (.inl t), some (.inl j), some (.inl i), x4] [] (mSeg h 42 0 0 (js j + i) (tuV n C t)) (mIs none (mSeg h 42 0 0 (js n) (tuV n C t))) := by
        intro m2
        induction m2 with
        | zero =>
          intro i x4 hi
          refine mGo_wp h_M_layTurned 120 [2] ?_
          refine ⟨fun _ => ?_, fun z => by omega⟩
          have q := ih (j + 1) (some (.inl (i : Int))) x4 (by omega) (by omega)
          rw [js_succ j (by omega)] at q
          show mGo l g _ _ 2 [_, _, some (.inl (mWr ((j : Int) + 1))), _, _] [] _ _
          rw [mWr_of ⟨by omega, by omega⟩, show i = j by omega]
          rw [show i = j by omega] at q
          exact q
        | succ m2 ihi =>
          intro i x4 hi
          have r0 : mSeg h 42 0 0 (js j + i) (tuV n C t) 9 0 0 = n := by rw [mSeg_ne (by decide), e1]
          have r1 : mSeg h 42 0 0 (js j + i) (tuV n C t) 9 0 1 = C := by rw [mSeg_ne (by decide), e2]
          have hjn2 : jn i j = js j + i := jn_last j (by omega) i (by omega)
          have h66 := jn_lt i (by omega) j (by omega) (by omega)
          have hd1 := dst_calc n (by omega) j hjn i (by omega)
          have hd2 := dst_bd n (by omega) (js j + i) (by omega) (by rw [← hjn2]; exact jn_js n (by omega) i (by omega) j hjn (by omega))
          have body : mGo l g (mMt n_M_layTurned) (d + 1) 47 [some (.inr (9, 0)), some (.inl t), some (.inl j), some (.inl i), some (.inl (dst n (js j + i) : Nat))] [] (mSeg h 42 0 0 (js j + i) (tuV n C t)) (mIs none (mSeg h 42 0 0 (js n) (tuV n C t))) := by
            refine mGo_wp h_M_layTurned 120 [12] ?_
            refine mCall_is (c_M_join i j (by omega) (by omega) _) ?_
            have hpp := pw_pos C (by omega) (by omega) (dst n (js j + i) - 1) (by omega)
            have hple := pw_le C (by omega) (dst n (js j + i) - 1)
            have w1 : mWr (((dst n (js j + i) : Nat) : Int) - 1) = ((dst n (js j + i) - 1 : Nat) : Int) := by rw [mWr_of ⟨by omega, by omega⟩]; omega
            have qp := c_M_power (l := l) (g := g) (d := d) C (dst n (js j + i) - 1) (by omega) (by omega) (mSeg h 42 0 0 (js j + i) (tuV n C t))
            rw [← r1, ← w1, r1] at qp
            rw [← r1] at qp
            refine mCall_is (show mCon l g n_M_power d [.inl (mSeg h 42 0 0 (js j + i) (tuV n C t) 9 0 1), .inl (mWr (((dst n (js j + i) : Nat) : Int) - 1))] (mSeg h 42 0 0 (js j + i) (tuV n C t)) (mIs (some (.inl (pw C (dst n (js j + i) - 1) : Nat))) (mSeg h 42 0 0 (js j + i) (tuV n C t))) by rw [r1, w1]; exact c_M_power C (dst n (js j + i) - 1) (by omega) (by omega) _) ?_
            refine ⟨by omega, by rw [r1]; omega, ⟨by omega, by omega⟩, ?_⟩
            show mGo l g _ _ 12 [_, _, _, some (.inl (mWr ((i : Int) + 1))), _] [] (mSet (mSeg h 42 0 0 (js j + i) (tuV n C t)) 42 0 (Int.toNat ((jn i j : Nat) : Int)) (mRem (mDiv (t : Int) ((pw C (dst n (js j + i) - 1) : Nat) : Int)) (mSeg h 42 0 0 (js j + i) (tuV n C t) 9 0 1))) _
            have hdd : t / pw C (dst n (js j + i) - 1) ≤ t := Nat.div_le_self _ _
            have w2 : mRem (mDiv (t : Int) ((pw C (dst n (js j + i) - 1) : Nat) : Int)) (mSeg h 42 0 0 (js j + i) (tuV n C t) 9 0 1) = tuV n C t (js j + i) := by
              rw [r1, mDiv_of ⟨by omega, by omega⟩ ⟨by omega, by omega⟩ (by omega) (by omega), ← Int.natCast_ediv]
              unfold tuV
              generalize t / pw C (dst n (js j + i) - 1) = Q at hdd ⊢
              rw [mRem_of ⟨by omega, by omega⟩ ⟨by omega, by omega⟩ (by omega) (by omega), ← Int.natCast_emod]
            rw [w2, mWr_of ⟨by omega, by omega⟩, Int.toNat_natCast, hjn2]
            have q := ihi (i + 1) (some (.inl (dst n (js j + i) : Nat))) (by omega)
            rw [show js j + (i + 1) = js j + i + 1 by omega, ← mSeg_succ, Nat.zero_add] at q
            exact q
          refine mGo_wp h_M_layTurned 120 [47] ?_
          have w3 : mWr ((j : Int) - (i : Int)) = (j : Int) - i := mWr_of ⟨by omega, by omega⟩
          have w4 : mWr (mWr (mSeg h 42 0 0 (js j + i) (tuV n C t) 9 0 0 - (j : Int)) + (i : Int)) = (n : Int) - j + i := by rw [r0, mWr_of (x := (n : Int) - j) ⟨by omega, by omega⟩, mWr_of ⟨by omega, by omega⟩]
          refine ⟨fun z => by omega, fun _ => ⟨fun z => ?_, fun z => ?_⟩⟩
          · rw [w3, w4] at z
            rw [if_neg (by omega)] at hd1
            show mGo l g _ _ 47 [_, _, _, _, some (.inl (mWr (mWr (mSeg h 42 0 0 (js j + i) (tuV n C t) 9 0 0 - (j : Int)) + (i : Int))))] [] _ _
            rw [w4, show (n : Int) - j + i = ((dst n (js j + i) : Nat) : Int) by rw [hd1]; omega]
            exact body
          · rw [w3, w4] at z
            rw [if_pos (by omega)] at hd1
            show mGo l g _ _ 47 [_, _, _, _, some (.inl (mWr ((j : Int) - (i : Int))))] [] _ _
            rw [w3, show (j : Int) - i = ((dst n (js j + i) : Nat) : Int) by rw [hd1]; omega]
            exact body
      refine mGo_wp h_M_layTurned 120 [12] ?_
      have r0 : mSeg h 42 0 0 (js j) (tuV n C t) 9 0 0 = n := by rw [mSeg_ne (by decide), e1]
      refine ⟨fun z => by rw [r0] at z; omega, fun _ => ?_⟩
      exact inner j 0 x4 (by omega)
  refine e_M_layTurned (fun hv hm => ?_)
  refine mGo_wp h_M_layTurned 120 [2] ?_
  have q := loop (max n 1 - 1) 1 none none (by omega) (by omega)
  rw [show js 1 = 0 from rfl, mSeg_zero] at q
  exact q
def ptT (n C t : Nat) (T : Nat → Int) (D k : Nat) : Nat → Int := fun q => if q < js n ∧ (dst n q < D ∨ (dst n q = D ∧ q < k)) then tuV n C t q else T q
theorem c_Net_turn (i : Fin 8) (N : nN) (o : nOk N) (t : Nat) (ht : t < 2147483648) (h : mMem) (e : isC h i N) : mCon l g n_Net_turn (d + 2) [.inr (4, i), .inl t] h (fun v h' => v = none ∧ isC h' i (turnN N t) ∧ sameBut i h h') := by
  obtain ⟨n1, n2, n3, n4, n5, n6⟩ := e
  have hn := o.1.2
  have hC := o.2.1
  have hj := js_le (nP N) (by omega)
  have tv := fun k => tuV_bd (nP N) (nC N) t k (by omega)
  have ptb : ∀ D k q, q < 66 → -1 ≤ ptT (nP N) (nC N) t (nT N) D k q ∧ ptT (nP N) (nC N) t (nT N) D k q < 3 := fun D k q hq => by
    have h1 := tv q
    have h2 := o.2.2.2.1 q hq
    unfold ptT
    split <;> omega
  have loop : ∀ (m D : Nat) (x4 x5 : Option mRV) (h1 : mMem), 1 ≤ D → D + m = nP N / 2 + 1 → sameBut i h h1 → (∀ q, q < 66 → h1 22 i q = ptT (nP N) (nC N) t (nT N) D 0 q) → isNr h1 i (ptT (nP N) (nC N) t (nT N) D 0) →
      mGo l g (mMt n_Net_turn) (d + 2) 4 [some (.inr (4, i)), some (.inl t), some (.inl (t / pw (nC N) (D - 1) : Nat)), some (.inl D), x4, x5] [] h1 (fun v h' => v = none ∧ isC h' i (turnN N t) ∧ sameBut i h h') := by
    intro m
    induction m with
    | zero =>
      intro D x4 x5 h1 hD hm s1 s2 s3
      refine mGo_wp h_Net_turn 120 [4] ?_
      have r0 : h1 4 i 0 = nP N := (s1 _ _ _ (by simp)).trans n1
      have w : mDiv (h1 4 i 0) 2 = ((nP N / 2 : Nat) : Int) := by rw [r0, mDiv_of ⟨by omega, by omega⟩ ⟨by decide, by decide⟩ (by omega) (by decide)]; omega
      refine ⟨by decide, fun _ => ⟨rfl, ?_, s1⟩, fun z => by rw [w] at z; omega⟩
      have ef : ptT (nP N) (nC N) t (nT N) D 0 = tuT (nP N) (nC N) t (nT N) := by
        funext q
        unfold ptT tuT
        by_cases hq : q < js (nP N)
        · have := dst_bd (nP N) (by omega) q (by omega) hq
          rw [if_pos ⟨hq, Or.inl (by omega)⟩, if_pos hq]
        · rw [if_neg (fun z => hq z.1), if_neg hq]
      rw [ef] at s2 s3
      exact ⟨r0, (s1 _ _ _ (by simp)).trans n2, fun k hk => (s1 _ _ _ (by simp)).trans (n3 k hk), fun k hk => (s1 _ _ _ (by simp)).trans (n4 k hk), s2, s3⟩
    | succ m ih =>
      intro D x4 x5 h1 hD hm s1 s2 s3
      have hdv : t / pw (nC N) (D - 1) ≤ t := Nat.div_le_self _ _
      have inner : ∀ (m2 k : Nat) (x5 : Option mRV) (h2 : mMem), k + m2 = js (nP N) → sameBut i h h2 → (∀ q, q < 66 → h2 22 i q = ptT (nP N) (nC N) t (nT N) D k q) → isNr h2 i (ptT (nP N) (nC N) t (nT N) D k) →
          mGo l g (mMt n_Net_turn) (d + 2) 17 [some (.inr (4, i)), some (.inl t), some (.inl (t / pw (nC N) (D - 1) : Nat)), some (.inl D), some (.inl k), x5] [] h2 (fun v h' => v = none ∧ isC h' i (turnN N t) ∧ sameBut i h h') := by
        intro m2
        induction m2 with
        | zero =>
          intro k x5 h2 hk s1 s2 s3
          refine mGo_wp h_Net_turn 120 [4] ?_
          have r0 : h2 4 i 0 = nP N := (s1 _ _ _ (by simp)).trans n1
          have r1 : h2 4 i 1 = nC N := (s1 _ _ _ (by simp)).trans n2
          refine mCall_is (c_Net_joinCount i (nP N) (by omega) h2 r0) ?_
          refine ⟨fun _ => ⟨by rw [r1]; omega, ?_⟩, fun z => by omega⟩
          have ef : ptT (nP N) (nC N) t (nT N) D k = ptT (nP N) (nC N) t (nT N) (D + 1) 0 := by
            funext q
            unfold ptT
            by_cases hq : q < js (nP N) ∧ (dst (nP N) q < D ∨ (dst (nP N) q = D ∧ q < k))
            · rw [if_pos hq, if_pos ⟨hq.1, by omega⟩]
            · rw [if_neg hq, if_neg (fun z => hq ⟨z.1, by omega⟩)]
          rw [ef] at s2 s3
          have q := ih (D + 1) (some (.inl (k : Int))) x5 h2 (by omega) (by omega) s1 s2 s3
          show mGo l g _ _ 4 [_, _, some (.inl (mDiv ((t / pw (nC N) (D - 1) : Nat) : Int) (h2 4 i 1))), some (.inl (mWr ((D : Int) + 1))), _, _] [] _ _
          have hpw := pw_mul (nC N) (by omega) (D - 1) (by omega)
          rw [show D - 1 + 1 = D by omega] at hpw
          rw [show D + 1 - 1 = D by omega, hpw, ← Nat.div_div_eq_div_mul] at q
          rw [r1, mWr_of ⟨by omega, by omega⟩]
          generalize t / pw (nC N) (D - 1) = Q at hdv q ⊢
          rw [mDiv_of ⟨by omega, by omega⟩ ⟨by omega, by omega⟩ (by omega) (by omega), ← Int.natCast_ediv]
          exact q
        | succ m2 ihi =>
          intro k x5 h2 hk s1 s2 s3
          refine mGo_wp h_Net_turn 120 [17] ?_
          have r0 : h2 4 i 0 = nP N := (s1 _ _ _ (by simp)).trans n1
          have r1 : h2 4 i 1 = nC N := (s1 _ _ _ (by simp)).trans n2
          have tb := jlo_tab k (by omega)
          have hdb := dst_bd (nP N) (by omega) k (by omega) (by omega)
          have tk : ((k : Int)).toNat = k := Int.toNat_natCast k
          have wa : mWr ((mTab 104).getD ((k : Int)).toNat 0 - (mTab 103).getD ((k : Int)).toNat 0) = ((jhi k - jlo k : Nat) : Int) := by rw [tk, tb.1, tb.2.1, mWr_of ⟨by omega, by omega⟩]; omega
          refine mCall_is (c_Net_joinCount i (nP N) (by omega) h2 r0) ?_
          refine ⟨fun z => by omega, fun _ => ⟨⟨by omega, by omega⟩, ⟨by omega, by omega⟩, ?_⟩⟩
          have hlt : jhi k - jlo k < nP N := by
            by_cases z : jhi k < nP N
            · omega
            · have := jn_ge (nP N) (by omega) (jlo k) (by omega) (jhi k) tb.2.2.2.1 (by omega) (by omega)
              omega
          have wb : mWr (h2 4 i 0 - mWr ((mTab 104).getD ((k : Int)).toNat 0 - (mTab 103).getD ((k : Int)).toNat 0)) = ((nP N - (jhi k - jlo k) : Nat) : Int) := by rw [wa, r0, mWr_of ⟨by omega, by omega⟩]; omega
          refine mCall_is (c_Math_min _ _ h2) ?_
          have wm : (if mWr ((mTab 104).getD ((k : Int)).toNat 0 - (mTab 103).getD ((k : Int)).toNat 0) ≤ mWr (h2 4 i 0 - mWr ((mTab 104).getD ((k : Int)).toNat 0 - (mTab 103).getD ((k : Int)).toNat 0)) then mWr ((mTab 104).getD ((k : Int)).toNat 0 - (mTab 103).getD ((k : Int)).toNat 0) else mWr (h2 4 i 0 - mWr ((mTab 104).getD ((k : Int)).toNat 0 - (mTab 103).getD ((k : Int)).toNat 0))) = ((dst (nP N) k : Nat) : Int) := by
            rw [wb, wa]
            unfold dst
            split <;> omega
          rw [wm]
          have fin : ∀ (v5 : Int) (h3 : mMem), sameBut i h h3 → (∀ q, q < 66 → h3 22 i q = ptT (nP N) (nC N) t (nT N) D (k + 1) q) → isNr h3 i (ptT (nP N) (nC N) t (nT N) D (k + 1)) → mGo l g (mMt n_Net_turn) (d + 2) 17 [some (.inr (4, i)), some (.inl t), some (.inl (t / pw (nC N) (D - 1) : Nat)), some (.inl D), some (.inl (mWr ((k : Int) + 1))), some (.inl v5)] [] h3 (fun v h' => v = none ∧ isC h' i (turnN N t) ∧ sameBut i h h') := by
            intro v5 h3 a1 a2 a3
            rw [mWr_of ⟨by omega, by omega⟩]
            exact ihi (k + 1) _ h3 (by omega) a1 a2 a3
          refine ⟨fun z => ?_, fun z => ⟨by rw [r1]; omega, ?_⟩⟩
          · have ef : ptT (nP N) (nC N) t (nT N) D k = ptT (nP N) (nC N) t (nT N) D (k + 1) := by
              funext q
              unfold ptT
              by_cases hq : q = k
              · subst hq
                by_cases hd : dst (nP N) q < D
                · rw [if_pos ⟨by omega, Or.inl hd⟩, if_pos ⟨by omega, Or.inl hd⟩]
                · rw [if_neg (fun z => by omega), if_neg (fun z => by omega)]
              · by_cases hz : q < js (nP N) ∧ (dst (nP N) q < D ∨ (dst (nP N) q = D ∧ q < k))
                · rw [if_pos hz, if_pos ⟨hz.1, by omega⟩]
                · rw [if_neg hz, if_neg (fun z => hz ⟨z.1, by omega⟩)]
            rw [ef] at s2 s3
            exact fin _ h2 s1 s2 s3
          · have hd : dst (nP N) k = D := by omega
            have wv : mRem ((t / pw (nC N) (D - 1) : Nat) : Int) (h2 4 i 1) = tuV (nP N) (nC N) t k := by
              unfold tuV
              rw [hd, r1]
              generalize t / pw (nC N) (D - 1) = Q at hdv ⊢
              rw [mRem_of ⟨by omega, by omega⟩ ⟨by omega, by omega⟩ (by omega) (by omega), ← Int.natCast_emod]
            rw [wv]
            have tvk := tv k
            refine mCall_on2 (c_Net_give i k (tuV (nP N) (nC N) t k) (ptT (nP N) (nC N) t (nT N) D k) (by omega) (by omega) h2 (s2 k (by omega)) (ptb D k k (by omega)) s3) ?_
            rintro v h3 ⟨rfl, g1, g2, g3⟩
            have ef : tSet (ptT (nP N) (nC N) t (nT N) D k) k (tuV (nP N) (nC N) t k) = ptT (nP N) (nC N) t (nT N) D (k + 1) := by
              funext q
              unfold tSet ptT
              by_cases hq : q = k
              · subst hq
                rw [if_pos rfl, if_pos ⟨by omega, Or.inr ⟨hd, by omega⟩⟩]
              · rw [if_neg hq]
                by_cases hz : q < js (nP N) ∧ (dst (nP N) q < D ∨ (dst (nP N) q = D ∧ q < k))
                · rw [if_pos hz, if_pos ⟨hz.1, by omega⟩]
                · rw [if_neg hz, if_neg (fun z => hz ⟨z.1, by omega⟩)]
            rw [ef] at g3
            refine fin _ h3 (fun t' a q z => (g1 t' a q z).trans (s1 t' a q z)) (fun q hq => ?_) g3
            rw [g2, ← ef, s2 q hq]
            rfl
      refine mGo_wp h_Net_turn 120 [17] ?_
      have r0 : h1 4 i 0 = nP N := (s1 _ _ _ (by simp)).trans n1
      have w : mDiv (h1 4 i 0) 2 = ((nP N / 2 : Nat) : Int) := by rw [r0, mDiv_of ⟨by omega, by omega⟩ ⟨by decide, by decide⟩ (by omega) (by decide)]; omega
      refine ⟨by decide, fun z => by rw [w] at z; omega, fun _ => ?_⟩
      exact inner (js (nP N)) 0 x5 h1 (by omega) s1 s2 s3
  refine e_Net_turn (fun hv hm => ?_)
  refine mGo_wp h_Net_turn 120 [4] ?_
  have e0 : ptT (nP N) (nC N) t (nT N) 1 0 = nT N := by
    funext q
    unfold ptT
    by_cases hq : q < js (nP N)
    · have := dst_bd (nP N) (by omega) q (by omega) hq
      rw [if_neg (fun z => by omega)]
    · rw [if_neg (fun z => hq z.1)]
  have q := loop (nP N / 2) 1 none none h (by omega) (by omega) (fun _ _ _ _ => rfl) (by rw [e0]; exact n5) (by rw [e0]; exact n6)
  rw [show t / pw (nC N) (1 - 1) = t from Nat.div_one t] at q
  exact q
end Turn
end
section
/-! turned, turns -/
noncomputable def spTurned (S : sS) (t : Int) : Int × sS := if 0 ≤ t ∧ t < pw (nC S.1) (nP S.1 / 2) then ((nClash (turnN S.1 t.toNat) : Nat), sTo S (turnN S.1 t.toNat)) else (vBAD, S)
noncomputable def tuF (N : nN) : Nat → Nat × Int × Int
  | 0 => (0, vNONE, vNONE)
  | t + 1 => if qB (nClear (turnN N t)) = true then ((tuF N t).1 + 1, (if (tuF N t).1 = 0 then (t : Int) else (tuF N t).2.1), (t : Int)) else tuF N t
noncomputable def tuW (N : nN) (w : Int) : Int := if w = 0 then ((tuF N (pw (nC N) (nP N / 2))).1 : Nat) else if w = 1 then (tuF N (pw (nC N) (nP N / 2))).2.1 else (tuF N (pw (nC N) (nP N / 2))).2.2
noncomputable def spTurns (N : nN) (w : Int) : Int := if 0 ≤ w ∧ w ≤ 2 then tuW N w else vBAD
theorem tuF_yes {N : nN} {t : Nat} (h : nClear (turnN N t)) : tuF N (t + 1) = ((tuF N t).1 + 1, (if (tuF N t).1 = 0 then (t : Int) else (tuF N t).2.1), (t : Int)) := if_pos (qB_t h)
theorem tuF_no {N : nN} {t : Nat} (h : ¬ nClear (turnN N t)) : tuF N (t + 1) = tuF N t := if_neg (qB_no h)
theorem tuF_inv (N : nN) : ∀ t, (tuF N t).1 ≤ t ∧ (((tuF N t).1 = 0 ∧ (tuF N t).2.1 = vNONE) ∨ ((tuF N t).1 ≠ 0 ∧ 0 ≤ (tuF N t).2.1))
  | 0 => ⟨Nat.le_refl _, Or.inl ⟨rfl, rfl⟩⟩
  | t + 1 => by
    have ih := tuF_inv N t
    by_cases h : nClear (turnN N t)
    · rw [tuF_yes h]
      refine ⟨by show (tuF N t).1 + 1 ≤ t + 1; omega, Or.inr ⟨by show (tuF N t).1 + 1 ≠ 0; omega, ?_⟩⟩
      show 0 ≤ (if (tuF N t).1 = 0 then (t : Int) else (tuF N t).2.1)
      split
      · omega
      · rcases ih.2 with z | z
        · omega
        · exact z.2
    · rw [tuF_no h]
      exact ⟨by omega, ih.2⟩
section Turns
variable {l : Launch} {g : mG} {d : Nat}
theorem c_Net_turnCount (i : Fin 8) (N : nN) (o : nOk N) (h : mMem) (e : isC h i N) : mCon l g n_Net_turnCount (d + 1) [.inr (4, i)] h (mIs (some (.inl (pw (nC N) (nP N / 2) : Nat))) h) := by
  refine e_Net_turnCount (fun hv hm => ?_)
  refine mGo_wp h_Net_turnCount 40 [] ?_
  have hn := o.1.2
  have hC := o.2.1
  have w : mDiv (h 4 i 0) 2 = ((nP N / 2 : Nat) : Int) := by rw [e.1, mDiv_of ⟨by omega, by omega⟩ ⟨by decide, by decide⟩ (by omega) (by decide)]; omega
  refine ⟨by decide, ?_⟩
  refine mCall_is (show mCon l g n_K_power d [.inl (h 4 i 1), .inl (mDiv (h 4 i 0) 2)] h (mIs (some (.inl (pw (nC N) (nP N / 2) : Nat))) h) by rw [e.2.1, w]; exact c_K_power _ _ (by omega) (by omega) h) ?_
  exact ⟨rfl, rfl⟩
theorem c_M_turnPower (N : nN) (o : nOk N) (h : mMem) (e : isM h N) : mCon l g n_M_power d [.inl (h 9 0 1), .inl (mDiv (h 9 0 0) 2)] h (mIs (some (.inl (pw (nC N) (nP N / 2) : Nat))) h) := by
  have hn := o.1.2
  have hC := o.2.1
  have w : mDiv (h 9 0 0) 2 = ((nP N / 2 : Nat) : Int) := by rw [e.1, mDiv_of ⟨by omega, by omega⟩ ⟨by decide, by decide⟩ (by omega) (by decide)]; omega
  rw [e.2.1, w]
  exact c_M_power _ _ (by omega) (by omega) h
theorem sameBut_chg {h h' : mMem} (f : sameBut 0 h h') : chgC h h' := fun t i k z => f t i k (fun y => z (Or.inr (Or.inr (Or.inr (Or.inr (Or.inr (Or.inr ⟨Or.inr (by omega), Or.inl y.2⟩)))))))
theorem sameBut_scr {h h' : mMem} (f : sameBut 1 h h') : scrC h h' := fun t i k z => f t i k (fun y => z (Or.inr (Or.inr (Or.inr (Or.inr (Or.inr (Or.inr ⟨Or.inr (by omega), y.2⟩)))))))
theorem s_K_turned (t : Int) (h : mMem) (S : sS) (o : sOk S) (e : RC h S) : mCon l g n_K_turned (d + 11) [.inr (8, 0), .inl t] h (fun r h' => r = some (.inl (spTurned S t).1) ∧ RC h' (spTurned S t).2 ∧ onlyC h h') := by
  refine e_K_turned (fun hv hm => ?_)
  refine mGo_wp h_K_turned 60 [] ?_
  have hw := pw_le (nC S.1) o.1.2.1.2 (nP S.1 / 2)
  refine ⟨fun z => ?_, fun z => ?_⟩
  · rw [spTurned, if_neg (fun w => by omega)]
    exact ⟨rfl, e, onlyC.rf⟩
  · refine mCall_is (c_Net_turnCount 0 S.1 o.1 h e.1) ?_
    refine ⟨fun z2 => ?_, fun z2 => ?_⟩
    · obtain ⟨t', rfl⟩ := Int.eq_ofNat_of_zero_le z
      rw [spTurned, if_pos ⟨z, z2⟩, Int.toNat_natCast]
      refine mCall_on2 (mCon_lift (by omega) (s_remember (d := d) h S o e)) ?_
      rintro r1 h1 ⟨rfl, e1, q1⟩
      refine mCall_on2 (mCon_lift (by omega) (c_Net_turn (d := d) 0 S.1 o.1 t' (by omega) h1 e1.1)) ?_
      rintro r2 h2 ⟨rfl, e2, q2⟩
      refine mCall_on2 (c_Finder_clashes 0 (turnN S.1 t') (nOk_turn o.1 t') h2 e2) ?_
      rintro r3 h3 ⟨rfl, q3⟩
      have c2 := sameBut_chg q2
      have c3 := chgC.ofS (scrC.ofF q3)
      exact ⟨rfl, RC_new e1 (c2.tr c3) (isC_farF e2 q3), q1.tr (c2.tr c3).only⟩
    · rw [spTurned, if_neg (fun w => by omega)]
      exact ⟨rfl, e, onlyC.rf⟩
theorem isM_seg {h : mMem} {N : nN} {T : Nat → Int} (e : isM h N) (f : Nat → Int) (hf : ∀ k, k < 66 → mSeg h 42 0 0 (js (nP N)) f 42 0 k = T k) : isM (mSeg h 42 0 0 (js (nP N)) f) (nSetT N T) :=
  ⟨(mSeg_ne (by decide)).trans e.1, (mSeg_ne (by decide)).trans e.2.1, fun k hk => (mSeg_ne (by decide)).trans (e.2.2.1 k hk), fun k hk => (mSeg_ne (by decide)).trans (e.2.2.2.1 k hk), hf⟩
theorem turn_seg {h : mMem} {N : nN} (e : isM h N) (t : Nat) : isM (mSeg h 42 0 0 (js (nP N)) (tuV (nP N) (nC N) t)) (turnN N t) := by
  refine isM_seg e _ (fun k hk => ?_)
  show (if _ then _ else _) = (if k < js (nP N) then _ else _)
  by_cases hq : k < js (nP N)
  · rw [if_pos ⟨rfl, rfl, by omega, by omega⟩, if_pos hq, Nat.sub_zero]
  · rw [if_neg (fun z => by omega), if_neg hq]
    exact e.2.2.2.2 k hk
theorem seg_chg {h : mMem} {n : Nat} {f : Nat → Int} {t : Nat} (ht : t = 42 ∨ t = 49) : chgM h (mSeg h t 0 0 n f) := fun t' i k z => mSeg_ne (by omega)
theorem s_M_turned (t : Int) (h : mMem) (S : sS) (o : sOk S) (e : RM h S) : mCon l g n_M_turned (d + 14) [.inr (9, 0), .inl t] h (fun r h' => r = some (.inl (spTurned S t).1) ∧ RM h' (spTurned S t).2 ∧ onlyM h h') := by
  refine e_M_turned (fun hv hm => ?_)
  refine mGo_wp h_M_turned 60 [] ?_
  have hw := pw_le (nC S.1) o.1.2.1.2 (nP S.1 / 2)
  have hC := o.1.2.1
  refine ⟨by decide, ?_⟩
  refine mCall_is (c_M_turnPower S.1 o.1 h e.1) ?_
  refine mCall_is (c_M_isIn _ _ _ h) ?_
  have w : mWr (((pw (nC S.1) (nP S.1 / 2) : Nat) : Int) - 1) = ((pw (nC S.1) (nP S.1 / 2) : Nat) : Int) - 1 := mWr_of ⟨by omega, by omega⟩
  rw [w]
  refine ⟨fun z => ?_, fun z => ?_⟩
  · have z := mB_ne0.mp z
    obtain ⟨t', rfl⟩ := Int.eq_ofNat_of_zero_le z.1
    rw [spTurned, if_pos ⟨z.1, by omega⟩, Int.toNat_natCast]
    refine mCall_on2 (mCon_lift (by omega) (s_keep (d := d) h S o e)) ?_
    rintro r1 h1 ⟨rfl, e1, q1, -⟩
    refine mCall_is (mCon_lift (by omega) (c_M_layTurned (d := d) (nP S.1) (nC S.1) t' o.1.1.2 hC (by omega) h1 e1.1.1 e1.1.2.1)) ?_
    have e2 := turn_seg e1.1 t'
    have c2 : chgM h1 (mSeg h1 42 0 0 (js (nP S.1)) (tuV (nP S.1) (nC S.1) t')) := seg_chg (Or.inl rfl)
    refine mCall_on2 (c_M_clashes (turnN S.1 t') (nOk_turn o.1 t') _ e2) ?_
    rintro r3 h3 ⟨rfl, q3⟩
    have c3 := chgM.ofS (scrM.ofX q3)
    exact ⟨rfl, RM_new e1 (c2.tr c3) (isM_farX e2 q3), q1.tr (c2.tr c3).only⟩
  · have z := mB_eq0.mp z
    rw [spTurned, if_neg (fun w => z ⟨w.1, by omega⟩)]
    exact ⟨rfl, e, onlyM.rf⟩
theorem s_K_turns (w : Int) (h : mMem) (S : sS) (o : sOk S) (e : RC h S) : mCon l g n_K_turns (d + 11) [.inr (8, 0), .inl w] h (ansC h S (spTurns S.1 w)) := by
  have hC := o.1.2.1
  have hpw := pw_le (nC S.1) hC.2 (nP S.1 / 2)
  have loop : (0 ≤ w ∧ w ≤ 2) → ∀ (m t : Nat) (T' : Nat → Int) (h1 : mMem), t + m = pw (nC S.1) (nP S.1 / 2) → scrC h h1 → isC h1 1 (nSetT S.1 T') → nOk (nSetT S.1 T') → (∀ s, tuT (nP S.1) (nC S.1) s T' = tuT (nP S.1) (nC S.1) s (nT S.1)) →
      mGo l g (mMt n_K_turns) (d + 11) 41 [some (.inr (8, 0)), some (.inl w), some (.inr (4, 1)), some (.inl ((tuF S.1 t).1 : Nat)), some (.inl (tuF S.1 t).2.1), some (.inl (tuF S.1 t).2.2), some (.inl t)] [] h1 (ansC h S (spTurns S.1 w)) := by
    intro hw m
    induction m with
    | zero =>
      intro t T' h1 ht f b1 b2 b3
      refine mGo_wp h_K_turns 120 [41] ?_
      refine mCall_is (mCon_lift (by omega) (c_Net_turnCount (d := d) 0 S.1 o.1 h1 (isC_scr e.1 (by decide) f))) ?_
      have ht' : t = pw (nC S.1) (nP S.1 / 2) := by omega
      have R : RC h1 S ∧ onlyC h h1 := ⟨RC_scr e f, f.only⟩
      refine ⟨fun _ => ?_, fun z => by omega⟩
      unfold spTurns tuW
      rw [if_pos hw, ← ht']
      refine ⟨fun z => ⟨fun z2 => ⟨?_, R⟩, fun z2 => ⟨?_, R⟩⟩, fun z => ⟨?_, R⟩⟩
      · rw [if_neg z, if_neg z2]
      · rw [if_neg z, if_pos z2]
      · rw [if_pos z]
    | succ m ih =>
      intro t T' h1 ht f b1 b2 b3
      refine mGo_wp h_K_turns 120 [41] ?_
      refine mCall_is (mCon_lift (by omega) (c_Net_turnCount (d := d) 0 S.1 o.1 h1 (isC_scr e.1 (by decide) f))) ?_
      refine ⟨fun z => by omega, fun _ => ?_⟩
      refine mCall_on2 (mCon_lift (by omega) (c_Net_turn (d := d) 1 (nSetT S.1 T') b2 t (by omega) h1 b1)) ?_
      rintro r2 h2 ⟨rfl, e2, q2⟩
      have e2 : isC h2 1 (nSetT S.1 (tuT (nP S.1) (nC S.1) t T')) := e2
      rw [b3 t] at e2
      refine mCall_on2 (c_Finder_hasAny 1 (turnN S.1 t) (nOk_turn o.1 t) h2 e2) ?_
      rintro r3 h3 ⟨rfl, q3⟩
      have f3 := f.tr ((sameBut_scr q2).tr (scrC.ofF q3))
      have e3 := isC_farF e2 q3
      have nx := ih (t + 1) _ h3 (by omega) f3 e3 (nOk_turn o.1 t) (fun s => tuT_again _ _ s t _)
      have iv := tuF_inv S.1 t
      refine ⟨fun z => ?_, fun z => ?_⟩
      · rw [tuF_no (mBc_ne0.mp z)] at nx
        show mGo l g _ _ 41 [_, _, _, _, _, _, some (.inl (mWr ((t : Int) + 1)))] [] _ _
        rw [mWr_of ⟨by omega, by omega⟩]
        exact nx
      · rw [tuF_yes (Classical.not_not.mp (mBc_eq0.mp z))] at nx
        have w3 : mWr (((tuF S.1 t).1 : Int) + 1) = (((tuF S.1 t).1 + 1 : Nat) : Int) := by rw [mWr_of ⟨by omega, by omega⟩]; omega
        refine ⟨fun z2 => ?_, fun z2 => ?_⟩
        · rw [w3] at z2
          dsimp only at nx
          rw [if_neg (by omega)] at nx
          show mGo l g _ _ 41 [_, _, _, some (.inl (mWr (((tuF S.1 t).1 : Int) + 1))), _, _, some (.inl (mWr ((t : Int) + 1)))] [] _ _
          rw [w3, mWr_of ⟨by omega, by omega⟩]
          exact nx
        · rw [w3] at z2
          dsimp only at nx
          rw [if_pos (by omega)] at nx
          show mGo l g _ _ 41 [_, _, _, some (.inl (mWr (((tuF S.1 t).1 : Int) + 1))), _, _, some (.inl (mWr ((t : Int) + 1)))] [] _ _
          rw [w3, mWr_of ⟨by omega, by omega⟩]
          exact nx
  refine e_K_turns (fun hv hm => ?_)
  refine mGo_wp h_K_turns 120 [41] ?_
  have bad : ¬ (0 ≤ w ∧ w ≤ 2) → ansC h S (spTurns S.1 w) (some (.inl vBAD)) h := fun z => ⟨by rw [spTurns, if_neg z], e, onlyC.rf⟩
  refine ⟨fun z => bad (by omega), fun z => ⟨fun z2 => ?_, fun z2 => bad (by omega)⟩⟩
  refine mCall_is (mCon_lift (by omega) (c_Net_become (d := d) 1 0 h)) ?_
  refine loop ⟨z, z2⟩ (pw (nC S.1) (nP S.1 / 2)) 0 (nT S.1) _ (Nat.zero_add _) (fun t i k y => if_neg (fun x => y ?_)) (isC_bec e.1) o.1 (fun s => rfl)
  exact Or.inr (Or.inr (Or.inr (Or.inr (Or.inr (Or.inr ⟨by omega, x.1⟩)))))
theorem s_M_turns (w : Int) (h : mMem) (S : sS) (o : sOk S) (e : RM h S) : mCon l g n_M_turns (d + 14) [.inr (9, 0), .inl w] h (ansM h S (spTurns S.1 w)) := by
  have hC := o.1.2.1
  have hpw := pw_le (nC S.1) hC.2 (nP S.1 / 2)
  have loop : (0 ≤ w ∧ w ≤ 2) → ∀ (m t : Nat) (T' : Nat → Int) (h1 : mMem), t + m = pw (nC S.1) (nP S.1 / 2) → chgM h h1 → (∀ k, k < 66 → h1 49 0 k = nT S.1 k) → isM h1 (nSetT S.1 T') → nOk (nSetT S.1 T') → (∀ s, tuT (nP S.1) (nC S.1) s T' = tuT (nP S.1) (nC S.1) s (nT S.1)) →
      mGo l g (mMt n_M_turns) (d + 14) 28 [some (.inr (9, 0)), some (.inl w), some (.inl ((tuF S.1 t).1 : Nat)), some (.inl (tuF S.1 t).2.1), some (.inl (tuF S.1 t).2.2), some (.inl t)] [] h1 (ansM h S (spTurns S.1 w)) := by
    intro hw m
    induction m with
    | zero =>
      intro t T' h1 ht f a1 b1 b2 b3
      refine mGo_wp h_M_turns 120 [28] ?_
      refine ⟨by decide, ?_⟩
      refine mCall_is (c_M_turnPower (nSetT S.1 T') b2 h1 b1) ?_
      have ht' : t = pw (nC S.1) (nP S.1 / 2) := by omega
      refine ⟨fun _ => ?_, fun z => absurd z (by show ¬ ((t : Int) < ((pw (nC S.1) (nP S.1 / 2) : Nat) : Int)); omega)⟩
      refine mCall_is (c_M_bring h1) ?_
      have e2 : isM (mSeg h1 42 0 0 66 (h1 49 0)) S.1 := ⟨(mSeg_ne (by decide)).trans b1.1, (mSeg_ne (by decide)).trans b1.2.1, fun k hk => (mSeg_ne (by decide)).trans (b1.2.2.1 k hk), fun k hk => (mSeg_ne (by decide)).trans (b1.2.2.2.1 k hk), fun k hk => (mSeg_in0 hk).trans (a1 k hk)⟩
      have f2 : chgM h (mSeg h1 42 0 0 66 (h1 49 0)) := f.tr (seg_chg (Or.inl rfl))
      have R : RM (mSeg h1 42 0 0 66 (h1 49 0)) S ∧ onlyM h (mSeg h1 42 0 0 66 (h1 49 0)) := ⟨RM_new e f2 e2, f2.only⟩
      unfold spTurns tuW
      rw [if_pos hw, ← ht']
      refine ⟨fun z => ⟨fun z2 => ⟨?_, R⟩, fun z2 => ⟨?_, R⟩⟩, fun z => ⟨?_, R⟩⟩
      · rw [if_neg z, if_neg z2]
      · rw [if_neg z, if_pos z2]
      · rw [if_pos z]
    | succ m ih =>
      intro t T' h1 ht f a1 b1 b2 b3
      refine mGo_wp h_M_turns 120 [28] ?_
      refine ⟨by decide, ?_⟩
      refine mCall_is (c_M_turnPower (nSetT S.1 T') b2 h1 b1) ?_
      refine ⟨fun z => absurd z (by show ¬ (((pw (nC S.1) (nP S.1 / 2) : Nat) : Int) ≤ (t : Int)); omega), fun _ => ?_⟩
      refine mCall_is (mCon_lift (by omega) (c_M_layTurned (d := d) (nP S.1) (nC S.1) t o.1.1.2 hC (by omega) h1 b1.1 b1.2.1)) ?_
      have e2 : isM (mSeg h1 42 0 0 (js (nP S.1)) (tuV (nP S.1) (nC S.1) t)) (nSetT S.1 (tuT (nP S.1) (nC S.1) t T')) := turn_seg b1 t
      rw [b3 t] at e2
      refine mCall_on2 (c_M_isClear (turnN S.1 t) (nOk_turn o.1 t) _ e2) ?_
      rintro r3 h3 ⟨rfl, q3⟩
      have f3 : chgM h h3 := f.tr ((seg_chg (Or.inl rfl)).tr (chgM.ofS (scrM.ofX q3)))
      have e3 := isM_farX e2 q3
      have nx := ih (t + 1) _ h3 (by omega) f3 (fun k hk => (q3 _ _ _ (by omega)).trans ((mSeg_ne (by decide)).trans (a1 k hk))) e3 (nOk_turn o.1 t) (fun s => tuT_again _ _ s t _)
      have iv := tuF_inv S.1 t
      refine ⟨fun z => ?_, fun z => ?_⟩
      · rw [tuF_no (mBc_eq0.mp z)] at nx
        show mGo l g _ _ 28 [_, _, _, _, _, some (.inl (mWr ((t : Int) + 1)))] [] _ _
        rw [mWr_of ⟨by omega, by omega⟩]
        exact nx
      · rw [tuF_yes (mBc_ne0.mp z)] at nx
        have w3 : mWr (((tuF S.1 t).1 : Int) + 1) = (((tuF S.1 t).1 + 1 : Nat) : Int) := by rw [mWr_of ⟨by omega, by omega⟩]; omega
        dsimp only at nx
        refine ⟨fun z2 => ?_, fun z2 => ?_⟩
        · have z2 : (tuF S.1 t).2.1 ≠ vNONE := z2
          rw [if_neg (fun y => by rcases iv.2 with x | x <;> omega)] at nx
          show mGo l g _ _ 28 [_, _, some (.inl (mWr (((tuF S.1 t).1 : Int) + 1))), _, _, some (.inl (mWr ((t : Int) + 1)))] [] _ _
          rw [w3, mWr_of ⟨by omega, by omega⟩]
          exact nx
        · have z2 : (tuF S.1 t).2.1 = vNONE := z2
          rw [if_pos (by rcases iv.2 with x | x <;> omega)] at nx
          show mGo l g _ _ 28 [_, _, some (.inl (mWr (((tuF S.1 t).1 : Int) + 1))), _, _, some (.inl (mWr ((t : Int) + 1)))] [] _ _
          rw [w3, mWr_of ⟨by omega, by omega⟩]
          exact nx
  refine e_M_turns (fun hv hm => ?_)
  refine mGo_wp h_M_turns 120 [28] ?_
  refine mCall_is (c_M_isIn w 0 2 h) ?_
  refine ⟨fun z => ?_, fun z => ⟨by rw [spTurns, if_neg (mB_eq0.mp z)], e, onlyM.rf⟩⟩
  have z := mB_ne0.mp z
  refine mCall_is (c_M_layAside h) ?_
  refine loop z (pw (nC S.1) (nP S.1 / 2)) 0 (nT S.1) _ (Nat.zero_add _) (seg_chg (Or.inr rfl)) (fun k hk => (mSeg_in0 hk).trans (e.1.2.2.2.2 k hk)) ⟨(mSeg_ne (by decide)).trans e.1.1, (mSeg_ne (by decide)).trans e.1.2.1, fun k hk => (mSeg_ne (by decide)).trans (e.1.2.2.1 k hk), fun k hk => (mSeg_ne (by decide)).trans (e.1.2.2.2.1 k hk), fun k hk => (mSeg_ne (by decide)).trans (e.1.2.2.2.2 k hk)⟩ o.1 (fun s => rfl)
theorem sOk_turned {S : sS} (o : sOk S) (t : Int) : sOk (spTurned S t).2 := by
  unfold spTurned
  split
  · exact sOk_to o (nOk_turn o.1 _)
  · exact o
end Turns
end
section
/-! sums over rows of points; copies in which a join is -/
noncomputable def iq (p : Prop) (x : Nat) : Nat := if qB p = true then x else 0
theorem iq_t {p : Prop} (h : p) (x : Nat) : iq p x = x := if_pos (qB_t h)
theorem iq_f {p : Prop} (h : ¬ p) (x : Nat) : iq p x = 0 := if_neg (qB_no h)
theorem iq_congr {p q : Prop} (h : p ↔ q) (x : Nat) : iq p x = iq q x := by
  unfold iq
  rw [qB_congr h]
theorem iq_congr2 {p q : Prop} {x y : Nat} (h : p ↔ q) (hx : p → x = y) : iq p x = iq q y := by
  by_cases z : p
  · rw [iq_t z, iq_t (h.mp z), hx z]
  · rw [iq_f z, iq_f (fun w => z (h.mpr w))]
theorem iq_and {p q : Prop} (x : Nat) : iq (p ∧ q) x = iq p (iq q x) := by
  by_cases z : p
  · rw [iq_t z]
    exact iq_congr ⟨fun w => w.2, fun w => ⟨z, w⟩⟩ x
  · rw [iq_f z, iq_f (fun w => z w.1)]
theorem iq_add (p : Prop) (x y : Nat) : iq p (x + y) = iq p x + iq p y := by
  by_cases z : p
  · rw [iq_t z, iq_t z, iq_t z]
  · rw [iq_f z, iq_f z, iq_f z]
theorem iq_le (p : Prop) (x : Nat) : iq p x ≤ x := by
  by_cases z : p
  · rw [iq_t z]; exact Nat.le_refl _
  · rw [iq_f z]; exact Nat.zero_le _
theorem sm_iq (p : Prop) (f : Nat → Nat) : ∀ n, sm (fun k => iq p (f k)) n = iq p (sm f n)
  | 0 => by
    show 0 = iq p 0
    by_cases z : p
    · rw [iq_t z]
    · rw [iq_f z]
  | n + 1 => by
    show sm (fun k => iq p (f k)) n + iq p (f n) = iq p (sm f n + f n)
    rw [sm_iq p f n, iq_add]
theorem sm_comm (F : Nat → Nat → Nat) (m : Nat) : ∀ n, sm (fun a => sm (fun b => F a b) m) n = sm (fun b => sm (fun a => F a b) n) m
  | 0 => (sm_zero m).symm
  | n + 1 => by
    show sm (fun a => sm (fun b => F a b) m) n + sm (fun b => F n b) m = sm (fun b => sm (fun a => F a b) n + F n b) m
    rw [sm_comm F m n, sm_plus]
theorem sm_mul (c : Nat) (f : Nat → Nat) : ∀ n, sm (fun k => c * f k) n = c * sm f n
  | 0 => (Nat.mul_zero c).symm
  | n + 1 => by
    show sm (fun k => c * f k) n + c * f n = c * (sm f n + f n)
    rw [sm_mul c f n, Nat.mul_add]
theorem sm_pick (H : Nat → Nat) {u : Nat} : ∀ n, u < n → sm (fun p => iq (p = u) (H p)) n = H u
  | n + 1, h => by
    show sm (fun p => iq (p = u) (H p)) n + iq (n = u) (H n) = H u
    by_cases z : n = u
    · rw [iq_t z, z, sm_congr (f := fun p => iq (p = u) (H p)) (g := fun _ => 0) u (fun k hk => iq_f (by omega) _), sm_zero]
      omega
    · rw [iq_f z, sm_pick H n (by omega)]
      omega
def SL (n : Nat) : Nat → (List Nat → Nat) → Nat
  | 0, F => F []
  | j + 1, F => sm (fun p => SL n j (fun s => F (p :: s))) n
theorem SL_congr {n : Nat} : ∀ (j : Nat) {F G : List Nat → Nat}, (∀ s : List Nat, s.length = j → (∀ x ∈ s, x < n) → F s = G s) → SL n j F = SL n j G
  | 0, F, G, h => h [] rfl (fun x hx => (List.not_mem_nil hx).elim)
  | j + 1, F, G, h => by
    refine sm_congr n (fun p hp => ?_)
    refine SL_congr j (fun s hs hx => h (p :: s) (by show s.length + 1 = j + 1; omega) (fun x hx' => ?_))
    rcases List.mem_cons.mp hx' with rfl | w
    · exact hp
    · exact hx x w
theorem SL_zero (n : Nat) : ∀ j, SL n j (fun _ => 0) = 0
  | 0 => rfl
  | j + 1 => by
    show sm (fun p => SL n j (fun _ => 0)) n = 0
    rw [SL_zero n j, sm_zero]
theorem SL_plus (n : Nat) : ∀ (j : Nat) (F G : List Nat → Nat), SL n j (fun s => F s + G s) = SL n j F + SL n j G
  | 0, F, G => rfl
  | j + 1, F, G => by
    show sm (fun p => SL n j (fun s => F (p :: s) + G (p :: s))) n = sm _ n + sm _ n
    rw [← sm_plus]
    exact sm_congr n (fun p _ => SL_plus n j _ _)
theorem SL_mul (n c : Nat) : ∀ (j : Nat) (F : List Nat → Nat), SL n j (fun s => c * F s) = c * SL n j F
  | 0, F => rfl
  | j + 1, F => by
    show sm (fun p => SL n j (fun s => c * F (p :: s))) n = c * sm _ n
    rw [← sm_mul]
    exact sm_congr n (fun p _ => SL_mul n c j _)
theorem SL_iq (n : Nat) (p : Prop) : ∀ (j : Nat) (F : List Nat → Nat), SL n j (fun s => iq p (F s)) = iq p (SL n j F)
  | 0, F => rfl
  | j + 1, F => by
    show sm (fun q => SL n j (fun s => iq p (F (q :: s)))) n = iq p (sm _ n)
    rw [← sm_iq]
    exact sm_congr n (fun q _ => SL_iq n p j _)
theorem SL_sm (n m : Nat) : ∀ (j : Nat) (H : Nat → List Nat → Nat), sm (fun p => SL n j (H p)) m = SL n j (fun s => sm (fun p => H p s) m)
  | 0, H => rfl
  | j + 1, H => by
    show sm (fun p => sm (fun q => SL n j (fun s => H p (q :: s))) n) m = sm (fun q => SL n j (fun s => sm (fun p => H p (q :: s)) m)) n
    rw [sm_comm (fun p q => SL n j (fun s => H p (q :: s))) n m]
    exact sm_congr n (fun q _ => SL_sm n m j _)
theorem SL_last (n : Nat) : ∀ (j : Nat) (F : List Nat → Nat), SL n (j + 1) F = SL n j (fun s => sm (fun p => F (s ++ [p])) n)
  | 0, F => rfl
  | j + 1, F => by
    show sm (fun p => SL n (j + 1) (fun s => F (p :: s))) n = sm (fun p => SL n j (fun s => sm (fun q => F (p :: s ++ [q])) n)) n
    exact sm_congr n (fun p _ => SL_last n j _)
theorem SL_rev (n : Nat) : ∀ (j : Nat) (F : List Nat → Nat), SL n j (fun s => F s.reverse) = SL n j F
  | 0, F => rfl
  | j + 1, F => by
    show sm (fun p => SL n j (fun s => F (p :: s).reverse)) n = _
    rw [sm_congr (g := fun p => SL n j (fun s => F (s ++ [p]))) n (fun p _ => by
      rw [← SL_rev n j (fun s => F (s ++ [p]))]
      exact SL_congr j (fun s _ _ => by rw [List.reverse_cons])), SL_sm n n j (fun p s => F (s ++ [p])), ← SL_last]
theorem SL_rot (n j : Nat) (F : List Nat → Nat) : sm (fun p => SL n j (fun s => F (s ++ [p]))) n = SL n (j + 1) F := by
  rw [SL_sm n n j (fun p s => F (s ++ [p])), ← SL_last]
theorem SL_app (n b : Nat) : ∀ (a : Nat) (F : List Nat → Nat), SL n (a + b) F = SL n a (fun x => SL n b (fun y => F (x ++ y)))
  | 0, F => by rw [Nat.zero_add]; rfl
  | a + 1, F => by
    rw [show a + 1 + b = a + b + 1 by omega]
    show sm (fun p => SL n (a + b) (fun s => F (p :: s))) n = sm (fun p => SL n a (fun x => SL n b (fun y => F (p :: x ++ y)))) n
    exact sm_congr n (fun p _ => SL_app n b a _)
/-- weights of rows, added -/
def wS (w : rE → Nat) : List rE → Nat
  | [] => 0
  | x :: xs => w x + wS w xs
theorem wS_app (w : rE → Nat) : ∀ (xs ys : List rE), wS w (xs ++ ys) = wS w xs + wS w ys
  | [], ys => (Nat.zero_add _).symm
  | x :: xs, ys => by
    show w x + wS w (xs ++ ys) = w x + wS w xs + wS w ys
    rw [wS_app w xs ys]
    omega
theorem wS_flat (w : rE → Nat) (f : Nat → List rE) : ∀ m p, wS w ((List.range' p m).flatMap f) = sm (fun i => wS w (f (p + i))) m
  | 0, p => rfl
  | m + 1, p => by
    rw [List.range'_1_concat, List.flatMap_append, wS_app, wS_flat w f m p, List.flatMap_singleton]
    rfl
theorem wS_len : ∀ xs : List rE, wS (fun _ => 1) xs = xs.length
  | [] => rfl
  | x :: xs => by
    show 1 + wS (fun _ => 1) xs = xs.length + 1
    rw [wS_len xs]
    omega
theorem wS_filter (P : rE → Bool) : ∀ xs : List rE, (xs.filter P).length = wS (fun x => iq (P x = true) 1) xs
  | [] => rfl
  | x :: xs => by
    show _ = iq (P x = true) 1 + wS (fun x => iq (P x = true) 1) xs
    by_cases h : P x = true
    · rw [List.filter_cons_of_pos h, iq_t h, List.length_cons, wS_filter P xs]
      omega
    · rw [List.filter_cons_of_neg h, iq_f h, wS_filter P xs]
      omega
theorem takes_w (T : Nat → Int) (c : Int) (k L n j : Nat) (r es : List Nat) (w : rE → Nat) (ms : msN T c es = 0) : wS w (takesF T c 0 k L n (j + 1) r es) = sm (fun p => iq (p ∉ r ∧ okP T c k L 0 0 r p) (wS w (takesF T c 0 k L n j (r ++ [p]) (es ++ newE k L r p)))) n := by
  rw [takesF_succ]
  unfold takesP
  rw [wS_flat, ms]
  refine sm_congr n (fun p _ => ?_)
  rw [Nat.zero_add]
  by_cases z : p ∉ r ∧ okP T c k L 0 0 r p
  · rw [if_pos (qB_t z), iq_t z]
  · rw [if_neg (qB_no z), iq_f z]
    rfl
/-- each point of a row may follow those ahead of it; the joins that come -/
def acc (T : Nat → Int) (c : Int) (k L : Nat) : List Nat → List Nat → Prop
  | _, [] => True
  | r, p :: s => (p ∉ r ∧ okP T c k L 0 0 r p) ∧ acc T c k L (r ++ [p]) s
def edg (k L : Nat) : List Nat → List Nat → List Nat
  | _, [] => []
  | r, p :: s => newE k L r p ++ edg k L (r ++ [p]) s
theorem takes_SL (T : Nat → Int) (c : Int) (k L n : Nat) (w : rE → Nat) : ∀ (j : Nat) (r es : List Nat), msN T c es = 0 → wS w (takesF T c 0 k L n j r es) = SL n j (fun s => iq (acc T c k L r s) (w (r ++ s, es ++ edg k L r s)))
  | 0, r, es, ms => by
    rw [takesF_zero (by omega)]
    show w (r, es) + 0 = iq True (w (r ++ [], es ++ []))
    rw [iq_t trivial, List.append_nil, List.append_nil]
    rfl
  | j + 1, r, es, ms => by
    rw [takes_w T c k L n j r es w ms]
    show _ = sm (fun p => SL n j (fun s => iq ((p ∉ r ∧ okP T c k L 0 0 r p) ∧ acc T c k L (r ++ [p]) s) (w (r ++ p :: s, es ++ (newE k L r p ++ edg k L (r ++ [p]) s))))) n
    refine sm_congr n (fun p _ => ?_)
    rw [SL_congr j (G := fun s => iq (p ∉ r ∧ okP T c k L 0 0 r p) (iq (acc T c k L (r ++ [p]) s) (w (r ++ [p] ++ s, es ++ newE k L r p ++ edg k L (r ++ [p]) s)))) (fun s _ _ => by
      rw [iq_and, List.append_assoc r [p] s, List.append_assoc es]
      rfl), SL_iq]
    refine iq_congr2 Iff.rfl (fun z => ?_)
    refine takes_SL T c k L n w j (r ++ [p]) (es ++ newE k L r p) ?_
    have := z.2.2
    rw [msN_app, ms]
    omega
/-- the copies in which a join is -/
noncomputable def thr (T : Nat → Int) (c : Int) (k L n e : Nat) : Nat := wS (fun x => iq (e ∈ x.2) 1) (takesF T c 0 k L n L [] [])
theorem thr_SL (T : Nat → Int) (c : Int) (k L n e : Nat) : thr T c k L n e = SL n L (fun s => iq (acc T c k L [] s ∧ e ∈ edg k L [] s) 1) := by
  unfold thr
  rw [takes_SL T c k L n _ L [] [] rfl]
  exact SL_congr L (fun s _ _ => by rw [iq_and]; rfl)
theorem msN_less {T : Nat → Int} {c : Int} {e : Nat} (hc : c ≠ -1) {es : List Nat} : msN (tSet T e (-1)) c es = 0 ↔ (msN T c es = 0 ∧ e ∉ es) := by
  rw [msN0, msN0]
  constructor
  · intro h
    have h1 : e ∉ es := fun z => by
      have := h e z
      rw [show tSet T e (-1) e = -1 from if_pos rfl] at this
      exact hc this.symm
    refine ⟨fun x hx => ?_, h1⟩
    have := h x hx
    rw [show tSet T e (-1) x = T x from if_neg (fun (y : x = e) => h1 (y ▸ hx))] at this
    exact this
  · rintro ⟨h1, h2⟩ x hx
    rw [show tSet T e (-1) x = T x from if_neg (fun (y : x = e) => h2 (y ▸ hx))]
    exact h1 x hx
theorem wS_split {T : Nat → Int} {c : Int} {e : Nat} (hc : c ≠ -1) : ∀ xs : List rE, (xs.filter (fun x => decide (msN T c x.2 ≤ 0))).length = (xs.filter (fun x => decide (msN (tSet T e (-1)) c x.2 ≤ 0))).length + wS (fun x => iq (e ∈ x.2) 1) (xs.filter (fun x => decide (msN T c x.2 ≤ 0)))
  | [] => rfl
  | x :: xs => by
    have ih := wS_split (T := T) (e := e) hc xs
    have key := msN_less (T := T) (e := e) hc (es := x.2)
    by_cases h1 : msN T c x.2 ≤ 0
    · rw [List.filter_cons_of_pos (p := fun x : rE => decide (msN T c x.2 ≤ 0)) (by simpa using h1)]
      by_cases h2 : e ∈ x.2
      · rw [List.filter_cons_of_neg (p := fun x : rE => decide (msN (tSet T e (-1)) c x.2 ≤ 0)) (by
          simp only [decide_eq_true_eq]
          exact fun z => (key.mp (by omega)).2 h2)]
        show _ + 1 = _ + (iq (e ∈ x.2) 1 + _)
        rw [iq_t h2]
        omega
      · rw [List.filter_cons_of_pos (p := fun x : rE => decide (msN (tSet T e (-1)) c x.2 ≤ 0)) (by
          simp only [decide_eq_true_eq]
          have := key.mpr ⟨by omega, h2⟩
          omega)]
        show _ + 1 = _ + 1 + (iq (e ∈ x.2) 1 + _)
        rw [iq_f h2]
        omega
    · rw [List.filter_cons_of_neg (p := fun x : rE => decide (msN T c x.2 ≤ 0)) (by simpa using h1), List.filter_cons_of_neg (p := fun x : rE => decide (msN (tSet T e (-1)) c x.2 ≤ 0)) (by
          simp only [decide_eq_true_eq]
          exact fun z => h1 (by have := (key.mp (by omega)).1; omega))]
      exact ih
theorem takes_less (T : Nat → Int) (c : Int) (k L n e : Nat) (hc : c ≠ -1) : (takesF T c 0 k L n L [] []).length = (takesF (tSet T e (-1)) c 0 k L n L [] []).length + thr T c k L n e := wS_split hc _
end
section
/-! rows of consecutive points: paths and rings -/
theorem jn_sym (a b : Nat) : jn a b = jn b a := by
  unfold jn
  by_cases h1 : a < b
  · rw [if_pos h1, if_neg (by omega)]
  · by_cases h2 : b < a
    · rw [if_neg h1, if_pos h2]
    · have : a = b := by omega
      subst this
      rfl
def chn (A : Nat → Nat → Prop) : List Nat → Prop
  | [] => True
  | [_] => True
  | a :: b :: s => A a b ∧ chn A (b :: s)
def gE (f : Nat → Nat → Nat) : List Nat → Nat
  | [] => 0
  | [_] => 0
  | a :: b :: s => f a b + gE f (b :: s)
def ce : List Nat → List Nat
  | [] => []
  | [_] => []
  | a :: b :: s => jn a b :: ce (b :: s)
theorem chn_snoc (A : Nat → Nat → Prop) : ∀ (l : List Nat) (a b : Nat), chn A (l ++ [a, b]) ↔ chn A (l ++ [a]) ∧ A a b
  | [], a, b => ⟨fun h => ⟨trivial, h.1⟩, fun h => ⟨h.2, trivial⟩⟩
  | [x], a, b => ⟨fun h => ⟨⟨h.1, trivial⟩, h.2.1⟩, fun h => ⟨h.1.1, h.2, trivial⟩⟩
  | x :: y :: s, a, b => by
    have ih := chn_snoc A (y :: s) a b
    show (A x y ∧ chn A (y :: s ++ [a, b])) ↔ (A x y ∧ chn A (y :: s ++ [a])) ∧ A a b
    rw [ih]
    exact ⟨fun h => ⟨⟨h.1, h.2.1⟩, h.2.2⟩, fun h => ⟨h.1.1, h.1.2, h.2⟩⟩
theorem chn_rev {A : Nat → Nat → Prop} (hA : ∀ a b, A a b → A b a) : ∀ l : List Nat, chn A l.reverse ↔ chn A l
  | [] => Iff.rfl
  | [_] => Iff.rfl
  | a :: b :: s => by
    have ih := chn_rev hA (b :: s)
    have e : (a :: b :: s).reverse = s.reverse ++ [b, a] := by
      rw [List.reverse_cons, List.reverse_cons, List.append_assoc]
      rfl
    rw [e, chn_snoc]
    rw [List.reverse_cons] at ih
    rw [ih]
    exact ⟨fun h => ⟨hA _ _ h.2, h.1⟩, fun h => ⟨h.2, hA _ _ h.1⟩⟩
theorem gE_snoc (f : Nat → Nat → Nat) : ∀ (l : List Nat) (a b : Nat), gE f (l ++ [a, b]) = gE f (l ++ [a]) + f a b
  | [], a, b => by
    show f a b + 0 = 0 + f a b
    omega
  | [x], a, b => by
    show f x a + (f a b + 0) = f x a + 0 + f a b
    omega
  | x :: y :: s, a, b => by
    have ih := gE_snoc f (y :: s) a b
    show f x y + gE f (y :: s ++ [a, b]) = f x y + gE f (y :: s ++ [a]) + f a b
    rw [ih]
    omega
theorem gE_rev (f : Nat → Nat → Nat) : ∀ l : List Nat, gE f l.reverse = gE (fun a b => f b a) l
  | [] => rfl
  | [_] => rfl
  | a :: b :: s => by
    have ih := gE_rev f (b :: s)
    have e : (a :: b :: s).reverse = s.reverse ++ [b, a] := by
      rw [List.reverse_cons, List.reverse_cons, List.append_assoc]
      rfl
    rw [e, gE_snoc]
    rw [List.reverse_cons] at ih
    rw [ih]
    show _ = f b a + _
    omega
theorem gE_plus (f g : Nat → Nat → Nat) : ∀ l : List Nat, gE (fun a b => f a b + g a b) l = gE f l + gE g l
  | [] => rfl
  | [_] => rfl
  | a :: b :: s => by
    show f a b + g a b + gE (fun a b => f a b + g a b) (b :: s) = f a b + gE f (b :: s) + (g a b + gE g (b :: s))
    rw [gE_plus f g (b :: s)]
    omega
theorem gE_congr {f g : Nat → Nat → Nat} (h : ∀ a b, f a b = g a b) (l : List Nat) : gE f l = gE g l := by
  have : f = g := funext fun a => funext fun b => h a b
  rw [this]
def lS (f : Nat → Nat) : List Nat → Nat
  | [] => 0
  | x :: xs => f x + lS f xs
theorem lS_nodup {e : Nat} : ∀ {l : List Nat}, l.Nodup → iq (e ∈ l) 1 = lS (fun x => iq (x = e) 1) l
  | [], _ => iq_f (by simp) 1
  | x :: xs, h => by
    obtain ⟨h1, h2⟩ := List.nodup_cons.mp h
    have ih := lS_nodup (e := e) h2
    show _ = iq (x = e) 1 + lS (fun x => iq (x = e) 1) xs
    rw [← ih]
    by_cases z : x = e
    · rw [iq_t z, iq_t (by rw [z]; exact List.mem_cons_self), iq_f (fun y => h1 (z ▸ y))]
    · rw [iq_f z, Nat.zero_add]
      exact iq_congr ⟨fun y => (List.mem_cons.mp y).elim (fun w => absurd w.symm z) id, fun y => List.mem_cons_of_mem _ y⟩ 1
theorem lS_ce (f : Nat → Nat) : ∀ l : List Nat, lS f (ce l) = gE (fun a b => f (jn a b)) l
  | [] => rfl
  | [_] => rfl
  | a :: b :: s => by
    show f (jn a b) + lS f (ce (b :: s)) = f (jn a b) + _
    rw [lS_ce f (b :: s)]
/-- whether a join is that of two points -/
theorem jn_two {u v a b : Nat} (hu : u < 12) (hv : v < 12) (ha : a < 12) (hb : b < 12) (huv : u ≠ v) (hab : a ≠ b) : iq (jn a b = jn u v) 1 = iq (a = u ∧ b = v) 1 + iq (a = v ∧ b = u) 1 := by
  by_cases z : a = u ∧ b = v
  · rw [iq_t z, iq_t (by rw [z.1, z.2]), iq_f (fun w => huv (by omega))]
  · rw [iq_f z, Nat.zero_add]
    refine iq_congr ⟨fun w => ?_, fun w => by rw [w.1, w.2]; exact jn_sym v u⟩ 1
    rcases jn_inj2 ha hb hu hv hab huv w with y | y
    · exact absurd y z
    · exact y
/-! paths -/
theorem path_acc {T : Nat → Int} {c : Int} {L : Nat} : ∀ (s r : List Nat), r ≠ [] → s ≠ [] → r.length + s.length = L → (acc T c 5 L r s ↔ ((∀ x ∈ s, x ∉ r) ∧ s.Nodup) ∧ chn (fun a b => T (jn a b) = c) (r.getD (r.length - 1) 0 :: s) ∧ r.getD 0 0 < s.getD (s.length - 1) 0)
  | [], r, _, h, _ => absurd rfl h
  | [p], r, hr, _, hl => by
    have hlen : r.length ≠ 0 := fun z => hr (List.length_eq_zero_iff.mp z)
    have hl : r.length + 1 = L := hl
    have hne : newE 5 L r p = [jn (r.getD (r.length - 1) 0) p] := if_neg hlen
    show ((p ∉ r ∧ okP T c 5 L 0 0 r p) ∧ True) ↔ _
    rw [ok0, hne]
    constructor
    · rintro ⟨⟨h1, h2, h3⟩, -⟩
      have h2 : r.length = 0 ∨ r.length ≠ L - 1 ∨ r.getD 0 0 < p := h2
      refine ⟨⟨fun x hx => by rw [List.mem_singleton.mp hx]; exact h1, by simp⟩, ⟨h3 _ (by simp), trivial⟩, ?_⟩
      show r.getD 0 0 < p
      omega
    · rintro ⟨⟨h1, -⟩, ⟨h2, -⟩, h3⟩
      have h3 : r.getD 0 0 < p := h3
      exact ⟨⟨h1 p (by simp), Or.inr (Or.inr h3), fun e he => by rw [List.mem_singleton.mp he]; exact h2⟩, trivial⟩
  | p :: q :: s, r, hr, _, hl => by
    have hlen : r.length ≠ 0 := fun z => hr (List.length_eq_zero_iff.mp z)
    have hl : r.length + (s.length + 1 + 1) = L := hl
    have hne : newE 5 L r p = [jn (r.getD (r.length - 1) 0) p] := if_neg hlen
    have ih := path_acc (T := T) (c := c) (L := L) (q :: s) (r ++ [p]) (by simp) (by simp) (by rw [app_len]; show r.length + 1 + (s.length + 1) = L; omega)
    show ((p ∉ r ∧ okP T c 5 L 0 0 r p) ∧ acc T c 5 L (r ++ [p]) (q :: s)) ↔ _
    rw [ih, ok0, hne, app_len, lastD, getD_left (by omega)]
    constructor
    · rintro ⟨⟨h1, h2, h3⟩, ⟨h4, h5⟩, h6, h7⟩
      refine ⟨⟨fun x hx => ?_, List.nodup_cons.mpr ⟨fun z => h4 p z (List.mem_append_right _ (by simp)), h5⟩⟩, ⟨h3 _ (by simp), h6⟩, h7⟩
      rcases List.mem_cons.mp hx with rfl | y
      · exact h1
      · exact fun z => h4 x y (List.mem_append_left _ z)
    · rintro ⟨⟨h1, h2⟩, ⟨h3, h4⟩, h5⟩
      obtain ⟨h6, h7⟩ := List.nodup_cons.mp h2
      refine ⟨⟨h1 p List.mem_cons_self, Or.inr (Or.inl (by omega)), fun e he => by rw [List.mem_singleton.mp he]; exact h3⟩, ⟨fun x hx z => ?_, h7⟩, h4, h5⟩
      rcases List.mem_append.mp z with y | y
      · exact h1 x (List.mem_cons_of_mem _ hx) y
      · rw [List.mem_singleton.mp y] at hx
        exact h6 hx
theorem path_edg {L : Nat} : ∀ (s r : List Nat), r ≠ [] → edg 5 L r s = ce (r.getD (r.length - 1) 0 :: s)
  | [], r, _ => rfl
  | p :: s, r, hr => by
    have hlen : r.length ≠ 0 := fun z => hr (List.length_eq_zero_iff.mp z)
    have hne : newE 5 L r p = [jn (r.getD (r.length - 1) 0) p] := if_neg hlen
    show newE 5 L r p ++ edg 5 L (r ++ [p]) s = jn _ p :: ce (p :: s)
    rw [hne, path_edg s (r ++ [p]) (by simp), app_len, lastD]
    rfl
end
section
theorem acc_rOk {T : Nat → Int} {c : Int} {k L : Nat} (hk : kOk k L) : ∀ (s r es : List Nat), acc T c k L r s → rOk k r es → (∀ x ∈ s, x < 12) → rOk k (r ++ s) (es ++ edg k L r s)
  | [], r, es, _, o, _ => by
    rw [List.append_nil]
    show rOk k r (es ++ [])
    rw [List.append_nil]
    exact o
  | p :: s, r, es, a, o, hx => by
    have q := acc_rOk hk s (r ++ [p]) (es ++ newE k L r p) a.2 (rOk_add hk o (hx p List.mem_cons_self) a.1.1) (fun x h => hx x (List.mem_cons_of_mem _ h))
    rw [List.append_assoc, List.append_assoc] at q
    exact q
theorem acc_edg {T : Nat → Int} {c : Int} {k L : Nat} (hk : kOk k L) {s : List Nat} (a : acc T c k L [] s) (hx : ∀ x ∈ s, x < 12) : (edg k L [] s).Nodup := (acc_rOk hk s [] [] a (rOk_nil k) hx).2.2.1
theorem acc_nil {T : Nat → Int} {c : Int} {k L a : Nat} {t : List Nat} : acc T c k L [] (a :: t) ↔ acc T c k L [a] t := by
  show ((a ∉ [] ∧ okP T c k L 0 0 [] a) ∧ acc T c k L [a] t) ↔ _
  refine ⟨fun h => h.2, fun h => ⟨⟨by simp, ok0.mpr ⟨ord_nil, ?_⟩⟩, h⟩⟩
  rw [newE_nil]
  exact fun e he => (List.not_mem_nil he).elim
theorem edg_nil {k L a : Nat} {t : List Nat} : edg k L [] (a :: t) = edg k L [a] t := by
  show newE k L [] a ++ edg k L [a] t = _
  rw [newE_nil]
  rfl
theorem getD_rev {s : List Nat} {i : Nat} (h : i < s.length) : s.reverse.getD i 0 = s.getD (s.length - 1 - i) 0 := by
  rw [List.getD_eq_getElem?_getD, List.getElem?_reverse h, ← List.getD_eq_getElem?_getD]
theorem gE_mem {f g : Nat → Nat → Nat} : ∀ {l : List Nat}, l.Nodup → (∀ a b, a ∈ l → b ∈ l → a ≠ b → f a b = g a b) → gE f l = gE g l
  | [], _, _ => rfl
  | [_], _, _ => rfl
  | a :: b :: s, hn, h => by
    obtain ⟨h1, h2⟩ := List.nodup_cons.mp hn
    show f a b + gE f (b :: s) = g a b + gE g (b :: s)
    rw [h a b List.mem_cons_self (List.mem_cons_of_mem _ List.mem_cons_self) (fun z => h1 (by rw [z]; exact List.mem_cons_self)), gE_mem h2 (fun x y hx hy => h x y (List.mem_cons_of_mem _ hx) (List.mem_cons_of_mem _ hy))]
theorem gE_sm (f : Nat → Nat → Nat) : ∀ l : List Nat, gE f l = sm (fun i => f (l.getD i 0) (l.getD (i + 1) 0)) (l.length - 1)
  | [] => rfl
  | [_] => rfl
  | a :: b :: s => by
    show f a b + gE f (b :: s) = sm _ (s.length + 1)
    rw [gE_sm f (b :: s), Nat.add_comm s.length 1, sm_add]
    show _ = 0 + f a b + _
    rw [Nat.zero_add]
    refine congrArg (f a b + ·) (sm_congr _ (fun i _ => ?_))
    rw [Nat.add_comm 1 i]
    rfl
theorem SL_pick2 (n m : Nat) {u v : Nat} (hu : u < n) (hv : v < n) (G : List Nat → Nat) : SL n (m + 1 + 1) (fun z => iq (z.getD 0 0 = u ∧ z.getD 1 0 = v) (G z)) = SL n m (fun y => G (u :: v :: y)) := by
  show sm (fun a => sm (fun b => SL n m (fun y => iq (a = u ∧ b = v) (G (a :: b :: y)))) n) n = _
  rw [sm_congr (g := fun a => iq (a = u) (sm (fun b => iq (b = v) (SL n m (fun y => G (a :: b :: y)))) n)) n (fun a _ => by
    rw [← sm_iq]
    refine sm_congr n (fun b _ => ?_)
    rw [SL_iq, iq_and]), sm_pick (fun a => sm (fun b => iq (b = v) (SL n m (fun y => G (a :: b :: y)))) n) n hu, sm_pick (fun b => SL n m (fun y => G (u :: b :: y))) n hv]
abbrev adT (T : Nat → Int) (c : Int) (a b : Nat) : Prop := T (jn a b) = c
theorem adT_sym {T : Nat → Int} {c : Int} (a b : Nat) (h : adT T c a b) : adT T c b a := by
  unfold adT
  rw [jn_sym]
  exact h
def rp (T : Nat → Int) (c : Int) (s : List Nat) : Prop := s.Nodup ∧ chn (adT T c) s
theorem rp_rev {T : Nat → Int} {c : Int} (s : List Nat) : rp T c s.reverse ↔ rp T c s := by
  unfold rp
  rw [chn_rev adT_sym, (List.reverse_perm s).nodup_iff]
theorem path_full {T : Nat → Int} {c : Int} {L : Nat} {s : List Nat} (hl : s.length = L) (hL : 2 ≤ L) : acc T c 5 L [] s ↔ rp T c s ∧ s.getD 0 0 < s.getD (s.length - 1) 0 := by
  cases s with
  | nil => exact absurd hl (by show ¬ (0 = L); omega)
  | cons a t =>
    cases t with
    | nil => exact absurd hl (by show ¬ (1 = L); omega)
    | cons b t =>
      rw [acc_nil, path_acc (b :: t) [a] (by simp) (by simp) (by rw [← hl]; show 1 + (t.length + 1) = t.length + 1 + 1; omega)]
      unfold rp
      constructor
      · rintro ⟨⟨h1, h2⟩, h3, h4⟩
        exact ⟨⟨List.nodup_cons.mpr ⟨fun z => h1 a z (by simp), h2⟩, h3⟩, h4⟩
      · rintro ⟨⟨h1, h2⟩, h3⟩
        obtain ⟨h4, h5⟩ := List.nodup_cons.mp h1
        exact ⟨⟨fun x hx z => h4 (by rw [← List.mem_singleton.mp z]; exact hx), h5⟩, h2, h3⟩
/-- the paths in which a join is, by its place -/
theorem thr_path (T : Nat → Int) (c : Int) (L n u v : Nat) (hk : kOk 5 L) (hn : n ≤ 12) (hu : u < n) (hv : v < n) (huv : u ≠ v) :
    thr T c 5 L n (jn u v) = sm (fun i => SL n i (fun x => SL n (L - 2 - i) (fun y => iq (rp T c (x ++ u :: v :: y)) 1))) (L - 1) := by
  have hL : 2 ≤ L := by rcases hk with h | h | h | h | h <;> omega
  rw [thr_SL]
  -- the sum over all paths, each twice
  have e1 : SL n L (fun s => iq (acc T c 5 L [] s ∧ jn u v ∈ edg 5 L [] s) 1) = SL n L (fun s => iq (s.getD 0 0 < s.getD (s.length - 1) 0) (iq (rp T c s) (gE (fun a b => iq (jn a b = jn u v) 1) s))) := by
    refine SL_congr L (fun s hs hx => ?_)
    have hx12 : ∀ x ∈ s, x < 12 := fun x h => by have := hx x h; omega
    rw [iq_and, ← iq_and (p := s.getD 0 0 < s.getD (s.length - 1) 0)]
    refine iq_congr2 ((path_full hs hL).trans ⟨fun z => ⟨z.2, z.1⟩, fun z => ⟨z.2, z.1⟩⟩) (fun z => ?_)
    rw [lS_nodup (acc_edg hk z hx12)]
    cases s with
    | nil => rfl
    | cons a t =>
      rw [edg_nil, path_edg t [a] (by simp)]
      show lS _ (ce (a :: t)) = _
      rw [lS_ce]
  rw [e1]
  have e2 : SL n L (fun s => iq (s.getD (s.length - 1) 0 < s.getD 0 0) (iq (rp T c s) (gE (fun a b => iq (jn a b = jn u v) 1) s))) = SL n L (fun s => iq (s.getD 0 0 < s.getD (s.length - 1) 0) (iq (rp T c s) (gE (fun a b => iq (jn a b = jn u v) 1) s))) := by
    rw [← SL_rev n L (fun s => iq (s.getD (s.length - 1) 0 < s.getD 0 0) (iq (rp T c s) (gE (fun a b => iq (jn a b = jn u v) 1) s)))]
    refine SL_congr L (fun s hs hx => ?_)
    rw [List.length_reverse, getD_rev (by omega), getD_rev (by omega), gE_rev, gE_congr (g := fun a b => iq (jn a b = jn u v) 1) (fun a b => by rw [jn_sym]), iq_congr (rp_rev s)]
    rw [show s.length - 1 - (s.length - 1) = 0 by omega, Nat.sub_zero]
  have e3 : SL n L (fun s => iq (rp T c s) (gE (fun a b => iq (jn a b = jn u v) 1) s)) = SL n L (fun s => iq (s.getD 0 0 < s.getD (s.length - 1) 0) (iq (rp T c s) (gE (fun a b => iq (jn a b = jn u v) 1) s))) + SL n L (fun s => iq (s.getD (s.length - 1) 0 < s.getD 0 0) (iq (rp T c s) (gE (fun a b => iq (jn a b = jn u v) 1) s))) := by
    rw [← SL_plus]
    refine SL_congr L (fun s hs hx => ?_)
    by_cases z : rp T c s
    · have hne := nodup_getD z.1 (i := 0) (j := s.length - 1) (by omega) (by omega)
      by_cases y : s.getD 0 0 < s.getD (s.length - 1) 0
      · rw [iq_t y, iq_f (p := s.getD (s.length - 1) 0 < s.getD 0 0) (by omega), Nat.add_zero]
      · rw [iq_f y, iq_t (p := s.getD (s.length - 1) 0 < s.getD 0 0) (by omega), Nat.zero_add]
    · rw [iq_f z]
      have q : ∀ p : Prop, iq p 0 = 0 := fun p => Nat.le_zero.mp (iq_le p 0)
      rw [q, q]
  have e4 : SL n L (fun s => iq (rp T c s) (gE (fun a b => iq (jn a b = jn u v) 1) s)) = SL n L (fun s => iq (rp T c s) (gE (fun a b => iq (a = u ∧ b = v) 1) s)) + SL n L (fun s => iq (rp T c s) (gE (fun a b => iq (a = v ∧ b = u) 1) s)) := by
    rw [← SL_plus]
    refine SL_congr L (fun s hs hx => ?_)
    rw [← iq_add, ← gE_plus]
    refine iq_congr2 Iff.rfl (fun z => gE_mem z.1 (fun a b ha hb hab => ?_))
    have h1 := hx a ha
    have h2 := hx b hb
    exact jn_two (by omega) (by omega) (by omega) (by omega) huv hab
  have e5 : SL n L (fun s => iq (rp T c s) (gE (fun a b => iq (a = v ∧ b = u) 1) s)) = SL n L (fun s => iq (rp T c s) (gE (fun a b => iq (a = u ∧ b = v) 1) s)) := by
    rw [← SL_rev n L (fun s => iq (rp T c s) (gE (fun a b => iq (a = v ∧ b = u) 1) s))]
    refine SL_congr L (fun s hs hx => ?_)
    rw [gE_rev, iq_congr (rp_rev s), gE_congr (g := fun a b => iq (a = u ∧ b = v) 1) (fun a b => iq_congr ⟨fun w => ⟨w.2, w.1⟩, fun w => ⟨w.2, w.1⟩⟩ 1)]
  have e6 : SL n L (fun s => iq (rp T c s) (gE (fun a b => iq (a = u ∧ b = v) 1) s)) = sm (fun i => SL n i (fun x => SL n (L - 2 - i) (fun y => iq (rp T c (x ++ u :: v :: y)) 1))) (L - 1) := by
    rw [SL_congr L (G := fun s => sm (fun i => iq (rp T c s) (iq (s.getD i 0 = u ∧ s.getD (i + 1) 0 = v) 1)) (L - 1)) (fun s hs hx => by rw [sm_iq, gE_sm, hs]), ← SL_sm]
    refine sm_congr (L - 1) (fun i hi => ?_)
    have hLi : L = i + (L - 2 - i + 1 + 1) := by omega
    conv => lhs; rw [hLi, SL_app]
    refine SL_congr i (fun x hxl hx => ?_)
    rw [← SL_pick2 n (L - 2 - i) hu hv (fun z => iq (rp T c (x ++ z)) 1)]
    refine SL_congr _ (fun z hz _ => ?_)
    have g1 : (x ++ z).getD i 0 = z.getD 0 0 := by
      have := getD_right (a := x) (b := z) (i := 0)
      rw [hxl] at this
      exact this
    have g2 : (x ++ z).getD (i + 1) 0 = z.getD 1 0 := by
      have := getD_right (a := x) (b := z) (i := 1)
      rw [hxl] at this
      exact this
    rw [g1, g2, ← iq_and, ← iq_and]
    exact iq_congr ⟨fun w => ⟨w.2, w.1⟩, fun w => ⟨w.2, w.1⟩⟩ 1
  omega
end
section
/-! rings -/
theorem ring_acc {T : Nat → Int} {c : Int} {L : Nat} (hL : 3 ≤ L) : ∀ (s r : List Nat), r ≠ [] → s ≠ [] → r.length + s.length = L → (acc T c 2 L r s ↔ ((∀ x ∈ s, x ∉ r) ∧ s.Nodup) ∧ chn (adT T c) (r.getD (r.length - 1) 0 :: s ++ [r.getD 0 0]) ∧ (∀ x ∈ s, r.getD 0 0 < x) ∧ (r ++ s).getD 1 0 < s.getD (s.length - 1) 0)
  | [], r, _, h, _ => absurd rfl h
  | [p], r, hr, _, hl => by
    have hlen : r.length ≠ 0 := fun z => hr (List.length_eq_zero_iff.mp z)
    have hl : r.length + 1 = L := hl
    have hne : newE 2 L r p = [jn (r.getD (r.length - 1) 0) p, jn p (r.getD 0 0)] := by
      show (if r.length = 0 then [] else if r.length = L - 1 then _ else _) = _
      rw [if_neg hlen, if_pos (by omega)]
    show ((p ∉ r ∧ okP T c 2 L 0 0 r p) ∧ True) ↔ _
    rw [ok0, hne, getD_left (by omega)]
    constructor
    · rintro ⟨⟨h1, h2, h3⟩, -⟩
      have h2 : r.length = 0 ∨ (r.getD 0 0 < p ∧ (r.length ≠ L - 1 ∨ r.getD 1 0 < p)) := h2
      refine ⟨⟨fun x hx => by rw [List.mem_singleton.mp hx]; exact h1, by simp⟩, ⟨h3 _ (by simp), h3 _ (by simp), trivial⟩, fun x hx => by rw [List.mem_singleton.mp hx]; omega, ?_⟩
      show r.getD 1 0 < p
      omega
    · rintro ⟨⟨h1, -⟩, ⟨h2, h2', -⟩, h3, h4⟩
      have h4 : r.getD 1 0 < p := h4
      refine ⟨⟨h1 p (by simp), Or.inr ⟨h3 p (by simp), Or.inr h4⟩, fun e he => ?_⟩, trivial⟩
      rcases List.mem_cons.mp he with rfl | y
      · exact h2
      · rw [List.mem_singleton.mp y]
        exact h2'
  | p :: q :: s, r, hr, _, hl => by
    have hlen : r.length ≠ 0 := fun z => hr (List.length_eq_zero_iff.mp z)
    have hl : r.length + (s.length + 1 + 1) = L := hl
    have hne : newE 2 L r p = [jn (r.getD (r.length - 1) 0) p] := by
      show (if r.length = 0 then [] else if r.length = L - 1 then _ else _) = _
      rw [if_neg hlen, if_neg (by omega)]
    have ih := ring_acc (T := T) (c := c) hL (q :: s) (r ++ [p]) (by simp) (by simp) (by rw [app_len]; show r.length + 1 + (s.length + 1) = L; omega)
    show ((p ∉ r ∧ okP T c 2 L 0 0 r p) ∧ acc T c 2 L (r ++ [p]) (q :: s)) ↔ _
    rw [ih, ok0, hne, app_len, lastD, getD_left (a := r) (b := [p]) (by omega), List.append_assoc r [p]]
    constructor
    · rintro ⟨⟨h1, h2, h3⟩, ⟨h4, h5⟩, h6, h7, h8⟩
      have h2 : r.length = 0 ∨ (r.getD 0 0 < p ∧ (r.length ≠ L - 1 ∨ r.getD 1 0 < p)) := h2
      refine ⟨⟨fun x hx => ?_, List.nodup_cons.mpr ⟨fun z => h4 p z (List.mem_append_right _ (by simp)), h5⟩⟩, ⟨h3 _ (by simp), h6⟩, fun x hx => ?_, h8⟩
      · rcases List.mem_cons.mp hx with rfl | y
        · exact h1
        · exact fun z => h4 x y (List.mem_append_left _ z)
      · rcases List.mem_cons.mp hx with rfl | y
        · omega
        · exact h7 x y
    · rintro ⟨⟨h1, h2⟩, ⟨h3, h4⟩, h5, h8⟩
      obtain ⟨h6, h7⟩ := List.nodup_cons.mp h2
      refine ⟨⟨h1 p List.mem_cons_self, Or.inr ⟨h5 p List.mem_cons_self, Or.inl (by omega)⟩, fun e he => by rw [List.mem_singleton.mp he]; exact h3⟩, ⟨fun x hx z => ?_, h7⟩, h4, fun x hx => h5 x (List.mem_cons_of_mem _ hx), h8⟩
      rcases List.mem_append.mp z with y | y
      · exact h1 x (List.mem_cons_of_mem _ hx) y
      · rw [List.mem_singleton.mp y] at hx
        exact h6 hx
theorem ring_edg {L : Nat} : ∀ (s r : List Nat), r ≠ [] → s ≠ [] → r.length + s.length = L → edg 2 L r s = ce (r.getD (r.length - 1) 0 :: s ++ [r.getD 0 0])
  | [], r, _, h, _ => absurd rfl h
  | [p], r, hr, _, hl => by
    have hlen : r.length ≠ 0 := fun z => hr (List.length_eq_zero_iff.mp z)
    have hl : r.length + 1 = L := hl
    have hne : newE 2 L r p = [jn (r.getD (r.length - 1) 0) p, jn p (r.getD 0 0)] := by
      show (if r.length = 0 then [] else if r.length = L - 1 then _ else _) = _
      rw [if_neg hlen, if_pos (by omega)]
    show newE 2 L r p ++ [] = _
    rw [hne]
    rfl
  | p :: q :: s, r, hr, _, hl => by
    have hlen : r.length ≠ 0 := fun z => hr (List.length_eq_zero_iff.mp z)
    have hl : r.length + (s.length + 1 + 1) = L := hl
    have hne : newE 2 L r p = [jn (r.getD (r.length - 1) 0) p] := by
      show (if r.length = 0 then [] else if r.length = L - 1 then _ else _) = _
      rw [if_neg hlen, if_neg (by omega)]
    show newE 2 L r p ++ edg 2 L (r ++ [p]) (q :: s) = _
    rw [hne, ring_edg (q :: s) (r ++ [p]) (by simp) (by simp) (by rw [app_len]; show r.length + 1 + (s.length + 1) = L; omega), app_len, lastD, getD_left (a := r) (b := [p]) (by omega)]
    rfl
def cl : List Nat → List Nat
  | [] => []
  | a :: t => a :: t ++ [a]
def rt : List Nat → List Nat
  | [] => []
  | a :: t => t ++ [a]
def fr : List Nat → List Nat
  | [] => []
  | a :: t => a :: t.reverse
def rti : Nat → List Nat → List Nat
  | 0, s => s
  | i + 1, s => rti i (rt s)
def rg (T : Nat → Int) (c : Int) (s : List Nat) : Prop := s.Nodup ∧ chn (adT T c) (cl s)
theorem rt_perm : ∀ s : List Nat, (rt s).Perm s
  | [] => List.Perm.refl _
  | a :: t => List.perm_append_comm (l₁ := t) (l₂ := [a])
theorem fr_perm : ∀ s : List Nat, (fr s).Perm s
  | [] => List.Perm.refl _
  | a :: t => (List.reverse_perm t).cons a
theorem rg_rt {T : Nat → Int} {c : Int} : ∀ s : List Nat, rg T c (rt s) ↔ rg T c s
  | [] => Iff.rfl
  | [_] => Iff.rfl
  | a :: b :: t => by
    unfold rg
    rw [(rt_perm (a :: b :: t)).nodup_iff]
    have e1 : cl (rt (a :: b :: t)) = (b :: t) ++ [a, b] := by
      show b :: (t ++ [a]) ++ [b] = _
      simp
    rw [e1, chn_snoc]
    show _ ↔ _ ∧ (adT T c a b ∧ chn (adT T c) (b :: t ++ [a]))
    exact ⟨fun h => ⟨h.1, h.2.2, h.2.1⟩, fun h => ⟨h.1, h.2.2, h.2.1⟩⟩
theorem cl_fr (s : List Nat) : cl (fr s) = (cl s).reverse := by
  cases s with
  | nil => rfl
  | cons a t =>
    show a :: t.reverse ++ [a] = (a :: t ++ [a]).reverse
    simp
theorem rg_fr {T : Nat → Int} {c : Int} (s : List Nat) : rg T c (fr s) ↔ rg T c s := by
  unfold rg
  rw [(fr_perm s).nodup_iff, cl_fr, chn_rev adT_sym]
theorem gE_rt (f : Nat → Nat → Nat) : ∀ s : List Nat, gE f (cl (rt s)) = gE f (cl s)
  | [] => rfl
  | [_] => rfl
  | a :: b :: t => by
    have e1 : cl (rt (a :: b :: t)) = (b :: t) ++ [a, b] := by
      show b :: (t ++ [a]) ++ [b] = _
      simp
    rw [e1, gE_snoc]
    show _ = f a b + gE f (b :: t ++ [a])
    omega
theorem rg_rti {T : Nat → Int} {c : Int} : ∀ (i : Nat) (s : List Nat), rg T c (rti i s) ↔ rg T c s
  | 0, s => Iff.rfl
  | i + 1, s => (rg_rti i (rt s)).trans (rg_rt s)
theorem gE_rti (f : Nat → Nat → Nat) : ∀ (i : Nat) (s : List Nat), gE f (cl (rti i s)) = gE f (cl s)
  | 0, s => rfl
  | i + 1, s => (gE_rti f i (rt s)).trans (gE_rt f s)
theorem SL_rt (n j : Nat) (F : List Nat → Nat) : SL n (j + 1) (fun s => F (rt s)) = SL n (j + 1) F := SL_rot n j F
theorem SL_fr (n j : Nat) (F : List Nat → Nat) : SL n (j + 1) (fun s => F (fr s)) = SL n (j + 1) F :=
  sm_congr n (fun p _ => SL_rev n j (fun s => F (p :: s)))
theorem SL_rti (n j : Nat) (F : List Nat → Nat) : ∀ i, SL n (j + 1) (fun s => F (rti i s)) = SL n (j + 1) F
  | 0 => rfl
  | i + 1 => (SL_rt n j (fun s => F (rti i s))).trans (SL_rti n j F i)
def mnF : List Nat → Prop
  | [] => True
  | a :: t => ∀ x ∈ t, a < x
theorem list3 : ∀ {s : List Nat}, s.length = 3 → ∃ a b c, s = [a, b, c]
  | [a, b, c], _ => ⟨a, b, c, rfl⟩
theorem list4 : ∀ {s : List Nat}, s.length = 4 → ∃ a b c e, s = [a, b, c, e]
  | [a, b, c, e], _ => ⟨a, b, c, e, rfl⟩
theorem list5 : ∀ {s : List Nat}, s.length = 5 → ∃ a b c e f, s = [a, b, c, e, f]
  | [a, b, c, e, f], _ => ⟨a, b, c, e, f, rfl⟩
theorem has_min : ∀ {s : List Nat}, s ≠ [] → ∃ m ∈ s, ∀ x ∈ s, m ≤ x
  | [], h => absurd rfl h
  | [a], _ => ⟨a, by simp, fun x hx => by rw [List.mem_singleton.mp hx]; exact Nat.le_refl _⟩
  | a :: b :: t, _ => by
    obtain ⟨m, hm, h⟩ := has_min (s := b :: t) (by simp)
    by_cases z : a ≤ m
    · refine ⟨a, List.mem_cons_self, fun x hx => ?_⟩
      rcases List.mem_cons.mp hx with rfl | y
      · exact Nat.le_refl _
      · have := h x y; omega
    · refine ⟨m, List.mem_cons_of_mem _ hm, fun x hx => ?_⟩
      rcases List.mem_cons.mp hx with rfl | y
      · omega
      · exact h x y
theorem mn_iff {s t : List Nat} {x m : Nat} (hp : (x :: t).Perm s) (hn : s.Nodup) (hm : m ∈ s) (h : ∀ y ∈ s, m ≤ y) : mnF (x :: t) ↔ x = m := by
  have hn2 := hp.nodup_iff.mpr hn
  obtain ⟨h1, h2⟩ := List.nodup_cons.mp hn2
  have hmx := hp.mem_iff.mpr hm
  constructor
  · intro z
    rcases List.mem_cons.mp hmx with y | y
    · exact y.symm
    · have a1 : x < m := z m y
      have a2 := h x (hp.mem_iff.mp List.mem_cons_self)
      omega
  · rintro rfl y hy
    have a1 := h y (hp.mem_iff.mp (List.mem_cons_of_mem _ hy))
    have a2 : x ≠ y := fun w => h1 (w ▸ hy)
    omega
theorem rti_perm : ∀ (i : Nat) (s : List Nat), (rti i s).Perm s
  | 0, s => List.Perm.refl _
  | i + 1, s => (rti_perm i (rt s)).trans (rt_perm s)
theorem mn_sum3 {a b c : Nat} (h : [a, b, c].Nodup) : sm (fun i => iq (mnF (rti i [a, b, c])) 1) 3 = 1 := by
  obtain ⟨m, hm, hle⟩ := has_min (s := [a, b, c]) (by simp)
  show 0 + iq (mnF [a, b, c]) 1 + iq (mnF [b, c, a]) 1 + iq (mnF [c, a, b]) 1 = 1
  rw [iq_congr (show mnF [a, b, c] ↔ a = m from mn_iff (rti_perm 0 [a, b, c]) h hm hle) 1, iq_congr (show mnF [b, c, a] ↔ b = m from mn_iff (rti_perm 1 [a, b, c]) h hm hle) 1, iq_congr (show mnF [c, a, b] ↔ c = m from mn_iff (rti_perm 2 [a, b, c]) h hm hle) 1]
  have q := lS_nodup (e := m) h
  rw [iq_t hm] at q
  have q : 1 = iq (a = m) 1 + (iq (b = m) 1 + (iq (c = m) 1 + 0)) := q
  omega
theorem mn_sum4 {a b c e : Nat} (h : [a, b, c, e].Nodup) : sm (fun i => iq (mnF (rti i [a, b, c, e])) 1) 4 = 1 := by
  obtain ⟨m, hm, hle⟩ := has_min (s := [a, b, c, e]) (by simp)
  show 0 + iq (mnF [a, b, c, e]) 1 + iq (mnF [b, c, e, a]) 1 + iq (mnF [c, e, a, b]) 1 + iq (mnF [e, a, b, c]) 1 = 1
  rw [iq_congr (show mnF [a, b, c, e] ↔ a = m from mn_iff (rti_perm 0 [a, b, c, e]) h hm hle) 1, iq_congr (show mnF [b, c, e, a] ↔ b = m from mn_iff (rti_perm 1 [a, b, c, e]) h hm hle) 1, iq_congr (show mnF [c, e, a, b] ↔ c = m from mn_iff (rti_perm 2 [a, b, c, e]) h hm hle) 1, iq_congr (show mnF [e, a, b, c] ↔ e = m from mn_iff (rti_perm 3 [a, b, c, e]) h hm hle) 1]
  have q := lS_nodup (e := m) h
  rw [iq_t hm] at q
  have q : 1 = iq (a = m) 1 + (iq (b = m) 1 + (iq (c = m) 1 + (iq (e = m) 1 + 0))) := q
  omega
theorem mn_sum5 {a b c e f : Nat} (h : [a, b, c, e, f].Nodup) : sm (fun i => iq (mnF (rti i [a, b, c, e, f])) 1) 5 = 1 := by
  obtain ⟨m, hm, hle⟩ := has_min (s := [a, b, c, e, f]) (by simp)
  show 0 + iq (mnF [a, b, c, e, f]) 1 + iq (mnF [b, c, e, f, a]) 1 + iq (mnF [c, e, f, a, b]) 1 + iq (mnF [e, f, a, b, c]) 1 + iq (mnF [f, a, b, c, e]) 1 = 1
  rw [iq_congr (show mnF [a, b, c, e, f] ↔ a = m from mn_iff (rti_perm 0 [a, b, c, e, f]) h hm hle) 1, iq_congr (show mnF [b, c, e, f, a] ↔ b = m from mn_iff (rti_perm 1 [a, b, c, e, f]) h hm hle) 1, iq_congr (show mnF [c, e, f, a, b] ↔ c = m from mn_iff (rti_perm 2 [a, b, c, e, f]) h hm hle) 1, iq_congr (show mnF [e, f, a, b, c] ↔ e = m from mn_iff (rti_perm 3 [a, b, c, e, f]) h hm hle) 1, iq_congr (show mnF [f, a, b, c, e] ↔ f = m from mn_iff (rti_perm 4 [a, b, c, e, f]) h hm hle) 1]
  have q := lS_nodup (e := m) h
  rw [iq_t hm] at q
  have q : 1 = iq (a = m) 1 + (iq (b = m) 1 + (iq (c = m) 1 + (iq (e = m) 1 + (iq (f = m) 1 + 0)))) := q
  omega
theorem ge_sum3 (g : Nat → Nat → Nat) (a b c : Nat) : gE g (cl [a, b, c]) = sm (fun i => g ((rti i [a, b, c]).getD 0 0) ((rti i [a, b, c]).getD 1 0)) 3 := by
  show g a b + (g b c + (g c a + 0)) = 0 + g a b + g b c + g c a
  omega
theorem ge_sum4 (g : Nat → Nat → Nat) (a b c e : Nat) : gE g (cl [a, b, c, e]) = sm (fun i => g ((rti i [a, b, c, e]).getD 0 0) ((rti i [a, b, c, e]).getD 1 0)) 4 := by
  show g a b + (g b c + (g c e + (g e a + 0))) = 0 + g a b + g b c + g c e + g e a
  omega
theorem ge_sum5 (g : Nat → Nat → Nat) (a b c e f : Nat) : gE g (cl [a, b, c, e, f]) = sm (fun i => g ((rti i [a, b, c, e, f]).getD 0 0) ((rti i [a, b, c, e, f]).getD 1 0)) 5 := by
  show g a b + (g b c + (g c e + (g e f + (g f a + 0)))) = 0 + g a b + g b c + g c e + g e f + g f a
  omega
theorem mn_sum {s : List Nat} {L : Nat} (hL : L = 3 ∨ L = 4 ∨ L = 5) (hs : s.length = L) (h : s.Nodup) : sm (fun i => iq (mnF (rti i s)) 1) L = 1 := by
  rcases hL with rfl | rfl | rfl
  · obtain ⟨a, b, c, rfl⟩ := list3 hs
    exact mn_sum3 h
  · obtain ⟨a, b, c, e, rfl⟩ := list4 hs
    exact mn_sum4 h
  · obtain ⟨a, b, c, e, f, rfl⟩ := list5 hs
    exact mn_sum5 h
theorem ge_sum (g : Nat → Nat → Nat) {s : List Nat} {L : Nat} (hL : L = 3 ∨ L = 4 ∨ L = 5) (hs : s.length = L) : gE g (cl s) = sm (fun i => g ((rti i s).getD 0 0) ((rti i s).getD 1 0)) L := by
  rcases hL with rfl | rfl | rfl
  · obtain ⟨a, b, c, rfl⟩ := list3 hs
    exact ge_sum3 g a b c
  · obtain ⟨a, b, c, e, rfl⟩ := list4 hs
    exact ge_sum4 g a b c e
  · obtain ⟨a, b, c, e, f, rfl⟩ := list5 hs
    exact ge_sum5 g a b c e f
theorem sm_const (x : Nat) : ∀ n, sm (fun _ => x) n = n * x
  | 0 => (Nat.zero_mul x).symm
  | n + 1 => by
    show sm (fun _ => x) n + x = (n + 1) * x
    rw [sm_const x n, Nat.add_mul, Nat.one_mul]
theorem iq_zero (p : Prop) : iq p 0 = 0 := Nat.le_zero.mp (iq_le p 0)
theorem iq_mul (p : Prop) (x : Nat) : iq p x = iq p 1 * x := by
  by_cases z : p
  · rw [iq_t z, iq_t z, Nat.one_mul]
  · rw [iq_f z, iq_f z, Nat.zero_mul]
theorem ring_full {T : Nat → Int} {c : Int} {L : Nat} {s : List Nat} (hl : s.length = L) (hL : 3 ≤ L) : acc T c 2 L [] s ↔ (rg T c s ∧ mnF s) ∧ s.getD 1 0 < s.getD (s.length - 1) 0 := by
  cases s with
  | nil => exact absurd hl (by show ¬ (0 = L); omega)
  | cons a t =>
    cases t with
    | nil => exact absurd hl (by show ¬ (1 = L); omega)
    | cons b t =>
      rw [acc_nil, ring_acc hL (b :: t) [a] (by simp) (by simp) (by rw [← hl]; show 1 + (t.length + 1) = t.length + 1 + 1; omega)]
      unfold rg
      constructor
      · rintro ⟨⟨h1, h2⟩, h3, h4, h5⟩
        exact ⟨⟨⟨List.nodup_cons.mpr ⟨fun z => h1 a z (by simp), h2⟩, h3⟩, h4⟩, h5⟩
      · rintro ⟨⟨⟨h1, h2⟩, h3⟩, h6⟩
        obtain ⟨h4, h5⟩ := List.nodup_cons.mp h1
        exact ⟨⟨fun x hx z => h4 (by rw [← List.mem_singleton.mp z]; exact hx), h5⟩, h2, h3, h6⟩
end
section
/-- the rings in which a join is: the ways from one of its points to the other -/
theorem thr_ring (T : Nat → Int) (c : Int) (L n u v : Nat) (hk : kOk 2 L) (hn : n ≤ 12) (hu : u < n) (hv : v < n) (huv : u ≠ v) :
    thr T c 2 L n (jn u v) = SL n (L - 2) (fun y => iq (rg T c (v :: u :: y)) 1) := by
  have hL3 : L = 3 ∨ L = 4 ∨ L = 5 := by rcases hk with h | h | h | h | h <;> omega
  obtain ⟨j, hj⟩ : ∃ j, L = j + 1 := ⟨L - 1, by omega⟩
  rw [thr_SL]
  have e1 : SL n L (fun s => iq (acc T c 2 L [] s ∧ jn u v ∈ edg 2 L [] s) 1) = SL n L (fun s => iq (s.getD 1 0 < s.getD (s.length - 1) 0) (iq (mnF s) (iq (rg T c s) (gE (fun a b => iq (jn a b = jn u v) 1) (cl s))))) := by
    refine SL_congr L (fun s hs hx => ?_)
    have hx12 : ∀ x ∈ s, x < 12 := fun x h => by have := hx x h; omega
    rw [iq_and, ← iq_and (p := mnF s), ← iq_and (p := s.getD 1 0 < s.getD (s.length - 1) 0)]
    refine iq_congr2 ((ring_full hs (by omega)).trans ⟨fun z => ⟨z.2, z.1.2, z.1.1⟩, fun z => ⟨⟨z.2.2, z.2.1⟩, z.1⟩⟩) (fun z => ?_)
    rw [lS_nodup (acc_edg hk z hx12)]
    cases s with
    | nil => rfl
    | cons a t =>
      rw [edg_nil, ring_edg t [a] (by simp) (fun w => by rw [w] at hs; have hs : 1 = L := hs; omega) (by rw [← hs]; show 1 + t.length = t.length + 1; omega)]
      show lS _ (ce (cl (a :: t))) = _
      rw [lS_ce]
  rw [e1]
  have invX : ∀ (i : Nat) (s : List Nat), iq (rg T c (rti i s)) (gE (fun a b => iq (jn a b = jn u v) 1) (cl (rti i s))) = iq (rg T c s) (gE (fun a b => iq (jn a b = jn u v) 1) (cl s)) := fun i s => by rw [gE_rti, iq_congr (rg_rti i s)]
  have e2 : SL n L (fun s => iq (rg T c s) (gE (fun a b => iq (jn a b = jn u v) 1) (cl s))) = L * SL n L (fun s => iq (mnF s) (iq (rg T c s) (gE (fun a b => iq (jn a b = jn u v) 1) (cl s)))) := by
    rw [SL_congr L (G := fun s => sm (fun i => iq (mnF (rti i s)) (iq (rg T c (rti i s)) (gE (fun a b => iq (jn a b = jn u v) 1) (cl (rti i s))))) L) (fun s hs hx => ?_), ← SL_sm, hj]
    · rw [sm_congr (g := fun _ => SL n (j + 1) (fun s => iq (mnF s) (iq (rg T c s) (gE (fun a b => iq (jn a b = jn u v) 1) (cl s))))) (j + 1) (fun i _ => SL_rti n j (fun s => iq (mnF s) (iq (rg T c s) (gE (fun a b => iq (jn a b = jn u v) 1) (cl s)))) i), sm_const]
    · rw [sm_congr (g := fun i => iq (rg T c s) (gE (fun a b => iq (jn a b = jn u v) 1) (cl s)) * iq (mnF (rti i s)) 1) L (fun i _ => by rw [invX, iq_mul, Nat.mul_comm]), sm_mul]
      by_cases z : rg T c s
      · rw [mn_sum hL3 hs z.1, Nat.mul_one]
      · rw [iq_f z, Nat.zero_mul]
  have e3 : SL n L (fun s => iq (s.getD (s.length - 1) 0 < s.getD 1 0) (iq (mnF s) (iq (rg T c s) (gE (fun a b => iq (jn a b = jn u v) 1) (cl s))))) = SL n L (fun s => iq (s.getD 1 0 < s.getD (s.length - 1) 0) (iq (mnF s) (iq (rg T c s) (gE (fun a b => iq (jn a b = jn u v) 1) (cl s))))) := by
    rw [hj, ← SL_fr n j (fun s => iq (s.getD (s.length - 1) 0 < s.getD 1 0) (iq (mnF s) (iq (rg T c s) (gE (fun a b => iq (jn a b = jn u v) 1) (cl s)))))]
    refine SL_congr (j + 1) (fun s hs hx => ?_)
    rw [cl_fr, gE_rev, gE_congr (g := fun a b => iq (jn a b = jn u v) 1) (fun a b => by rw [jn_sym]), iq_congr (rg_fr s)]
    cases s with
    | nil => exact absurd hs (by show ¬ (0 = j + 1); omega)
    | cons a t =>
      have hs : t.length + 1 = j + 1 := hs
      have m1 : mnF (fr (a :: t)) ↔ mnF (a :: t) := ⟨fun h x hx => h x (List.mem_reverse.mpr hx), fun h x hx => h x (List.mem_reverse.mp hx)⟩
      have g1 : (fr (a :: t)).getD ((fr (a :: t)).length - 1) 0 = (a :: t).getD 1 0 := by
        show (a :: t.reverse).getD (t.reverse.length + 1 - 1) 0 = t.getD 0 0
        rw [List.length_reverse, Nat.add_sub_cancel, show t.length = (t.length - 1) + 1 by omega]
        show t.reverse.getD (t.length - 1) 0 = _
        rw [getD_rev (by omega), Nat.sub_self]
      have g2 : (fr (a :: t)).getD 1 0 = (a :: t).getD ((a :: t).length - 1) 0 := by
        show t.reverse.getD 0 0 = (a :: t).getD (t.length + 1 - 1) 0
        rw [getD_rev (by omega), Nat.add_sub_cancel, Nat.sub_zero, show (a :: t).getD t.length 0 = (a :: t).getD ((t.length - 1) + 1) 0 by rw [show t.length - 1 + 1 = t.length by omega]]
        rfl
      rw [g1, g2, iq_congr m1]
  have e4 : SL n L (fun s => iq (mnF s) (iq (rg T c s) (gE (fun a b => iq (jn a b = jn u v) 1) (cl s)))) = SL n L (fun s => iq (s.getD 1 0 < s.getD (s.length - 1) 0) (iq (mnF s) (iq (rg T c s) (gE (fun a b => iq (jn a b = jn u v) 1) (cl s))))) + SL n L (fun s => iq (s.getD (s.length - 1) 0 < s.getD 1 0) (iq (mnF s) (iq (rg T c s) (gE (fun a b => iq (jn a b = jn u v) 1) (cl s))))) := by
    rw [← SL_plus]
    refine SL_congr L (fun s hs hx => ?_)
    by_cases z : rg T c s
    · have hne := nodup_getD z.1 (i := 1) (j := s.length - 1) (by omega) (by omega)
      by_cases y : s.getD 1 0 < s.getD (s.length - 1) 0
      · rw [iq_t y, iq_f (p := s.getD (s.length - 1) 0 < s.getD 1 0) (by omega), Nat.add_zero]
      · rw [iq_f y, iq_t (p := s.getD (s.length - 1) 0 < s.getD 1 0) (by omega), Nat.zero_add]
    · rw [iq_f z, iq_zero, iq_zero, iq_zero]
  have e5 : SL n L (fun s => iq (rg T c s) (gE (fun a b => iq (jn a b = jn u v) 1) (cl s))) = L * SL n L (fun s => iq (rg T c s) (iq (jn (s.getD 0 0) (s.getD 1 0) = jn u v) 1)) := by
    rw [SL_congr L (G := fun s => sm (fun i => iq (rg T c (rti i s)) (iq (jn ((rti i s).getD 0 0) ((rti i s).getD 1 0) = jn u v) 1)) L) (fun s hs hx => ?_), ← SL_sm, hj]
    · rw [sm_congr (g := fun _ => SL n (j + 1) (fun s => iq (rg T c s) (iq (jn (s.getD 0 0) (s.getD 1 0) = jn u v) 1))) (j + 1) (fun i _ => SL_rti n j (fun s => iq (rg T c s) (iq (jn (s.getD 0 0) (s.getD 1 0) = jn u v) 1)) i), sm_const]
    · rw [ge_sum _ hL3 hs, ← sm_iq]
      exact sm_congr L (fun i _ => iq_congr (rg_rti i s).symm _)
  have e6 : SL n L (fun s => iq (rg T c s) (iq (jn (s.getD 0 0) (s.getD 1 0) = jn u v) 1)) = SL n L (fun s => iq (s.getD 0 0 = u ∧ s.getD 1 0 = v) (iq (rg T c s) 1)) + SL n L (fun s => iq (s.getD 0 0 = v ∧ s.getD 1 0 = u) (iq (rg T c s) 1)) := by
    rw [← SL_plus]
    refine SL_congr L (fun s hs hx => ?_)
    have h0 := hx _ (getD_mem (r := s) (j := 0) (by omega))
    have h1 := hx _ (getD_mem (r := s) (j := 1) (by omega))
    by_cases z : rg T c s
    · have hne := nodup_getD z.1 (i := 0) (j := 1) (by omega) (by omega)
      have q := jn_two (u := u) (v := v) (by omega) (by omega) (show s.getD 0 0 < 12 by omega) (show s.getD 1 0 < 12 by omega) huv hne
      rw [iq_t z, iq_t z, q]
    · rw [iq_f z, iq_f z, iq_zero, iq_zero]
  have hLL : L = L - 2 + 1 + 1 := by omega
  have e7 : SL n L (fun s => iq (s.getD 0 0 = u ∧ s.getD 1 0 = v) (iq (rg T c s) 1)) = SL n (L - 2) (fun y => iq (rg T c (u :: v :: y)) 1) := by
    conv => lhs; rw [hLL]
    exact SL_pick2 n (L - 2) hu hv (fun s => iq (rg T c s) 1)
  have e8 : SL n L (fun s => iq (s.getD 0 0 = v ∧ s.getD 1 0 = u) (iq (rg T c s) 1)) = SL n (L - 2) (fun y => iq (rg T c (v :: u :: y)) 1) := by
    conv => lhs; rw [hLL]
    exact SL_pick2 n (L - 2) hv hu (fun s => iq (rg T c s) 1)
  have e9 : SL n (L - 2) (fun y => iq (rg T c (u :: v :: y)) 1) = SL n (L - 2) (fun y => iq (rg T c (v :: u :: y)) 1) := by
    rw [← SL_rev n (L - 2) (fun y => iq (rg T c (v :: u :: y)) 1)]
    refine SL_congr _ (fun y _ _ => iq_congr ?_ 1)
    rw [← rg_fr (u :: v :: y), ← rg_rt (v :: u :: y.reverse)]
    have : fr (u :: v :: y) = rt (v :: u :: y.reverse) := by
      show u :: (v :: y).reverse = u :: y.reverse ++ [v]
      rw [List.reverse_cons]
      rfl
    rw [this]
  rw [e6, e7, e8, e9] at e5
  rw [e4, e3] at e2
  have hfin := e2.symm.trans e5
  have := Nat.eq_of_mul_eq_mul_left (show 0 < L by omega) hfin
  omega
end
section
/-! those that are all joined -/
noncomputable def cq (A : Nat → Nat → Prop) (n : Nat) : Nat → (Nat → Prop) → Nat
  | 0, _ => 1
  | j + 1, C => sm (fun p => iq (C p) (cq A n j (fun q => C q ∧ A p q ∧ p < q))) n
theorem cq_congr {A A' : Nat → Nat → Prop} {n : Nat} : ∀ (j : Nat) {C C' : Nat → Prop}, (∀ q, q < n → (C q ↔ C' q)) → (∀ p q, p < n → q < n → C p → C q → p ≠ q → (A p q ↔ A' p q)) → cq A n j C = cq A' n j C'
  | 0, _, _, _, _ => rfl
  | j + 1, C, C', h1, h2 => by
    refine sm_congr n (fun p hp => iq_congr2 (h1 p hp) (fun z => cq_congr j (fun q hq => ?_) (fun x y hx hy hx2 hy2 hne => h2 x y hx hy hx2.1 hy2.1 hne)))
    constructor
    · rintro ⟨a, b, d⟩
      exact ⟨(h1 q hq).mp a, (h2 p q hp hq z a (by omega)).mp b, d⟩
    · rintro ⟨a, b, d⟩
      have a' := (h1 q hq).mpr a
      exact ⟨a', (h2 p q hp hq z a' (by omega)).mpr b, d⟩
theorem cq_rem {A : Nat → Nat → Prop} (hA : ∀ a b, A a b → A b a) {n v : Nat} (hv : v < n) : ∀ (j : Nat) {C : Nat → Prop}, C v → cq A n (j + 1) C = cq A n (j + 1) (fun q => C q ∧ q ≠ v) + cq A n j (fun q => C q ∧ A v q ∧ q ≠ v)
  | 0, C, hC => by
    show sm (fun p => iq (C p) 1) n = sm (fun p => iq (C p ∧ p ≠ v) 1) n + 1
    have e := sm_pick (fun _ => 1) n hv
    rw [sm_congr (g := fun p => iq (C p ∧ p ≠ v) 1 + iq (p = v) 1) n (fun p _ => ?_), sm_plus, e]
    by_cases z : p = v
    · rw [iq_t z, iq_f (p := C p ∧ p ≠ v) (fun w => w.2 z), iq_t (p := C p) (by rw [z]; exact hC)]
    · rw [iq_f z, Nat.add_zero]
      exact iq_congr ⟨fun w => ⟨w, z⟩, fun w => w.1⟩ 1
  | j + 1, C, hC => by
    have key : ∀ p, p < n → iq (C p) (cq A n (j + 1) (fun q => C q ∧ A p q ∧ p < q)) = iq (C p ∧ p ≠ v) (cq A n (j + 1) (fun q => (C q ∧ q ≠ v) ∧ A p q ∧ p < q)) + (iq (p = v) (cq A n (j + 1) (fun q => C q ∧ A v q ∧ v < q)) + iq (C p ∧ p < v ∧ A p v) (cq A n j (fun q => (C q ∧ A p q ∧ p < q) ∧ A v q ∧ q ≠ v))) := by
      intro p hp
      by_cases z : p = v
      · subst z
        rw [iq_t (p := p = p) rfl, iq_f (p := C p ∧ p ≠ p) (fun w => w.2 rfl), iq_f (p := C p ∧ p < p ∧ A p p) (fun w => by omega), iq_t hC]
        omega
      · rw [iq_f z, Nat.zero_add]
        by_cases y : C p ∧ p < v ∧ A p v
        · rw [iq_t y, iq_t y.1, iq_t ⟨y.1, z⟩, cq_rem hA hv j (C := fun q => C q ∧ A p q ∧ p < q) ⟨hC, y.2.2, y.2.1⟩]
          rw [cq_congr (A := A) (A' := A) (n := n) (j + 1) (C := fun q => (C q ∧ A p q ∧ p < q) ∧ q ≠ v) (C' := fun q => (C q ∧ q ≠ v) ∧ A p q ∧ p < q) (fun q _ => ⟨fun w => ⟨⟨w.1.1, w.2⟩, w.1.2⟩, fun w => ⟨⟨w.1.1, w.2⟩, w.1.2⟩⟩) (fun _ _ _ _ _ _ _ => Iff.rfl)]
        · rw [iq_f y, Nat.add_zero]
          refine iq_congr2 ⟨fun w => ⟨w, z⟩, fun w => w.1⟩ (fun w => cq_congr (j + 1) (fun q _ => ⟨fun x => ⟨⟨x.1, fun e => y ⟨w, ?_⟩⟩, x.2⟩, fun x => ⟨x.1.1, x.2⟩⟩) (fun _ _ _ _ _ _ _ => Iff.rfl))
          subst e
          exact ⟨x.2.2, x.2.1⟩
    show sm (fun p => iq (C p) (cq A n (j + 1) (fun q => C q ∧ A p q ∧ p < q))) n = sm (fun p => iq (C p ∧ p ≠ v) (cq A n (j + 1) (fun q => (C q ∧ q ≠ v) ∧ A p q ∧ p < q))) n + sm (fun p => iq (C p ∧ A v p ∧ p ≠ v) (cq A n j (fun q => (C q ∧ A v q ∧ q ≠ v) ∧ A p q ∧ p < q))) n
    rw [sm_congr n key, sm_plus, sm_plus, sm_pick (fun _ => cq A n (j + 1) (fun q => C q ∧ A v q ∧ v < q)) n hv]
    refine congrArg (fun x => sm (fun p => iq (C p ∧ p ≠ v) (cq A n (j + 1) (fun q => (C q ∧ q ≠ v) ∧ A p q ∧ p < q))) n + x) ?_
    show sm (fun p => iq (C p ∧ A v p ∧ v < p) (cq A n j (fun q => (C q ∧ A v q ∧ v < q) ∧ A p q ∧ p < q))) n + _ = _
    rw [← sm_plus]
    refine sm_congr n (fun p hp => ?_)
    rcases Nat.lt_trichotomy p v with z | z | z
    · rw [iq_f (fun w => by omega), Nat.zero_add]
      refine iq_congr2 ⟨fun w => ⟨w.1, hA _ _ w.2.2, by omega⟩, fun w => ⟨w.1, z, hA _ _ w.2.1⟩⟩ (fun w => cq_congr j (fun q _ => ⟨fun x => ⟨⟨x.1.1, x.2⟩, x.1.2⟩, fun x => ⟨⟨x.1.1, x.2⟩, x.1.2⟩⟩) (fun _ _ _ _ _ _ _ => Iff.rfl))
    · rw [iq_f (fun w => by omega), iq_f (fun w => by omega), iq_f (fun w => w.2.2 z)]
    · rw [iq_f (p := C p ∧ p < v ∧ A p v) (fun w => by omega), Nat.add_zero]
      refine iq_congr2 ⟨fun w => ⟨w.1, w.2.1, by omega⟩, fun w => ⟨w.1, w.2.1, z⟩⟩ (fun w => cq_congr j (fun q _ => ⟨fun x => ⟨⟨x.1.1, x.1.2.1, by omega⟩, x.2⟩, fun x => ⟨⟨x.1.1, x.1.2.1, by omega⟩, x.2⟩⟩) (fun _ _ _ _ _ _ _ => Iff.rfl))
theorem takes_all (T : Nat → Int) (c : Int) (L n : Nat) : ∀ (j : Nat) (r es : List Nat), msN T c es = 0 → (takesF T c 0 1 L n j r es).length = cq (adT T c) n j (cdP T c 1 L n r)
  | 0, r, es, ms => by
    rw [takesF_zero (by omega)]
    rfl
  | j + 1, r, es, ms => by
    rw [← wS_len, takes_w T c 1 L n j r es _ ms]
    refine sm_congr n (fun p hp => iq_congr2 ⟨fun w => ⟨hp, w⟩, fun w => w.2⟩ (fun w => ?_))
    have ms2 : msN T c (es ++ newE 1 L r p) = 0 := by
      have := w.2.2
      rw [msN_app, ms]
      omega
    rw [wS_len, takes_all T c L n j (r ++ [p]) (es ++ newE 1 L r p) ms2]
    refine cq_congr j (fun q _ => ?_) (fun _ _ _ _ _ _ _ => Iff.rfl)
    rw [cd_all ⟨hp, w⟩]
    exact ⟨fun x => ⟨x.1.1, x.1.2, x.2⟩, fun x => ⟨⟨x.1, x.2.1⟩, x.2.2⟩⟩
theorem less_iff {T : Nat → Int} {c : Int} {e x : Nat} (hc : c ≠ -1) : tSet T e (-1) x = c ↔ T x = c ∧ x ≠ e := by
  unfold tSet
  by_cases z : x = e
  · rw [if_pos z]
    exact ⟨fun w => absurd w.symm hc, fun w => absurd z w.2⟩
  · rw [if_neg z]
    exact ⟨fun w => ⟨w, z⟩, fun w => w.1⟩
theorem jn_ne {u v p q : Nat} (hu : u < 12) (hv : v < 12) (hp : p < 12) (hq : q < 12) (huv : u ≠ v) (hpq : p ≠ q) (h : ¬ ((p = u ∧ q = v) ∨ (p = v ∧ q = u))) : jn p q ≠ jn u v := fun z => h (jn_inj2 hp hq hu hv hpq huv z)
theorem thr_all (T : Nat → Int) (c : Int) (L n u v : Nat) (hk : kOk 1 L) (hc : c ≠ -1) (hn : n ≤ 12) (hu : u < n) (hv : v < n) (huv : u ≠ v) (hT : T (jn u v) = c) :
    thr T c 1 L n (jn u v) = cq (adT T c) n (L - 2) (fun q => (q < n ∧ adT T c u q ∧ q ≠ u) ∧ adT T c v q ∧ q ≠ v) := by
  have hL : 2 ≤ L := by rcases hk with h | h | h | h | h <;> omega
  have t0 := takes_less T c 1 L n (jn u v) hc
  rw [takes_all T c L n L [] [] rfl, takes_all (tSet T (jn u v) (-1)) c L n L [] [] rfl] at t0
  have hLL : L = L - 1 + 1 := by omega
  have hL2 : L - 1 = L - 2 + 1 := by omega
  have a0 : ∀ (S : Nat → Int), cq (adT S c) n L (cdP S c 1 L n []) = cq (adT S c) n (L - 1 + 1) (fun q => q < n) := fun S => by
    rw [← hLL]
    exact cq_congr L (fun q _ => cd_nil) (fun _ _ _ _ _ _ _ => Iff.rfl)
  rw [a0, a0, cq_rem adT_sym hu (L - 1) (C := fun q => q < n) hu, cq_rem adT_sym hu (L - 1) (C := fun q => q < n) hu] at t0
  have b1 : cq (adT (tSet T (jn u v) (-1)) c) n (L - 1 + 1) (fun q => q < n ∧ q ≠ u) = cq (adT T c) n (L - 1 + 1) (fun q => q < n ∧ q ≠ u) := by
    refine cq_congr _ (fun q _ => Iff.rfl) (fun p q hp hq h1 h2 hne => ?_)
    unfold adT
    rw [less_iff hc]
    exact ⟨fun w => w.1, fun w => ⟨w, jn_ne (by omega) (by omega) (by omega) (by omega) huv hne (by omega)⟩⟩
  have b2 : cq (adT (tSet T (jn u v) (-1)) c) n (L - 1) (fun q => q < n ∧ adT (tSet T (jn u v) (-1)) c u q ∧ q ≠ u) = cq (adT T c) n (L - 1) (fun q => (q < n ∧ adT T c u q ∧ q ≠ u) ∧ q ≠ v) := by
    refine cq_congr _ (fun q hq => ?_) (fun p q hp hq h1 h2 hne => ?_)
    · unfold adT
      rw [less_iff hc]
      constructor
      · rintro ⟨w1, ⟨w2, w3⟩, w4⟩
        exact ⟨⟨w1, w2, w4⟩, fun z => w3 (by rw [z])⟩
      · rintro ⟨⟨w1, w2, w4⟩, w5⟩
        exact ⟨w1, ⟨w2, jn_ne (by omega) (by omega) (by omega) (by omega) huv (fun z => w4 z.symm) (by omega)⟩, w4⟩
    · unfold adT
      rw [less_iff hc]
      have h1' := h1.2.2
      have h2' := h2.2.2
      exact ⟨fun w => w.1, fun w => ⟨w, jn_ne (by omega) (by omega) (by omega) (by omega) huv hne (by omega)⟩⟩
  have b3 := cq_rem (A := adT T c) adT_sym hv (L - 2) (C := fun q => q < n ∧ adT T c u q ∧ q ≠ u) ⟨hv, hT, fun z => huv z.symm⟩
  rw [← hL2] at b3
  rw [b1, b2, b3] at t0
  omega
end
section
/-! stars and books -/
theorem lst_sm (C : Nat → Prop) : ∀ n, (lst C 0 n).length = sm (fun q => iq (C q) 1) n
  | 0 => rfl
  | n + 1 => by
    rw [lst_app C 0 n 1, List.length_append, Nat.zero_add, lst_sm C n]
    show _ = sm (fun q => iq (C q) 1) n + iq (C n) 1
    by_cases z : C n
    · rw [lst_yes z, iq_t z]
      rfl
    · rw [lst_no z, iq_f z]
      rfl
theorem lst_rem {C : Nat → Prop} {n v : Nat} (hv : v < n) (hC : C v) : (lst C 0 n).length = (lst (fun q => C q ∧ q ≠ v) 0 n).length + 1 := by
  rw [lst_sm, lst_sm]
  have e := sm_pick (fun _ => 1) n hv
  rw [sm_congr (g := fun p => iq (C p ∧ p ≠ v) 1 + iq (p = v) 1) n (fun p _ => ?_), sm_plus, e]
  by_cases z : p = v
  · rw [iq_t z, iq_f (p := C p ∧ p ≠ v) (fun w => w.2 z), iq_t (p := C p) (by rw [z]; exact hC)]
  · rw [iq_f z, Nat.add_zero]
    exact iq_congr ⟨fun w => ⟨w, z⟩, fun w => w.1⟩ 1
theorem lst_same {C D : Nat → Prop} {n : Nat} (h : ∀ q, q < n → (C q ↔ D q)) : (lst C 0 n).length = (lst D 0 n).length := by
  rw [lst_sm, lst_sm]
  exact sm_congr n (fun q hq => iq_congr (h q hq) 1)
/-- the points joined with one; with both of two -/
noncomputable def dgN (T : Nat → Int) (c : Int) (n a : Nat) : Nat := (lst (fun q => q ≠ a ∧ adT T c a q) 0 n).length
noncomputable def cmN (T : Nat → Int) (c : Int) (n a b : Nat) : Nat := (lst (fun q => (q ≠ a ∧ adT T c a q) ∧ (q ≠ b ∧ adT T c b q)) 0 n).length
theorem takes_star (T : Nat → Int) (c : Int) (L n : Nat) (hk : kOk 3 L) : (takesF T c 0 3 L n L [] []).length = sm (fun m => bn (dgN T c n m) (L - 1)) n := by
  have hL : 2 ≤ L := by rcases hk with h | h | h | h | h <;> omega
  obtain ⟨j, hj⟩ : ∃ j, L = j + 1 := ⟨L - 1, by omega⟩
  have q := takes_w T c 3 L n j [] [] (fun _ => 1) rfl
  rw [wS_len, ← hj] at q
  rw [q]
  refine sm_congr n (fun m hm => ?_)
  have ok : m ∉ ([] : List Nat) ∧ okP T c 3 L 0 0 [] m := (cd_nil.mpr hm).2
  rw [iq_t ok, wS_len]
  have z := (takes_zero (T := T) (c := c) (n := n) (r := [] ++ [m]) (C := cdP T c 3 L n [m]) hk rfl (fun q => Iff.rfl) ([] ++ newE 3 L [] m) (by rw [newE_nil]; rfl)).1
  rw [show L - (([] : List Nat) ++ [m]).length = j by show L - 1 = j; omega] at z
  rw [z, show L - 1 = j by omega]
  refine congrArg (fun x => bn x j) (lst_same (fun q hq => ?_))
  rw [cd_star]
  exact ⟨fun w => w.2, fun w => ⟨hq, w⟩⟩
theorem bn_step {d s : Nat} (hs : 1 ≤ s) : bn (d + 1) s = bn d s + bn d (s - 1) := by
  obtain ⟨k, rfl⟩ : ∃ k, s = k + 1 := ⟨s - 1, by omega⟩
  rw [Nat.add_sub_cancel]
  show bn d k + bn d (k + 1) = _
  omega
theorem less_deg {T : Nat → Int} {c : Int} {n u v : Nat} (hc : c ≠ -1) (hn : n ≤ 12) (hu : u < n) (hv : v < n) (huv : u ≠ v) (hT : T (jn u v) = c) : dgN T c n u = dgN (tSet T (jn u v) (-1)) c n u + 1 := by
  unfold dgN
  rw [lst_rem (C := fun q => q ≠ u ∧ adT T c u q) hv ⟨fun z => huv z.symm, hT⟩]
  refine congrArg (· + 1) (lst_same (fun q hq => ?_))
  unfold adT
  rw [less_iff hc]
  constructor
  · rintro ⟨⟨w1, w2⟩, w3⟩
    exact ⟨w1, w2, jn_ne (by omega) (by omega) (by omega) (by omega) huv (fun z => w1 z.symm) (by omega)⟩
  · rintro ⟨w1, w2, w3⟩
    exact ⟨⟨w1, w2⟩, fun z => w3 (by rw [z])⟩
theorem thr_star (T : Nat → Int) (c : Int) (L n u v : Nat) (hk : kOk 3 L) (hc : c ≠ -1) (hn : n ≤ 12) (hu : u < n) (hv : v < n) (huv : u ≠ v) (hT : T (jn u v) = c) :
    thr T c 3 L n (jn u v) = bn (dgN T c n u - 1) (L - 2) + bn (dgN T c n v - 1) (L - 2) := by
  have hL : 2 ≤ L := by rcases hk with h | h | h | h | h <;> omega
  have t0 := takes_less T c 3 L n (jn u v) hc
  rw [takes_star T c L n hk, takes_star (tSet T (jn u v) (-1)) c L n hk] at t0
  have d1 := less_deg hc hn hu hv huv hT
  have d2 := less_deg (T := T) hc hn hv hu (fun z => huv z.symm) (by rw [jn_sym]; exact hT)
  rw [jn_sym v u] at d2
  have key : ∀ m, m < n → bn (dgN T c n m) (L - 1) = bn (dgN (tSet T (jn u v) (-1)) c n m) (L - 1) + (iq (m = u) (bn (dgN T c n u - 1) (L - 2)) + iq (m = v) (bn (dgN T c n v - 1) (L - 2))) := by
    intro m hm
    by_cases z : m = u
    · subst z
      rw [iq_t rfl, iq_f huv, d1, bn_step (by omega), Nat.add_sub_cancel, show L - 1 - 1 = L - 2 by omega]
      omega
    · by_cases y : m = v
      · subst y
        rw [iq_t rfl, iq_f z, d2, bn_step (by omega), Nat.add_sub_cancel, show L - 1 - 1 = L - 2 by omega]
        omega
      · rw [iq_f z, iq_f y]
        show _ = _ + 0
        refine congrArg (fun x => bn x (L - 1)) (lst_same (fun q hq => ?_))
        unfold adT
        rw [less_iff hc]
        exact ⟨fun w => ⟨w.1, w.2, jn_ne (by omega) (by omega) (by omega) (by omega) huv (fun x => w.1 x.symm) (by omega)⟩, fun w => ⟨w.1, w.2.1⟩⟩
  rw [sm_congr n key, sm_plus, sm_plus, sm_pick (fun _ => bn (dgN T c n u - 1) (L - 2)) n hu, sm_pick (fun _ => bn (dgN T c n v - 1) (L - 2)) n hv] at t0
  omega
theorem takes_book (T : Nat → Int) (c : Int) (L n : Nat) (hk : kOk 4 L) : (takesF T c 0 4 L n L [] []).length = sm (fun a => sm (fun b => iq (a < b ∧ adT T c a b) (bn (cmN T c n a b) (L - 2))) n) n := by
  have hL : 3 ≤ L := by rcases hk with h | h | h | h | h <;> omega
  obtain ⟨j, hj⟩ : ∃ j, L = j + 1 + 1 := ⟨L - 2, by omega⟩
  have q := takes_w T c 4 L n (j + 1) [] [] (fun _ => 1) rfl
  rw [wS_len, ← hj] at q
  rw [q]
  refine sm_congr n (fun a ha => ?_)
  have ok : a ∉ ([] : List Nat) ∧ okP T c 4 L 0 0 [] a := (cd_nil.mpr ha).2
  rw [iq_t ok, takes_w T c 4 L n j _ _ (fun _ => 1) (by rw [newE_nil]; rfl)]
  refine sm_congr n (fun b hb => ?_)
  have hcd : (b ∉ [] ++ [a] ∧ okP T c 4 L 0 0 ([] ++ [a]) b) ↔ (a < b ∧ adT T c a b) := by
    have w := cd_book0 (T := T) (c := c) (L := L) (n := n) (p := a) (q := b)
    constructor
    · intro z
      have := w.mp ⟨hb, z⟩
      exact ⟨this.2, this.1.2.2⟩
    · intro z
      exact (w.mpr ⟨⟨hb, by omega, z.2⟩, z.1⟩).2
  refine iq_congr2 hcd (fun w => ?_)
  have ms2 : msN T c ([] ++ newE 4 L [] a ++ newE 4 L ([] ++ [a]) b) = 0 := by
    have := w.2.2
    rw [newE_nil]
    show msN T c (newE 4 L ([] ++ [a]) b) = 0
    omega
  rw [wS_len]
  have z := (takes_zero (T := T) (c := c) (n := n) (r := [] ++ [a] ++ [b]) (C := cdP T c 4 L n [a, b]) hk rfl (fun q => Iff.rfl) _ ms2).1
  rw [show L - (([] : List Nat) ++ [a] ++ [b]).length = j by show L - 2 = j; omega] at z
  rw [z, show L - 2 = j by omega]
  refine congrArg (fun x => bn x j) (lst_same (fun q hq => ?_))
  rw [cd_book1]
  exact ⟨fun w => ⟨w.2, w.1.2⟩, fun w => ⟨⟨hq, w.2⟩, w.1⟩⟩
theorem cm_sym (T : Nat → Int) (c : Int) (n a b : Nat) : cmN T c n a b = cmN T c n b a := lst_same (fun q _ => ⟨fun w => ⟨w.2, w.1⟩, fun w => ⟨w.2, w.1⟩⟩)
/-- a join less: what two points have in common -/
theorem less_cm {T : Nat → Int} {c : Int} {n u v w : Nat} (hc : c ≠ -1) (hn : n ≤ 12) (hu : u < n) (hv : v < n) (hw : w < n) (huv : u ≠ v) (hwu : w ≠ u) (hwv : w ≠ v) (hT : T (jn u v) = c) :
    cmN T c n u w = cmN (tSet T (jn u v) (-1)) c n u w + iq (adT T c v w) 1 := by
  unfold cmN
  by_cases z : adT T c v w
  · rw [iq_t z, lst_rem (C := fun q => (q ≠ u ∧ adT T c u q) ∧ (q ≠ w ∧ adT T c w q)) hv ⟨⟨fun y => huv y.symm, hT⟩, fun y => hwv y.symm, adT_sym _ _ z⟩]
    refine congrArg (· + 1) (lst_same (fun q hq => ?_))
    unfold adT
    rw [less_iff hc, less_iff hc]
    constructor
    · rintro ⟨⟨⟨w1, w2⟩, w3, w4⟩, w5⟩
      exact ⟨⟨w1, w2, jn_ne (by omega) (by omega) (by omega) (by omega) huv (fun x => w1 x.symm) (by omega)⟩, w3, w4, jn_ne (by omega) (by omega) (by omega) (by omega) huv (fun x => w3 x.symm) (by omega)⟩
    · rintro ⟨⟨w1, w2, w3⟩, w4, w5, w6⟩
      exact ⟨⟨⟨w1, w2⟩, w4, w5⟩, fun x => w3 (by rw [x])⟩
  · rw [iq_f z, Nat.add_zero]
    refine lst_same (fun q hq => ?_)
    unfold adT
    rw [less_iff hc, less_iff hc]
    constructor
    · rintro ⟨⟨w1, w2⟩, w3, w4⟩
      refine ⟨⟨w1, w2, jn_ne (by omega) (by omega) (by omega) (by omega) huv (fun x => w1 x.symm) (fun x => ?_)⟩, w3, w4, jn_ne (by omega) (by omega) (by omega) (by omega) huv (fun x => w3 x.symm) (by omega)⟩
      have : q = v := by omega
      subst this
      exact z (adT_sym _ _ w4)
    · rintro ⟨⟨w1, w2, w3⟩, w4, w5, w6⟩
      exact ⟨⟨w1, w2⟩, w4, w5⟩
theorem thr_book (T : Nat → Int) (c : Int) (L n u v : Nat) (hk : kOk 4 L) (hc : c ≠ -1) (hn : n ≤ 12) (huv : u < v) (hv : v < n) (hT : T (jn u v) = c) :
    thr T c 4 L n (jn u v) = bn (cmN T c n u v) (L - 2) + sm (fun w => iq ((w ≠ u ∧ adT T c u w) ∧ (w ≠ v ∧ adT T c v w)) (bn (cmN T c n u w - 1) (L - 3) + bn (cmN T c n v w - 1) (L - 3))) n := by
  have hL : 3 ≤ L := by rcases hk with h | h | h | h | h <;> omega
  have hu : u < n := by omega
  have hne : u ≠ v := by omega
  have t0 := takes_less T c 4 L n (jn u v) hc
  rw [takes_book T c L n hk, takes_book (tSet T (jn u v) (-1)) c L n hk] at t0
  have hT2 : T (jn v u) = c := by rw [jn_sym]; exact hT
  -- one of the two and another point
  have one : ∀ x y, (x = u ∧ y = v) ∨ (x = v ∧ y = u) → ∀ w, w < n → w ≠ u → w ≠ v → iq (adT T c x w) (bn (cmN T c n x w) (L - 2)) = iq (adT (tSet T (jn u v) (-1)) c x w) (bn (cmN (tSet T (jn u v) (-1)) c n x w) (L - 2)) + iq (adT T c x w ∧ adT T c y w) (bn (cmN T c n x w - 1) (L - 3)) := by
    intro x y hxy w hw hwu hwv
    have hx : x < n := by omega
    have hxw : adT (tSet T (jn u v) (-1)) c x w ↔ adT T c x w := by
      unfold adT
      rw [less_iff hc]
      exact ⟨fun q => q.1, fun q => ⟨q, jn_ne (by omega) (by omega) (by omega) (by omega) hne (by omega) (by omega)⟩⟩
    have hcm : cmN T c n x w = cmN (tSet T (jn u v) (-1)) c n x w + iq (adT T c y w) 1 := by
      rcases hxy with ⟨rfl, rfl⟩ | ⟨rfl, rfl⟩
      · exact less_cm hc hn hu hv hw hne hwu hwv hT
      · have q := less_cm (T := T) hc hn hv hu hw (fun z => hne z.symm) hwv hwu hT2
        rw [jn_sym] at q
        exact q
    rw [iq_congr hxw, iq_and]
    by_cases z : adT T c x w
    · rw [iq_t z, iq_t z, iq_t z]
      by_cases z2 : adT T c y w
      · rw [iq_t z2] at hcm ⊢
        rw [hcm, bn_step (by omega), Nat.add_sub_cancel, show L - 2 - 1 = L - 3 by omega]
      · rw [iq_f z2] at hcm ⊢
        rw [hcm]
        rfl
    · rw [iq_f z, iq_f z, iq_f z]
  have same : ∀ a b, a < n → b < n → a ≠ b → a ≠ u → a ≠ v → b ≠ u → b ≠ v → iq (adT T c a b) (bn (cmN T c n a b) (L - 2)) = iq (adT (tSet T (jn u v) (-1)) c a b) (bn (cmN (tSet T (jn u v) (-1)) c n a b) (L - 2)) := by
    intro a b ha hb hab hau hav hbu hbv
    have e1 : cmN T c n a b = cmN (tSet T (jn u v) (-1)) c n a b := by
      refine lst_same (fun q hq => ?_)
      unfold adT
      rw [less_iff hc, less_iff hc]
      exact ⟨fun w => ⟨⟨w.1.1, w.1.2, jn_ne (by omega) (by omega) (by omega) (by omega) hne (fun x => w.1.1 x.symm) (by omega)⟩, w.2.1, w.2.2, jn_ne (by omega) (by omega) (by omega) (by omega) hne (fun x => w.2.1 x.symm) (by omega)⟩, fun w => ⟨⟨w.1.1, w.1.2.1⟩, w.2.1, w.2.2.1⟩⟩
    rw [e1]
    refine iq_congr ?_ _
    unfold adT
    rw [less_iff hc]
    exact ⟨fun w => ⟨w, jn_ne (by omega) (by omega) (by omega) (by omega) hne hab (by omega)⟩, fun w => w.1⟩
  have key : ∀ a, a < n → ∀ b, b < n → iq (a < b ∧ adT T c a b) (bn (cmN T c n a b) (L - 2)) = iq (a < b ∧ adT (tSet T (jn u v) (-1)) c a b) (bn (cmN (tSet T (jn u v) (-1)) c n a b) (L - 2)) + (iq (a = u) (iq (b = v) (bn (cmN T c n u v) (L - 2))) + (iq (a = u) (iq (u < b) (iq ((b ≠ u ∧ adT T c u b) ∧ (b ≠ v ∧ adT T c v b)) (bn (cmN T c n u b - 1) (L - 3)))) + iq (a = v) (iq (v < b) (iq ((b ≠ u ∧ adT T c u b) ∧ (b ≠ v ∧ adT T c v b)) (bn (cmN T c n v b - 1) (L - 3)))) + (iq (b = u) (iq (a < u) (iq ((a ≠ u ∧ adT T c u a) ∧ (a ≠ v ∧ adT T c v a)) (bn (cmN T c n u a - 1) (L - 3)))) + iq (b = v) (iq (a < v) (iq ((a ≠ u ∧ adT T c u a) ∧ (a ≠ v ∧ adT T c v a)) (bn (cmN T c n v a - 1) (L - 3))))))) := by
    intro a ha b hb
    rw [iq_and, iq_and]
    by_cases hab : a < b
    · rw [iq_t hab, iq_t hab]
      by_cases au : a = u
      · subst au
        rw [iq_t rfl, iq_t rfl, iq_f (p := a = v) (by omega), iq_f (p := b = a) (by omega), iq_t hab]
        by_cases bv : b = v
        · subst bv
          rw [iq_t rfl, iq_t rfl, iq_t (p := adT T c a b) hT, iq_f (p := adT (tSet T (jn a b) (-1)) c a b) (fun z => ((less_iff hc).mp z).2 rfl), iq_f (fun z => z.2.1 rfl), iq_f (p := (a ≠ a ∧ adT T c a a) ∧ a ≠ b ∧ adT T c b a) (fun z => z.1.1 rfl), iq_zero]
          omega
        · have q := one a v (Or.inl ⟨rfl, rfl⟩) b hb (by omega) bv
          rw [iq_f bv, iq_f bv, q, iq_congr (p := (b ≠ a ∧ adT T c a b) ∧ b ≠ v ∧ adT T c v b) (q := adT T c a b ∧ adT T c v b) ⟨fun z => ⟨z.1.2, z.2.2⟩, fun z => ⟨⟨by omega, z.1⟩, bv, z.2⟩⟩]
          omega
      · rw [iq_f au, iq_f au]
        by_cases av : a = v
        · subst av
          have q := one a u (Or.inr ⟨rfl, rfl⟩) b hb (by omega) (by omega)
          rw [iq_t rfl, iq_t hab, iq_f (p := b = u) (by omega), iq_f (p := b = a) (by omega), q, iq_congr (p := (b ≠ u ∧ adT T c u b) ∧ b ≠ a ∧ adT T c a b) (q := adT T c a b ∧ adT T c u b) ⟨fun z => ⟨z.2.2, z.1.2⟩, fun z => ⟨⟨by omega, z.2⟩, by omega, z.1⟩⟩]
          omega
        · rw [iq_f av]
          by_cases bu : b = u
          · subst bu
            have q := one b v (Or.inl ⟨rfl, rfl⟩) a ha au av
            rw [iq_t rfl, iq_t hab, iq_f (p := b = v) (by omega), cm_sym T c n a b, cm_sym (tSet T (jn b v) (-1)) c n a b, iq_congr (p := adT T c a b) (q := adT T c b a) ⟨adT_sym _ _, adT_sym _ _⟩, iq_congr (p := adT (tSet T (jn b v) (-1)) c a b) (q := adT (tSet T (jn b v) (-1)) c b a) ⟨adT_sym _ _, adT_sym _ _⟩, q, iq_congr (p := (a ≠ b ∧ adT T c b a) ∧ a ≠ v ∧ adT T c v a) (q := adT T c b a ∧ adT T c v a) ⟨fun z => ⟨z.1.2, z.2.2⟩, fun z => ⟨⟨by omega, z.1⟩, av, z.2⟩⟩]
            omega
          · rw [iq_f bu]
            by_cases bv : b = v
            · subst bv
              have q := one b u (Or.inr ⟨rfl, rfl⟩) a ha au av
              rw [iq_t rfl, iq_t hab, cm_sym T c n a b, cm_sym (tSet T (jn u b) (-1)) c n a b, iq_congr (p := adT T c a b) (q := adT T c b a) ⟨adT_sym _ _, adT_sym _ _⟩, iq_congr (p := adT (tSet T (jn u b) (-1)) c a b) (q := adT (tSet T (jn u b) (-1)) c b a) ⟨adT_sym _ _, adT_sym _ _⟩, q, iq_congr (p := (a ≠ u ∧ adT T c u a) ∧ a ≠ b ∧ adT T c b a) (q := adT T c b a ∧ adT T c u a) ⟨fun z => ⟨z.2.2, z.1.2⟩, fun z => ⟨⟨au, z.2⟩, by omega, z.1⟩⟩]
              omega
            · rw [iq_f bv]
              exact same a b ha hb (by omega) au av bu bv
    · rw [iq_f hab, iq_f hab]
      have z1 : iq (a = u) (iq (b = v) (bn (cmN T c n u v) (L - 2))) = 0 := by
        rw [← iq_and]; exact iq_f (by omega) _
      have z2 : iq (a = u) (iq (u < b) (iq ((b ≠ u ∧ adT T c u b) ∧ (b ≠ v ∧ adT T c v b)) (bn (cmN T c n u b - 1) (L - 3)))) = 0 := by
        rw [← iq_and]; exact iq_f (by omega) _
      have z3 : iq (a = v) (iq (v < b) (iq ((b ≠ u ∧ adT T c u b) ∧ (b ≠ v ∧ adT T c v b)) (bn (cmN T c n v b - 1) (L - 3)))) = 0 := by
        rw [← iq_and]; exact iq_f (by omega) _
      have z4 : iq (b = u) (iq (a < u) (iq ((a ≠ u ∧ adT T c u a) ∧ (a ≠ v ∧ adT T c v a)) (bn (cmN T c n u a - 1) (L - 3)))) = 0 := by
        rw [← iq_and]; exact iq_f (by omega) _
      have z5 : iq (b = v) (iq (a < v) (iq ((a ≠ u ∧ adT T c u a) ∧ (a ≠ v ∧ adT T c v a)) (bn (cmN T c n v a - 1) (L - 3)))) = 0 := by
        rw [← iq_and]; exact iq_f (by omega) _
      rw [z1, z2, z3, z4, z5]
  have e0 := sm_congr n (fun a ha => sm_congr n (key a ha))
  rw [e0] at t0
  have out : ∀ (x : Nat) (hx : x < n) (G : Nat → Nat), sm (fun a => sm (fun b => iq (a = x) (G b)) n) n = sm G n := fun x hx G => by
    rw [sm_congr (g := fun a => iq (a = x) (sm G n)) n (fun a _ => sm_iq _ _ _), sm_pick (fun _ => sm G n) n hx]
  have out2 : ∀ (x : Nat) (hx : x < n) (G : Nat → Nat), sm (fun a => sm (fun b => iq (b = x) (G a)) n) n = sm G n := fun x hx G =>
    sm_congr n (fun a _ => sm_pick (fun _ => G a) n hx)
  rw [sm_congr (g := fun a => sm (fun b => iq (a < b ∧ adT (tSet T (jn u v) (-1)) c a b) (bn (cmN (tSet T (jn u v) (-1)) c n a b) (L - 2))) n + (sm (fun b => iq (a = u) (iq (b = v) (bn (cmN T c n u v) (L - 2)))) n + (sm (fun b => iq (a = u) (iq (u < b) (iq ((b ≠ u ∧ adT T c u b) ∧ (b ≠ v ∧ adT T c v b)) (bn (cmN T c n u b - 1) (L - 3))))) n + sm (fun b => iq (a = v) (iq (v < b) (iq ((b ≠ u ∧ adT T c u b) ∧ (b ≠ v ∧ adT T c v b)) (bn (cmN T c n v b - 1) (L - 3))))) n + (sm (fun b => iq (b = u) (iq (a < u) (iq ((a ≠ u ∧ adT T c u a) ∧ (a ≠ v ∧ adT T c v a)) (bn (cmN T c n u a - 1) (L - 3))))) n + sm (fun b => iq (b = v) (iq (a < v) (iq ((a ≠ u ∧ adT T c u a) ∧ (a ≠ v ∧ adT T c v a)) (bn (cmN T c n v a - 1) (L - 3))))) n)))) n (fun a _ => by simp only [sm_plus]), sm_plus, sm_plus, sm_plus, sm_plus, sm_plus, out u hu (fun b => iq (b = v) (bn (cmN T c n u v) (L - 2))), out u hu (fun b => iq (u < b) (iq ((b ≠ u ∧ adT T c u b) ∧ (b ≠ v ∧ adT T c v b)) (bn (cmN T c n u b - 1) (L - 3)))), out v hv (fun b => iq (v < b) (iq ((b ≠ u ∧ adT T c u b) ∧ (b ≠ v ∧ adT T c v b)) (bn (cmN T c n v b - 1) (L - 3)))), out2 u hu (fun a => iq (a < u) (iq ((a ≠ u ∧ adT T c u a) ∧ (a ≠ v ∧ adT T c v a)) (bn (cmN T c n u a - 1) (L - 3)))), out2 v hv (fun a => iq (a < v) (iq ((a ≠ u ∧ adT T c u a) ∧ (a ≠ v ∧ adT T c v a)) (bn (cmN T c n v a - 1) (L - 3)))), sm_pick (fun _ => bn (cmN T c n u v) (L - 2)) n hv] at t0
  have halves : ∀ (x : Nat) (hx : x = u ∨ x = v), sm (fun w => iq (x < w) (iq ((w ≠ u ∧ adT T c u w) ∧ (w ≠ v ∧ adT T c v w)) (bn (cmN T c n x w - 1) (L - 3)))) n + sm (fun w => iq (w < x) (iq ((w ≠ u ∧ adT T c u w) ∧ (w ≠ v ∧ adT T c v w)) (bn (cmN T c n x w - 1) (L - 3)))) n = sm (fun w => iq ((w ≠ u ∧ adT T c u w) ∧ (w ≠ v ∧ adT T c v w)) (bn (cmN T c n x w - 1) (L - 3))) n := fun x hx => by
    rw [← sm_plus]
    refine sm_congr n (fun w _ => ?_)
    rcases Nat.lt_trichotomy x w with z | z | z
    · rw [iq_t z, iq_f (p := w < x) (by omega), Nat.add_zero]
    · subst z
      rw [iq_f (p := (x ≠ u ∧ adT T c u x) ∧ (x ≠ v ∧ adT T c v x)) (fun y => hx.elim y.1.1 y.2.1), iq_zero]
    · rw [iq_t z, iq_f (p := x < w) (by omega), Nat.zero_add]
  have h1 := halves u (Or.inl rfl)
  have h2 := halves v (Or.inr rfl)
  have h3 : sm (fun w => iq ((w ≠ u ∧ adT T c u w) ∧ (w ≠ v ∧ adT T c v w)) (bn (cmN T c n u w - 1) (L - 3) + bn (cmN T c n v w - 1) (L - 3))) n = sm (fun w => iq ((w ≠ u ∧ adT T c u w) ∧ (w ≠ v ∧ adT T c v w)) (bn (cmN T c n u w - 1) (L - 3))) n + sm (fun w => iq ((w ≠ u ∧ adT T c u w) ∧ (w ≠ v ∧ adT T c v w)) (bn (cmN T c n v w - 1) (L - 3))) n := by
    rw [← sm_plus]
    exact sm_congr n (fun w _ => iq_add _ _ _)
  rw [h3]
  omega
end
section
/-! outward from a join: those that are all joined, ways between, arms -/
def oB (T : Nat → Int) (c : Int) (n : Nat) (B : Nat → Prop) : Prop := (∀ p, B p → p < n) ∧ ∀ p q, B p → q < n → q ≠ p → adT T c p q → B q
def oSt (h : mMem) (T : Nat → Int) (c n : Nat) (B : Nat → Prop) : Prop := h 5 0 0 = n ∧ ∀ p, B p → h 26 0 p = nr T c p
theorem cq_le (A : Nat → Nat → Prop) {n : Nat} (hn : n ≤ 12) : ∀ (j : Nat) (C : Nat → Prop), cq A n j C ≤ 12 ^ j
  | 0, _ => Nat.le_refl 1
  | j + 1, C => by
    have h1 := sm_le (f := fun p => iq (C p) (cq A n j (fun q => C q ∧ A p q ∧ p < q))) (B := 12 ^ j) n (fun p _ => Nat.le_trans (iq_le _ _) (cq_le A hn j _))
    have h2 : n * 12 ^ j ≤ 12 * 12 ^ j := Nat.mul_le_mul_right _ hn
    rw [Nat.pow_succ, Nat.mul_comm]
    exact Nat.le_trans h1 h2
theorem SL_le {n b : Nat} (hn : n ≤ 12) : ∀ (j : Nat) {F : List Nat → Nat}, (∀ s, F s ≤ b) → SL n j F ≤ 12 ^ j * b
  | 0, F, h => by
    rw [Nat.pow_zero, Nat.one_mul]
    exact h []
  | j + 1, F, h => by
    have h1 := sm_le (f := fun p => SL n j (fun s => F (p :: s))) (B := 12 ^ j * b) n (fun p _ => SL_le hn j (fun s => h _))
    have h2 : n * (12 ^ j * b) ≤ 12 * (12 ^ j * b) := Nat.mul_le_mul_right _ hn
    rw [Nat.pow_succ, Nat.mul_comm (12 ^ j) 12, Nat.mul_assoc]
    exact Nat.le_trans h1 h2
theorem p12 {j : Nat} (h : j ≤ 4) : 12 ^ j ≤ 20736 := Nat.pow_le_pow_right (n := 12) (by decide) h
theorem cq_one (A : Nat → Nat → Prop) (n : Nat) (C : Nat → Prop) : cq A n 1 C = (lst C 0 n).length := (lst_sm C n).symm
def wl (T : Nat → Int) (c : Int) (goal : Nat) : List Nat → Nat → List Nat → Prop
  | _, a, [] => adT T c a goal
  | tk, a, p :: s => (adT T c a p ∧ p ∉ tk) ∧ wl T c goal (p :: tk) p s
noncomputable def bw (T : Nat → Int) (c : Int) (n goal : Nat) (tk : List Nat) (a j : Nat) : Nat := SL n j (fun s => iq (wl T c goal tk a s) 1)
theorem bw_succ (T : Nat → Int) (c : Int) (n goal : Nat) (tk : List Nat) (a j : Nat) : bw T c n goal tk a (j + 1) = sm (fun p => iq (adT T c a p ∧ p ∉ tk) (bw T c n goal (p :: tk) p j)) n := by
  unfold bw
  refine sm_congr n (fun p _ => ?_)
  rw [← SL_iq]
  exact SL_congr j (fun s _ _ => iq_and 1)
theorem bw_le {T : Nat → Int} {c : Int} {n goal : Nat} {tk : List Nat} {a j : Nat} (hn : n ≤ 12) (hj : j ≤ 4) : bw T c n goal tk a j ≤ 20736 := by
  have h1 := SL_le (b := 1) hn j (F := fun s => iq (wl T c goal tk a s) 1) (fun s => iq_le _ _)
  have h2 := p12 hj
  unfold bw
  omega
def arm (T : Nat → Int) (c : Int) : List Nat → Nat → List Nat → Prop
  | _, _, [] => True
  | tk, a, p :: s => (adT T c a p ∧ p ∉ tk) ∧ arm T c (p :: tk) p s
noncomputable def aR (T : Nat → Int) (c : Int) (n : Nat) (a b : Nat) (u v : Nat) (tk : List Nat) : Nat := SL n a (fun x => iq (arm T c tk u x) (SL n b (fun y => iq (arm T c (x.reverse ++ tk) v y) 1)))
theorem aR_succ (T : Nat → Int) (c : Int) (n a b u v : Nat) (tk : List Nat) : aR T c n (a + 1) b u v tk = sm (fun p => iq (adT T c u p ∧ p ∉ tk) (aR T c n a b p v (p :: tk))) n := by
  unfold aR
  refine sm_congr n (fun p _ => ?_)
  rw [← SL_iq]
  refine SL_congr a (fun s _ _ => ?_)
  show iq ((adT T c u p ∧ p ∉ tk) ∧ arm T c (p :: tk) p s) _ = _
  rw [iq_and, List.reverse_cons, List.append_assoc]
  rfl
theorem aR_swap (T : Nat → Int) (c : Int) (n b u v : Nat) (tk : List Nat) : aR T c n 0 b u v tk = aR T c n b 0 v u tk := by
  unfold aR
  show iq True (SL n b (fun y => iq (arm T c tk v y) 1)) = SL n b (fun x => iq (arm T c tk v x) (iq True 1))
  rw [iq_t trivial, iq_t trivial]
theorem aR_le {T : Nat → Int} {c : Int} {n a b u v : Nat} {tk : List Nat} (hn : n ≤ 12) (hab : a + b ≤ 4) : aR T c n a b u v tk ≤ 20736 := by
  have h1 := SL_le (b := 12 ^ b) hn a (F := fun x => iq (arm T c tk u x) (SL n b (fun y => iq (arm T c (x.reverse ++ tk) v y) 1))) (fun x => Nat.le_trans (iq_le _ _) (by
    have := SL_le (b := 1) hn b (F := fun y => iq (arm T c (x.reverse ++ tk) v y) 1) (fun y => iq_le _ _)
    omega))
  rw [← Nat.pow_add] at h1
  exact Nat.le_trans h1 (p12 hab)
section Out
variable {l : Launch} {g : mG} {d : Nat}
theorem c_allJoined (T : Nat → Int) (c n : Nat) (hn : n ≤ 12) (fb : farB T n) (B : Nat → Prop) (hB : oB T c n B) (h : mMem) (e : oSt h T c n B) : ∀ (j : Nat), j ≤ 4 → ∀ (C : Nat → Prop) (cand : Nat), cand < 4096 → (∀ q, cand.testBit q = true ↔ C q) → (∀ q, C q → B q) →
    mCon l g n_Outward_countAllJoined (d + 1 + j) [.inr (5, 0), .inl cand, .inl j] h (mIs (some (.inl (cq (adT T c) n j C : Nat))) h) := by
  intro j
  induction j with
  | zero =>
    intro hj C cand hcl hcb hCB
    refine e_Outward_countAllJoined (fun hv hm => ?_)
    refine mGo_wp h_Outward_countAllJoined 60 [] ?_
    exact ⟨fun z => absurd z (by decide), fun _ => ⟨fun z => absurd z (by decide), fun _ => ⟨rfl, rfl⟩⟩⟩
  | succ j ih =>
    intro hj C cand hcl hcb hCB
    show mCon l g n_Outward_countAllJoined (d + 1 + j + 1) _ _ _
    by_cases h0 : j = 0
    · subst h0
      refine e_Outward_countAllJoined (fun hv hm => ?_)
      refine mGo_wp h_Outward_countAllJoined 60 [] ?_
      refine ⟨fun z => absurd z (by decide), fun _ => ⟨fun _ => ?_, fun z => absurd z (by decide)⟩⟩
      refine mCall_is (c_Int_bitCount cand hcl h) ?_
      refine ⟨?_, rfl⟩
      rw [cq_one, bc_lst hn hcb (fun q hq => hB.1 q (hCB q hq))]
    · have loop : ∀ (m p : Nat), p + m = n → mGo l g (mMt n_Outward_countAllJoined) (d + 1 + j + 1) 23 [some (.inr (5, 0)), some (.inl cand), some (.inl (j + 1 : Nat)), some (.inl (sm (fun p => iq (C p) (cq (adT T c) n j (fun q => C q ∧ adT T c p q ∧ p < q))) p : Nat)), some (.inl p)] [] h (mIs (some (.inl (cq (adT T c) n (j + 1) C : Nat))) h) := by
        intro m
        induction m with
        | zero =>
          intro p hp
          refine mGo_wp h_Outward_countAllJoined 60 [23] ?_
          refine ⟨fun _ => ⟨?_, rfl⟩, fun z => by rw [e.1] at z; omega⟩
          rw [show p = n by omega]
          rfl
        | succ m ihm =>
          intro p hp
          refine mGo_wp h_Outward_countAllJoined 60 [23] ?_
          have hbit := bit_at cand p hcl (by omega)
          have q := ihm (p + 1) (by omega)
          have b1 : sm (fun p => iq (C p) (cq (adT T c) n j (fun q => C q ∧ adT T c p q ∧ p < q))) p ≤ p * 20736 := sm_le p (fun k _ => Nat.le_trans (iq_le _ _) (Nat.le_trans (cq_le _ hn j _) (p12 (by omega))))
          refine ⟨fun z => by rw [e.1] at z; omega, fun _ => ⟨fun y => ?_, fun y => ⟨⟨by omega, by omega⟩, ?_⟩⟩⟩
          · rw [hbit] at y
            have hC : ¬ C p := fun w => by
              rw [if_pos ((hcb p).mpr w)] at y
              exact y rfl
            have e1 : sm (fun p => iq (C p) (cq (adT T c) n j (fun q => C q ∧ adT T c p q ∧ p < q))) (p + 1) = sm (fun p => iq (C p) (cq (adT T c) n j (fun q => C q ∧ adT T c p q ∧ p < q))) p := by
              show _ + iq (C p) _ = _
              rw [iq_f hC]
              rfl
            rw [e1] at q
            show mGo l g _ _ 23 [_, _, _, _, some (.inl (mWr ((p : Int) + 1)))] [] h _
            rw [mWr_of ⟨by omega, by omega⟩]
            exact q
          · rw [hbit] at y
            have hC : C p := by
              by_cases hb : cand.testBit p = true
              · exact (hcb p).mp hb
              · rw [if_neg hb] at y
                exact absurd y (by decide)
            have hpB := hCB p hC
            have ep : h 26 0 (Int.toNat (p : Int)) = nr T c p := by rw [Int.toNat_natCast, e.2 p hpB]
            refine mCall_is (c_K_above _ _) ?_
            obtain ⟨z1, a1, a2, a3⟩ := and_and hcl (nr_lt T c p)
            obtain ⟨z2, b1', b2, b3⟩ := and_above a2 (show p < 12 by omega)
            have w1 : mAnd (mAnd (cand : Int) (h 26 0 (Int.toNat (p : Int)))) (mShl (-2) (p : Int)) = (z2 : Int) := by rw [ep, a1, b1']
            have w2 : mWr (((j + 1 : Nat) : Int) - 1) = ((j : Nat) : Int) := by rw [mWr_of ⟨by omega, by omega⟩]; omega
            have qi := ih (by omega) (fun q => C q ∧ adT T c p q ∧ p < q) z2 b2 (fun q => by
              rw [b3, a3, hcb, near_bit hn fb (show p < 12 by omega)]
              exact ⟨fun w => ⟨w.1.1, w.1.2.1.2, w.2⟩, fun w => ⟨⟨w.1, ⟨hB.1 q (hCB q w.1), w.2.1⟩, by omega⟩, w.2.2⟩⟩) (fun q hq => hCB q hq.1)
            rw [← w1, ← w2] at qi
            refine mCall_is qi ?_
            have b4 : cq (adT T c) n j (fun q => C q ∧ adT T c p q ∧ p < q) ≤ 20736 := Nat.le_trans (cq_le _ hn j _) (p12 (by omega))
            have e1 : sm (fun p => iq (C p) (cq (adT T c) n j (fun q => C q ∧ adT T c p q ∧ p < q))) (p + 1) = sm (fun p => iq (C p) (cq (adT T c) n j (fun q => C q ∧ adT T c p q ∧ p < q))) p + cq (adT T c) n j (fun q => C q ∧ adT T c p q ∧ p < q) := by
              show _ + iq (C p) _ = _
              rw [iq_t hC]
            rw [e1] at q
            show mGo l g _ _ 23 [_, _, _, some (.inl (mWr (((sm (fun p => iq (C p) (cq (adT T c) n j (fun q => C q ∧ adT T c p q ∧ p < q))) p : Nat) : Int) + (cq (adT T c) n j (fun q => C q ∧ adT T c p q ∧ p < q) : Nat)))), some (.inl (mWr ((p : Int) + 1)))] [] h _
            rw [mWr_of (x := (p : Int) + 1) ⟨by omega, by omega⟩, mWr_of ⟨by omega, by omega⟩]
            exact q
      refine e_Outward_countAllJoined (fun hv hm => ?_)
      refine mGo_wp h_Outward_countAllJoined 60 [23] ?_
      refine ⟨fun _ => ?_, fun z => by omega⟩
      exact loop n 0 (by omega)
theorem c_between (T : Nat → Int) (c n : Nat) (hn : n ≤ 12) (fb : farB T n) (B : Nat → Prop) (hB : oB T c n B) (goal : Nat) (hg : B goal) (h : mMem) (e : oSt h T c n B) : ∀ (j : Nat), j + 1 ≤ 4 → ∀ (tk : List Nat) (a taken : Nat), B a → a ∈ tk → goal ∈ tk → taken < 4096 → (∀ q, taken.testBit q = true ↔ q ∈ tk) →
    mCon l g n_Outward_countBetween (d + 1 + j) [.inr (5, 0), .inl a, .inl goal, .inl (j + 1 : Nat), .inl taken] h (mIs (some (.inl (bw T c n goal tk a (j + 1) : Nat))) h) := by
  have hgn := hB.1 goal hg
  intro j
  induction j with
  | zero =>
    intro hj tk a taken ha hatk hgtk htl htb
    have han := hB.1 a ha
    refine e_Outward_countBetween (fun hv hm => ?_)
    refine mGo_wp h_Outward_countBetween 80 [] ?_
    have ea : h 26 0 (Int.toNat (a : Int)) = nr T c a := by rw [Int.toNat_natCast, e.2 a ha]
    have eg : h 26 0 (Int.toNat (goal : Int)) = nr T c goal := by rw [Int.toNat_natCast, e.2 goal hg]
    obtain ⟨z1, a1, a2, a3⟩ := and_not (nr_lt T c a) htl
    obtain ⟨z2, b1, b2, b3⟩ := and_and a2 (nr_lt T c goal)
    refine ⟨⟨by omega, by omega⟩, ⟨fun z => absurd z (by decide), fun _ => ⟨⟨by omega, by omega⟩, ?_⟩⟩⟩
    refine mCall_is (show mCon l g n_Int_bitCount d [.inl (mAnd (mAnd (h 26 0 (Int.toNat (a : Int))) (mXor (taken : Int) (-1))) (h 26 0 (Int.toNat (goal : Int))))] h (mIs (some (.inl (bc z2 : Nat))) h) by rw [ea, a1, eg, b1]; exact c_Int_bitCount z2 b2 h) ?_
    refine ⟨?_, rfl⟩
    have e1 : bw T c n goal tk a (0 + 1) = (lst (fun p => (adT T c a p ∧ p ∉ tk) ∧ adT T c p goal) 0 n).length := by
      rw [lst_sm]
      rfl
    have e2 : bc z2 = (lst (fun p => p < n ∧ (adT T c a p ∧ p ∉ tk) ∧ adT T c p goal) 0 n).length := by
      refine bc_lst hn (fun q => ?_) (fun q hq => hq.1)
      rw [b3, a3, near_bit hn fb (show a < 12 by omega), near_bit hn fb (show goal < 12 by omega), htb]
      exact ⟨fun w => ⟨w.1.1.1.1, ⟨w.1.1.1.2, w.1.2⟩, adT_sym _ _ w.2.1.2⟩, fun w => ⟨⟨⟨⟨w.1, w.2.1.1⟩, fun y => w.2.1.2 (y ▸ hatk)⟩, w.2.1.2⟩, ⟨w.1, adT_sym _ _ w.2.2⟩, fun y => w.2.1.2 (y ▸ hgtk)⟩⟩
    rw [e2, e1, lst_same (fun q hq => ⟨fun w => w.2, fun w => ⟨hq, w⟩⟩)]
  | succ j ih =>
    intro hj tk a taken ha hatk hgtk htl htb
    show mCon l g n_Outward_countBetween (d + 1 + j + 1) _ _ _
    have han := hB.1 a ha
    have ea : h 26 0 (Int.toNat (a : Int)) = nr T c a := by rw [Int.toNat_natCast, e.2 a ha]
    obtain ⟨z1, a1, a2, a3⟩ := and_not (nr_lt T c a) htl
    have zb : ∀ q, z1.testBit q = true ↔ (q < n ∧ adT T c a q ∧ q ∉ tk) := fun q => by
      rw [a3, near_bit hn fb (show a < 12 by omega), htb]
      exact ⟨fun w => ⟨w.1.1.1, w.1.1.2, w.2⟩, fun w => ⟨⟨⟨w.1, w.2.1⟩, fun y => w.2.2 (y ▸ hatk)⟩, w.2.2⟩⟩
    rw [bw_succ]
    have loop : ∀ (m p : Nat), p + m = n → mGo l g (mMt n_Outward_countBetween) (d + 1 + j + 1) 37 [some (.inr (5, 0)), some (.inl a), some (.inl goal), some (.inl (j + 1 + 1 : Nat)), some (.inl taken), some (.inl z1), some (.inl (sm (fun p => iq (adT T c a p ∧ p ∉ tk) (bw T c n goal (p :: tk) p (j + 1))) p : Nat)), some (.inl p)] [] h (mIs (some (.inl (sm (fun p => iq (adT T c a p ∧ p ∉ tk) (bw T c n goal (p :: tk) p (j + 1))) n : Nat))) h) := by
      intro m
      induction m with
      | zero =>
        intro p hp
        refine mGo_wp h_Outward_countBetween 80 [37] ?_
        refine ⟨fun _ => ⟨?_, rfl⟩, fun z => by rw [e.1] at z; omega⟩
        rw [show p = n by omega]
      | succ m ihm =>
        intro p hp
        refine mGo_wp h_Outward_countBetween 80 [37] ?_
        have hbit := bit_at z1 p a2 (by omega)
        have q := ihm (p + 1) (by omega)
        have b1 : sm (fun p => iq (adT T c a p ∧ p ∉ tk) (bw T c n goal (p :: tk) p (j + 1))) p ≤ p * 20736 := sm_le p (fun k _ => Nat.le_trans (iq_le _ _) (bw_le hn (by omega)))
        refine ⟨fun z => by rw [e.1] at z; omega, fun _ => ⟨fun y => ?_, fun y => ?_⟩⟩
        · rw [hbit] at y
          have hC : ¬ (adT T c a p ∧ p ∉ tk) := fun w => by
            rw [if_pos ((zb p).mpr ⟨by omega, w⟩)] at y
            exact y rfl
          have e1 : sm (fun p => iq (adT T c a p ∧ p ∉ tk) (bw T c n goal (p :: tk) p (j + 1))) (p + 1) = sm (fun p => iq (adT T c a p ∧ p ∉ tk) (bw T c n goal (p :: tk) p (j + 1))) p := by
            show _ + iq (adT T c a p ∧ p ∉ tk) _ = _
            rw [iq_f hC]
            rfl
          rw [e1] at q
          show mGo l g _ _ 37 [_, _, _, _, _, _, _, some (.inl (mWr ((p : Int) + 1)))] [] h _
          rw [mWr_of ⟨by omega, by omega⟩]
          exact q
        · rw [hbit] at y
          have hC : adT T c a p ∧ p ∉ tk := by
            by_cases hb : z1.testBit p = true
            · exact ((zb p).mp hb).2
            · rw [if_neg hb] at y
              exact absurd y (by decide)
          have hpB : B p := hB.2 a p ha (by omega) (fun y => hC.2 (y ▸ hatk)) hC.1
          have hp2 : 2 ^ p < 2 ^ 12 := Nat.pow_lt_pow_right (by decide) (show p < 12 by omega)
          have wt : mOr (taken : Int) (mShl 1 (p : Int)) = ((taken ||| 2 ^ p : Nat) : Int) := by rw [mShl_1 _ (by omega), mOr_nat (by omega) (by omega)]
          have wj : mWr (((j + 1 + 1 : Nat) : Int) - 1) = ((j + 1 : Nat) : Int) := by rw [mWr_of ⟨by omega, by omega⟩]; omega
          have qi := ih (by omega) (p :: tk) p (taken ||| 2 ^ p) hpB List.mem_cons_self (List.mem_cons_of_mem _ hgtk) (Nat.or_lt_two_pow (n := 12) htl hp2) (fun q => by
            rw [Nat.testBit_or, Nat.testBit_two_pow, Bool.or_eq_true, htb q, List.mem_cons, decide_eq_true_eq]
            exact ⟨fun w => w.elim Or.inr (fun x => Or.inl x.symm), fun w => w.elim (fun x => Or.inr x.symm) Or.inl⟩)
          rw [← wt, ← wj] at qi
          refine mCall_is qi ?_
          have b4 : bw T c n goal (p :: tk) p (j + 1) ≤ 20736 := bw_le hn (by omega)
          have e1 : sm (fun p => iq (adT T c a p ∧ p ∉ tk) (bw T c n goal (p :: tk) p (j + 1))) (p + 1) = sm (fun p => iq (adT T c a p ∧ p ∉ tk) (bw T c n goal (p :: tk) p (j + 1))) p + bw T c n goal (p :: tk) p (j + 1) := by
            show _ + iq (adT T c a p ∧ p ∉ tk) _ = _
            rw [iq_t hC]
          rw [e1] at q
          show mGo l g _ _ 37 [_, _, _, _, _, _, some (.inl (mWr (((sm (fun p => iq (adT T c a p ∧ p ∉ tk) (bw T c n goal (p :: tk) p (j + 1))) p : Nat) : Int) + (bw T c n goal (p :: tk) p (j + 1) : Nat)))), some (.inl (mWr ((p : Int) + 1)))] [] h _
          rw [mWr_of (x := (p : Int) + 1) ⟨by omega, by omega⟩, mWr_of ⟨by omega, by omega⟩]
          exact q
    refine e_Outward_countBetween (fun hv hm => ?_)
    refine mGo_wp h_Outward_countBetween 80 [37] ?_
    refine ⟨⟨by omega, by omega⟩, ⟨fun _ => ?_, fun z => by omega⟩⟩
    have w0 : mAnd (h 26 0 (Int.toNat (a : Int))) (mXor (taken : Int) (-1)) = (z1 : Int) := by rw [ea, a1]
    show mGo l g _ _ 37 [_, _, _, _, _, some (.inl (mAnd (h 26 0 (Int.toNat (a : Int))) (mXor (taken : Int) (-1)))), _, _] [] h _
    rw [w0]
    exact loop n 0 (by omega)
end Out
end
section
theorem lst_le (C : Nat → Prop) (n : Nat) : (lst C 0 n).length ≤ n := by
  unfold lst
  have := List.length_filter_le (fun q => qB (C q)) (List.range' 0 n)
  rw [List.length_range'] at this
  exact this
section Out2
variable {l : Launch} {g : mG} {d : Nat}
/-- one arm more: the loop of countArms, whatever the call below does -/
theorem l_arms (T : Nat → Int) (c n : Nat) (hn : n ≤ 12) (fb : farB T n) (B : Nat → Prop) (hB : oB T c n B) (h : mMem) (e : oSt h T c n B) (D a b u v : Nat) (hab : a + 1 + b ≤ 4) (hnot : ¬ (a + 1 = 1 ∧ b = 0)) (tk : List Nat) (taken : Nat) (hu : B u) (hutk : u ∈ tk) (htl : taken < 4096) (htb : ∀ q, taken.testBit q = true ↔ q ∈ tk)
    (ih : ∀ p t : Nat, B p → t < 4096 → (∀ q, t.testBit q = true ↔ q ∈ p :: tk) → mCon l g n_Outward_countArms D [.inr (5, 0), .inl p, .inl a, .inl v, .inl b, .inl t] h (mIs (some (.inl (aR T c n a b p v (p :: tk) : Nat))) h)) :
    mCon l g n_Outward_countArms (D + 1) [.inr (5, 0), .inl u, .inl (a + 1 : Nat), .inl v, .inl b, .inl taken] h (mIs (some (.inl (aR T c n (a + 1) b u v tk : Nat))) h) := by
  have hun := hB.1 u hu
  have ea : h 26 0 (Int.toNat (u : Int)) = nr T c u := by rw [Int.toNat_natCast, e.2 u hu]
  obtain ⟨z1, a1, a2, a3⟩ := and_not (nr_lt T c u) htl
  have zb : ∀ q, z1.testBit q = true ↔ (q < n ∧ adT T c u q ∧ q ∉ tk) := fun q => by
    rw [a3, near_bit hn fb (show u < 12 by omega), htb]
    exact ⟨fun w => ⟨w.1.1.1, w.1.1.2, w.2⟩, fun w => ⟨⟨⟨w.1, w.2.1⟩, fun y => w.2.2 (y ▸ hutk)⟩, w.2.2⟩⟩
  rw [aR_succ]
  have loop : ∀ (m p : Nat), p + m = n → mGo l g (mMt n_Outward_countArms) (D + 1) 60 [some (.inr (5, 0)), some (.inl u), some (.inl (a + 1 : Nat)), some (.inl v), some (.inl b), some (.inl taken), some (.inl z1), some (.inl (sm (fun p => iq (adT T c u p ∧ p ∉ tk) (aR T c n a b p v (p :: tk))) p : Nat)), some (.inl p)] [] h (mIs (some (.inl (sm (fun p => iq (adT T c u p ∧ p ∉ tk) (aR T c n a b p v (p :: tk))) n : Nat))) h) := by
    intro m
    induction m with
    | zero =>
      intro p hp
      refine mGo_wp h_Outward_countArms 80 [60] ?_
      refine ⟨fun _ => ⟨?_, rfl⟩, fun z => by rw [e.1] at z; omega⟩
      rw [show p = n by omega]
    | succ m ihm =>
      intro p hp
      refine mGo_wp h_Outward_countArms 80 [60] ?_
      have hbit := bit_at z1 p a2 (by omega)
      have q := ihm (p + 1) (by omega)
      have b1 : sm (fun p => iq (adT T c u p ∧ p ∉ tk) (aR T c n a b p v (p :: tk))) p ≤ p * 20736 := sm_le p (fun k _ => Nat.le_trans (iq_le _ _) (aR_le hn (by omega)))
      refine ⟨fun z => by rw [e.1] at z; omega, fun _ => ⟨fun y => ?_, fun y => ?_⟩⟩
      · rw [hbit] at y
        have hC : ¬ (adT T c u p ∧ p ∉ tk) := fun w => by
          rw [if_pos ((zb p).mpr ⟨by omega, w⟩)] at y
          exact y rfl
        have e1 : sm (fun p => iq (adT T c u p ∧ p ∉ tk) (aR T c n a b p v (p :: tk))) (p + 1) = sm (fun p => iq (adT T c u p ∧ p ∉ tk) (aR T c n a b p v (p :: tk))) p := by
          show _ + iq (adT T c u p ∧ p ∉ tk) _ = _
          rw [iq_f hC]
          rfl
        rw [e1] at q
        show mGo l g _ _ 60 [_, _, _, _, _, _, _, _, some (.inl (mWr ((p : Int) + 1)))] [] h _
        rw [mWr_of ⟨by omega, by omega⟩]
        exact q
      · rw [hbit] at y
        have hC : adT T c u p ∧ p ∉ tk := by
          by_cases hb : z1.testBit p = true
          · exact ((zb p).mp hb).2
          · rw [if_neg hb] at y
            exact absurd y (by decide)
        have hpB : B p := hB.2 u p hu (by omega) (fun y => hC.2 (y ▸ hutk)) hC.1
        have hp2 : 2 ^ p < 2 ^ 12 := Nat.pow_lt_pow_right (by decide) (show p < 12 by omega)
        have wt : mOr (taken : Int) (mShl 1 (p : Int)) = ((taken ||| 2 ^ p : Nat) : Int) := by rw [mShl_1 _ (by omega), mOr_nat (by omega) (by omega)]
        have wj : mWr (((a + 1 : Nat) : Int) - 1) = ((a : Nat) : Int) := by rw [mWr_of ⟨by omega, by omega⟩]; omega
        have qi := ih p (taken ||| 2 ^ p) hpB (Nat.or_lt_two_pow (n := 12) htl hp2) (fun q => by
          rw [Nat.testBit_or, Nat.testBit_two_pow, Bool.or_eq_true, htb q, List.mem_cons, decide_eq_true_eq]
          exact ⟨fun w => w.elim Or.inr (fun x => Or.inl x.symm), fun w => w.elim (fun x => Or.inr x.symm) Or.inl⟩)
        rw [← wt, ← wj] at qi
        refine mCall_is qi ?_
        have b4 : aR T c n a b p v (p :: tk) ≤ 20736 := aR_le hn (by omega)
        have e1 : sm (fun p => iq (adT T c u p ∧ p ∉ tk) (aR T c n a b p v (p :: tk))) (p + 1) = sm (fun p => iq (adT T c u p ∧ p ∉ tk) (aR T c n a b p v (p :: tk))) p + aR T c n a b p v (p :: tk) := by
          show _ + iq (adT T c u p ∧ p ∉ tk) _ = _
          rw [iq_t hC]
        rw [e1] at q
        show mGo l g _ _ 60 [_, _, _, _, _, _, _, some (.inl (mWr (((sm (fun p => iq (adT T c u p ∧ p ∉ tk) (aR T c n a b p v (p :: tk))) p : Nat) : Int) + (aR T c n a b p v (p :: tk) : Nat)))), some (.inl (mWr ((p : Int) + 1)))] [] h _
        rw [mWr_of (x := (p : Int) + 1) ⟨by omega, by omega⟩, mWr_of ⟨by omega, by omega⟩]
        exact q
  have w0 : mAnd (h 26 0 (Int.toNat (u : Int))) (mXor (taken : Int) (-1)) = (z1 : Int) := by rw [ea, a1]
  refine e_Outward_countArms (fun hv hm => ?_)
  refine mGo_wp h_Outward_countArms 80 [60] ?_
  have fin : mGo l g (mMt n_Outward_countArms) (D + 1) 60 [some (.inr (5, 0)), some (.inl u), some (.inl (a + 1 : Nat)), some (.inl v), some (.inl b), some (.inl taken), some (.inl (mAnd (h 26 0 (Int.toNat (u : Int))) (mXor (taken : Int) (-1)))), some (.inl 0), some (.inl 0)] [] h (mIs (some (.inl (sm (fun p => iq (adT T c u p ∧ p ∉ tk) (aR T c n a b p v (p :: tk))) n : Nat))) h) := by
    rw [w0]
    exact loop n 0 (by omega)
  refine ⟨fun _ => ⟨⟨by omega, by omega⟩, ⟨fun _ => fin, fun z => ⟨fun _ => fin, fun z2 => absurd ⟨by omega, by omega⟩ hnot⟩⟩⟩, fun z => by omega⟩
/-- arms at one end alone -/
theorem c_arms0 (T : Nat → Int) (c n : Nat) (hn : n ≤ 12) (fb : farB T n) (B : Nat → Prop) (hB : oB T c n B) (h : mMem) (e : oSt h T c n B) (v : Nat) : ∀ (a : Nat), a ≤ 4 → ∀ (u : Nat) (tk : List Nat) (taken : Nat), B u → u ∈ tk → taken < 4096 → (∀ q, taken.testBit q = true ↔ q ∈ tk) →
    mCon l g n_Outward_countArms (d + 1 + a) [.inr (5, 0), .inl u, .inl a, .inl v, .inl 0, .inl taken] h (mIs (some (.inl (aR T c n a 0 u v tk : Nat))) h) := by
  intro a
  induction a with
  | zero =>
    intro ha u tk taken hu hutk htl htb
    refine e_Outward_countArms (fun hv hm => ?_)
    refine mGo_wp h_Outward_countArms 80 [] ?_
    refine ⟨fun z => absurd z (by decide), fun _ => ⟨fun z => absurd z (by decide), fun _ => ⟨?_, rfl⟩⟩⟩
    have : aR T c n 0 0 u v tk = 1 := by
      unfold aR
      show iq True (iq True 1) = 1
      rw [iq_t trivial, iq_t trivial]
    rw [this]
    rfl
  | succ a ih =>
    intro ha u tk taken hu hutk htl htb
    by_cases h0 : a = 0
    · subst h0
      have hun := hB.1 u hu
      have ea : h 26 0 (Int.toNat (u : Int)) = nr T c u := by rw [Int.toNat_natCast, e.2 u hu]
      obtain ⟨z1, a1, a2, a3⟩ := and_not (nr_lt T c u) htl
      refine e_Outward_countArms (fun hv hm => ?_)
      refine mGo_wp h_Outward_countArms 80 [] ?_
      refine ⟨fun _ => ⟨⟨by omega, by omega⟩, ⟨fun z => absurd rfl z, fun _ => ⟨fun z => absurd z (by decide), fun _ => ?_⟩⟩⟩, fun z => absurd z (by decide)⟩
      refine mCall_is (show mCon l g n_Int_bitCount (d + 1) [.inl (mAnd (h 26 0 (Int.toNat (u : Int))) (mXor (taken : Int) (-1)))] h (mIs (some (.inl (bc z1 : Nat))) h) by rw [ea, a1]; exact c_Int_bitCount z1 a2 h) ?_
      refine ⟨?_, rfl⟩
      have e2 : bc z1 = (lst (fun p => p < n ∧ adT T c u p ∧ p ∉ tk) 0 n).length := by
        refine bc_lst hn (fun q => ?_) (fun q hq => hq.1)
        rw [a3, near_bit hn fb (show u < 12 by omega), htb]
        exact ⟨fun w => ⟨w.1.1.1, w.1.1.2, w.2⟩, fun w => ⟨⟨⟨w.1, w.2.1⟩, fun y => w.2.2 (y ▸ hutk)⟩, w.2.2⟩⟩
      have e1 : aR T c n (0 + 1) 0 u v tk = (lst (fun p => adT T c u p ∧ p ∉ tk) 0 n).length := by
        rw [aR_succ, lst_sm]
        refine sm_congr n (fun p _ => iq_congr2 Iff.rfl (fun _ => ?_))
        unfold aR
        show iq True (iq True 1) = 1
        rw [iq_t trivial, iq_t trivial]
      rw [e2, e1, lst_same (fun q hq => ⟨fun w => w.2, fun w => ⟨hq, w⟩⟩)]
    · exact l_arms T c n hn fb B hB h e (d + 1 + a) a 0 u v (by omega) (by omega) tk taken hu hutk htl htb (fun p t hp ht htb' => ih (by omega) p (p :: tk) t hp List.mem_cons_self ht htb')
theorem c_arms (T : Nat → Int) (c n : Nat) (hn : n ≤ 12) (fb : farB T n) (B : Nat → Prop) (hB : oB T c n B) (h : mMem) (e : oSt h T c n B) (v b : Nat) (hb : B v) : ∀ (a : Nat), a + b ≤ 4 → ∀ (u : Nat) (tk : List Nat) (taken : Nat), B u → u ∈ tk → v ∈ tk → taken < 4096 → (∀ q, taken.testBit q = true ↔ q ∈ tk) →
    mCon l g n_Outward_countArms (d + 6 + a) [.inr (5, 0), .inl u, .inl a, .inl v, .inl b, .inl taken] h (mIs (some (.inl (aR T c n a b u v tk : Nat))) h) := by
  intro a
  induction a with
  | zero =>
    intro hab u tk taken hu hutk hvtk htl htb
    by_cases h0 : b = 0
    · subst h0
      exact mCon_lift (by omega) (c_arms0 (d := d) T c n hn fb B hB h e v 0 (by omega) u tk taken hu hutk htl htb)
    · rw [aR_swap]
      refine e_Outward_countArms (fun hv hm => ?_)
      refine mGo_wp h_Outward_countArms 80 [] ?_
      refine ⟨fun z => absurd z (by decide), fun _ => ⟨fun _ => ?_, fun z => by omega⟩⟩
      refine mCall_is (mCon_lift (by omega) (c_arms0 (d := d) T c n hn fb B hB h e u b (by omega) v tk taken hb hvtk htl htb)) ?_
      exact ⟨rfl, rfl⟩
  | succ a ih =>
    intro hab u tk taken hu hutk hvtk htl htb
    by_cases h0 : a + 1 = 1 ∧ b = 0
    · obtain ⟨h1, rfl⟩ := h0
      exact mCon_lift (by omega) (c_arms0 (d := d) T c n hn fb B hB h e v (a + 1) (by omega) u tk taken hu hutk htl htb)
    · exact l_arms T c n hn fb B hB h e (d + 6 + a) a b u v (by omega) h0 tk taken hu hutk htl htb (fun p t hp ht htb' => ih (by omega) p (p :: tk) t hp List.mem_cons_self (List.mem_cons_of_mem _ hvtk) ht htb')
theorem two_bits {u v : Nat} (hu : u < 12) (hv : v < 12) : mOr (mShl 1 (u : Int)) (mShl 1 (v : Int)) = ((2 ^ u ||| 2 ^ v : Nat) : Int) ∧ 2 ^ u ||| 2 ^ v < 4096 ∧ ∀ q, (2 ^ u ||| 2 ^ v).testBit q = true ↔ q ∈ [u, v] := by
  have hu2 : 2 ^ u < 2 ^ 12 := Nat.pow_lt_pow_right (by decide) hu
  have hv2 : 2 ^ v < 2 ^ 12 := Nat.pow_lt_pow_right (by decide) hv
  refine ⟨?_, Nat.or_lt_two_pow (n := 12) hu2 hv2, fun q => ?_⟩
  · rw [mShl_1 _ (by omega), mShl_1 _ (by omega), mOr_nat (by omega) (by omega)]
  · rw [Nat.testBit_or, Nat.testBit_two_pow, Nat.testBit_two_pow, Bool.or_eq_true, decide_eq_true_eq, decide_eq_true_eq, List.mem_cons, List.mem_singleton]
    exact ⟨fun w => w.imp Eq.symm Eq.symm, fun w => w.imp Eq.symm Eq.symm⟩
theorem c_paths (T : Nat → Int) (c n : Nat) (hn : n ≤ 12) (fb : farB T n) (B : Nat → Prop) (hB : oB T c n B) (h : mMem) (e : oSt h T c n B) (u v m : Nat) (hu : B u) (hv : B v) (hm4 : m ≤ 3) :
    mCon l g n_Outward_countPaths (d + 11) [.inr (5, 0), .inl u, .inl v, .inl m] h (mIs (some (.inl (sm (fun i => aR T c n i (m - i) u v [u, v]) (m + 1) : Nat))) h) := by
  have hun := hB.1 u hu
  have hvn := hB.1 v hv
  obtain ⟨w1, w2, w3⟩ := two_bits (u := u) (v := v) (by omega) (by omega)
  have loop : ∀ (k i : Nat), i + k = m + 1 → mGo l g (mMt n_Outward_countPaths) (d + 11) 6 [some (.inr (5, 0)), some (.inl u), some (.inl v), some (.inl m), some (.inl (sm (fun i => aR T c n i (m - i) u v [u, v]) i : Nat)), some (.inl i)] [] h (mIs (some (.inl (sm (fun i => aR T c n i (m - i) u v [u, v]) (m + 1) : Nat))) h) := by
    intro k
    induction k with
    | zero =>
      intro i hi
      refine mGo_wp h_Outward_countPaths 60 [6] ?_
      refine ⟨fun _ => ⟨?_, rfl⟩, fun z => by omega⟩
      rw [show i = m + 1 by omega]
    | succ k ihk =>
      intro i hi
      refine mGo_wp h_Outward_countPaths 60 [6] ?_
      refine ⟨fun z => by omega, fun _ => ?_⟩
      have q := ihk (i + 1) (by omega)
      have b1 : sm (fun i => aR T c n i (m - i) u v [u, v]) i ≤ i * 20736 := sm_le i (fun k hk => aR_le hn (by omega))
      have b4 : aR T c n i (m - i) u v [u, v] ≤ 20736 := aR_le hn (by omega)
      have wi : mWr ((m : Int) - (i : Int)) = ((m - i : Nat) : Int) := by rw [mWr_of ⟨by omega, by omega⟩]; omega
      have qa := c_arms (l := l) (g := g) (d := d) T c n hn fb B hB h e v (m - i) hv i (by omega) u [u, v] (2 ^ u ||| 2 ^ v) hu (by simp) (by simp) w2 w3
      rw [← w1, ← wi] at qa
      refine mCall_is (mCon_lift (by omega) qa) ?_
      show mGo l g _ _ 6 [_, _, _, _, some (.inl (mWr (((sm (fun i => aR T c n i (m - i) u v [u, v]) i : Nat) : Int) + (aR T c n i (m - i) u v [u, v] : Nat)))), some (.inl (mWr ((i : Int) + 1)))] [] h _
      rw [mWr_of (x := (i : Int) + 1) ⟨by omega, by omega⟩, mWr_of ⟨by omega, by omega⟩]
      exact q
  refine e_Outward_countPaths (fun hv hm => ?_)
  refine mGo_wp h_Outward_countPaths 60 [6] ?_
  exact loop (m + 1) 0 (by omega)
theorem bc_deg {T : Nat → Int} {c n a : Nat} (hn : n ≤ 12) (fb : farB T n) (ha : a < n) : bc (nr T c a) = dgN T c n a := by
  unfold dgN
  rw [bc_lst (C := fun q => q < n ∧ q ≠ a ∧ adT T c a q) hn (fun q => ?_) (fun q hq => hq.1), lst_same (fun q hq => ⟨fun w => w.2, fun w => ⟨hq, w⟩⟩)]
  rw [near_bit hn fb (show a < 12 by omega)]
  exact ⟨fun w => ⟨w.1.1, w.2, w.1.2⟩, fun w => ⟨⟨w.1, w.2.2⟩, w.2.1⟩⟩
theorem bc_cm {T : Nat → Int} {c n a b z : Nat} (hn : n ≤ 12) (fb : farB T n) (ha : a < n) (hb : b < n) (hz : ∀ q, z.testBit q = true ↔ ((nr T c a).testBit q = true ∧ (nr T c b).testBit q = true)) : bc z = cmN T c n a b := by
  unfold cmN
  rw [bc_lst (C := fun q => q < n ∧ (q ≠ a ∧ adT T c a q) ∧ (q ≠ b ∧ adT T c b q)) hn (fun q => ?_) (fun q hq => hq.1), lst_same (fun q hq => ⟨fun w => w.2, fun w => ⟨hq, w⟩⟩)]
  rw [hz, near_bit hn fb (show a < 12 by omega), near_bit hn fb (show b < 12 by omega)]
  exact ⟨fun w => ⟨w.1.1.1, ⟨w.1.2, w.1.1.2⟩, w.2.2, w.2.1.2⟩, fun w => ⟨⟨⟨w.1, w.2.1.2⟩, w.2.1.1⟩, ⟨w.1, w.2.2.2⟩, w.2.2.1⟩⟩
theorem lst_pos {C : Nat → Prop} {n v : Nat} (hv : v < n) (hC : C v) : 1 ≤ (lst C 0 n).length := by
  have := lst_rem hv hC
  omega
theorem c_stars (T : Nat → Int) (c n : Nat) (hn : n ≤ 12) (fb : farB T n) (B : Nat → Prop) (hB : oB T c n B) (h : mMem) (e : oSt h T c n B) (u s : Nat) (hu : B u) (hs : 1 ≤ s ∧ s ≤ 6) (hd : 1 ≤ dgN T c n u) :
    mCon l g n_Outward_countStars (d + 1) [.inr (5, 0), .inl u, .inl s] h (mIs (some (.inl (bn (dgN T c n u - 1) (s - 1) : Nat))) h) := by
  have hun := hB.1 u hu
  refine e_Outward_countStars (fun hv hm => ?_)
  refine mGo_wp h_Outward_countStars 40 [] ?_
  have eu : h 26 0 (Int.toNat (u : Int)) = nr T c u := by rw [Int.toNat_natCast, e.2 u hu]
  refine ⟨⟨by omega, by omega⟩, ?_⟩
  refine mCall_is (show mCon l g n_Int_bitCount d [.inl (h 26 0 (Int.toNat (u : Int)))] h (mIs (some (.inl (bc (nr T c u) : Nat))) h) by rw [eu]; exact c_Int_bitCount _ (nr_lt T c u) h) ?_
  have hb : bc (nr T c u) ≤ 12 := cn_le _ 12
  rw [bc_deg hn fb hun] at hb ⊢
  have w1 : mWr (((dgN T c n u : Nat) : Int) - 1) = ((dgN T c n u - 1 : Nat) : Int) := by rw [mWr_of ⟨by omega, by omega⟩]; omega
  have w2 : mWr ((s : Int) - 1) = ((s - 1 : Nat) : Int) := by rw [mWr_of ⟨by omega, by omega⟩]; omega
  have q := c_K_choose (l := l) (g := g) (d := d) (dgN T c n u - 1) (s - 1) (by omega) (by omega) h
  rw [← w1, ← w2] at q
  refine mCall_is q ?_
  exact ⟨rfl, rfl⟩
theorem c_books (T : Nat → Int) (c n : Nat) (hn : n ≤ 12) (fb : farB T n) (B : Nat → Prop) (hB : oB T c n B) (h : mMem) (e : oSt h T c n B) (u v s : Nat) (hu : B u) (hv : B v) (huv : u ≠ v) (hs : 1 ≤ s ∧ s ≤ 4) (hT : adT T c u v) :
    mCon l g n_Outward_countBooks (d + 1) [.inr (5, 0), .inl u, .inl v, .inl s] h (mIs (some (.inl (bn (cmN T c n u v) s + sm (fun w => iq ((w ≠ u ∧ adT T c u w) ∧ (w ≠ v ∧ adT T c v w)) (bn (cmN T c n u w - 1) (s - 1) + bn (cmN T c n v w - 1) (s - 1))) n : Nat))) h) := by
  have hun := hB.1 u hu
  have hvn := hB.1 v hv
  have eu : h 26 0 (Int.toNat (u : Int)) = nr T c u := by rw [Int.toNat_natCast, e.2 u hu]
  have ev : h 26 0 (Int.toNat (v : Int)) = nr T c v := by rw [Int.toNat_natCast, e.2 v hv]
  obtain ⟨z, a1, a2, a3⟩ := and_and (nr_lt T c u) (nr_lt T c v)
  have zb : ∀ q, z.testBit q = true ↔ (q < n ∧ (q ≠ u ∧ adT T c u q) ∧ (q ≠ v ∧ adT T c v q)) := fun q => by
    rw [a3, near_bit hn fb (show u < 12 by omega), near_bit hn fb (show v < 12 by omega)]
    exact ⟨fun w => ⟨w.1.1.1, ⟨w.1.2, w.1.1.2⟩, w.2.2, w.2.1.2⟩, fun w => ⟨⟨⟨w.1, w.2.1.2⟩, w.2.1.1⟩, ⟨w.1, w.2.2.2⟩, w.2.2.1⟩⟩
  have hcm : ∀ a b, cmN T c n a b ≤ 12 := fun a b => by
    have := lst_le (fun q => (q ≠ a ∧ adT T c a q) ∧ (q ≠ b ∧ adT T c b q)) n
    unfold cmN
    omega
  have hbn : ∀ a b k, k < 8 → bn (cmN T c n a b - 1) k ≤ 1000 := fun a b k hk => bn_le _ (by have := hcm a b; omega) k hk
  have hbn0 : bn (cmN T c n u v) s ≤ 1000 := bn_le _ (by have := hcm u v; omega) s (by omega)
  have loop : ∀ (m p : Nat), p + m = n → mGo l g (mMt n_Outward_countBooks) (d + 1) 29 [some (.inr (5, 0)), some (.inl u), some (.inl v), some (.inl s), some (.inl z), some (.inl (bn (cmN T c n u v) s + sm (fun w => iq ((w ≠ u ∧ adT T c u w) ∧ (w ≠ v ∧ adT T c v w)) (bn (cmN T c n u w - 1) (s - 1) + bn (cmN T c n v w - 1) (s - 1))) p : Nat)), some (.inl p)] [] h (mIs (some (.inl (bn (cmN T c n u v) s + sm (fun w => iq ((w ≠ u ∧ adT T c u w) ∧ (w ≠ v ∧ adT T c v w)) (bn (cmN T c n u w - 1) (s - 1) + bn (cmN T c n v w - 1) (s - 1))) n : Nat))) h) := by
    intro m
    induction m with
    | zero =>
      intro p hp
      refine mGo_wp h_Outward_countBooks 100 [29] ?_
      refine ⟨fun _ => ⟨?_, rfl⟩, fun y => by rw [e.1] at y; omega⟩
      rw [show p = n by omega]
    | succ m ihm =>
      intro p hp
      refine mGo_wp h_Outward_countBooks 100 [29] ?_
      have hbit := bit_at z p a2 (by omega)
      have q := ihm (p + 1) (by omega)
      have b1 : sm (fun w => iq ((w ≠ u ∧ adT T c u w) ∧ (w ≠ v ∧ adT T c v w)) (bn (cmN T c n u w - 1) (s - 1) + bn (cmN T c n v w - 1) (s - 1))) p ≤ p * 2000 := sm_le p (fun k _ => Nat.le_trans (iq_le _ _) (by
        have x1 := hbn u k (s - 1) (by omega)
        have x2 := hbn v k (s - 1) (by omega)
        omega))
      refine ⟨fun y => by rw [e.1] at y; omega, fun _ => ⟨fun y => ?_, fun y => ⟨⟨by omega, by omega⟩, ⟨by omega, by omega⟩, ?_⟩⟩⟩
      · rw [hbit] at y
        have hC : ¬ ((p ≠ u ∧ adT T c u p) ∧ (p ≠ v ∧ adT T c v p)) := fun w => by
          rw [if_pos ((zb p).mpr ⟨by omega, w⟩)] at y
          exact y rfl
        have e1 : sm (fun w => iq ((w ≠ u ∧ adT T c u w) ∧ (w ≠ v ∧ adT T c v w)) (bn (cmN T c n u w - 1) (s - 1) + bn (cmN T c n v w - 1) (s - 1))) (p + 1) = sm (fun w => iq ((w ≠ u ∧ adT T c u w) ∧ (w ≠ v ∧ adT T c v w)) (bn (cmN T c n u w - 1) (s - 1) + bn (cmN T c n v w - 1) (s - 1))) p := by
          show _ + iq ((p ≠ u ∧ adT T c u p) ∧ (p ≠ v ∧ adT T c v p)) _ = _
          rw [iq_f hC]
          rfl
        rw [e1] at q
        show mGo l g _ _ 29 [_, _, _, _, _, _, some (.inl (mWr ((p : Int) + 1)))] [] h _
        rw [mWr_of ⟨by omega, by omega⟩]
        exact q
      · rw [hbit] at y
        have hC : (p ≠ u ∧ adT T c u p) ∧ (p ≠ v ∧ adT T c v p) := by
          by_cases hb : z.testBit p = true
          · exact ((zb p).mp hb).2
          · rw [if_neg hb] at y
            exact absurd y (by decide)
        have hpB : B p := hB.2 u p hu (by omega) hC.1.1 hC.1.2
        have ep : h 26 0 (Int.toNat (p : Int)) = nr T c p := by rw [Int.toNat_natCast, e.2 p hpB]
        obtain ⟨z1, c1, c2, c3⟩ := and_and (nr_lt T c u) (nr_lt T c p)
        obtain ⟨z2, d1, d2, d3⟩ := and_and (nr_lt T c v) (nr_lt T c p)
        have k1 := bc_cm (z := z1) hn fb hun (show p < n by omega) c3
        have k2 := bc_cm (z := z2) hn fb hvn (show p < n by omega) d3
        have m1 : 1 ≤ cmN T c n u p := lst_pos (v := v) hvn ⟨⟨fun x => huv x.symm, hT⟩, fun x => hC.2.1 x.symm, adT_sym _ _ hC.2.2⟩
        have m2 : 1 ≤ cmN T c n v p := lst_pos (v := u) hun ⟨⟨huv, adT_sym _ _ hT⟩, fun x => hC.1.1 x.symm, adT_sym _ _ hC.1.2⟩
        have n1 := hcm u p
        have n2 := hcm v p
        have w1 : mWr (((bc z1 : Nat) : Int) - 1) = ((cmN T c n u p - 1 : Nat) : Int) := by rw [k1, mWr_of ⟨by omega, by omega⟩]; omega
        have w2 : mWr (((bc z2 : Nat) : Int) - 1) = ((cmN T c n v p - 1 : Nat) : Int) := by rw [k2, mWr_of ⟨by omega, by omega⟩]; omega
        have w3 : mWr ((s : Int) - 1) = ((s - 1 : Nat) : Int) := by rw [mWr_of ⟨by omega, by omega⟩]; omega
        refine mCall_is (show mCon l g n_Int_bitCount d [.inl (mAnd (h 26 0 (Int.toNat (u : Int))) (h 26 0 (Int.toNat (p : Int))))] h (mIs (some (.inl (bc z1 : Nat))) h) by rw [eu, ep, c1]; exact c_Int_bitCount _ c2 h) ?_
        have q1 := c_K_choose (l := l) (g := g) (d := d) (cmN T c n u p - 1) (s - 1) (by omega) (by omega) h
        rw [← w1, ← w3] at q1
        refine mCall_is q1 ?_
        refine ⟨⟨by omega, by omega⟩, ⟨by omega, by omega⟩, ?_⟩
        refine mCall_is (show mCon l g n_Int_bitCount d [.inl (mAnd (h 26 0 (Int.toNat (v : Int))) (h 26 0 (Int.toNat (p : Int))))] h (mIs (some (.inl (bc z2 : Nat))) h) by rw [ev, ep, d1]; exact c_Int_bitCount _ d2 h) ?_
        have q2 := c_K_choose (l := l) (g := g) (d := d) (cmN T c n v p - 1) (s - 1) (by omega) (by omega) h
        rw [← w2, ← w3] at q2
        refine mCall_is q2 ?_
        have x1 := hbn u p (s - 1) (by omega)
        have x2 := hbn v p (s - 1) (by omega)
        have e1 : sm (fun w => iq ((w ≠ u ∧ adT T c u w) ∧ (w ≠ v ∧ adT T c v w)) (bn (cmN T c n u w - 1) (s - 1) + bn (cmN T c n v w - 1) (s - 1))) (p + 1) = sm (fun w => iq ((w ≠ u ∧ adT T c u w) ∧ (w ≠ v ∧ adT T c v w)) (bn (cmN T c n u w - 1) (s - 1) + bn (cmN T c n v w - 1) (s - 1))) p + (bn (cmN T c n u p - 1) (s - 1) + bn (cmN T c n v p - 1) (s - 1)) := by
          show _ + iq ((p ≠ u ∧ adT T c u p) ∧ (p ≠ v ∧ adT T c v p)) _ = _
          rw [iq_t hC]
        rw [e1] at q
        show mGo l g _ _ 29 [_, _, _, _, _, some (.inl (mWr (mWr (((bn (cmN T c n u v) s + sm (fun w => iq ((w ≠ u ∧ adT T c u w) ∧ (w ≠ v ∧ adT T c v w)) (bn (cmN T c n u w - 1) (s - 1) + bn (cmN T c n v w - 1) (s - 1))) p : Nat) : Int) + (bn (cmN T c n u p - 1) (s - 1) : Nat)) + (bn (cmN T c n v p - 1) (s - 1) : Nat)))), some (.inl (mWr ((p : Int) + 1)))] [] h _
        rw [mWr_of (x := (p : Int) + 1) ⟨by omega, by omega⟩, mWr_of (x := ((bn (cmN T c n u v) s + sm (fun w => iq ((w ≠ u ∧ adT T c u w) ∧ (w ≠ v ∧ adT T c v w)) (bn (cmN T c n u w - 1) (s - 1) + bn (cmN T c n v w - 1) (s - 1))) p : Nat) : Int) + (bn (cmN T c n u p - 1) (s - 1) : Nat)) ⟨by omega, by omega⟩, mWr_of ⟨by omega, by omega⟩]
        rw [show ((bn (cmN T c n u v) s + sm (fun w => iq ((w ≠ u ∧ adT T c u w) ∧ (w ≠ v ∧ adT T c v w)) (bn (cmN T c n u w - 1) (s - 1) + bn (cmN T c n v w - 1) (s - 1))) p : Nat) : Int) + (bn (cmN T c n u p - 1) (s - 1) : Nat) + (bn (cmN T c n v p - 1) (s - 1) : Nat) = ((bn (cmN T c n u v) s + (sm (fun w => iq ((w ≠ u ∧ adT T c u w) ∧ (w ≠ v ∧ adT T c v w)) (bn (cmN T c n u w - 1) (s - 1) + bn (cmN T c n v w - 1) (s - 1))) p + (bn (cmN T c n u p - 1) (s - 1) + bn (cmN T c n v p - 1) (s - 1))) : Nat) : Int) by omega]
        exact q
  refine e_Outward_countBooks (fun hv hm => ?_)
  refine mGo_wp h_Outward_countBooks 100 [29] ?_
  refine ⟨⟨by omega, by omega⟩, ⟨by omega, by omega⟩, ?_⟩
  have w0 : mAnd (h 26 0 (Int.toNat (u : Int))) (h 26 0 (Int.toNat (v : Int))) = (z : Int) := by rw [eu, ev, a1]
  refine mCall_is (show mCon l g n_Int_bitCount d [.inl (mAnd (h 26 0 (Int.toNat (u : Int))) (h 26 0 (Int.toNat (v : Int))))] h (mIs (some (.inl (bc z : Nat))) h) by rw [w0]; exact c_Int_bitCount _ a2 h) ?_
  have k0 := bc_cm (z := z) hn fb hun hvn a3
  have n0 := hcm u v
  rw [k0]
  refine mCall_is (c_K_choose (cmN T c n u v) s (by omega) (by omega) h) ?_
  show mGo l g _ _ 29 [_, _, _, _, some (.inl (mAnd (h 26 0 (Int.toNat (u : Int))) (h 26 0 (Int.toNat (v : Int))))), _, _] [] h _
  rw [w0]
  exact loop n 0 (by omega)
end Out2
end
