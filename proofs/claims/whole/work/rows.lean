section
-- ===== PART A: goes FIRST, ahead of the names: the tables' words, and 'selects' of the private methods out of them =====
/-- a private method of a class that the tables say can be made, by its rows of tables_1 -/
def lw_okq (q : MethodName × Nat) : Prop := (q.1.cls ≠ "java/lang/invoke/MethodHandle" ∧ q.1.cls ≠ "java/lang/invoke/VarHandle") ∧ Cond.instantiable q.1.cls q.2 ∈ tables_1 ∧ Cond.privateMethod q.1 ∈ tables_1 ∧ Cond.instanceMethod q.1 ∈ tables_1
theorem lw_p0 : lw_okq (⟨"KeptColours", "remember", "()V"⟩, 8) := ⟨⟨by decide +kernel, by decide +kernel⟩, List.mem_of_getElem? (i := 16) (by decide +kernel), List.mem_of_getElem? (i := 277) (by decide +kernel), List.mem_of_getElem? (i := 278) (by decide +kernel)⟩
theorem lw_p1 : lw_okq (⟨"KeptColours$Net", "flip", "(II)V"⟩, 6) := ⟨⟨by decide +kernel, by decide +kernel⟩, List.mem_of_getElem? (i := 24) (by decide +kernel), List.mem_of_getElem? (i := 343) (by decide +kernel), List.mem_of_getElem? (i := 344) (by decide +kernel)⟩
theorem lw_p2 : lw_okq (⟨"KeptColours$Finder", "lookAt", "(LKeptColours$Net;I)V"⟩, 5) := ⟨⟨by decide +kernel, by decide +kernel⟩, List.mem_of_getElem? (i := 72) (by decide +kernel), List.mem_of_getElem? (i := 375) (by decide +kernel), List.mem_of_getElem? (i := 376) (by decide +kernel)⟩
theorem lw_p3 : lw_okq (⟨"KeptColours$Finder", "findFrom", "(III)Z"⟩, 5) := ⟨⟨by decide +kernel, by decide +kernel⟩, List.mem_of_getElem? (i := 72) (by decide +kernel), List.mem_of_getElem? (i := 393) (by decide +kernel), List.mem_of_getElem? (i := 394) (by decide +kernel)⟩
theorem lw_p4 : lw_okq (⟨"KeptColours$Finder", "isRestFree", "(I)Z"⟩, 5) := ⟨⟨by decide +kernel, by decide +kernel⟩, List.mem_of_getElem? (i := 72) (by decide +kernel), List.mem_of_getElem? (i := 397) (by decide +kernel), List.mem_of_getElem? (i := 398) (by decide +kernel)⟩
theorem lw_p5 : lw_okq (⟨"KeptColours$Finder", "takeLeast", "(II)Z"⟩, 5) := ⟨⟨by decide +kernel, by decide +kernel⟩, List.mem_of_getElem? (i := 72) (by decide +kernel), List.mem_of_getElem? (i := 401) (by decide +kernel), List.mem_of_getElem? (i := 402) (by decide +kernel)⟩
theorem lw_p6 : lw_okq (⟨"KeptColours$Finder", "candidatesAfter", "(III)I"⟩, 5) := ⟨⟨by decide +kernel, by decide +kernel⟩, List.mem_of_getElem? (i := 72) (by decide +kernel), List.mem_of_getElem? (i := 405) (by decide +kernel), List.mem_of_getElem? (i := 406) (by decide +kernel)⟩
theorem lw_p7 : lw_okq (⟨"KeptColours$Finder", "countFrom", "(III)I"⟩, 5) := ⟨⟨by decide +kernel, by decide +kernel⟩, List.mem_of_getElem? (i := 72) (by decide +kernel), List.mem_of_getElem? (i := 420) (by decide +kernel), List.mem_of_getElem? (i := 421) (by decide +kernel)⟩
theorem lw_p8 : lw_okq (⟨"KeptColours", "isListLarge", "(I)Z"⟩, 8) := ⟨⟨by decide +kernel, by decide +kernel⟩, List.mem_of_getElem? (i := 16) (by decide +kernel), List.mem_of_getElem? (i := 487) (by decide +kernel), List.mem_of_getElem? (i := 488) (by decide +kernel)⟩
theorem lw_p9 : lw_okq (⟨"KeptColours$Filling", "beginOnBoard", "()V"⟩, 8) := ⟨⟨by decide +kernel, by decide +kernel⟩, List.mem_of_getElem? (i := 109) (by decide +kernel), List.mem_of_getElem? (i := 499) (by decide +kernel), List.mem_of_getElem? (i := 500) (by decide +kernel)⟩
theorem lw_p10 : lw_okq (⟨"KeptColours$Outward", "lookAt", "(LKeptColours$Net;I)V"⟩, 2) := ⟨⟨by decide +kernel, by decide +kernel⟩, List.mem_of_getElem? (i := 96) (by decide +kernel), List.mem_of_getElem? (i := 532) (by decide +kernel), List.mem_of_getElem? (i := 533) (by decide +kernel)⟩
theorem lw_p11 : lw_okq (⟨"KeptColours$Outward", "countFrom", "(LKeptColours$Net;I)I"⟩, 2) := ⟨⟨by decide +kernel, by decide +kernel⟩, List.mem_of_getElem? (i := 96) (by decide +kernel), List.mem_of_getElem? (i := 537) (by decide +kernel), List.mem_of_getElem? (i := 538) (by decide +kernel)⟩
theorem lw_p12 : lw_okq (⟨"KeptColours$Outward", "countAllJoined", "(II)I"⟩, 2) := ⟨⟨by decide +kernel, by decide +kernel⟩, List.mem_of_getElem? (i := 96) (by decide +kernel), List.mem_of_getElem? (i := 543) (by decide +kernel), List.mem_of_getElem? (i := 544) (by decide +kernel)⟩
theorem lw_p13 : lw_okq (⟨"KeptColours$Outward", "countBetween", "(IIII)I"⟩, 2) := ⟨⟨by decide +kernel, by decide +kernel⟩, List.mem_of_getElem? (i := 96) (by decide +kernel), List.mem_of_getElem? (i := 549) (by decide +kernel), List.mem_of_getElem? (i := 550) (by decide +kernel)⟩
theorem lw_p14 : lw_okq (⟨"KeptColours$Outward", "countStars", "(II)I"⟩, 2) := ⟨⟨by decide +kernel, by decide +kernel⟩, List.mem_of_getElem? (i := 96) (by decide +kernel), List.mem_of_getElem? (i := 553) (by decide +kernel), List.mem_of_getElem? (i := 554) (by decide +kernel)⟩
theorem lw_p15 : lw_okq (⟨"KeptColours$Outward", "countBooks", "(III)I"⟩, 2) := ⟨⟨by decide +kernel, by decide +kernel⟩, List.mem_of_getElem? (i := 96) (by decide +kernel), List.mem_of_getElem? (i := 558) (by decide +kernel), List.mem_of_getElem? (i := 559) (by decide +kernel)⟩
def lw_privs_1 : List (MethodName × Nat) := [(⟨"KeptColours", "remember", "()V"⟩, 8), (⟨"KeptColours$Net", "flip", "(II)V"⟩, 6), (⟨"KeptColours$Finder", "lookAt", "(LKeptColours$Net;I)V"⟩, 5), (⟨"KeptColours$Finder", "findFrom", "(III)Z"⟩, 5), (⟨"KeptColours$Finder", "isRestFree", "(I)Z"⟩, 5), (⟨"KeptColours$Finder", "takeLeast", "(II)Z"⟩, 5), (⟨"KeptColours$Finder", "candidatesAfter", "(III)I"⟩, 5), (⟨"KeptColours$Finder", "countFrom", "(III)I"⟩, 5), (⟨"KeptColours", "isListLarge", "(I)Z"⟩, 8), (⟨"KeptColours$Filling", "beginOnBoard", "()V"⟩, 8), (⟨"KeptColours$Outward", "lookAt", "(LKeptColours$Net;I)V"⟩, 2), (⟨"KeptColours$Outward", "countFrom", "(LKeptColours$Net;I)I"⟩, 2), (⟨"KeptColours$Outward", "countAllJoined", "(II)I"⟩, 2), (⟨"KeptColours$Outward", "countBetween", "(IIII)I"⟩, 2), (⟨"KeptColours$Outward", "countStars", "(II)I"⟩, 2), (⟨"KeptColours$Outward", "countBooks", "(III)I"⟩, 2)]
theorem lw_r1 : ∀ q ∈ lw_privs_1, lw_okq q := List.forall_mem_cons.mpr ⟨lw_p0, List.forall_mem_cons.mpr ⟨lw_p1, List.forall_mem_cons.mpr ⟨lw_p2, List.forall_mem_cons.mpr ⟨lw_p3, List.forall_mem_cons.mpr ⟨lw_p4, List.forall_mem_cons.mpr ⟨lw_p5, List.forall_mem_cons.mpr ⟨lw_p6, List.forall_mem_cons.mpr ⟨lw_p7, List.forall_mem_cons.mpr ⟨lw_p8, List.forall_mem_cons.mpr ⟨lw_p9, List.forall_mem_cons.mpr ⟨lw_p10, List.forall_mem_cons.mpr ⟨lw_p11, List.forall_mem_cons.mpr ⟨lw_p12, List.forall_mem_cons.mpr ⟨lw_p13, List.forall_mem_cons.mpr ⟨lw_p14, List.forall_mem_cons.mpr ⟨lw_p15, fun _ h => absurd h List.not_mem_nil⟩⟩⟩⟩⟩⟩⟩⟩⟩⟩⟩⟩⟩⟩⟩⟩
theorem lw_p16 : lw_okq (⟨"KeptColours$Outward", "countPaths", "(III)I"⟩, 2) := ⟨⟨by decide +kernel, by decide +kernel⟩, List.mem_of_getElem? (i := 96) (by decide +kernel), List.mem_of_getElem? (i := 562) (by decide +kernel), List.mem_of_getElem? (i := 563) (by decide +kernel)⟩
theorem lw_p17 : lw_okq (⟨"KeptColours$Outward", "countArms", "(IIIII)I"⟩, 2) := ⟨⟨by decide +kernel, by decide +kernel⟩, List.mem_of_getElem? (i := 96) (by decide +kernel), List.mem_of_getElem? (i := 566) (by decide +kernel), List.mem_of_getElem? (i := 567) (by decide +kernel)⟩
theorem lw_p18 : lw_okq (⟨"KeptColours$Forms", "begin", "(LKeptColours$Net;Z)V"⟩, 8) := ⟨⟨by decide +kernel, by decide +kernel⟩, List.mem_of_getElem? (i := 146) (by decide +kernel), List.mem_of_getElem? (i := 581) (by decide +kernel), List.mem_of_getElem? (i := 582) (by decide +kernel)⟩
theorem lw_p19 : lw_okq (⟨"KeptColours$Forms", "giveNumber", "(II)V"⟩, 8) := ⟨⟨by decide +kernel, by decide +kernel⟩, List.mem_of_getElem? (i := 146) (by decide +kernel), List.mem_of_getElem? (i := 587) (by decide +kernel), List.mem_of_getElem? (i := 588) (by decide +kernel)⟩
theorem lw_p20 : lw_okq (⟨"KeptColours$Forms", "compareJoinsTo", "(I)I"⟩, 8) := ⟨⟨by decide +kernel, by decide +kernel⟩, List.mem_of_getElem? (i := 146) (by decide +kernel), List.mem_of_getElem? (i := 591) (by decide +kernel), List.mem_of_getElem? (i := 592) (by decide +kernel)⟩
theorem lw_p21 : lw_okq (⟨"KeptColours$Forms", "toneOf", "(II)I"⟩, 8) := ⟨⟨by decide +kernel, by decide +kernel⟩, List.mem_of_getElem? (i := 146) (by decide +kernel), List.mem_of_getElem? (i := 595) (by decide +kernel), List.mem_of_getElem? (i := 596) (by decide +kernel)⟩
theorem lw_p22 : lw_okq (⟨"KeptColours$Forms", "settleJoinsTo", "(I)V"⟩, 8) := ⟨⟨by decide +kernel, by decide +kernel⟩, List.mem_of_getElem? (i := 146) (by decide +kernel), List.mem_of_getElem? (i := 603) (by decide +kernel), List.mem_of_getElem? (i := 604) (by decide +kernel)⟩
theorem lw_p23 : lw_okq (⟨"KeptColours", "whyNoPut", "()I"⟩, 8) := ⟨⟨by decide +kernel, by decide +kernel⟩, List.mem_of_getElem? (i := 16) (by decide +kernel), List.mem_of_getElem? (i := 631) (by decide +kernel), List.mem_of_getElem? (i := 632) (by decide +kernel)⟩
theorem lw_p24 : lw_okq (⟨"KeptColours$Proof", "isAsTold", "(ILKeptColours$Filling;)Z"⟩, 6) := ⟨⟨by decide +kernel, by decide +kernel⟩, List.mem_of_getElem? (i := 179) (by decide +kernel), List.mem_of_getElem? (i := 711) (by decide +kernel), List.mem_of_getElem? (i := 712) (by decide +kernel)⟩
theorem lw_p25 : lw_okq (⟨"KeptColours$Walker", "seekBest", "(LKeptColours$Net;)V"⟩, 4) := ⟨⟨by decide +kernel, by decide +kernel⟩, List.mem_of_getElem? (i := 208) (by decide +kernel), List.mem_of_getElem? (i := 728) (by decide +kernel), List.mem_of_getElem? (i := 729) (by decide +kernel)⟩
theorem lw_p26 : lw_okq (⟨"KeptColoursModel", "bareAll", "()V"⟩, 48) := ⟨⟨by decide +kernel, by decide +kernel⟩, List.mem_of_getElem? (i := 747) (by decide +kernel), List.mem_of_getElem? (i := 754) (by decide +kernel), List.mem_of_getElem? (i := 755) (by decide +kernel)⟩
theorem lw_p27 : lw_okq (⟨"KeptColoursModel", "keep", "()V"⟩, 48) := ⟨⟨by decide +kernel, by decide +kernel⟩, List.mem_of_getElem? (i := 747) (by decide +kernel), List.mem_of_getElem? (i := 917) (by decide +kernel), List.mem_of_getElem? (i := 918) (by decide +kernel)⟩
theorem lw_p28 : lw_okq (⟨"KeptColoursModel", "isColour", "(I)Z"⟩, 48) := ⟨⟨by decide +kernel, by decide +kernel⟩, List.mem_of_getElem? (i := 747) (by decide +kernel), List.mem_of_getElem? (i := 928) (by decide +kernel), List.mem_of_getElem? (i := 929) (by decide +kernel)⟩
theorem lw_p29 : lw_okq (⟨"KeptColoursModel", "areTwo", "(II)Z"⟩, 48) := ⟨⟨by decide +kernel, by decide +kernel⟩, List.mem_of_getElem? (i := 747) (by decide +kernel), List.mem_of_getElem? (i := 939) (by decide +kernel), List.mem_of_getElem? (i := 940) (by decide +kernel)⟩
theorem lw_p30 : lw_okq (⟨"KeptColoursModel", "isPoint", "(I)Z"⟩, 48) := ⟨⟨by decide +kernel, by decide +kernel⟩, List.mem_of_getElem? (i := 747) (by decide +kernel), List.mem_of_getElem? (i := 943) (by decide +kernel), List.mem_of_getElem? (i := 944) (by decide +kernel)⟩
theorem lw_p31 : lw_okq (⟨"KeptColoursModel", "isClear", "()Z"⟩, 48) := ⟨⟨by decide +kernel, by decide +kernel⟩, List.mem_of_getElem? (i := 747) (by decide +kernel), List.mem_of_getElem? (i := 966) (by decide +kernel), List.mem_of_getElem? (i := 967) (by decide +kernel)⟩
def lw_privs_2 : List (MethodName × Nat) := [(⟨"KeptColours$Outward", "countPaths", "(III)I"⟩, 2), (⟨"KeptColours$Outward", "countArms", "(IIIII)I"⟩, 2), (⟨"KeptColours$Forms", "begin", "(LKeptColours$Net;Z)V"⟩, 8), (⟨"KeptColours$Forms", "giveNumber", "(II)V"⟩, 8), (⟨"KeptColours$Forms", "compareJoinsTo", "(I)I"⟩, 8), (⟨"KeptColours$Forms", "toneOf", "(II)I"⟩, 8), (⟨"KeptColours$Forms", "settleJoinsTo", "(I)V"⟩, 8), (⟨"KeptColours", "whyNoPut", "()I"⟩, 8), (⟨"KeptColours$Proof", "isAsTold", "(ILKeptColours$Filling;)Z"⟩, 6), (⟨"KeptColours$Walker", "seekBest", "(LKeptColours$Net;)V"⟩, 4), (⟨"KeptColoursModel", "bareAll", "()V"⟩, 48), (⟨"KeptColoursModel", "keep", "()V"⟩, 48), (⟨"KeptColoursModel", "isColour", "(I)Z"⟩, 48), (⟨"KeptColoursModel", "areTwo", "(II)Z"⟩, 48), (⟨"KeptColoursModel", "isPoint", "(I)Z"⟩, 48), (⟨"KeptColoursModel", "isClear", "()Z"⟩, 48)]
theorem lw_r2 : ∀ q ∈ lw_privs_2, lw_okq q := List.forall_mem_cons.mpr ⟨lw_p16, List.forall_mem_cons.mpr ⟨lw_p17, List.forall_mem_cons.mpr ⟨lw_p18, List.forall_mem_cons.mpr ⟨lw_p19, List.forall_mem_cons.mpr ⟨lw_p20, List.forall_mem_cons.mpr ⟨lw_p21, List.forall_mem_cons.mpr ⟨lw_p22, List.forall_mem_cons.mpr ⟨lw_p23, List.forall_mem_cons.mpr ⟨lw_p24, List.forall_mem_cons.mpr ⟨lw_p25, List.forall_mem_cons.mpr ⟨lw_p26, List.forall_mem_cons.mpr ⟨lw_p27, List.forall_mem_cons.mpr ⟨lw_p28, List.forall_mem_cons.mpr ⟨lw_p29, List.forall_mem_cons.mpr ⟨lw_p30, List.forall_mem_cons.mpr ⟨lw_p31, fun _ h => absurd h List.not_mem_nil⟩⟩⟩⟩⟩⟩⟩⟩⟩⟩⟩⟩⟩⟩⟩⟩
theorem lw_p32 : lw_okq (⟨"KeptColoursModel", "hasCopy", "(I)Z"⟩, 48) := ⟨⟨by decide +kernel, by decide +kernel⟩, List.mem_of_getElem? (i := 747) (by decide +kernel), List.mem_of_getElem? (i := 970) (by decide +kernel), List.mem_of_getElem? (i := 971) (by decide +kernel)⟩
theorem lw_p33 : lw_okq (⟨"KeptColoursModel", "look", "(III)V"⟩, 48) := ⟨⟨by decide +kernel, by decide +kernel⟩, List.mem_of_getElem? (i := 747) (by decide +kernel), List.mem_of_getElem? (i := 974) (by decide +kernel), List.mem_of_getElem? (i := 975) (by decide +kernel)⟩
theorem lw_p34 : lw_okq (⟨"KeptColoursModel", "go", "(III)V"⟩, 48) := ⟨⟨by decide +kernel, by decide +kernel⟩, List.mem_of_getElem? (i := 747) (by decide +kernel), List.mem_of_getElem? (i := 978) (by decide +kernel), List.mem_of_getElem? (i := 979) (by decide +kernel)⟩
theorem lw_p35 : lw_okq (⟨"KeptColoursModel", "lengthOf", "(I)I"⟩, 48) := ⟨⟨by decide +kernel, by decide +kernel⟩, List.mem_of_getElem? (i := 747) (by decide +kernel), List.mem_of_getElem? (i := 982) (by decide +kernel), List.mem_of_getElem? (i := 983) (by decide +kernel)⟩
theorem lw_p36 : lw_okq (⟨"KeptColoursModel", "take", "(I)V"⟩, 48) := ⟨⟨by decide +kernel, by decide +kernel⟩, List.mem_of_getElem? (i := 747) (by decide +kernel), List.mem_of_getElem? (i := 986) (by decide +kernel), List.mem_of_getElem? (i := 987) (by decide +kernel)⟩
theorem lw_p37 : lw_okq (⟨"KeptColoursModel", "bitsOf", "(I)I"⟩, 48) := ⟨⟨by decide +kernel, by decide +kernel⟩, List.mem_of_getElem? (i := 747) (by decide +kernel), List.mem_of_getElem? (i := 990) (by decide +kernel), List.mem_of_getElem? (i := 991) (by decide +kernel)⟩
theorem lw_p38 : lw_okq (⟨"KeptColoursModel", "addPoint", "(III)Z"⟩, 48) := ⟨⟨by decide +kernel, by decide +kernel⟩, List.mem_of_getElem? (i := 747) (by decide +kernel), List.mem_of_getElem? (i := 994) (by decide +kernel), List.mem_of_getElem? (i := 995) (by decide +kernel)⟩
theorem lw_p39 : lw_okq (⟨"KeptColoursModel", "addEdge", "(III)Z"⟩, 48) := ⟨⟨by decide +kernel, by decide +kernel⟩, List.mem_of_getElem? (i := 747) (by decide +kernel), List.mem_of_getElem? (i := 998) (by decide +kernel), List.mem_of_getElem? (i := 999) (by decide +kernel)⟩
theorem lw_p40 : lw_okq (⟨"KeptColoursModel", "copiesOf", "(I)I"⟩, 48) := ⟨⟨by decide +kernel, by decide +kernel⟩, List.mem_of_getElem? (i := 747) (by decide +kernel), List.mem_of_getElem? (i := 1006) (by decide +kernel), List.mem_of_getElem? (i := 1007) (by decide +kernel)⟩
theorem lw_p41 : lw_okq (⟨"KeptColoursModel", "layTurned", "(I)V"⟩, 48) := ⟨⟨by decide +kernel, by decide +kernel⟩, List.mem_of_getElem? (i := 747) (by decide +kernel), List.mem_of_getElem? (i := 1034) (by decide +kernel), List.mem_of_getElem? (i := 1035) (by decide +kernel)⟩
theorem lw_p42 : lw_okq (⟨"KeptColoursModel", "clashes", "()I"⟩, 48) := ⟨⟨by decide +kernel, by decide +kernel⟩, List.mem_of_getElem? (i := 747) (by decide +kernel), List.mem_of_getElem? (i := 1038) (by decide +kernel), List.mem_of_getElem? (i := 1039) (by decide +kernel)⟩
theorem lw_p43 : lw_okq (⟨"KeptColoursModel", "layAside", "()V"⟩, 48) := ⟨⟨by decide +kernel, by decide +kernel⟩, List.mem_of_getElem? (i := 747) (by decide +kernel), List.mem_of_getElem? (i := 1046) (by decide +kernel), List.mem_of_getElem? (i := 1047) (by decide +kernel)⟩
theorem lw_p44 : lw_okq (⟨"KeptColoursModel", "bring", "()V"⟩, 48) := ⟨⟨by decide +kernel, by decide +kernel⟩, List.mem_of_getElem? (i := 747) (by decide +kernel), List.mem_of_getElem? (i := 1050) (by decide +kernel), List.mem_of_getElem? (i := 1051) (by decide +kernel)⟩
theorem lw_p45 : lw_okq (⟨"KeptColoursModel", "isLong", "(I)Z"⟩, 48) := ⟨⟨by decide +kernel, by decide +kernel⟩, List.mem_of_getElem? (i := 747) (by decide +kernel), List.mem_of_getElem? (i := 1058) (by decide +kernel), List.mem_of_getElem? (i := 1059) (by decide +kernel)⟩
theorem lw_p46 : lw_okq (⟨"KeptColoursModel", "goThrough", "(IIZ)V"⟩, 48) := ⟨⟨by decide +kernel, by decide +kernel⟩, List.mem_of_getElem? (i := 747) (by decide +kernel), List.mem_of_getElem? (i := 1063) (by decide +kernel), List.mem_of_getElem? (i := 1064) (by decide +kernel)⟩
theorem lw_p47 : lw_okq (⟨"KeptColoursModel", "list", "(I)V"⟩, 48) := ⟨⟨by decide +kernel, by decide +kernel⟩, List.mem_of_getElem? (i := 747) (by decide +kernel), List.mem_of_getElem? (i := 1067) (by decide +kernel), List.mem_of_getElem? (i := 1068) (by decide +kernel)⟩
def lw_privs_3 : List (MethodName × Nat) := [(⟨"KeptColoursModel", "hasCopy", "(I)Z"⟩, 48), (⟨"KeptColoursModel", "look", "(III)V"⟩, 48), (⟨"KeptColoursModel", "go", "(III)V"⟩, 48), (⟨"KeptColoursModel", "lengthOf", "(I)I"⟩, 48), (⟨"KeptColoursModel", "take", "(I)V"⟩, 48), (⟨"KeptColoursModel", "bitsOf", "(I)I"⟩, 48), (⟨"KeptColoursModel", "addPoint", "(III)Z"⟩, 48), (⟨"KeptColoursModel", "addEdge", "(III)Z"⟩, 48), (⟨"KeptColoursModel", "copiesOf", "(I)I"⟩, 48), (⟨"KeptColoursModel", "layTurned", "(I)V"⟩, 48), (⟨"KeptColoursModel", "clashes", "()I"⟩, 48), (⟨"KeptColoursModel", "layAside", "()V"⟩, 48), (⟨"KeptColoursModel", "bring", "()V"⟩, 48), (⟨"KeptColoursModel", "isLong", "(I)Z"⟩, 48), (⟨"KeptColoursModel", "goThrough", "(IIZ)V"⟩, 48), (⟨"KeptColoursModel", "list", "(I)V"⟩, 48)]
theorem lw_r3 : ∀ q ∈ lw_privs_3, lw_okq q := List.forall_mem_cons.mpr ⟨lw_p32, List.forall_mem_cons.mpr ⟨lw_p33, List.forall_mem_cons.mpr ⟨lw_p34, List.forall_mem_cons.mpr ⟨lw_p35, List.forall_mem_cons.mpr ⟨lw_p36, List.forall_mem_cons.mpr ⟨lw_p37, List.forall_mem_cons.mpr ⟨lw_p38, List.forall_mem_cons.mpr ⟨lw_p39, List.forall_mem_cons.mpr ⟨lw_p40, List.forall_mem_cons.mpr ⟨lw_p41, List.forall_mem_cons.mpr ⟨lw_p42, List.forall_mem_cons.mpr ⟨lw_p43, List.forall_mem_cons.mpr ⟨lw_p44, List.forall_mem_cons.mpr ⟨lw_p45, List.forall_mem_cons.mpr ⟨lw_p46, List.forall_mem_cons.mpr ⟨lw_p47, fun _ h => absurd h List.not_mem_nil⟩⟩⟩⟩⟩⟩⟩⟩⟩⟩⟩⟩⟩⟩⟩⟩
theorem lw_p48 : lw_okq (⟨"KeptColoursModel", "mark", "()V"⟩, 48) := ⟨⟨by decide +kernel, by decide +kernel⟩, List.mem_of_getElem? (i := 747) (by decide +kernel), List.mem_of_getElem? (i := 1071) (by decide +kernel), List.mem_of_getElem? (i := 1072) (by decide +kernel)⟩
theorem lw_p49 : lw_okq (⟨"KeptColoursModel", "codeBy", "()I"⟩, 48) := ⟨⟨by decide +kernel, by decide +kernel⟩, List.mem_of_getElem? (i := 747) (by decide +kernel), List.mem_of_getElem? (i := 1075) (by decide +kernel), List.mem_of_getElem? (i := 1076) (by decide +kernel)⟩
theorem lw_p50 : lw_okq (⟨"KeptColoursModel", "markAll", "(II)V"⟩, 48) := ⟨⟨by decide +kernel, by decide +kernel⟩, List.mem_of_getElem? (i := 747) (by decide +kernel), List.mem_of_getElem? (i := 1079) (by decide +kernel), List.mem_of_getElem? (i := 1080) (by decide +kernel)⟩
theorem lw_p51 : lw_okq (⟨"KeptColoursModel", "findForm", "()V"⟩, 48) := ⟨⟨by decide +kernel, by decide +kernel⟩, List.mem_of_getElem? (i := 747) (by decide +kernel), List.mem_of_getElem? (i := 1091) (by decide +kernel), List.mem_of_getElem? (i := 1092) (by decide +kernel)⟩
theorem lw_p52 : lw_okq (⟨"KeptColoursModel", "goForms", "(II)V"⟩, 48) := ⟨⟨by decide +kernel, by decide +kernel⟩, List.mem_of_getElem? (i := 747) (by decide +kernel), List.mem_of_getElem? (i := 1095) (by decide +kernel), List.mem_of_getElem? (i := 1096) (by decide +kernel)⟩
theorem lw_p53 : lw_okq (⟨"KeptColoursModel", "against", "()I"⟩, 48) := ⟨⟨by decide +kernel, by decide +kernel⟩, List.mem_of_getElem? (i := 747) (by decide +kernel), List.mem_of_getElem? (i := 1099) (by decide +kernel), List.mem_of_getElem? (i := 1100) (by decide +kernel)⟩
theorem lw_p54 : lw_okq (⟨"KeptColoursModel", "findPuts", "(I)I"⟩, 48) := ⟨⟨by decide +kernel, by decide +kernel⟩, List.mem_of_getElem? (i := 747) (by decide +kernel), List.mem_of_getElem? (i := 1111) (by decide +kernel), List.mem_of_getElem? (i := 1112) (by decide +kernel)⟩
theorem lw_p55 : lw_okq (⟨"KeptColoursModel", "bare", "()I"⟩, 48) := ⟨⟨by decide +kernel, by decide +kernel⟩, List.mem_of_getElem? (i := 747) (by decide +kernel), List.mem_of_getElem? (i := 1116) (by decide +kernel), List.mem_of_getElem? (i := 1117) (by decide +kernel)⟩
theorem lw_p56 : lw_okq (⟨"KeptColoursModel", "goPut", "(I)V"⟩, 48) := ⟨⟨by decide +kernel, by decide +kernel⟩, List.mem_of_getElem? (i := 747) (by decide +kernel), List.mem_of_getElem? (i := 1120) (by decide +kernel), List.mem_of_getElem? (i := 1121) (by decide +kernel)⟩
theorem lw_p57 : lw_okq (⟨"KeptColoursModel", "fills", "(IZ)Z"⟩, 48) := ⟨⟨by decide +kernel, by decide +kernel⟩, List.mem_of_getElem? (i := 747) (by decide +kernel), List.mem_of_getElem? (i := 1136) (by decide +kernel), List.mem_of_getElem? (i := 1137) (by decide +kernel)⟩
theorem lw_p58 : lw_okq (⟨"KeptColoursModel", "fillFrom", "()Z"⟩, 48) := ⟨⟨by decide +kernel, by decide +kernel⟩, List.mem_of_getElem? (i := 747) (by decide +kernel), List.mem_of_getElem? (i := 1140) (by decide +kernel), List.mem_of_getElem? (i := 1141) (by decide +kernel)⟩
theorem lw_p59 : lw_okq (⟨"KeptColoursModel", "nextBare", "()I"⟩, 48) := ⟨⟨by decide +kernel, by decide +kernel⟩, List.mem_of_getElem? (i := 747) (by decide +kernel), List.mem_of_getElem? (i := 1144) (by decide +kernel), List.mem_of_getElem? (i := 1145) (by decide +kernel)⟩
theorem lw_p60 : lw_okq (⟨"KeptColoursModel", "firstBits", "()I"⟩, 48) := ⟨⟨by decide +kernel, by decide +kernel⟩, List.mem_of_getElem? (i := 747) (by decide +kernel), List.mem_of_getElem? (i := 1148) (by decide +kernel), List.mem_of_getElem? (i := 1149) (by decide +kernel)⟩
theorem lw_p61 : lw_okq (⟨"KeptColoursModel", "follows", "()Z"⟩, 48) := ⟨⟨by decide +kernel, by decide +kernel⟩, List.mem_of_getElem? (i := 747) (by decide +kernel), List.mem_of_getElem? (i := 1173) (by decide +kernel), List.mem_of_getElem? (i := 1174) (by decide +kernel)⟩
theorem lw_p62 : lw_okq (⟨"KeptColoursModel", "walks", "()Z"⟩, 48) := ⟨⟨by decide +kernel, by decide +kernel⟩, List.mem_of_getElem? (i := 747) (by decide +kernel), List.mem_of_getElem? (i := 1181) (by decide +kernel), List.mem_of_getElem? (i := 1182) (by decide +kernel)⟩
theorem lw_p63 : lw_okq (⟨"KeptColoursModel", "clearGained", "()V"⟩, 48) := ⟨⟨by decide +kernel, by decide +kernel⟩, List.mem_of_getElem? (i := 747) (by decide +kernel), List.mem_of_getElem? (i := 1185) (by decide +kernel), List.mem_of_getElem? (i := 1186) (by decide +kernel)⟩
def lw_privs_4 : List (MethodName × Nat) := [(⟨"KeptColoursModel", "mark", "()V"⟩, 48), (⟨"KeptColoursModel", "codeBy", "()I"⟩, 48), (⟨"KeptColoursModel", "markAll", "(II)V"⟩, 48), (⟨"KeptColoursModel", "findForm", "()V"⟩, 48), (⟨"KeptColoursModel", "goForms", "(II)V"⟩, 48), (⟨"KeptColoursModel", "against", "()I"⟩, 48), (⟨"KeptColoursModel", "findPuts", "(I)I"⟩, 48), (⟨"KeptColoursModel", "bare", "()I"⟩, 48), (⟨"KeptColoursModel", "goPut", "(I)V"⟩, 48), (⟨"KeptColoursModel", "fills", "(IZ)Z"⟩, 48), (⟨"KeptColoursModel", "fillFrom", "()Z"⟩, 48), (⟨"KeptColoursModel", "nextBare", "()I"⟩, 48), (⟨"KeptColoursModel", "firstBits", "()I"⟩, 48), (⟨"KeptColoursModel", "follows", "()Z"⟩, 48), (⟨"KeptColoursModel", "walks", "()Z"⟩, 48), (⟨"KeptColoursModel", "clearGained", "()V"⟩, 48)]
theorem lw_r4 : ∀ q ∈ lw_privs_4, lw_okq q := List.forall_mem_cons.mpr ⟨lw_p48, List.forall_mem_cons.mpr ⟨lw_p49, List.forall_mem_cons.mpr ⟨lw_p50, List.forall_mem_cons.mpr ⟨lw_p51, List.forall_mem_cons.mpr ⟨lw_p52, List.forall_mem_cons.mpr ⟨lw_p53, List.forall_mem_cons.mpr ⟨lw_p54, List.forall_mem_cons.mpr ⟨lw_p55, List.forall_mem_cons.mpr ⟨lw_p56, List.forall_mem_cons.mpr ⟨lw_p57, List.forall_mem_cons.mpr ⟨lw_p58, List.forall_mem_cons.mpr ⟨lw_p59, List.forall_mem_cons.mpr ⟨lw_p60, List.forall_mem_cons.mpr ⟨lw_p61, List.forall_mem_cons.mpr ⟨lw_p62, List.forall_mem_cons.mpr ⟨lw_p63, fun _ h => absurd h List.not_mem_nil⟩⟩⟩⟩⟩⟩⟩⟩⟩⟩⟩⟩⟩⟩⟩⟩
def lw_privs : List (MethodName × Nat) := lw_privs_1 ++ (lw_privs_2 ++ (lw_privs_3 ++ (lw_privs_4)))
def lw_tbl : List Cond := k2_sels lw_privs ++ tables_1
theorem lw_privs_ok : ∀ q ∈ lw_privs, lw_okq q := by
  show ∀ q ∈ lw_privs_1 ++ (lw_privs_2 ++ (lw_privs_3 ++ (lw_privs_4))), lw_okq q
  exact List.forall_mem_append.mpr ⟨lw_r1, List.forall_mem_append.mpr ⟨lw_r2, List.forall_mem_append.mpr ⟨lw_r3, lw_r4⟩⟩⟩
end
section
def RX0 : String := "KeptColours$Filling"
def TX0 : u_T := fun k => match k with
  | 0 => ("KeptColours$Filling", "board", "LKeptColours$Net;", true)
  | 1 => ("KeptColours$Filling", "done", "I", false)
  | 2 => ("KeptColours$Filling", "finder", "LKeptColours$Finder;", true)
  | 3 => ("KeptColours$Filling", "outward", "LKeptColours$Outward;", true)
  | 4 => ("KeptColours$Filling", "open", "[I", true)
  | 5 => ("KeptColours$Filling", "openCount", "I", false)
  | 6 => ("KeptColours$Filling", "depth", "I", false)
  | _ => ("KeptColours$Filling", "over", "Z", false)
def tyX0 : Nat → FieldType := fun k => match k with
  | 0 => .object "KeptColours$Net"
  | 1 => .int
  | 2 => .object "KeptColours$Finder"
  | 3 => .object "KeptColours$Outward"
  | 4 => .array .int
  | 5 => .int
  | 6 => .int
  | _ => .boolean
abbrev wsX00 : List Cond := u_ws RX0 TX0 8
theorem nmX0 : ∀ a, a < 8 → ∀ b, b < 8 → a ≠ b → (TX0 a).2.1 ≠ (TX0 b).2.1 := by decide +kernel
theorem tyX0_ok : ∀ k, k < 8 → parseFieldDescriptor (TX0 k).2.2.1 = some (tyX0 k) := by decide +kernel
def RX1 : String := "KeptColours$Finder"
def TX1 : u_T := fun k => match k with
  | 0 => ("KeptColours$Finder", "row", "[I", true)
  | 1 => ("KeptColours$Finder", "length", "I", false)
  | 2 => ("KeptColours$Finder", "kind", "I", false)
  | 3 => ("KeptColours$Finder", "points", "I", false)
  | _ => ("KeptColours$Finder", "near", "[I", true)
def tyX1 : Nat → FieldType := fun k => match k with
  | 0 => .array .int
  | 1 => .int
  | 2 => .int
  | 3 => .int
  | _ => .array .int
abbrev wsX10 : List Cond := u_ws RX1 TX1 5
theorem nmX1 : ∀ a, a < 5 → ∀ b, b < 5 → a ≠ b → (TX1 a).2.1 ≠ (TX1 b).2.1 := by decide +kernel
theorem tyX1_ok : ∀ k, k < 5 → parseFieldDescriptor (TX1 k).2.2.1 = some (tyX1 k) := by decide +kernel
def RX2 : String := "KeptColours$Forms"
def TX2 : u_T := fun k => match k with
  | 0 => ("KeptColours$Forms", "best", "[I", true)
  | 1 => ("KeptColours$Forms", "ways", "I", false)
  | 2 => ("KeptColours$Forms", "points", "I", false)
  | 3 => ("KeptColours$Forms", "tones", "[I", true)
  | 4 => ("KeptColours$Forms", "pointOf", "[I", true)
  | 5 => ("KeptColours$Forms", "settled", "I", false)
  | 6 => ("KeptColours$Forms", "stopsAtLess", "Z", false)
  | _ => ("KeptColours$Forms", "isLess", "Z", false)
def tyX2 : Nat → FieldType := fun k => match k with
  | 0 => .array .int
  | 1 => .int
  | 2 => .int
  | 3 => .array .int
  | 4 => .array .int
  | 5 => .int
  | 6 => .boolean
  | _ => .boolean
abbrev wsX20 : List Cond := u_ws RX2 TX2 8
theorem nmX2 : ∀ a, a < 8 → ∀ b, b < 8 → a ≠ b → (TX2 a).2.1 ≠ (TX2 b).2.1 := by decide +kernel
theorem tyX2_ok : ∀ k, k < 8 → parseFieldDescriptor (TX2 k).2.2.1 = some (tyX2 k) := by decide +kernel
def RX3 : String := "KeptColours$History"
def TX3 : u_T := fun k => match k with
  | 0 => ("KeptColours$History", "size", "I", false)
  | 1 => ("KeptColours$History", "kept", "[LKeptColours$Net;", true)
  | _ => ("KeptColours$History", "next", "I", false)
def tyX3 : Nat → FieldType := fun k => match k with
  | 0 => .int
  | 1 => .array (.object "KeptColours$Net")
  | _ => .int
abbrev wsX30 : List Cond := u_ws RX3 TX3 3
theorem nmX3 : ∀ a, a < 3 → ∀ b, b < 3 → a ≠ b → (TX3 a).2.1 ≠ (TX3 b).2.1 := by decide +kernel
theorem tyX3_ok : ∀ k, k < 3 → parseFieldDescriptor (TX3 k).2.2.1 = some (tyX3 k) := by decide +kernel
def RX4 : String := "KeptColours$Net"
def TX4 : u_T := fun k => match k with
  | 0 => ("KeptColours$Net", "points", "I", false)
  | 1 => ("KeptColours$Net", "colours", "I", false)
  | 2 => ("KeptColours$Net", "kinds", "[I", true)
  | 3 => ("KeptColours$Net", "sizes", "[I", true)
  | 4 => ("KeptColours$Net", "tones", "[I", true)
  | _ => ("KeptColours$Net", "nears", "[I", true)
def tyX4 : Nat → FieldType := fun k => match k with
  | 0 => .int
  | 1 => .int
  | 2 => .array .int
  | 3 => .array .int
  | 4 => .array .int
  | _ => .array .int
abbrev wsX40 : List Cond := u_ws RX4 TX4 6
theorem nmX4 : ∀ a, a < 6 → ∀ b, b < 6 → a ≠ b → (TX4 a).2.1 ≠ (TX4 b).2.1 := by decide +kernel
theorem tyX4_ok : ∀ k, k < 6 → parseFieldDescriptor (TX4 k).2.2.1 = some (tyX4 k) := by decide +kernel
def RX5 : String := "KeptColours$Outward"
def TX5 : u_T := fun k => match k with
  | 0 => ("KeptColours$Outward", "points", "I", false)
  | _ => ("KeptColours$Outward", "near", "[I", true)
def tyX5 : Nat → FieldType := fun k => match k with
  | 0 => .int
  | _ => .array .int
abbrev wsX50 : List Cond := u_ws RX5 TX5 2
theorem nmX5 : ∀ a, a < 2 → ∀ b, b < 2 → a ≠ b → (TX5 a).2.1 ≠ (TX5 b).2.1 := by decide +kernel
theorem tyX5_ok : ∀ k, k < 2 → parseFieldDescriptor (TX5 k).2.2.1 = some (tyX5 k) := by decide +kernel
def RX6 : String := "KeptColours$Proof"
def TX6 : u_T := fun k => match k with
  | 0 => ("KeptColours$Proof", "joins", "[I", true)
  | 1 => ("KeptColours$Proof", "tones", "[I", true)
  | 2 => ("KeptColours$Proof", "bits", "[I", true)
  | 3 => ("KeptColours$Proof", "size", "I", false)
  | 4 => ("KeptColours$Proof", "finder", "LKeptColours$Finder;", true)
  | _ => ("KeptColours$Proof", "outward", "LKeptColours$Outward;", true)
def tyX6 : Nat → FieldType := fun k => match k with
  | 0 => .array .int
  | 1 => .array .int
  | 2 => .array .int
  | 3 => .int
  | 4 => .object "KeptColours$Finder"
  | _ => .object "KeptColours$Outward"
abbrev wsX60 : List Cond := u_ws RX6 TX6 6
theorem nmX6 : ∀ a, a < 6 → ∀ b, b < 6 → a ≠ b → (TX6 a).2.1 ≠ (TX6 b).2.1 := by decide +kernel
theorem tyX6_ok : ∀ k, k < 6 → parseFieldDescriptor (TX6 k).2.2.1 = some (tyX6 k) := by decide +kernel
def RX7 : String := "KeptColours$Walker"
def TX7 : u_T := fun k => match k with
  | 0 => ("KeptColours$Walker", "outward", "LKeptColours$Outward;", true)
  | 1 => ("KeptColours$Walker", "bestJoin", "I", false)
  | 2 => ("KeptColours$Walker", "bestTone", "I", false)
  | _ => ("KeptColours$Walker", "bestGain", "I", false)
def tyX7 : Nat → FieldType := fun k => match k with
  | 0 => .object "KeptColours$Outward"
  | 1 => .int
  | 2 => .int
  | _ => .int
abbrev wsX70 : List Cond := u_ws RX7 TX7 4
theorem nmX7 : ∀ a, a < 4 → ∀ b, b < 4 → a ≠ b → (TX7 a).2.1 ≠ (TX7 b).2.1 := by decide +kernel
theorem tyX7_ok : ∀ k, k < 4 → parseFieldDescriptor (TX7 k).2.2.1 = some (tyX7 k) := by decide +kernel
def RX8 : String := "KeptColours"
def TX8 : u_T := fun k => match k with
  | 0 => ("KeptColours", "now", "LKeptColours$Net;", true)
  | 1 => ("KeptColours", "finder", "LKeptColours$Finder;", true)
  | 2 => ("KeptColours", "filling", "LKeptColours$Filling;", true)
  | 3 => ("KeptColours", "forms", "LKeptColours$Forms;", true)
  | 4 => ("KeptColours", "proof", "LKeptColours$Proof;", true)
  | 5 => ("KeptColours", "walker", "LKeptColours$Walker;", true)
  | 6 => ("KeptColours", "history", "LKeptColours$History;", true)
  | _ => ("KeptColours", "latestTries", "I", false)
def tyX8 : Nat → FieldType := fun k => match k with
  | 0 => .object "KeptColours$Net"
  | 1 => .object "KeptColours$Finder"
  | 2 => .object "KeptColours$Filling"
  | 3 => .object "KeptColours$Forms"
  | 4 => .object "KeptColours$Proof"
  | 5 => .object "KeptColours$Walker"
  | 6 => .object "KeptColours$History"
  | _ => .int
abbrev wsX80 : List Cond := u_ws RX8 TX8 8
theorem nmX8 : ∀ a, a < 8 → ∀ b, b < 8 → a ≠ b → (TX8 a).2.1 ≠ (TX8 b).2.1 := by decide +kernel
theorem tyX8_ok : ∀ k, k < 8 → parseFieldDescriptor (TX8 k).2.2.1 = some (tyX8 k) := by decide +kernel
def RX9 : String := "KeptColoursModel"
def TX9 : u_T := fun k => match k with
  | 0 => ("KeptColoursModel", "n", "I", false)
  | 1 => ("KeptColoursModel", "colours", "I", false)
  | 2 => ("KeptColoursModel", "kinds", "[I", true)
  | 3 => ("KeptColoursModel", "sizes", "[I", true)
  | 4 => ("KeptColoursModel", "col", "[I", true)
  | 5 => ("KeptColoursModel", "before", "[I", true)
  | 6 => ("KeptColoursModel", "kept", "I", false)
  | 7 => ("KeptColoursModel", "row", "[I", true)
  | 8 => ("KeptColoursModel", "edges", "[I", true)
  | 9 => ("KeptColoursModel", "edgeMany", "I", false)
  | 10 => ("KeptColoursModel", "missing", "I", false)
  | 11 => ("KeptColoursModel", "missed", "I", false)
  | 12 => ("KeptColoursModel", "mayMiss", "I", false)
  | 13 => ("KeptColoursModel", "task", "I", false)
  | 14 => ("KeptColoursModel", "total", "I", false)
  | 15 => ("KeptColoursModel", "isFound", "Z", false)
  | 16 => ("KeptColoursModel", "first", "[I", true)
  | 17 => ("KeptColoursModel", "firstSize", "I", false)
  | 18 => ("KeptColoursModel", "through", "[I", true)
  | 19 => ("KeptColoursModel", "gained", "[I", true)
  | 20 => ("KeptColoursModel", "wantBits", "I", false)
  | 21 => ("KeptColoursModel", "wantJoin", "I", false)
  | 22 => ("KeptColoursModel", "aside", "[I", true)
  | 23 => ("KeptColoursModel", "listMany", "I", false)
  | 24 => ("KeptColoursModel", "listWanted", "I", false)
  | 25 => ("KeptColoursModel", "isListed", "Z", false)
  | 26 => ("KeptColoursModel", "wanted", "[I", true)
  | 27 => ("KeptColoursModel", "marks", "Z", false)
  | 28 => ("KeptColoursModel", "seen", "[Z", true)
  | 29 => ("KeptColoursModel", "forms", "I", false)
  | 30 => ("KeptColoursModel", "numbering", "[I", true)
  | 31 => ("KeptColoursModel", "form", "[I", true)
  | 32 => ("KeptColoursModel", "anyForm", "Z", false)
  | 33 => ("KeptColoursModel", "formMany", "I", false)
  | 34 => ("KeptColoursModel", "putMany", "I", false)
  | 35 => ("KeptColoursModel", "putWanted", "I", false)
  | 36 => ("KeptColoursModel", "isPut", "Z", false)
  | 37 => ("KeptColoursModel", "putRow", "[I", true)
  | 38 => ("KeptColoursModel", "tries", "I", false)
  | 39 => ("KeptColoursModel", "fillTries", "I", false)
  | 40 => ("KeptColoursModel", "fillMost", "I", false)
  | 41 => ("KeptColoursModel", "isSpent", "Z", false)
  | 42 => ("KeptColoursModel", "proof", "[I", true)
  | 43 => ("KeptColoursModel", "rows", "I", false)
  | 44 => ("KeptColoursModel", "proves", "Z", false)
  | 45 => ("KeptColoursModel", "tryRows", "I", false)
  | 46 => ("KeptColoursModel", "used", "I", false)
  | _ => ("KeptColoursModel", "gains", "[I", true)
def tyX9 : Nat → FieldType := fun k => match k with
  | 0 => .int
  | 1 => .int
  | 2 => .array .int
  | 3 => .array .int
  | 4 => .array .int
  | 5 => .array .int
  | 6 => .int
  | 7 => .array .int
  | 8 => .array .int
  | 9 => .int
  | 10 => .int
  | 11 => .int
  | 12 => .int
  | 13 => .int
  | 14 => .int
  | 15 => .boolean
  | 16 => .array .int
  | 17 => .int
  | 18 => .array .int
  | 19 => .array .int
  | 20 => .int
  | 21 => .int
  | 22 => .array .int
  | 23 => .int
  | 24 => .int
  | 25 => .boolean
  | 26 => .array .int
  | 27 => .boolean
  | 28 => .array .boolean
  | 29 => .int
  | 30 => .array .int
  | 31 => .array .int
  | 32 => .boolean
  | 33 => .int
  | 34 => .int
  | 35 => .int
  | 36 => .boolean
  | 37 => .array .int
  | 38 => .int
  | 39 => .int
  | 40 => .int
  | 41 => .boolean
  | 42 => .array .int
  | 43 => .int
  | 44 => .boolean
  | 45 => .int
  | 46 => .int
  | _ => .array .int
abbrev wsX90 : List Cond := u_ws RX9 TX9 48
theorem nmX9 : ∀ a, a < 48 → ∀ b, b < 48 → a ≠ b → (TX9 a).2.1 ≠ (TX9 b).2.1 := by decide +kernel
theorem tyX9_ok : ∀ k, k < 48 → parseFieldDescriptor (TX9 k).2.2.1 = some (tyX9 k) := by decide +kernel
abbrev vwCl : List vw_C := [(RX0, TX0, 8), (RX1, TX1, 5), (RX2, TX2, 8), (RX3, TX3, 3), (RX4, TX4, 6), (RX5, TX5, 2), (RX6, TX6, 6), (RX7, TX7, 4), (RX8, TX8, 8), (RX9, TX9, 48)]
end
section
-- tables of links, by places in lw_tbl
def mRn (n : Nat) : String := (["KeptColours$Filling", "KeptColours$Finder", "KeptColours$Forms", "KeptColours$History", "KeptColours$Net", "KeptColours$Outward", "KeptColours$Proof", "KeptColours$Walker", "KeptColours", "KeptColoursModel", "KeptColoursLaw", "java/lang/Integer", "java/lang/Math", "java/util/Arrays", "java/lang/System"] : List String).getD n ""
abbrev mMi : Type := Nat × MethodName × ByteArray × Nat × Option FieldType × Nat × Nat × Nat × Nat × Nat × Nat
def mFl : List (Nat × Nat × Nat × Nat × Nat) := [
  (0, 12, 0, 0, 180),
  (0, 18, 0, 4, 188),
  (0, 22, 0, 2, 186),
  (0, 26, 0, 3, 187),
  (0, 37, 4, 1, 104),
  (0, 45, 4, 0, 98),
  (0, 48, 0, 5, 189),
  (0, 55, 4, 4, 119),
  (0, 58, 0, 6, 190),
  (0, 61, 0, 1, 184),
  (0, 70, 0, 7, 191),
  (1, 9, 1, 0, 141),
  (1, 15, 1, 4, 147),
  (1, 18, 4, 1, 103),
  (1, 36, 1, 2, 145),
  (1, 51, 1, 1, 143),
  (1, 54, 4, 2, 110),
  (1, 61, 4, 0, 100),
  (1, 64, 1, 3, 146),
  (2, 9, 2, 0, 215),
  (2, 15, 2, 3, 220),
  (2, 18, 2, 4, 221),
  (2, 33, 0, 0, 181),
  (2, 37, 2, 7, 224),
  (2, 41, 2, 6, 223),
  (2, 44, 2, 1, 217),
  (2, 48, 4, 0, 99),
  (2, 53, 2, 2, 219),
  (2, 54, 2, 5, 222),
  (2, 57, 4, 4, 118),
  (3, 11, 3, 1, 301),
  (3, 18, 3, 2, 302),
  (3, 26, 3, 0, 299),
  (4, 9, 4, 0, 96),
  (4, 15, 4, 1, 102),
  (4, 18, 4, 2, 107),
  (4, 22, 4, 3, 111),
  (4, 25, 4, 4, 114),
  (4, 28, 4, 5, 120),
  (5, 9, 5, 1, 166),
  (5, 15, 4, 4, 115),
  (5, 43, 4, 0, 97),
  (5, 47, 5, 0, 165),
  (5, 52, 4, 3, 113),
  (5, 55, 4, 2, 109),
  (6, 9, 6, 0, 248),
  (6, 15, 6, 1, 250),
  (6, 18, 6, 2, 252),
  (6, 21, 6, 4, 256),
  (6, 25, 6, 5, 257),
  (6, 29, 6, 3, 254),
  (6, 40, 0, 0, 182),
  (7, 7, 7, 0, 277),
  (7, 17, 7, 3, 280),
  (7, 21, 7, 1, 278),
  (7, 24, 7, 2, 279),
  (7, 37, 4, 4, 116),
  (7, 47, 4, 1, 105),
  (8, 10, 8, 0, 310),
  (8, 19, 8, 1, 311),
  (8, 31, 8, 2, 312),
  (8, 38, 8, 3, 313),
  (8, 45, 8, 4, 314),
  (8, 54, 8, 5, 315),
  (8, 61, 8, 6, 316),
  (8, 65, 8, 7, 317),
  (8, 92, 4, 2, 108),
  (8, 95, 4, 3, 112),
  (8, 109, 4, 4, 117),
  (8, 127, 1, 1, 144),
  (8, 131, 1, 0, 142),
  (8, 137, 4, 0, 101),
  (8, 157, 0, 0, 183),
  (8, 185, 2, 0, 216),
  (8, 188, 2, 1, 218),
  (8, 209, 0, 1, 185),
  (8, 219, 6, 3, 255),
  (8, 222, 6, 0, 249),
  (8, 225, 6, 1, 251),
  (8, 226, 6, 2, 253),
  (8, 238, 3, 0, 300),
  (8, 245, 4, 1, 106),
  (9, 7, 9, 0, 821),
  (9, 13, 9, 1, 822),
  (9, 16, 9, 2, 823),
  (9, 20, 9, 3, 824),
  (9, 23, 9, 4, 825),
  (9, 26, 9, 5, 826),
  (9, 29, 9, 7, 828),
  (9, 32, 9, 8, 829),
  (9, 35, 9, 16, 837),
  (9, 38, 9, 18, 839),
  (9, 41, 9, 19, 840),
  (9, 44, 9, 22, 843),
  (9, 47, 9, 26, 847),
  (9, 51, 9, 28, 849),
  (9, 55, 9, 30, 851),
  (9, 58, 9, 31, 852),
  (9, 61, 9, 37, 858),
  (9, 64, 9, 42, 863),
  (9, 67, 9, 47, 868),
  (9, 77, 9, 6, 827),
  (9, 80, 9, 43, 864),
  (9, 110, 9, 9, 830),
  (9, 113, 9, 10, 831),
  (9, 116, 9, 11, 832),
  (9, 119, 9, 12, 833),
  (9, 128, 9, 13, 834),
  (9, 131, 9, 14, 835),
  (9, 134, 9, 15, 836),
  (9, 138, 9, 17, 838),
  (9, 144, 9, 20, 841),
  (9, 147, 9, 21, 842),
  (9, 191, 9, 23, 844),
  (9, 194, 9, 24, 845),
  (9, 197, 9, 25, 846),
  (9, 200, 9, 27, 848),
  (9, 216, 9, 29, 850),
  (9, 227, 9, 32, 853),
  (9, 233, 9, 33, 854),
  (9, 242, 9, 34, 855),
  (9, 245, 9, 35, 856),
  (9, 248, 9, 36, 857),
  (9, 264, 9, 39, 860),
  (9, 267, 9, 40, 861),
  (9, 270, 9, 41, 862),
  (9, 273, 9, 44, 865),
  (9, 276, 9, 45, 866),
  (9, 290, 9, 38, 859),
  (9, 293, 9, 46, 867)]
def mSl : List (Nat × Nat × Nat × Nat × Nat) := [
  (4, 43, 102, 1, 446),
  (4, 57, 103, 1, 410),
  (4, 60, 104, 1, 412),
  (5, 28, 103, 1, 604),
  (5, 31, 104, 1, 605),
  (8, 85, 100, 0, 378),
  (8, 89, 101, 0, 380),
  (8, 140, 104, 0, 511),
  (8, 143, 103, 0, 512)]
def mKl : List (Nat × Nat × Nat × Nat × Nat) := [
  (0, 30, 4, 0, 560),
  (0, 34, 51, 0, 562),
  (0, 41, 7, 0, 561),
  (0, 51, 8, 0, 566),
  (0, 64, 22, 0, 567),
  (0, 74, 55, 0, 582),
  (0, 77, 16, 0, 586),
  (0, 81, 54, 0, 578),
  (0, 85, 56, 0, 587),
  (0, 88, 57, 0, 591),
  (0, 94, 66, 0, 633),
  (0, 98, 53, 0, 574),
  (1, 24, 23, 0, 434),
  (1, 28, 34, 0, 540),
  (1, 32, 24, 0, 438),
  (1, 39, 27, 0, 452),
  (1, 43, 28, 0, 456),
  (1, 47, 35, 0, 483),
  (1, 57, 25, 0, 442),
  (1, 65, 26, 0, 448),
  (1, 69, 29, 0, 460),
  (1, 73, 36, 1, 487),
  (1, 78, 37, 2, 493),
  (1, 82, 31, 0, 468),
  (1, 85, 30, 0, 464),
  (1, 89, 32, 2, 472),
  (2, 21, 68, 0, 644),
  (2, 27, 53, 0, 643),
  (2, 58, 8, 0, 648),
  (2, 68, 69, 0, 650),
  (2, 72, 70, 0, 654),
  (2, 75, 73, 0, 666),
  (2, 79, 71, 0, 658),
  (2, 83, 15, 2, 662),
  (2, 86, 72, 1, 663),
  (3, 22, 4, 0, 348),
  (3, 29, 5, 1, 355),
  (4, 31, 0, 1, 93),
  (4, 46, 13, 0, 390),
  (4, 50, 10, 0, 398),
  (4, 53, 17, 0, 406),
  (4, 63, 8, 0, 533),
  (4, 67, 15, 2, 720),
  (4, 71, 16, 0, 535),
  (4, 74, 44, 2, 525),
  (4, 77, 5, 1, 534),
  (5, 20, 58, 0, 595),
  (5, 24, 59, 0, 600),
  (5, 34, 36, 1, 610),
  (5, 40, 25, 0, 782),
  (5, 48, 26, 0, 599),
  (5, 58, 60, 0, 606),
  (5, 62, 61, 0, 612),
  (5, 66, 62, 0, 616),
  (5, 69, 63, 0, 621),
  (5, 73, 64, 0, 625),
  (5, 76, 32, 2, 611),
  (5, 79, 37, 2, 620),
  (5, 82, 65, 0, 629),
  (6, 33, 54, 0, 747),
  (6, 44, 55, 0, 749),
  (6, 48, 23, 0, 750),
  (6, 54, 56, 0, 751),
  (6, 57, 92, 0, 752),
  (6, 60, 66, 0, 756),
  (6, 64, 97, 0, 774),
  (6, 68, 98, 0, 778),
  (7, 13, 101, 0, 791),
  (7, 27, 16, 0, 797),
  (7, 33, 8, 0, 795),
  (7, 41, 57, 0, 796),
  (8, 70, 2, 0, 340),
  (8, 73, 7, 0, 362),
  (8, 77, 8, 0, 366),
  (8, 81, 10, 0, 374),
  (8, 98, 12, 0, 386),
  (8, 102, 14, 0, 394),
  (8, 105, 15, 1, 399),
  (8, 112, 16, 0, 402),
  (8, 115, 22, 0, 430),
  (8, 119, 34, 0, 479),
  (8, 123, 23, 0, 500),
  (8, 134, 13, 0, 506),
  (8, 146, 43, 0, 521),
  (8, 149, 45, 0, 529),
  (8, 153, 46, 0, 536),
  (8, 160, 4, 0, 545),
  (8, 164, 49, 0, 550),
  (8, 168, 50, 0, 556),
  (8, 172, 52, 0, 568),
  (8, 175, 67, 0, 637),
  (8, 179, 75, 0, 674),
  (8, 182, 77, 0, 682),
  (8, 191, 80, 0, 694),
  (8, 194, 82, 0, 704),
  (8, 198, 85, 0, 716),
  (8, 201, 87, 0, 725),
  (8, 204, 53, 0, 729),
  (8, 212, 90, 0, 739),
  (8, 216, 91, 0, 743),
  (8, 229, 96, 0, 770),
  (8, 232, 81, 0, 699),
  (8, 235, 100, 0, 787),
  (8, 239, 103, 0, 802),
  (8, 242, 6, 0, 358),
  (8, 248, 3, 0, 344),
  (8, 251, 44, 1, 554),
  (9, 70, 105, 0, 817),
  (9, 73, 108, 1, 976),
  (9, 85, 109, 0, 980),
  (9, 88, 110, 1, 984),
  (9, 92, 112, 0, 991),
  (9, 96, 113, 1, 995),
  (9, 100, 116, 0, 1006),
  (9, 103, 115, 0, 1002),
  (9, 106, 117, 1, 1010),
  (9, 122, 130, 0, 1061),
  (9, 125, 126, 0, 1045),
  (9, 141, 128, 0, 1053),
  (9, 150, 127, 0, 1049),
  (9, 154, 129, 0, 1057),
  (9, 157, 125, 0, 1041),
  (9, 161, 124, 0, 1037),
  (9, 164, 123, 0, 1033),
  (9, 167, 132, 0, 1069),
  (9, 170, 122, 0, 1029),
  (9, 175, 138, 1, 1094),
  (9, 178, 139, 0, 1097),
  (9, 181, 140, 0, 1101),
  (9, 185, 142, 0, 1109),
  (9, 188, 143, 0, 1113),
  (9, 203, 148, 0, 1134),
  (9, 206, 147, 0, 1130),
  (9, 209, 149, 0, 1138),
  (9, 212, 150, 0, 1142),
  (9, 219, 145, 0, 1121),
  (9, 223, 146, 0, 1126),
  (9, 230, 155, 0, 1162),
  (9, 236, 154, 0, 1158),
  (9, 239, 153, 0, 1154),
  (9, 251, 160, 0, 1183),
  (9, 255, 159, 0, 1179),
  (9, 258, 158, 0, 1174),
  (9, 261, 166, 0, 1207),
  (9, 279, 167, 0, 1211),
  (9, 282, 165, 0, 1203),
  (9, 285, 164, 0, 1199),
  (9, 296, 173, 0, 1236),
  (9, 299, 176, 0, 1248),
  (9, 302, 175, 0, 1244),
  (10, 13, 1, 0, 335),
  (10, 17, 107, 0, 972),
  (10, 18, 9, 0, 370),
  (10, 22, 111, 0, 987),
  (10, 23, 11, 0, 382),
  (10, 26, 114, 0, 998),
  (10, 27, 18, 0, 414),
  (10, 30, 118, 0, 1013),
  (10, 31, 19, 0, 418),
  (10, 34, 119, 0, 1017),
  (10, 35, 20, 0, 422),
  (10, 38, 120, 0, 1021),
  (10, 39, 21, 0, 426),
  (10, 43, 121, 0, 1025),
  (10, 44, 33, 0, 475),
  (10, 48, 131, 0, 1065),
  (10, 49, 38, 0, 496),
  (10, 52, 133, 0, 1073),
  (10, 53, 39, 0, 502),
  (10, 56, 134, 0, 1078),
  (10, 57, 40, 0, 507),
  (10, 60, 135, 0, 1082),
  (10, 61, 41, 0, 513),
  (10, 64, 136, 0, 1086),
  (10, 65, 42, 0, 517),
  (10, 68, 137, 0, 1090),
  (10, 69, 47, 0, 541),
  (10, 72, 141, 0, 1105),
  (10, 73, 48, 0, 546),
  (10, 76, 144, 0, 1117),
  (10, 77, 74, 0, 670),
  (10, 80, 151, 0, 1146),
  (10, 81, 76, 0, 678),
  (10, 84, 152, 0, 1150),
  (10, 85, 78, 0, 686),
  (10, 88, 156, 0, 1166),
  (10, 89, 79, 0, 690),
  (10, 92, 157, 0, 1170),
  (10, 93, 83, 0, 708),
  (10, 96, 161, 0, 1187),
  (10, 97, 84, 0, 712),
  (10, 100, 162, 0, 1191),
  (10, 101, 86, 0, 721),
  (10, 104, 163, 0, 1195),
  (10, 105, 88, 0, 731),
  (10, 108, 168, 0, 1216),
  (10, 109, 89, 0, 735),
  (10, 112, 169, 0, 1220),
  (10, 113, 93, 0, 758),
  (10, 116, 170, 0, 1224),
  (10, 117, 94, 0, 762),
  (10, 120, 171, 0, 1228),
  (10, 121, 95, 0, 766),
  (10, 124, 172, 0, 1232),
  (10, 125, 99, 0, 783),
  (10, 128, 174, 0, 1240),
  (10, 129, 102, 0, 798),
  (10, 132, 106, 0, 967),
  (10, 133, 104, 0, 806),
  (10, 136, 177, 0, 1252)]
def mAl : List (Nat × Nat × Nat) := [
  (2, 62, 649),
  (4, 37, 352)]
def mCl : List (Nat × Nat × Int × Nat) := [
  (0, 80, 1000000, 573),
  (0, 97, 60000, 572),
  (2, 25, 60000, 641),
  (2, 26, 1000000, 642),
  (6, 39, -1000000003, 748),
  (6, 63, -1000000002, 757),
  (8, 69, -1000000001, 339),
  (8, 130, -1000000005, 501),
  (8, 167, -1000000004, 555),
  (8, 197, -1000000002, 703),
  (8, 208, -1000000006, 730),
  (8, 254, 60000, 528),
  (8, 255, -1000000003, 698),
  (9, 50, 60000, 816),
  (9, 83, -1000000002, 971),
  (9, 84, -1000000001, 979),
  (9, 174, -1000000005, 1077),
  (9, 222, -1000000004, 1125),
  (9, 254, -1000000003, 1178),
  (9, 289, -1000000006, 1215),
  (11, 265, 1431655765, 490),
  (11, 266, 858993459, 491),
  (11, 267, 252645135, 492)]
def mMl_0 : List (mMi) := [
  (13, ⟨"java/util/Arrays", "fill", "([II)V"⟩, prog_15_method_103_code, 4, none, 1, 95, 94, 0, 67, 2),
  (8, ⟨"KeptColours", "net", "(II)I"⟩, prog_1_method_2_code, 3, (some .int), 0, 338, 336, 337, 65, 2),
  (8, ⟨"KeptColours", "remember", "()V"⟩, prog_1_method_32_code, 1, none, 0, 343, 342, 0, 65, 0),
  (3, ⟨"KeptColours$History", "keep", "(LKeptColours$Net;)V"⟩, prog_5_method_2_code, 2, none, 0, 347, 345, 346, 74, 1),
  (4, ⟨"KeptColours$Net", "become", "(LKeptColours$Net;)V"⟩, prog_6_method_2_code, 2, none, 0, 351, 349, 350, 66, 1),
  (12, ⟨"java/lang/Math", "min", "(II)I"⟩, prog_13_method_69_code, 2, (some .int), 1, 357, 356, 0, 77, 2),
  (6, ⟨"KeptColours$Proof", "forget", "()V"⟩, prog_8_method_2_code, 1, none, 0, 361, 359, 360, 72, 0),
  (4, ⟨"KeptColours$Net", "layOut", "(II)V"⟩, prog_6_method_3_code, 4, none, 0, 365, 363, 364, 66, 2),
  (4, ⟨"KeptColours$Net", "joinCount", "()I"⟩, prog_6_method_4_code, 1, (some .int), 0, 369, 367, 368, 66, 0),
  (8, ⟨"KeptColours", "target", "(III)I"⟩, prog_1_method_3_code, 4, (some .int), 0, 373, 371, 372, 65, 3),
  (4, ⟨"KeptColours$Net", "hasColour", "(I)Z"⟩, prog_6_method_9_code, 2, (some .boolean), 0, 377, 375, 376, 66, 1),
  (8, ⟨"KeptColours", "paint", "(III)I"⟩, prog_1_method_4_code, 6, (some .int), 0, 385, 383, 384, 65, 3),
  (4, ⟨"KeptColours$Net", "hasJoin", "(II)Z"⟩, prog_6_method_8_code, 3, (some .boolean), 0, 389, 387, 388, 66, 2),
  (4, ⟨"KeptColours$Net", "hasPoint", "(I)Z"⟩, prog_6_method_7_code, 2, (some .boolean), 0, 393, 391, 392, 66, 1),
  (4, ⟨"KeptColours$Net", "hasColourOrBare", "(I)Z"⟩, prog_6_method_10_code, 2, (some .boolean), 0, 397, 395, 396, 66, 1),
  (8, ⟨"KeptColours", "numberOf", "(II)I"⟩, prog_1_method_35_code, 2, (some .int), 1, 401, 400, 0, 65, 2),
  (4, ⟨"KeptColours$Net", "give", "(II)V"⟩, prog_6_method_12_code, 3, none, 0, 405, 403, 404, 66, 2),
  (4, ⟨"KeptColours$Net", "flip", "(II)V"⟩, prog_6_method_13_code, 3, none, 0, 409, 408, 1, 66, 2),
  (8, ⟨"KeptColours", "colour", "(II)I"⟩, prog_1_method_5_code, 3, (some .int), 0, 417, 415, 416, 65, 2),
  (8, ⟨"KeptColours", "aim", "(II)I"⟩, prog_1_method_6_code, 3, (some .int), 0, 421, 419, 420, 65, 2),
  (8, ⟨"KeptColours", "isOf", "(II)I"⟩, prog_1_method_7_code, 5, (some .int), 0, 425, 423, 424, 65, 2),
  (8, ⟨"KeptColours", "clear", "()I"⟩, prog_1_method_8_code, 1, (some .int), 0, 429, 427, 428, 65, 0),
  (1, ⟨"KeptColours$Finder", "hasAny", "(LKeptColours$Net;)Z"⟩, prog_3_method_2_code, 3, (some .boolean), 0, 433, 431, 432, 68, 1),
  (1, ⟨"KeptColours$Finder", "findFirst", "(LKeptColours$Net;I)Z"⟩, prog_3_method_4_code, 3, (some .boolean), 0, 437, 435, 436, 68, 2),
  (1, ⟨"KeptColours$Finder", "lookAt", "(LKeptColours$Net;I)V"⟩, prog_3_method_7_code, 3, none, 0, 441, 440, 2, 68, 2),
  (4, ⟨"KeptColours$Net", "copyLength", "(I)I"⟩, prog_6_method_6_code, 2, (some .int), 0, 445, 443, 444, 66, 1),
  (4, ⟨"KeptColours$Net", "copyNears", "(I[I)V"⟩, prog_6_method_11_code, 3, none, 0, 451, 449, 450, 66, 2),
  (4, ⟨"KeptColours$Net", "pointBits", "()I"⟩, prog_6_method_5_code, 1, (some .int), 0, 455, 453, 454, 66, 0),
  (1, ⟨"KeptColours$Finder", "findFrom", "(III)Z"⟩, prog_3_method_9_code, 6, (some .boolean), 0, 459, 458, 3, 68, 3),
  (1, ⟨"KeptColours$Finder", "isRestFree", "(I)Z"⟩, prog_3_method_10_code, 2, (some .boolean), 0, 463, 462, 4, 68, 1)]
def mMl_1 : List (mMi) := [
  (1, ⟨"KeptColours$Finder", "takeLeast", "(II)Z"⟩, prog_3_method_11_code, 5, (some .boolean), 0, 467, 466, 5, 68, 2),
  (1, ⟨"KeptColours$Finder", "candidatesAfter", "(III)I"⟩, prog_3_method_12_code, 7, (some .int), 0, 471, 470, 6, 68, 3),
  (8, ⟨"KeptColours", "above", "(I)I"⟩, prog_1_method_36_code, 1, (some .int), 1, 474, 473, 0, 65, 1),
  (8, ⟨"KeptColours", "copies", "(I)I"⟩, prog_1_method_9_code, 2, (some .int), 0, 478, 476, 477, 65, 1),
  (1, ⟨"KeptColours$Finder", "howMany", "(LKeptColours$Net;I)I"⟩, prog_3_method_5_code, 3, (some .int), 0, 482, 480, 481, 68, 2),
  (1, ⟨"KeptColours$Finder", "countFrom", "(III)I"⟩, prog_3_method_8_code, 7, (some .int), 0, 486, 485, 7, 68, 3),
  (11, ⟨"java/lang/Integer", "bitCount", "(I)I"⟩, prog_12_method_49_code, 1, (some .int), 1, 489, 488, 0, 78, 1),
  (8, ⟨"KeptColours", "choose", "(II)I"⟩, prog_1_method_38_code, 4, (some .int), 1, 495, 494, 0, 65, 2),
  (8, ⟨"KeptColours", "copy", "(II)I"⟩, prog_1_method_10_code, 3, (some .int), 0, 499, 497, 498, 65, 2),
  (8, ⟨"KeptColours", "degree", "(II)I"⟩, prog_1_method_11_code, 5, (some .int), 0, 505, 503, 504, 65, 2),
  (8, ⟨"KeptColours", "triangles", "()I"⟩, prog_1_method_12_code, 5, (some .int), 0, 510, 508, 509, 65, 0),
  (8, ⟨"KeptColours", "least", "(I)I"⟩, prog_1_method_13_code, 3, (some .int), 0, 516, 514, 515, 65, 1),
  (8, ⟨"KeptColours", "turned", "(I)I"⟩, prog_1_method_14_code, 2, (some .int), 0, 520, 518, 519, 65, 1),
  (4, ⟨"KeptColours$Net", "turnCount", "()I"⟩, prog_6_method_16_code, 1, (some .int), 0, 524, 522, 523, 66, 0),
  (8, ⟨"KeptColours", "power", "(II)I"⟩, prog_1_method_37_code, 4, (some .int), 1, 527, 526, 0, 65, 2),
  (4, ⟨"KeptColours$Net", "turn", "(I)V"⟩, prog_6_method_17_code, 6, none, 0, 532, 530, 531, 66, 1),
  (1, ⟨"KeptColours$Finder", "clashes", "(LKeptColours$Net;)I"⟩, prog_3_method_3_code, 4, (some .int), 0, 539, 537, 538, 68, 1),
  (8, ⟨"KeptColours", "turns", "(I)I"⟩, prog_1_method_15_code, 7, (some .int), 0, 544, 542, 543, 65, 1),
  (8, ⟨"KeptColours", "list", "(II)I"⟩, prog_1_method_16_code, 3, (some .int), 0, 549, 547, 548, 65, 2),
  (8, ⟨"KeptColours", "isListLarge", "(I)Z"⟩, prog_1_method_33_code, 2, (some .boolean), 0, 553, 552, 8, 65, 1),
  (0, ⟨"KeptColours$Filling", "beginList", "(LKeptColours$Net;I)V"⟩, prog_2_method_3_code, 3, none, 0, 559, 557, 558, 70, 2),
  (0, ⟨"KeptColours$Filling", "beginOnBoard", "()V"⟩, prog_2_method_5_code, 2, none, 0, 565, 564, 9, 70, 0),
  (0, ⟨"KeptColours$Filling", "countAll", "()I"⟩, prog_2_method_12_code, 2, (some .int), 0, 571, 569, 570, 70, 0),
  (0, ⟨"KeptColours$Filling", "goOn", "(I)I"⟩, prog_2_method_11_code, 3, (some .int), 0, 577, 575, 576, 70, 1),
  (0, ⟨"KeptColours$Filling", "nextTry", "()Z"⟩, prog_2_method_9_code, 3, (some .boolean), 0, 581, 579, 580, 70, 0),
  (0, ⟨"KeptColours$Filling", "tone", "()I"⟩, prog_2_method_8_code, 1, (some .int), 0, 585, 583, 584, 70, 0),
  (0, ⟨"KeptColours$Filling", "join", "()I"⟩, prog_2_method_7_code, 1, (some .int), 0, 590, 588, 589, 70, 0),
  (5, ⟨"KeptColours$Outward", "howMany", "(LKeptColours$Net;I)I"⟩, prog_7_method_2_code, 3, (some .int), 0, 594, 592, 593, 69, 2),
  (5, ⟨"KeptColours$Outward", "lookAt", "(LKeptColours$Net;I)V"⟩, prog_7_method_4_code, 3, none, 0, 598, 597, 10, 69, 2),
  (5, ⟨"KeptColours$Outward", "countFrom", "(LKeptColours$Net;I)I"⟩, prog_7_method_5_code, 6, (some .int), 0, 603, 602, 11, 69, 2)]
def mMl_2 : List (mMi) := [
  (5, ⟨"KeptColours$Outward", "countAllJoined", "(II)I"⟩, prog_7_method_6_code, 5, (some .int), 0, 609, 608, 12, 69, 2),
  (5, ⟨"KeptColours$Outward", "countBetween", "(IIII)I"⟩, prog_7_method_7_code, 8, (some .int), 0, 615, 614, 13, 69, 4),
  (5, ⟨"KeptColours$Outward", "countStars", "(II)I"⟩, prog_7_method_8_code, 3, (some .int), 0, 619, 618, 14, 69, 2),
  (5, ⟨"KeptColours$Outward", "countBooks", "(III)I"⟩, prog_7_method_9_code, 7, (some .int), 0, 624, 623, 15, 69, 3),
  (5, ⟨"KeptColours$Outward", "countPaths", "(III)I"⟩, prog_7_method_10_code, 6, (some .int), 0, 628, 627, 16, 69, 3),
  (5, ⟨"KeptColours$Outward", "countArms", "(IIIII)I"⟩, prog_7_method_11_code, 9, (some .int), 0, 632, 631, 17, 69, 5),
  (0, ⟨"KeptColours$Filling", "goDeeper", "()Z"⟩, prog_2_method_10_code, 1, (some .boolean), 0, 636, 634, 635, 70, 0),
  (2, ⟨"KeptColours$Forms", "countFirst", "(LKeptColours$Filling;)I"⟩, prog_4_method_3_code, 4, (some .int), 0, 640, 638, 639, 71, 1),
  (2, ⟨"KeptColours$Forms", "begin", "(LKeptColours$Net;Z)V"⟩, prog_4_method_4_code, 3, none, 0, 647, 646, 18, 71, 2),
  (2, ⟨"KeptColours$Forms", "giveNumber", "(II)V"⟩, prog_4_method_5_code, 5, none, 0, 653, 652, 19, 71, 2),
  (2, ⟨"KeptColours$Forms", "compareJoinsTo", "(I)I"⟩, prog_4_method_6_code, 4, (some .int), 0, 657, 656, 20, 71, 1),
  (2, ⟨"KeptColours$Forms", "toneOf", "(II)I"⟩, prog_4_method_8_code, 3, (some .int), 0, 661, 660, 21, 71, 2),
  (11, ⟨"java/lang/Integer", "compare", "(II)I"⟩, prog_12_method_40_code, 2, (some .int), 1, 665, 664, 0, 78, 2),
  (2, ⟨"KeptColours$Forms", "settleJoinsTo", "(I)V"⟩, prog_4_method_7_code, 3, none, 0, 669, 668, 22, 71, 1),
  (8, ⟨"KeptColours", "listed", "(II)I"⟩, prog_1_method_17_code, 3, (some .int), 0, 673, 671, 672, 65, 2),
  (0, ⟨"KeptColours$Filling", "reach", "(I)Z"⟩, prog_2_method_13_code, 3, (some .boolean), 0, 677, 675, 676, 70, 1),
  (8, ⟨"KeptColours", "form", "(I)I"⟩, prog_1_method_18_code, 2, (some .int), 0, 681, 679, 680, 65, 1),
  (2, ⟨"KeptColours$Forms", "seek", "(LKeptColours$Net;)V"⟩, prog_4_method_2_code, 2, none, 0, 685, 683, 684, 71, 1),
  (8, ⟨"KeptColours", "same", "()I"⟩, prog_1_method_19_code, 1, (some .int), 0, 689, 687, 688, 65, 0),
  (8, ⟨"KeptColours", "puts", "()I"⟩, prog_1_method_20_code, 2, (some .int), 0, 693, 691, 692, 65, 0),
  (8, ⟨"KeptColours", "whyNoPut", "()I"⟩, prog_1_method_34_code, 1, (some .int), 0, 697, 696, 23, 65, 0),
  (4, ⟨"KeptColours$Net", "bareCount", "()I"⟩, prog_6_method_14_code, 3, (some .int), 0, 702, 700, 701, 66, 0),
  (0, ⟨"KeptColours$Filling", "beginPut", "(LKeptColours$Net;)V"⟩, prog_2_method_4_code, 2, none, 0, 707, 705, 706, 70, 1),
  (8, ⟨"KeptColours", "put", "(I)I"⟩, prog_1_method_21_code, 3, (some .int), 0, 711, 709, 710, 65, 1),
  (8, ⟨"KeptColours", "drop", "()I"⟩, prog_1_method_22_code, 1, (some .int), 0, 715, 713, 714, 65, 0),
  (4, ⟨"KeptColours$Net", "loseLastPoint", "()V"⟩, prog_6_method_15_code, 2, none, 0, 719, 717, 718, 66, 0),
  (8, ⟨"KeptColours", "fill", "(I)I"⟩, prog_1_method_23_code, 3, (some .int), 0, 724, 722, 723, 65, 1),
  (0, ⟨"KeptColours$Filling", "begin", "(LKeptColours$Net;)V"⟩, prog_2_method_2_code, 2, none, 0, 728, 726, 727, 70, 1),
  (8, ⟨"KeptColours", "tries", "()I"⟩, prog_1_method_24_code, 1, (some .int), 0, 734, 732, 733, 65, 0),
  (8, ⟨"KeptColours", "prove", "()I"⟩, prog_1_method_25_code, 1, (some .int), 0, 738, 736, 737, 65, 0)]
def mMl_3 : List (mMi) := [
  (0, ⟨"KeptColours$Filling", "isOver", "()Z"⟩, prog_2_method_6_code, 1, (some .boolean), 0, 742, 740, 741, 70, 0),
  (6, ⟨"KeptColours$Proof", "make", "(LKeptColours$Filling;)I"⟩, prog_8_method_3_code, 4, (some .int), 0, 746, 744, 745, 72, 1),
  (1, ⟨"KeptColours$Finder", "rowBits", "()I"⟩, prog_3_method_6_code, 3, (some .int), 0, 755, 753, 754, 68, 0),
  (8, ⟨"KeptColours", "row", "(II)I"⟩, prog_1_method_26_code, 3, (some .int), 0, 761, 759, 760, 65, 2),
  (8, ⟨"KeptColours", "forge", "(II)I"⟩, prog_1_method_27_code, 4, (some .int), 0, 765, 763, 764, 65, 2),
  (8, ⟨"KeptColours", "check", "()I"⟩, prog_1_method_28_code, 1, (some .int), 0, 769, 767, 768, 65, 0),
  (6, ⟨"KeptColours$Proof", "firstFault", "(LKeptColours$Filling;)I"⟩, prog_8_method_4_code, 3, (some .int), 0, 773, 771, 772, 72, 1),
  (6, ⟨"KeptColours$Proof", "isAsTold", "(ILKeptColours$Filling;)Z"⟩, prog_8_method_5_code, 3, (some .boolean), 0, 777, 776, 24, 72, 2),
  (5, ⟨"KeptColours$Outward", "isCopyOfJust", "(LKeptColours$Net;II)Z"⟩, prog_7_method_3_code, 7, (some .boolean), 0, 781, 779, 780, 69, 3),
  (8, ⟨"KeptColours", "step", "(I)I"⟩, prog_1_method_29_code, 2, (some .int), 0, 786, 784, 785, 65, 1),
  (7, ⟨"KeptColours$Walker", "walk", "(LKeptColours$Net;I)I"⟩, prog_9_method_2_code, 4, (some .int), 0, 790, 788, 789, 73, 2),
  (7, ⟨"KeptColours$Walker", "seekBest", "(LKeptColours$Net;)V"⟩, prog_9_method_3_code, 7, none, 0, 794, 793, 25, 73, 1),
  (8, ⟨"KeptColours", "undo", "()I"⟩, prog_1_method_30_code, 1, (some .int), 0, 801, 799, 800, 65, 0),
  (3, ⟨"KeptColours$History", "giveBack", "(LKeptColours$Net;)V"⟩, prog_5_method_3_code, 2, none, 0, 805, 803, 804, 74, 1),
  (8, ⟨"KeptColours", "count", "(I)I"⟩, prog_1_method_31_code, 2, (some .int), 0, 809, 807, 808, 65, 1),
  (9, ⟨"KeptColoursModel", "bareAll", "()V"⟩, prog_11_method_2_code, 2, none, 0, 820, 819, 26, 75, 0),
  (9, ⟨"KeptColoursModel", "undo", "()I"⟩, prog_11_method_9_code, 3, (some .int), 0, 970, 968, 969, 75, 0),
  (9, ⟨"KeptColoursModel", "net", "(II)I"⟩, prog_11_method_10_code, 3, (some .int), 0, 975, 973, 974, 75, 2),
  (9, ⟨"KeptColoursModel", "isIn", "(III)Z"⟩, prog_11_method_3_code, 3, (some .boolean), 1, 978, 977, 0, 75, 3),
  (9, ⟨"KeptColoursModel", "keep", "()V"⟩, prog_11_method_8_code, 3, none, 0, 983, 982, 27, 75, 0),
  (9, ⟨"KeptColoursModel", "joinsOf", "(I)I"⟩, prog_11_method_5_code, 1, (some .int), 1, 986, 985, 0, 75, 1),
  (9, ⟨"KeptColoursModel", "target", "(III)I"⟩, prog_11_method_12_code, 4, (some .int), 0, 990, 988, 989, 75, 3),
  (9, ⟨"KeptColoursModel", "isColour", "(I)Z"⟩, prog_11_method_7_code, 2, (some .boolean), 0, 994, 993, 28, 75, 1),
  (9, ⟨"KeptColoursModel", "isSize", "(II)Z"⟩, prog_11_method_11_code, 2, (some .boolean), 1, 997, 996, 0, 75, 2),
  (9, ⟨"KeptColoursModel", "paint", "(III)I"⟩, prog_11_method_14_code, 5, (some .int), 0, 1001, 999, 1000, 75, 3),
  (9, ⟨"KeptColoursModel", "areTwo", "(II)Z"⟩, prog_11_method_13_code, 3, (some .boolean), 0, 1005, 1004, 29, 75, 2),
  (9, ⟨"KeptColoursModel", "isPoint", "(I)Z"⟩, prog_11_method_6_code, 2, (some .boolean), 0, 1009, 1008, 30, 75, 1),
  (9, ⟨"KeptColoursModel", "join", "(II)I"⟩, prog_11_method_4_code, 2, (some .int), 1, 1012, 1011, 0, 75, 2),
  (9, ⟨"KeptColoursModel", "colour", "(II)I"⟩, prog_11_method_15_code, 3, (some .int), 0, 1016, 1014, 1015, 75, 2),
  (9, ⟨"KeptColoursModel", "aim", "(II)I"⟩, prog_11_method_16_code, 3, (some .int), 0, 1020, 1018, 1019, 75, 2)]
def mMl_4 : List (mMi) := [
  (9, ⟨"KeptColoursModel", "isOf", "(II)I"⟩, prog_11_method_17_code, 4, (some .int), 0, 1024, 1022, 1023, 75, 2),
  (9, ⟨"KeptColoursModel", "clear", "()I"⟩, prog_11_method_30_code, 1, (some .int), 0, 1028, 1026, 1027, 75, 0),
  (9, ⟨"KeptColoursModel", "isClear", "()Z"⟩, prog_11_method_27_code, 2, (some .boolean), 0, 1032, 1031, 31, 75, 0),
  (9, ⟨"KeptColoursModel", "hasCopy", "(I)Z"⟩, prog_11_method_26_code, 2, (some .boolean), 0, 1036, 1035, 32, 75, 1),
  (9, ⟨"KeptColoursModel", "look", "(III)V"⟩, prog_11_method_24_code, 4, none, 0, 1040, 1039, 33, 75, 3),
  (9, ⟨"KeptColoursModel", "go", "(III)V"⟩, prog_11_method_23_code, 8, none, 0, 1044, 1043, 34, 75, 3),
  (9, ⟨"KeptColoursModel", "lengthOf", "(I)I"⟩, prog_11_method_18_code, 2, (some .int), 0, 1048, 1047, 35, 75, 1),
  (9, ⟨"KeptColoursModel", "take", "(I)V"⟩, prog_11_method_22_code, 3, none, 0, 1052, 1051, 36, 75, 1),
  (9, ⟨"KeptColoursModel", "bitsOf", "(I)I"⟩, prog_11_method_21_code, 4, (some .int), 0, 1056, 1055, 37, 75, 1),
  (9, ⟨"KeptColoursModel", "addPoint", "(III)Z"⟩, prog_11_method_20_code, 7, (some .boolean), 0, 1060, 1059, 38, 75, 3),
  (9, ⟨"KeptColoursModel", "addEdge", "(III)Z"⟩, prog_11_method_19_code, 5, (some .boolean), 0, 1064, 1063, 39, 75, 3),
  (9, ⟨"KeptColoursModel", "copies", "(I)I"⟩, prog_11_method_31_code, 2, (some .int), 0, 1068, 1066, 1067, 75, 1),
  (9, ⟨"KeptColoursModel", "copiesOf", "(I)I"⟩, prog_11_method_25_code, 2, (some .int), 0, 1072, 1071, 40, 75, 1),
  (9, ⟨"KeptColoursModel", "copy", "(II)I"⟩, prog_11_method_32_code, 3, (some .int), 0, 1076, 1074, 1075, 75, 2),
  (9, ⟨"KeptColoursModel", "degree", "(II)I"⟩, prog_11_method_33_code, 5, (some .int), 0, 1081, 1079, 1080, 75, 2),
  (9, ⟨"KeptColoursModel", "triangles", "()I"⟩, prog_11_method_34_code, 6, (some .int), 0, 1085, 1083, 1084, 75, 0),
  (9, ⟨"KeptColoursModel", "least", "(I)I"⟩, prog_11_method_35_code, 3, (some .int), 0, 1089, 1087, 1088, 75, 1),
  (9, ⟨"KeptColoursModel", "turned", "(I)I"⟩, prog_11_method_38_code, 2, (some .int), 0, 1093, 1091, 1092, 75, 1),
  (9, ⟨"KeptColoursModel", "power", "(II)I"⟩, prog_11_method_36_code, 4, (some .int), 1, 1096, 1095, 0, 75, 2),
  (9, ⟨"KeptColoursModel", "layTurned", "(I)V"⟩, prog_11_method_37_code, 5, none, 0, 1100, 1099, 41, 75, 1),
  (9, ⟨"KeptColoursModel", "clashes", "()I"⟩, prog_11_method_28_code, 3, (some .int), 0, 1104, 1103, 42, 75, 0),
  (9, ⟨"KeptColoursModel", "turns", "(I)I"⟩, prog_11_method_41_code, 6, (some .int), 0, 1108, 1106, 1107, 75, 1),
  (9, ⟨"KeptColoursModel", "layAside", "()V"⟩, prog_11_method_39_code, 2, none, 0, 1112, 1111, 43, 75, 0),
  (9, ⟨"KeptColoursModel", "bring", "()V"⟩, prog_11_method_40_code, 2, none, 0, 1116, 1115, 44, 75, 0),
  (9, ⟨"KeptColoursModel", "list", "(II)I"⟩, prog_11_method_48_code, 3, (some .int), 0, 1120, 1118, 1119, 75, 2),
  (9, ⟨"KeptColoursModel", "isLong", "(I)Z"⟩, prog_11_method_46_code, 2, (some .boolean), 0, 1124, 1123, 45, 75, 1),
  (9, ⟨"KeptColoursModel", "goThrough", "(IIZ)V"⟩, prog_11_method_47_code, 6, none, 0, 1129, 1128, 46, 75, 3),
  (9, ⟨"KeptColoursModel", "list", "(I)V"⟩, prog_11_method_42_code, 3, none, 0, 1133, 1132, 47, 75, 1),
  (9, ⟨"KeptColoursModel", "mark", "()V"⟩, prog_11_method_45_code, 2, none, 0, 1137, 1136, 48, 75, 0),
  (9, ⟨"KeptColoursModel", "codeBy", "()I"⟩, prog_11_method_43_code, 4, (some .int), 0, 1141, 1140, 49, 75, 0)]
def mMl_5 : List (mMi) := [
  (9, ⟨"KeptColoursModel", "markAll", "(II)V"⟩, prog_11_method_44_code, 4, none, 0, 1145, 1144, 50, 75, 2),
  (9, ⟨"KeptColoursModel", "listed", "(II)I"⟩, prog_11_method_49_code, 4, (some .int), 0, 1149, 1147, 1148, 75, 2),
  (9, ⟨"KeptColoursModel", "form", "(I)I"⟩, prog_11_method_53_code, 2, (some .int), 0, 1153, 1151, 1152, 75, 1),
  (9, ⟨"KeptColoursModel", "findForm", "()V"⟩, prog_11_method_52_code, 1, none, 0, 1157, 1156, 51, 75, 0),
  (9, ⟨"KeptColoursModel", "goForms", "(II)V"⟩, prog_11_method_51_code, 6, none, 0, 1161, 1160, 52, 75, 2),
  (9, ⟨"KeptColoursModel", "against", "()I"⟩, prog_11_method_50_code, 4, (some .int), 0, 1165, 1164, 53, 75, 0),
  (9, ⟨"KeptColoursModel", "same", "()I"⟩, prog_11_method_54_code, 1, (some .int), 0, 1169, 1167, 1168, 75, 0),
  (9, ⟨"KeptColoursModel", "puts", "()I"⟩, prog_11_method_57_code, 2, (some .int), 0, 1173, 1171, 1172, 75, 0),
  (9, ⟨"KeptColoursModel", "findPuts", "(I)I"⟩, prog_11_method_56_code, 3, (some .int), 0, 1177, 1176, 54, 75, 1),
  (9, ⟨"KeptColoursModel", "bare", "()I"⟩, prog_11_method_29_code, 3, (some .int), 0, 1182, 1181, 55, 75, 0),
  (9, ⟨"KeptColoursModel", "goPut", "(I)V"⟩, prog_11_method_55_code, 4, none, 0, 1186, 1185, 56, 75, 1),
  (9, ⟨"KeptColoursModel", "put", "(I)I"⟩, prog_11_method_58_code, 4, (some .int), 0, 1190, 1188, 1189, 75, 1),
  (9, ⟨"KeptColoursModel", "drop", "()I"⟩, prog_11_method_59_code, 2, (some .int), 0, 1194, 1192, 1193, 75, 0),
  (9, ⟨"KeptColoursModel", "fill", "(I)I"⟩, prog_11_method_64_code, 5, (some .int), 0, 1198, 1196, 1197, 75, 1),
  (9, ⟨"KeptColoursModel", "fills", "(IZ)Z"⟩, prog_11_method_63_code, 3, (some .boolean), 0, 1202, 1201, 57, 75, 2),
  (9, ⟨"KeptColoursModel", "fillFrom", "()Z"⟩, prog_11_method_62_code, 4, (some .boolean), 0, 1206, 1205, 58, 75, 0),
  (9, ⟨"KeptColoursModel", "nextBare", "()I"⟩, prog_11_method_60_code, 2, (some .int), 0, 1210, 1209, 59, 75, 0),
  (9, ⟨"KeptColoursModel", "firstBits", "()I"⟩, prog_11_method_61_code, 3, (some .int), 0, 1214, 1213, 60, 75, 0),
  (9, ⟨"KeptColoursModel", "tries", "()I"⟩, prog_11_method_65_code, 1, (some .int), 0, 1219, 1217, 1218, 75, 0),
  (9, ⟨"KeptColoursModel", "prove", "()I"⟩, prog_11_method_66_code, 3, (some .int), 0, 1223, 1221, 1222, 75, 0),
  (9, ⟨"KeptColoursModel", "row", "(II)I"⟩, prog_11_method_67_code, 3, (some .int), 0, 1227, 1225, 1226, 75, 2),
  (9, ⟨"KeptColoursModel", "forge", "(II)I"⟩, prog_11_method_68_code, 4, (some .int), 0, 1231, 1229, 1230, 75, 2),
  (9, ⟨"KeptColoursModel", "check", "()I"⟩, prog_11_method_70_code, 2, (some .int), 0, 1235, 1233, 1234, 75, 0),
  (9, ⟨"KeptColoursModel", "follows", "()Z"⟩, prog_11_method_69_code, 4, (some .boolean), 0, 1239, 1238, 61, 75, 0),
  (9, ⟨"KeptColoursModel", "step", "(I)I"⟩, prog_11_method_73_code, 3, (some .int), 0, 1243, 1241, 1242, 75, 1),
  (9, ⟨"KeptColoursModel", "walks", "()Z"⟩, prog_11_method_71_code, 7, (some .boolean), 0, 1247, 1246, 62, 75, 0),
  (9, ⟨"KeptColoursModel", "clearGained", "()V"⟩, prog_11_method_72_code, 2, none, 0, 1251, 1250, 63, 75, 0),
  (9, ⟨"KeptColoursModel", "count", "(I)I"⟩, prog_11_method_74_code, 2, (some .int), 0, 1255, 1253, 1254, 75, 1)]
def mMl : List mMi := mMl_0 ++ (mMl_1 ++ (mMl_2 ++ (mMl_3 ++ (mMl_4 ++ (mMl_5)))))
set_option maxRecDepth 20000 in
theorem mMl_code_0 : ∀ e ∈ mMl_0, lw_tbl[e.2.2.2.2.2.2.1]? = some (.code e.2.1 e.2.2.1 e.2.2.2.1 e.2.2.2.2.1) := List.forall_mem_cons.mpr ⟨rfl, List.forall_mem_cons.mpr ⟨rfl, List.forall_mem_cons.mpr ⟨rfl, List.forall_mem_cons.mpr ⟨rfl, List.forall_mem_cons.mpr ⟨rfl, List.forall_mem_cons.mpr ⟨rfl, List.forall_mem_cons.mpr ⟨rfl, List.forall_mem_cons.mpr ⟨rfl, List.forall_mem_cons.mpr ⟨rfl, List.forall_mem_cons.mpr ⟨rfl, List.forall_mem_cons.mpr ⟨rfl, List.forall_mem_cons.mpr ⟨rfl, List.forall_mem_cons.mpr ⟨rfl, List.forall_mem_cons.mpr ⟨rfl, List.forall_mem_cons.mpr ⟨rfl, List.forall_mem_cons.mpr ⟨rfl, List.forall_mem_cons.mpr ⟨rfl, List.forall_mem_cons.mpr ⟨rfl, List.forall_mem_cons.mpr ⟨rfl, List.forall_mem_cons.mpr ⟨rfl, List.forall_mem_cons.mpr ⟨rfl, List.forall_mem_cons.mpr ⟨rfl, List.forall_mem_cons.mpr ⟨rfl, List.forall_mem_cons.mpr ⟨rfl, List.forall_mem_cons.mpr ⟨rfl, List.forall_mem_cons.mpr ⟨rfl, List.forall_mem_cons.mpr ⟨rfl, List.forall_mem_cons.mpr ⟨rfl, List.forall_mem_cons.mpr ⟨rfl, List.forall_mem_cons.mpr ⟨rfl, fun _ h => absurd h List.not_mem_nil⟩⟩⟩⟩⟩⟩⟩⟩⟩⟩⟩⟩⟩⟩⟩⟩⟩⟩⟩⟩⟩⟩⟩⟩⟩⟩⟩⟩⟩⟩
set_option maxRecDepth 20000 in
theorem mMl_code_1 : ∀ e ∈ mMl_1, lw_tbl[e.2.2.2.2.2.2.1]? = some (.code e.2.1 e.2.2.1 e.2.2.2.1 e.2.2.2.2.1) := List.forall_mem_cons.mpr ⟨rfl, List.forall_mem_cons.mpr ⟨rfl, List.forall_mem_cons.mpr ⟨rfl, List.forall_mem_cons.mpr ⟨rfl, List.forall_mem_cons.mpr ⟨rfl, List.forall_mem_cons.mpr ⟨rfl, List.forall_mem_cons.mpr ⟨rfl, List.forall_mem_cons.mpr ⟨rfl, List.forall_mem_cons.mpr ⟨rfl, List.forall_mem_cons.mpr ⟨rfl, List.forall_mem_cons.mpr ⟨rfl, List.forall_mem_cons.mpr ⟨rfl, List.forall_mem_cons.mpr ⟨rfl, List.forall_mem_cons.mpr ⟨rfl, List.forall_mem_cons.mpr ⟨rfl, List.forall_mem_cons.mpr ⟨rfl, List.forall_mem_cons.mpr ⟨rfl, List.forall_mem_cons.mpr ⟨rfl, List.forall_mem_cons.mpr ⟨rfl, List.forall_mem_cons.mpr ⟨rfl, List.forall_mem_cons.mpr ⟨rfl, List.forall_mem_cons.mpr ⟨rfl, List.forall_mem_cons.mpr ⟨rfl, List.forall_mem_cons.mpr ⟨rfl, List.forall_mem_cons.mpr ⟨rfl, List.forall_mem_cons.mpr ⟨rfl, List.forall_mem_cons.mpr ⟨rfl, List.forall_mem_cons.mpr ⟨rfl, List.forall_mem_cons.mpr ⟨rfl, List.forall_mem_cons.mpr ⟨rfl, fun _ h => absurd h List.not_mem_nil⟩⟩⟩⟩⟩⟩⟩⟩⟩⟩⟩⟩⟩⟩⟩⟩⟩⟩⟩⟩⟩⟩⟩⟩⟩⟩⟩⟩⟩⟩
set_option maxRecDepth 20000 in
theorem mMl_code_2 : ∀ e ∈ mMl_2, lw_tbl[e.2.2.2.2.2.2.1]? = some (.code e.2.1 e.2.2.1 e.2.2.2.1 e.2.2.2.2.1) := List.forall_mem_cons.mpr ⟨rfl, List.forall_mem_cons.mpr ⟨rfl, List.forall_mem_cons.mpr ⟨rfl, List.forall_mem_cons.mpr ⟨rfl, List.forall_mem_cons.mpr ⟨rfl, List.forall_mem_cons.mpr ⟨rfl, List.forall_mem_cons.mpr ⟨rfl, List.forall_mem_cons.mpr ⟨rfl, List.forall_mem_cons.mpr ⟨rfl, List.forall_mem_cons.mpr ⟨rfl, List.forall_mem_cons.mpr ⟨rfl, List.forall_mem_cons.mpr ⟨rfl, List.forall_mem_cons.mpr ⟨rfl, List.forall_mem_cons.mpr ⟨rfl, List.forall_mem_cons.mpr ⟨rfl, List.forall_mem_cons.mpr ⟨rfl, List.forall_mem_cons.mpr ⟨rfl, List.forall_mem_cons.mpr ⟨rfl, List.forall_mem_cons.mpr ⟨rfl, List.forall_mem_cons.mpr ⟨rfl, List.forall_mem_cons.mpr ⟨rfl, List.forall_mem_cons.mpr ⟨rfl, List.forall_mem_cons.mpr ⟨rfl, List.forall_mem_cons.mpr ⟨rfl, List.forall_mem_cons.mpr ⟨rfl, List.forall_mem_cons.mpr ⟨rfl, List.forall_mem_cons.mpr ⟨rfl, List.forall_mem_cons.mpr ⟨rfl, List.forall_mem_cons.mpr ⟨rfl, List.forall_mem_cons.mpr ⟨rfl, fun _ h => absurd h List.not_mem_nil⟩⟩⟩⟩⟩⟩⟩⟩⟩⟩⟩⟩⟩⟩⟩⟩⟩⟩⟩⟩⟩⟩⟩⟩⟩⟩⟩⟩⟩⟩
set_option maxRecDepth 20000 in
theorem mMl_code_3 : ∀ e ∈ mMl_3, lw_tbl[e.2.2.2.2.2.2.1]? = some (.code e.2.1 e.2.2.1 e.2.2.2.1 e.2.2.2.2.1) := List.forall_mem_cons.mpr ⟨rfl, List.forall_mem_cons.mpr ⟨rfl, List.forall_mem_cons.mpr ⟨rfl, List.forall_mem_cons.mpr ⟨rfl, List.forall_mem_cons.mpr ⟨rfl, List.forall_mem_cons.mpr ⟨rfl, List.forall_mem_cons.mpr ⟨rfl, List.forall_mem_cons.mpr ⟨rfl, List.forall_mem_cons.mpr ⟨rfl, List.forall_mem_cons.mpr ⟨rfl, List.forall_mem_cons.mpr ⟨rfl, List.forall_mem_cons.mpr ⟨rfl, List.forall_mem_cons.mpr ⟨rfl, List.forall_mem_cons.mpr ⟨rfl, List.forall_mem_cons.mpr ⟨rfl, List.forall_mem_cons.mpr ⟨rfl, List.forall_mem_cons.mpr ⟨rfl, List.forall_mem_cons.mpr ⟨rfl, List.forall_mem_cons.mpr ⟨rfl, List.forall_mem_cons.mpr ⟨rfl, List.forall_mem_cons.mpr ⟨rfl, List.forall_mem_cons.mpr ⟨rfl, List.forall_mem_cons.mpr ⟨rfl, List.forall_mem_cons.mpr ⟨rfl, List.forall_mem_cons.mpr ⟨rfl, List.forall_mem_cons.mpr ⟨rfl, List.forall_mem_cons.mpr ⟨rfl, List.forall_mem_cons.mpr ⟨rfl, List.forall_mem_cons.mpr ⟨rfl, List.forall_mem_cons.mpr ⟨rfl, fun _ h => absurd h List.not_mem_nil⟩⟩⟩⟩⟩⟩⟩⟩⟩⟩⟩⟩⟩⟩⟩⟩⟩⟩⟩⟩⟩⟩⟩⟩⟩⟩⟩⟩⟩⟩
set_option maxRecDepth 20000 in
theorem mMl_code_4 : ∀ e ∈ mMl_4, lw_tbl[e.2.2.2.2.2.2.1]? = some (.code e.2.1 e.2.2.1 e.2.2.2.1 e.2.2.2.2.1) := List.forall_mem_cons.mpr ⟨rfl, List.forall_mem_cons.mpr ⟨rfl, List.forall_mem_cons.mpr ⟨rfl, List.forall_mem_cons.mpr ⟨rfl, List.forall_mem_cons.mpr ⟨rfl, List.forall_mem_cons.mpr ⟨rfl, List.forall_mem_cons.mpr ⟨rfl, List.forall_mem_cons.mpr ⟨rfl, List.forall_mem_cons.mpr ⟨rfl, List.forall_mem_cons.mpr ⟨rfl, List.forall_mem_cons.mpr ⟨rfl, List.forall_mem_cons.mpr ⟨rfl, List.forall_mem_cons.mpr ⟨rfl, List.forall_mem_cons.mpr ⟨rfl, List.forall_mem_cons.mpr ⟨rfl, List.forall_mem_cons.mpr ⟨rfl, List.forall_mem_cons.mpr ⟨rfl, List.forall_mem_cons.mpr ⟨rfl, List.forall_mem_cons.mpr ⟨rfl, List.forall_mem_cons.mpr ⟨rfl, List.forall_mem_cons.mpr ⟨rfl, List.forall_mem_cons.mpr ⟨rfl, List.forall_mem_cons.mpr ⟨rfl, List.forall_mem_cons.mpr ⟨rfl, List.forall_mem_cons.mpr ⟨rfl, List.forall_mem_cons.mpr ⟨rfl, List.forall_mem_cons.mpr ⟨rfl, List.forall_mem_cons.mpr ⟨rfl, List.forall_mem_cons.mpr ⟨rfl, List.forall_mem_cons.mpr ⟨rfl, fun _ h => absurd h List.not_mem_nil⟩⟩⟩⟩⟩⟩⟩⟩⟩⟩⟩⟩⟩⟩⟩⟩⟩⟩⟩⟩⟩⟩⟩⟩⟩⟩⟩⟩⟩⟩
set_option maxRecDepth 20000 in
theorem mMl_code_5 : ∀ e ∈ mMl_5, lw_tbl[e.2.2.2.2.2.2.1]? = some (.code e.2.1 e.2.2.1 e.2.2.2.1 e.2.2.2.2.1) := List.forall_mem_cons.mpr ⟨rfl, List.forall_mem_cons.mpr ⟨rfl, List.forall_mem_cons.mpr ⟨rfl, List.forall_mem_cons.mpr ⟨rfl, List.forall_mem_cons.mpr ⟨rfl, List.forall_mem_cons.mpr ⟨rfl, List.forall_mem_cons.mpr ⟨rfl, List.forall_mem_cons.mpr ⟨rfl, List.forall_mem_cons.mpr ⟨rfl, List.forall_mem_cons.mpr ⟨rfl, List.forall_mem_cons.mpr ⟨rfl, List.forall_mem_cons.mpr ⟨rfl, List.forall_mem_cons.mpr ⟨rfl, List.forall_mem_cons.mpr ⟨rfl, List.forall_mem_cons.mpr ⟨rfl, List.forall_mem_cons.mpr ⟨rfl, List.forall_mem_cons.mpr ⟨rfl, List.forall_mem_cons.mpr ⟨rfl, List.forall_mem_cons.mpr ⟨rfl, List.forall_mem_cons.mpr ⟨rfl, List.forall_mem_cons.mpr ⟨rfl, List.forall_mem_cons.mpr ⟨rfl, List.forall_mem_cons.mpr ⟨rfl, List.forall_mem_cons.mpr ⟨rfl, List.forall_mem_cons.mpr ⟨rfl, List.forall_mem_cons.mpr ⟨rfl, List.forall_mem_cons.mpr ⟨rfl, List.forall_mem_cons.mpr ⟨rfl, fun _ h => absurd h List.not_mem_nil⟩⟩⟩⟩⟩⟩⟩⟩⟩⟩⟩⟩⟩⟩⟩⟩⟩⟩⟩⟩⟩⟩⟩⟩⟩⟩⟩⟩
theorem mMl_code : ∀ e ∈ mMl, lw_tbl[e.2.2.2.2.2.2.1]? = some (.code e.2.1 e.2.2.1 e.2.2.2.1 e.2.2.2.2.1) := List.forall_mem_append.mpr ⟨mMl_code_0, List.forall_mem_append.mpr ⟨mMl_code_1, List.forall_mem_append.mpr ⟨mMl_code_2, List.forall_mem_append.mpr ⟨mMl_code_3, List.forall_mem_append.mpr ⟨mMl_code_4, mMl_code_5⟩⟩⟩⟩⟩
def mT (ci : Nat) : u_T := ((vwCl[ci]?).map (fun q => q.2.1)).getD TX0
def mN (ci : Nat) : Nat := ((vwCl[ci]?).map (fun q => q.2.2)).getD 0
def mTyp : Nat → Nat → FieldType := fun ci => match ci with
  | 0 => tyX0 | 1 => tyX1 | 2 => tyX2 | 3 => tyX3 | 4 => tyX4 | 5 => tyX5 | 6 => tyX6 | 7 => tyX7 | 8 => tyX8 | _ => tyX9
def mStn (t : Nat) : String := (["LEAST_SIZE", "MOST_SIZE", "POINTS_BEYOND", "LOW", "HIGH"] : List String).getD (t - 100) ""
theorem mFl_ok : ∀ e ∈ mFl, lw_tbl[e.2.2.2.2]? = some (.fieldLink (mRn e.1) e.2.1 (mT e.2.2.1 e.2.2.2.1).1 (mT e.2.2.1 e.2.2.2.1).2.1 (mT e.2.2.1 e.2.2.2.1).2.2.1) ∧ e.2.2.1 < 10 ∧ e.2.2.2.1 < mN e.2.2.1 := by decide +kernel
theorem mSl_ok : ∀ e ∈ mSl, (e.2.2.2.1 = 0 ∧ lw_tbl[e.2.2.2.2]? = some (.fieldLink (mRn e.1) e.2.1 "KeptColours" (mStn e.2.2.1) "[I")) ∨ (e.2.2.2.1 = 1 ∧ lw_tbl[e.2.2.2.2]? = some (.fieldLinkNest (mRn e.1) e.2.1 "KeptColours" (mStn e.2.2.1) "[I" "KeptColours")) := by decide +kernel
theorem mCl_ok : ∀ e ∈ mCl, lw_tbl[e.2.2.2]? = some (.constant (mRn e.1) e.2.1 (Int32.ofInt e.2.2.1)) := by decide +kernel
theorem mAl_ok : ∀ e ∈ mAl, lw_tbl[e.2.2]? = some (.methodLink (mRn e.1) e.2.1 arraycopyName) := by decide +kernel
def mMt (m : Nat) : mMi := mMl.getD m (0, ⟨"", "", ""⟩, ⟨#[]⟩, 0, none, 0, 0, 0, 0, 0, 0)
theorem mKl_ok : ∀ e ∈ mKl, (e.2.2.2.1 = 0 ∧ (mMt e.2.2.1).2.2.2.2.2.1 = 0 ∧ lw_tbl[e.2.2.2.2]? = some (.methodLink (mRn e.1) e.2.1 (mMt e.2.2.1).2.1)) ∨ (e.2.2.2.1 = 1 ∧ (mMt e.2.2.1).2.2.2.2.2.1 = 1 ∧ lw_tbl[e.2.2.2.2]? = some (.methodLink (mRn e.1) e.2.1 (mMt e.2.2.1).2.1)) ∨ (e.2.2.2.1 = 2 ∧ (mMt e.2.2.1).2.2.2.2.2.1 = 1 ∧ lw_tbl[e.2.2.2.2]? = some (.methodLinkNest (mRn e.1) e.2.1 (mMt e.2.2.1).2.1 "KeptColours")) := by decide +kernel
theorem mMl_init : ∀ e ∈ mMl, lw_tbl[e.2.2.2.2.2.2.2.2.2.1]? = some (.initialized e.2.1.cls) ∧ e.2.1.cls = mRn e.1 ∧ e.1 < 15 := by decide +kernel
theorem mMl_kind : ∀ e ∈ mMl, (e.2.2.2.2.2.1 = 0 ∧ lw_tbl[e.2.2.2.2.2.2.2.1]? = some (.instanceMethod e.2.1) ∧ lw_tbl[e.2.2.2.2.2.2.2.2.1]? = some (.selects e.2.1.cls e.2.1 e.2.1)) ∨ (e.2.2.2.2.2.1 = 1 ∧ lw_tbl[e.2.2.2.2.2.2.2.1]? = some (.static e.2.1)) := by decide +kernel
theorem mMl_desc : ∀ e ∈ mMl, (parseMethodDescriptor e.2.1.desc).map (fun d => d.parameters.length) = some e.2.2.2.2.2.2.2.2.2.2 := by decide +kernel
theorem mMl_cls : ∀ e ∈ mMl, plainFor e.2.1 = true ∧ e.2.1.cls ≠ "java/lang/invoke/MethodHandle" ∧ e.2.1.cls ≠ "java/lang/invoke/VarHandle" := by decide +kernel
theorem mInX : ∀ ci, ci < 10 → ∀ w ∈ u_ws ((vwCl[ci]?).map (fun q => q.1)).get! (mT ci) (mN ci), w ∈ lw_tbl := by decide +kernel
theorem mNmX : ∀ ci, ci < 10 → ∀ a, a < mN ci → ∀ b, b < mN ci → a ≠ b → (mT ci a).2.1 ≠ (mT ci b).2.1 := by
  intro ci h
  rcases (show ci = 0 ∨ ci = 1 ∨ ci = 2 ∨ ci = 3 ∨ ci = 4 ∨ ci = 5 ∨ ci = 6 ∨ ci = 7 ∨ ci = 8 ∨ ci = 9 by omega) with rfl | rfl | rfl | rfl | rfl | rfl | rfl | rfl | rfl | rfl
  · exact nmX0
  · exact nmX1
  · exact nmX2
  · exact nmX3
  · exact nmX4
  · exact nmX5
  · exact nmX6
  · exact nmX7
  · exact nmX8
  · exact nmX9
theorem mTyX : ∀ ci, ci < 10 → ∀ k, k < mN ci → parseFieldDescriptor (mT ci k).2.2.1 = some (mTyp ci k) := by
  intro ci h
  rcases (show ci = 0 ∨ ci = 1 ∨ ci = 2 ∨ ci = 3 ∨ ci = 4 ∨ ci = 5 ∨ ci = 6 ∨ ci = 7 ∨ ci = 8 ∨ ci = 9 by omega) with rfl | rfl | rfl | rfl | rfl | rfl | rfl | rfl | rfl | rfl
  · exact tyX0_ok
  · exact tyX1_ok
  · exact tyX2_ok
  · exact tyX3_ok
  · exact tyX4_ok
  · exact tyX5_ok
  · exact tyX6_ok
  · exact tyX7_ok
  · exact tyX8_ok
  · exact tyX9_ok
end
