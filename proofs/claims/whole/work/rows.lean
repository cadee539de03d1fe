section
-- ===== PART A: goes FIRST, ahead of the names: the tables' words, and 'selects' of the private methods out of them =====
/-- a private method of a class that the tables say can be made, by its rows of tables_1 -/
def lw_okq (q : MethodName × Nat) : Prop := (q.1.cls ≠ "java/lang/invoke/MethodHandle" ∧ q.1.cls ≠ "java/lang/invoke/VarHandle") ∧ Cond.instantiable q.1.cls q.2 ∈ tables_1 ∧ Cond.privateMethod q.1 ∈ tables_1 ∧ Cond.instanceMethod q.1 ∈ tables_1
theorem lw_p0 : lw_okq (⟨"TinyFront$Table", "measureRows", "()V"⟩, 12) := ⟨⟨by decide +kernel, by decide +kernel⟩, List.mem_of_getElem? (i := 132) (by decide +kernel), List.mem_of_getElem? (i := 140) (by decide +kernel), List.mem_of_getElem? (i := 141) (by decide +kernel)⟩
theorem lw_p1 : lw_okq (⟨"TinyFront$Table", "findFirst", "()V"⟩, 12) := ⟨⟨by decide +kernel, by decide +kernel⟩, List.mem_of_getElem? (i := 132) (by decide +kernel), List.mem_of_getElem? (i := 144) (by decide +kernel), List.mem_of_getElem? (i := 145) (by decide +kernel)⟩
theorem lw_p2 : lw_okq (⟨"TinyFront$Table", "firstFrom", "(I)I"⟩, 12) := ⟨⟨by decide +kernel, by decide +kernel⟩, List.mem_of_getElem? (i := 132) (by decide +kernel), List.mem_of_getElem? (i := 150) (by decide +kernel), List.mem_of_getElem? (i := 151) (by decide +kernel)⟩
theorem lw_p3 : lw_okq (⟨"TinyFront$Table", "findFollow", "()V"⟩, 12) := ⟨⟨by decide +kernel, by decide +kernel⟩, List.mem_of_getElem? (i := 132) (by decide +kernel), List.mem_of_getElem? (i := 154) (by decide +kernel), List.mem_of_getElem? (i := 155) (by decide +kernel)⟩
theorem lw_p4 : lw_okq (⟨"TinyFront$Table", "addFollow", "(II)V"⟩, 12) := ⟨⟨by decide +kernel, by decide +kernel⟩, List.mem_of_getElem? (i := 132) (by decide +kernel), List.mem_of_getElem? (i := 158) (by decide +kernel), List.mem_of_getElem? (i := 159) (by decide +kernel)⟩
theorem lw_p5 : lw_okq (⟨"TinyFront$Table", "findSets", "()V"⟩, 12) := ⟨⟨by decide +kernel, by decide +kernel⟩, List.mem_of_getElem? (i := 132) (by decide +kernel), List.mem_of_getElem? (i := 165) (by decide +kernel), List.mem_of_getElem? (i := 166) (by decide +kernel)⟩
theorem lw_p6 : lw_okq (⟨"TinyFront$Table", "setOfMoved", "()I"⟩, 12) := ⟨⟨by decide +kernel, by decide +kernel⟩, List.mem_of_getElem? (i := 132) (by decide +kernel), List.mem_of_getElem? (i := 169) (by decide +kernel), List.mem_of_getElem? (i := 170) (by decide +kernel)⟩
theorem lw_p7 : lw_okq (⟨"TinyFront$Table", "isMoved", "(I)Z"⟩, 12) := ⟨⟨by decide +kernel, by decide +kernel⟩, List.mem_of_getElem? (i := 132) (by decide +kernel), List.mem_of_getElem? (i := 173) (by decide +kernel), List.mem_of_getElem? (i := 174) (by decide +kernel)⟩
theorem lw_p8 : lw_okq (⟨"TinyFront$Table", "openMembers", "(I)V"⟩, 12) := ⟨⟨by decide +kernel, by decide +kernel⟩, List.mem_of_getElem? (i := 132) (by decide +kernel), List.mem_of_getElem? (i := 177) (by decide +kernel), List.mem_of_getElem? (i := 178) (by decide +kernel)⟩
theorem lw_p9 : lw_okq (⟨"TinyFront$Table", "addBeginnings", "(I)V"⟩, 12) := ⟨⟨by decide +kernel, by decide +kernel⟩, List.mem_of_getElem? (i := 132) (by decide +kernel), List.mem_of_getElem? (i := 181) (by decide +kernel), List.mem_of_getElem? (i := 182) (by decide +kernel)⟩
theorem lw_p10 : lw_okq (⟨"TinyFront$Table", "findMoves", "(I)V"⟩, 12) := ⟨⟨by decide +kernel, by decide +kernel⟩, List.mem_of_getElem? (i := 132) (by decide +kernel), List.mem_of_getElem? (i := 185) (by decide +kernel), List.mem_of_getElem? (i := 186) (by decide +kernel)⟩
theorem lw_p11 : lw_okq (⟨"TinyFront$Table", "moveOver", "(II)V"⟩, 12) := ⟨⟨by decide +kernel, by decide +kernel⟩, List.mem_of_getElem? (i := 132) (by decide +kernel), List.mem_of_getElem? (i := 189) (by decide +kernel), List.mem_of_getElem? (i := 190) (by decide +kernel)⟩
theorem lw_p12 : lw_okq (⟨"TinyFront$Table", "findEnds", "(I)V"⟩, 12) := ⟨⟨by decide +kernel, by decide +kernel⟩, List.mem_of_getElem? (i := 132) (by decide +kernel), List.mem_of_getElem? (i := 193) (by decide +kernel), List.mem_of_getElem? (i := 194) (by decide +kernel)⟩
theorem lw_p13 : lw_okq (⟨"TinyFront$Table", "addReductions", "(II)V"⟩, 12) := ⟨⟨by decide +kernel, by decide +kernel⟩, List.mem_of_getElem? (i := 132) (by decide +kernel), List.mem_of_getElem? (i := 197) (by decide +kernel), List.mem_of_getElem? (i := 198) (by decide +kernel)⟩
theorem lw_p14 : lw_okq (⟨"TinyFront", "forgetTokens", "()V"⟩, 13) := ⟨⟨by decide +kernel, by decide +kernel⟩, List.mem_of_getElem? (i := 21) (by decide +kernel), List.mem_of_getElem? (i := 449) (by decide +kernel), List.mem_of_getElem? (i := 450) (by decide +kernel)⟩
theorem lw_p15 : lw_okq (⟨"TinyFront", "forgetTree", "()V"⟩, 13) := ⟨⟨by decide +kernel, by decide +kernel⟩, List.mem_of_getElem? (i := 21) (by decide +kernel), List.mem_of_getElem? (i := 453) (by decide +kernel), List.mem_of_getElem? (i := 454) (by decide +kernel)⟩
def lw_privs_1 : List (MethodName × Nat) := [(⟨"TinyFront$Table", "measureRows", "()V"⟩, 12), (⟨"TinyFront$Table", "findFirst", "()V"⟩, 12), (⟨"TinyFront$Table", "firstFrom", "(I)I"⟩, 12), (⟨"TinyFront$Table", "findFollow", "()V"⟩, 12), (⟨"TinyFront$Table", "addFollow", "(II)V"⟩, 12), (⟨"TinyFront$Table", "findSets", "()V"⟩, 12), (⟨"TinyFront$Table", "setOfMoved", "()I"⟩, 12), (⟨"TinyFront$Table", "isMoved", "(I)Z"⟩, 12), (⟨"TinyFront$Table", "openMembers", "(I)V"⟩, 12), (⟨"TinyFront$Table", "addBeginnings", "(I)V"⟩, 12), (⟨"TinyFront$Table", "findMoves", "(I)V"⟩, 12), (⟨"TinyFront$Table", "moveOver", "(II)V"⟩, 12), (⟨"TinyFront$Table", "findEnds", "(I)V"⟩, 12), (⟨"TinyFront$Table", "addReductions", "(II)V"⟩, 12), (⟨"TinyFront", "forgetTokens", "()V"⟩, 13), (⟨"TinyFront", "forgetTree", "()V"⟩, 13)]
theorem lw_r1 : ∀ q ∈ lw_privs_1, lw_okq q := List.forall_mem_cons.mpr ⟨lw_p0, List.forall_mem_cons.mpr ⟨lw_p1, List.forall_mem_cons.mpr ⟨lw_p2, List.forall_mem_cons.mpr ⟨lw_p3, List.forall_mem_cons.mpr ⟨lw_p4, List.forall_mem_cons.mpr ⟨lw_p5, List.forall_mem_cons.mpr ⟨lw_p6, List.forall_mem_cons.mpr ⟨lw_p7, List.forall_mem_cons.mpr ⟨lw_p8, List.forall_mem_cons.mpr ⟨lw_p9, List.forall_mem_cons.mpr ⟨lw_p10, List.forall_mem_cons.mpr ⟨lw_p11, List.forall_mem_cons.mpr ⟨lw_p12, List.forall_mem_cons.mpr ⟨lw_p13, List.forall_mem_cons.mpr ⟨lw_p14, List.forall_mem_cons.mpr ⟨lw_p15, fun _ h => absurd h List.not_mem_nil⟩⟩⟩⟩⟩⟩⟩⟩⟩⟩⟩⟩⟩⟩⟩⟩
theorem lw_p16 : lw_okq (⟨"TinyFront$Tokens", "behindBlanks", "(I)I"⟩, 11) := ⟨⟨by decide +kernel, by decide +kernel⟩, List.mem_of_getElem? (i := 29) (by decide +kernel), List.mem_of_getElem? (i := 476) (by decide +kernel), List.mem_of_getElem? (i := 477) (by decide +kernel)⟩
theorem lw_p17 : lw_okq (⟨"TinyFront$Tokens", "addToken", "(I)I"⟩, 11) := ⟨⟨by decide +kernel, by decide +kernel⟩, List.mem_of_getElem? (i := 29) (by decide +kernel), List.mem_of_getElem? (i := 483) (by decide +kernel), List.mem_of_getElem? (i := 484) (by decide +kernel)⟩
theorem lw_p18 : lw_okq (⟨"TinyFront$Tokens", "addNumber", "(I)I"⟩, 11) := ⟨⟨by decide +kernel, by decide +kernel⟩, List.mem_of_getElem? (i := 29) (by decide +kernel), List.mem_of_getElem? (i := 490) (by decide +kernel), List.mem_of_getElem? (i := 491) (by decide +kernel)⟩
theorem lw_p19 : lw_okq (⟨"TinyFront$Tokens", "add", "(IIII)I"⟩, 11) := ⟨⟨by decide +kernel, by decide +kernel⟩, List.mem_of_getElem? (i := 29) (by decide +kernel), List.mem_of_getElem? (i := 494) (by decide +kernel), List.mem_of_getElem? (i := 495) (by decide +kernel)⟩
theorem lw_p20 : lw_okq (⟨"TinyFront$Tokens", "put", "(IIII)V"⟩, 11) := ⟨⟨by decide +kernel, by decide +kernel⟩, List.mem_of_getElem? (i := 29) (by decide +kernel), List.mem_of_getElem? (i := 498) (by decide +kernel), List.mem_of_getElem? (i := 499) (by decide +kernel)⟩
theorem lw_p21 : lw_okq (⟨"TinyFront$Tokens", "addWordOrName", "(I)I"⟩, 11) := ⟨⟨by decide +kernel, by decide +kernel⟩, List.mem_of_getElem? (i := 29) (by decide +kernel), List.mem_of_getElem? (i := 505) (by decide +kernel), List.mem_of_getElem? (i := 506) (by decide +kernel)⟩
theorem lw_p22 : lw_okq (⟨"TinyFront$Tokens", "wordKind", "(II)I"⟩, 11) := ⟨⟨by decide +kernel, by decide +kernel⟩, List.mem_of_getElem? (i := 29) (by decide +kernel), List.mem_of_getElem? (i := 509) (by decide +kernel), List.mem_of_getElem? (i := 510) (by decide +kernel)⟩
theorem lw_p23 : lw_okq (⟨"TinyFront$Tokens", "isSpelled", "(IILjava/lang/String;)Z"⟩, 11) := ⟨⟨by decide +kernel, by decide +kernel⟩, List.mem_of_getElem? (i := 29) (by decide +kernel), List.mem_of_getElem? (i := 522) (by decide +kernel), List.mem_of_getElem? (i := 523) (by decide +kernel)⟩
theorem lw_p24 : lw_okq (⟨"TinyFront$Tokens", "slotOf", "(II)I"⟩, 11) := ⟨⟨by decide +kernel, by decide +kernel⟩, List.mem_of_getElem? (i := 29) (by decide +kernel), List.mem_of_getElem? (i := 574) (by decide +kernel), List.mem_of_getElem? (i := 575) (by decide +kernel)⟩
theorem lw_p25 : lw_okq (⟨"TinyFront$Tokens", "sameBytes", "(III)Z"⟩, 11) := ⟨⟨by decide +kernel, by decide +kernel⟩, List.mem_of_getElem? (i := 29) (by decide +kernel), List.mem_of_getElem? (i := 578) (by decide +kernel), List.mem_of_getElem? (i := 579) (by decide +kernel)⟩
theorem lw_p26 : lw_okq (⟨"TinyFront$Tokens", "addSign", "(I)I"⟩, 11) := ⟨⟨by decide +kernel, by decide +kernel⟩, List.mem_of_getElem? (i := 29) (by decide +kernel), List.mem_of_getElem? (i := 582) (by decide +kernel), List.mem_of_getElem? (i := 583) (by decide +kernel)⟩
theorem lw_p27 : lw_okq (⟨"TinyFront$Parser", "push", "(II)V"⟩, 7) := ⟨⟨by decide +kernel, by decide +kernel⟩, List.mem_of_getElem? (i := 81) (by decide +kernel), List.mem_of_getElem? (i := 664) (by decide +kernel), List.mem_of_getElem? (i := 665) (by decide +kernel)⟩
theorem lw_p28 : lw_okq (⟨"TinyFront$Parser", "reduce", "(I)V"⟩, 7) := ⟨⟨by decide +kernel, by decide +kernel⟩, List.mem_of_getElem? (i := 81) (by decide +kernel), List.mem_of_getElem? (i := 677) (by decide +kernel), List.mem_of_getElem? (i := 678) (by decide +kernel)⟩
theorem lw_p29 : lw_okq (⟨"TinyFront$Parser", "tell", "(I)V"⟩, 7) := ⟨⟨by decide +kernel, by decide +kernel⟩, List.mem_of_getElem? (i := 81) (by decide +kernel), List.mem_of_getElem? (i := 681) (by decide +kernel), List.mem_of_getElem? (i := 682) (by decide +kernel)⟩
theorem lw_p30 : lw_okq (⟨"TinyFront$Parser", "grow", "(II)V"⟩, 7) := ⟨⟨by decide +kernel, by decide +kernel⟩, List.mem_of_getElem? (i := 81) (by decide +kernel), List.mem_of_getElem? (i := 689) (by decide +kernel), List.mem_of_getElem? (i := 690) (by decide +kernel)⟩
theorem lw_p31 : lw_okq (⟨"TinyFront$Tree", "placeParts", "(LTinyFront$Tree;I)V"⟩, 7) := ⟨⟨by decide +kernel, by decide +kernel⟩, List.mem_of_getElem? (i := 87) (by decide +kernel), List.mem_of_getElem? (i := 711) (by decide +kernel), List.mem_of_getElem? (i := 712) (by decide +kernel)⟩
def lw_privs_2 : List (MethodName × Nat) := [(⟨"TinyFront$Tokens", "behindBlanks", "(I)I"⟩, 11), (⟨"TinyFront$Tokens", "addToken", "(I)I"⟩, 11), (⟨"TinyFront$Tokens", "addNumber", "(I)I"⟩, 11), (⟨"TinyFront$Tokens", "add", "(IIII)I"⟩, 11), (⟨"TinyFront$Tokens", "put", "(IIII)V"⟩, 11), (⟨"TinyFront$Tokens", "addWordOrName", "(I)I"⟩, 11), (⟨"TinyFront$Tokens", "wordKind", "(II)I"⟩, 11), (⟨"TinyFront$Tokens", "isSpelled", "(IILjava/lang/String;)Z"⟩, 11), (⟨"TinyFront$Tokens", "slotOf", "(II)I"⟩, 11), (⟨"TinyFront$Tokens", "sameBytes", "(III)Z"⟩, 11), (⟨"TinyFront$Tokens", "addSign", "(I)I"⟩, 11), (⟨"TinyFront$Parser", "push", "(II)V"⟩, 7), (⟨"TinyFront$Parser", "reduce", "(I)V"⟩, 7), (⟨"TinyFront$Parser", "tell", "(I)V"⟩, 7), (⟨"TinyFront$Parser", "grow", "(II)V"⟩, 7), (⟨"TinyFront$Tree", "placeParts", "(LTinyFront$Tree;I)V"⟩, 7)]
theorem lw_r2 : ∀ q ∈ lw_privs_2, lw_okq q := List.forall_mem_cons.mpr ⟨lw_p16, List.forall_mem_cons.mpr ⟨lw_p17, List.forall_mem_cons.mpr ⟨lw_p18, List.forall_mem_cons.mpr ⟨lw_p19, List.forall_mem_cons.mpr ⟨lw_p20, List.forall_mem_cons.mpr ⟨lw_p21, List.forall_mem_cons.mpr ⟨lw_p22, List.forall_mem_cons.mpr ⟨lw_p23, List.forall_mem_cons.mpr ⟨lw_p24, List.forall_mem_cons.mpr ⟨lw_p25, List.forall_mem_cons.mpr ⟨lw_p26, List.forall_mem_cons.mpr ⟨lw_p27, List.forall_mem_cons.mpr ⟨lw_p28, List.forall_mem_cons.mpr ⟨lw_p29, List.forall_mem_cons.mpr ⟨lw_p30, List.forall_mem_cons.mpr ⟨lw_p31, fun _ h => absurd h List.not_mem_nil⟩⟩⟩⟩⟩⟩⟩⟩⟩⟩⟩⟩⟩⟩⟩⟩
theorem lw_p32 : lw_okq (⟨"TinyFront$Paths", "placeStatements", "(LTinyFront$Tree;I)V"⟩, 4) := ⟨⟨by decide +kernel, by decide +kernel⟩, List.mem_of_getElem? (i := 265) (by decide +kernel), List.mem_of_getElem? (i := 719) (by decide +kernel), List.mem_of_getElem? (i := 720) (by decide +kernel)⟩
theorem lw_p33 : lw_okq (⟨"TinyFront$Code", "measure", "(LTinyFront$Tree;I)V"⟩, 5) := ⟨⟨by decide +kernel, by decide +kernel⟩, List.mem_of_getElem? (i := 287) (by decide +kernel), List.mem_of_getElem? (i := 759) (by decide +kernel), List.mem_of_getElem? (i := 760) (by decide +kernel)⟩
theorem lw_p34 : lw_okq (⟨"TinyFront$Code", "placeParts", "(LTinyFront$Tree;I)V"⟩, 5) := ⟨⟨by decide +kernel, by decide +kernel⟩, List.mem_of_getElem? (i := 287) (by decide +kernel), List.mem_of_getElem? (i := 766) (by decide +kernel), List.mem_of_getElem? (i := 767) (by decide +kernel)⟩
theorem lw_p35 : lw_okq (⟨"TinyFront$Code", "write", "(LTinyFront$Tree;LTinyFront$Paths;LTinyFront$Tokens;I)V"⟩, 5) := ⟨⟨by decide +kernel, by decide +kernel⟩, List.mem_of_getElem? (i := 287) (by decide +kernel), List.mem_of_getElem? (i := 772) (by decide +kernel), List.mem_of_getElem? (i := 773) (by decide +kernel)⟩
theorem lw_p36 : lw_okq (⟨"TinyFront$Code", "writeIf", "(LTinyFront$Tree;I)V"⟩, 5) := ⟨⟨by decide +kernel, by decide +kernel⟩, List.mem_of_getElem? (i := 287) (by decide +kernel), List.mem_of_getElem? (i := 776) (by decide +kernel), List.mem_of_getElem? (i := 777) (by decide +kernel)⟩
theorem lw_p37 : lw_okq (⟨"TinyFront$Code", "startOf", "(I)I"⟩, 5) := ⟨⟨by decide +kernel, by decide +kernel⟩, List.mem_of_getElem? (i := 287) (by decide +kernel), List.mem_of_getElem? (i := 780) (by decide +kernel), List.mem_of_getElem? (i := 781) (by decide +kernel)⟩
theorem lw_p38 : lw_okq (⟨"TinyFront$Code", "put", "(III)V"⟩, 5) := ⟨⟨by decide +kernel, by decide +kernel⟩, List.mem_of_getElem? (i := 287) (by decide +kernel), List.mem_of_getElem? (i := 784) (by decide +kernel), List.mem_of_getElem? (i := 785) (by decide +kernel)⟩
theorem lw_p39 : lw_okq (⟨"TinyFront$Code", "endOf", "(I)I"⟩, 5) := ⟨⟨by decide +kernel, by decide +kernel⟩, List.mem_of_getElem? (i := 287) (by decide +kernel), List.mem_of_getElem? (i := 788) (by decide +kernel), List.mem_of_getElem? (i := 789) (by decide +kernel)⟩
theorem lw_p40 : lw_okq (⟨"TinyFront$Code", "writeWhile", "(I)V"⟩, 5) := ⟨⟨by decide +kernel, by decide +kernel⟩, List.mem_of_getElem? (i := 287) (by decide +kernel), List.mem_of_getElem? (i := 792) (by decide +kernel), List.mem_of_getElem? (i := 793) (by decide +kernel)⟩
theorem lw_p41 : lw_okq (⟨"TinyFront$Code", "writeOr", "(I)V"⟩, 5) := ⟨⟨by decide +kernel, by decide +kernel⟩, List.mem_of_getElem? (i := 287) (by decide +kernel), List.mem_of_getElem? (i := 796) (by decide +kernel), List.mem_of_getElem? (i := 797) (by decide +kernel)⟩
theorem lw_p42 : lw_okq (⟨"TinyFront$Code", "writeAnd", "(I)V"⟩, 5) := ⟨⟨by decide +kernel, by decide +kernel⟩, List.mem_of_getElem? (i := 287) (by decide +kernel), List.mem_of_getElem? (i := 800) (by decide +kernel), List.mem_of_getElem? (i := 801) (by decide +kernel)⟩
theorem lw_p43 : lw_okq (⟨"TinyFront$TreeEngine", "goRound", "(I)I"⟩, 8) := ⟨⟨by decide +kernel, by decide +kernel⟩, List.mem_of_getElem? (i := 355) (by decide +kernel), List.mem_of_getElem? (i := 836) (by decide +kernel), List.mem_of_getElem? (i := 837) (by decide +kernel)⟩
theorem lw_p44 : lw_okq (⟨"TinyFront$TreeEngine", "evaluate", "(I)V"⟩, 8) := ⟨⟨by decide +kernel, by decide +kernel⟩, List.mem_of_getElem? (i := 355) (by decide +kernel), List.mem_of_getElem? (i := 844) (by decide +kernel), List.mem_of_getElem? (i := 845) (by decide +kernel)⟩
theorem lw_p45 : lw_okq (⟨"TinyFront$TreeEngine", "worthOf", "(I)I"⟩, 8) := ⟨⟨by decide +kernel, by decide +kernel⟩, List.mem_of_getElem? (i := 355) (by decide +kernel), List.mem_of_getElem? (i := 849) (by decide +kernel), List.mem_of_getElem? (i := 850) (by decide +kernel)⟩
theorem lw_p46 : lw_okq (⟨"TinyFront$TreeEngine", "settle", "(II)I"⟩, 8) := ⟨⟨by decide +kernel, by decide +kernel⟩, List.mem_of_getElem? (i := 355) (by decide +kernel), List.mem_of_getElem? (i := 857) (by decide +kernel), List.mem_of_getElem? (i := 858) (by decide +kernel)⟩
theorem lw_p47 : lw_okq (⟨"TinyFront$Run", "divided", "()I"⟩, 8) := ⟨⟨by decide +kernel, by decide +kernel⟩, List.mem_of_getElem? (i := 315) (by decide +kernel), List.mem_of_getElem? (i := 871) (by decide +kernel), List.mem_of_getElem? (i := 872) (by decide +kernel)⟩
def lw_privs_3 : List (MethodName × Nat) := [(⟨"TinyFront$Paths", "placeStatements", "(LTinyFront$Tree;I)V"⟩, 4), (⟨"TinyFront$Code", "measure", "(LTinyFront$Tree;I)V"⟩, 5), (⟨"TinyFront$Code", "placeParts", "(LTinyFront$Tree;I)V"⟩, 5), (⟨"TinyFront$Code", "write", "(LTinyFront$Tree;LTinyFront$Paths;LTinyFront$Tokens;I)V"⟩, 5), (⟨"TinyFront$Code", "writeIf", "(LTinyFront$Tree;I)V"⟩, 5), (⟨"TinyFront$Code", "startOf", "(I)I"⟩, 5), (⟨"TinyFront$Code", "put", "(III)V"⟩, 5), (⟨"TinyFront$Code", "endOf", "(I)I"⟩, 5), (⟨"TinyFront$Code", "writeWhile", "(I)V"⟩, 5), (⟨"TinyFront$Code", "writeOr", "(I)V"⟩, 5), (⟨"TinyFront$Code", "writeAnd", "(I)V"⟩, 5), (⟨"TinyFront$TreeEngine", "goRound", "(I)I"⟩, 8), (⟨"TinyFront$TreeEngine", "evaluate", "(I)V"⟩, 8), (⟨"TinyFront$TreeEngine", "worthOf", "(I)I"⟩, 8), (⟨"TinyFront$TreeEngine", "settle", "(II)I"⟩, 8), (⟨"TinyFront$Run", "divided", "()I"⟩, 8)]
theorem lw_r3 : ∀ q ∈ lw_privs_3, lw_okq q := List.forall_mem_cons.mpr ⟨lw_p32, List.forall_mem_cons.mpr ⟨lw_p33, List.forall_mem_cons.mpr ⟨lw_p34, List.forall_mem_cons.mpr ⟨lw_p35, List.forall_mem_cons.mpr ⟨lw_p36, List.forall_mem_cons.mpr ⟨lw_p37, List.forall_mem_cons.mpr ⟨lw_p38, List.forall_mem_cons.mpr ⟨lw_p39, List.forall_mem_cons.mpr ⟨lw_p40, List.forall_mem_cons.mpr ⟨lw_p41, List.forall_mem_cons.mpr ⟨lw_p42, List.forall_mem_cons.mpr ⟨lw_p43, List.forall_mem_cons.mpr ⟨lw_p44, List.forall_mem_cons.mpr ⟨lw_p45, List.forall_mem_cons.mpr ⟨lw_p46, List.forall_mem_cons.mpr ⟨lw_p47, fun _ h => absurd h List.not_mem_nil⟩⟩⟩⟩⟩⟩⟩⟩⟩⟩⟩⟩⟩⟩⟩⟩
theorem lw_p48 : lw_okq (⟨"TinyFront$TreeEngine", "waitForParts", "(I)V"⟩, 8) := ⟨⟨by decide +kernel, by decide +kernel⟩, List.mem_of_getElem? (i := 355) (by decide +kernel), List.mem_of_getElem? (i := 875) (by decide +kernel), List.mem_of_getElem? (i := 876) (by decide +kernel)⟩
theorem lw_p49 : lw_okq (⟨"TinyFront$TreeEngine", "goStatement", "(I)I"⟩, 8) := ⟨⟨by decide +kernel, by decide +kernel⟩, List.mem_of_getElem? (i := 355) (by decide +kernel), List.mem_of_getElem? (i := 883) (by decide +kernel), List.mem_of_getElem? (i := 884) (by decide +kernel)⟩
theorem lw_p50 : lw_okq (⟨"TinyFront$TreeEngine", "useResult", "(I)I"⟩, 8) := ⟨⟨by decide +kernel, by decide +kernel⟩, List.mem_of_getElem? (i := 355) (by decide +kernel), List.mem_of_getElem? (i := 887) (by decide +kernel), List.mem_of_getElem? (i := 888) (by decide +kernel)⟩
theorem lw_p51 : lw_okq (⟨"TinyFront$TreeEngine", "chooseList", "(I)I"⟩, 8) := ⟨⟨by decide +kernel, by decide +kernel⟩, List.mem_of_getElem? (i := 355) (by decide +kernel), List.mem_of_getElem? (i := 891) (by decide +kernel), List.mem_of_getElem? (i := 892) (by decide +kernel)⟩
theorem lw_p52 : lw_okq (⟨"TinyFront$CodeEngine", "goWord", "(III)I"⟩, 4) := ⟨⟨by decide +kernel, by decide +kernel⟩, List.mem_of_getElem? (i := 386) (by decide +kernel), List.mem_of_getElem? (i := 913) (by decide +kernel), List.mem_of_getElem? (i := 914) (by decide +kernel)⟩
theorem lw_p53 : lw_okq (⟨"TinyFront$CodeEngine", "push", "(I)V"⟩, 4) := ⟨⟨by decide +kernel, by decide +kernel⟩, List.mem_of_getElem? (i := 386) (by decide +kernel), List.mem_of_getElem? (i := 917) (by decide +kernel), List.mem_of_getElem? (i := 918) (by decide +kernel)⟩
theorem lw_p54 : lw_okq (⟨"TinyFront$CodeEngine", "pop", "()I"⟩, 4) := ⟨⟨by decide +kernel, by decide +kernel⟩, List.mem_of_getElem? (i := 386) (by decide +kernel), List.mem_of_getElem? (i := 922) (by decide +kernel), List.mem_of_getElem? (i := 923) (by decide +kernel)⟩
theorem lw_p55 : lw_okq (⟨"TinyFront$CodeEngine", "replaceUppermost", "(I)V"⟩, 4) := ⟨⟨by decide +kernel, by decide +kernel⟩, List.mem_of_getElem? (i := 386) (by decide +kernel), List.mem_of_getElem? (i := 928) (by decide +kernel), List.mem_of_getElem? (i := 929) (by decide +kernel)⟩
theorem lw_p56 : lw_okq (⟨"TinyFrontModel", "makeFirsts", "()V"⟩, 63) := ⟨⟨by decide +kernel, by decide +kernel⟩, List.mem_of_getElem? (i := 953) (by decide +kernel), List.mem_of_getElem? (i := 961) (by decide +kernel), List.mem_of_getElem? (i := 962) (by decide +kernel)⟩
theorem lw_p57 : lw_okq (⟨"TinyFrontModel", "takeFirst", "(IIZ)Z"⟩, 63) := ⟨⟨by decide +kernel, by decide +kernel⟩, List.mem_of_getElem? (i := 953) (by decide +kernel), List.mem_of_getElem? (i := 965) (by decide +kernel), List.mem_of_getElem? (i := 966) (by decide +kernel)⟩
theorem lw_p58 : lw_okq (⟨"TinyFrontModel", "makeFollows", "()V"⟩, 63) := ⟨⟨by decide +kernel, by decide +kernel⟩, List.mem_of_getElem? (i := 953) (by decide +kernel), List.mem_of_getElem? (i := 972) (by decide +kernel), List.mem_of_getElem? (i := 973) (by decide +kernel)⟩
theorem lw_p59 : lw_okq (⟨"TinyFrontModel", "followsOf", "(II)Z"⟩, 63) := ⟨⟨by decide +kernel, by decide +kernel⟩, List.mem_of_getElem? (i := 953) (by decide +kernel), List.mem_of_getElem? (i := 976) (by decide +kernel), List.mem_of_getElem? (i := 977) (by decide +kernel)⟩
theorem lw_p60 : lw_okq (⟨"TinyFrontModel", "takeFollow", "(II)Z"⟩, 63) := ⟨⟨by decide +kernel, by decide +kernel⟩, List.mem_of_getElem? (i := 953) (by decide +kernel), List.mem_of_getElem? (i := 980) (by decide +kernel), List.mem_of_getElem? (i := 981) (by decide +kernel)⟩
theorem lw_p61 : lw_okq (⟨"TinyFrontModel", "makeSets", "()V"⟩, 63) := ⟨⟨by decide +kernel, by decide +kernel⟩, List.mem_of_getElem? (i := 953) (by decide +kernel), List.mem_of_getElem? (i := 984) (by decide +kernel), List.mem_of_getElem? (i := 985) (by decide +kernel)⟩
theorem lw_p62 : lw_okq (⟨"TinyFrontModel", "numberSet", "()I"⟩, 63) := ⟨⟨by decide +kernel, by decide +kernel⟩, List.mem_of_getElem? (i := 953) (by decide +kernel), List.mem_of_getElem? (i := 988) (by decide +kernel), List.mem_of_getElem? (i := 989) (by decide +kernel)⟩
theorem lw_p63 : lw_okq (⟨"TinyFrontModel", "close", "()V"⟩, 63) := ⟨⟨by decide +kernel, by decide +kernel⟩, List.mem_of_getElem? (i := 953) (by decide +kernel), List.mem_of_getElem? (i := 992) (by decide +kernel), List.mem_of_getElem? (i := 993) (by decide +kernel)⟩
def lw_privs_4 : List (MethodName × Nat) := [(⟨"TinyFront$TreeEngine", "waitForParts", "(I)V"⟩, 8), (⟨"TinyFront$TreeEngine", "goStatement", "(I)I"⟩, 8), (⟨"TinyFront$TreeEngine", "useResult", "(I)I"⟩, 8), (⟨"TinyFront$TreeEngine", "chooseList", "(I)I"⟩, 8), (⟨"TinyFront$CodeEngine", "goWord", "(III)I"⟩, 4), (⟨"TinyFront$CodeEngine", "push", "(I)V"⟩, 4), (⟨"TinyFront$CodeEngine", "pop", "()I"⟩, 4), (⟨"TinyFront$CodeEngine", "replaceUppermost", "(I)V"⟩, 4), (⟨"TinyFrontModel", "makeFirsts", "()V"⟩, 63), (⟨"TinyFrontModel", "takeFirst", "(IIZ)Z"⟩, 63), (⟨"TinyFrontModel", "makeFollows", "()V"⟩, 63), (⟨"TinyFrontModel", "followsOf", "(II)Z"⟩, 63), (⟨"TinyFrontModel", "takeFollow", "(II)Z"⟩, 63), (⟨"TinyFrontModel", "makeSets", "()V"⟩, 63), (⟨"TinyFrontModel", "numberSet", "()I"⟩, 63), (⟨"TinyFrontModel", "close", "()V"⟩, 63)]
theorem lw_r4 : ∀ q ∈ lw_privs_4, lw_okq q := List.forall_mem_cons.mpr ⟨lw_p48, List.forall_mem_cons.mpr ⟨lw_p49, List.forall_mem_cons.mpr ⟨lw_p50, List.forall_mem_cons.mpr ⟨lw_p51, List.forall_mem_cons.mpr ⟨lw_p52, List.forall_mem_cons.mpr ⟨lw_p53, List.forall_mem_cons.mpr ⟨lw_p54, List.forall_mem_cons.mpr ⟨lw_p55, List.forall_mem_cons.mpr ⟨lw_p56, List.forall_mem_cons.mpr ⟨lw_p57, List.forall_mem_cons.mpr ⟨lw_p58, List.forall_mem_cons.mpr ⟨lw_p59, List.forall_mem_cons.mpr ⟨lw_p60, List.forall_mem_cons.mpr ⟨lw_p61, List.forall_mem_cons.mpr ⟨lw_p62, List.forall_mem_cons.mpr ⟨lw_p63, fun _ h => absurd h List.not_mem_nil⟩⟩⟩⟩⟩⟩⟩⟩⟩⟩⟩⟩⟩⟩⟩⟩
theorem lw_p64 : lw_okq (⟨"TinyFrontModel", "behindPoint", "(II)I"⟩, 63) := ⟨⟨by decide +kernel, by decide +kernel⟩, List.mem_of_getElem? (i := 953) (by decide +kernel), List.mem_of_getElem? (i := 996) (by decide +kernel), List.mem_of_getElem? (i := 997) (by decide +kernel)⟩
theorem lw_p65 : lw_okq (⟨"TinyFrontModel", "open", "(I)Z"⟩, 63) := ⟨⟨by decide +kernel, by decide +kernel⟩, List.mem_of_getElem? (i := 953) (by decide +kernel), List.mem_of_getElem? (i := 1000) (by decide +kernel), List.mem_of_getElem? (i := 1001) (by decide +kernel)⟩
theorem lw_p66 : lw_okq (⟨"TinyFrontModel", "move", "(II)I"⟩, 63) := ⟨⟨by decide +kernel, by decide +kernel⟩, List.mem_of_getElem? (i := 953) (by decide +kernel), List.mem_of_getElem? (i := 1004) (by decide +kernel), List.mem_of_getElem? (i := 1005) (by decide +kernel)⟩
theorem lw_p67 : lw_okq (⟨"TinyFrontModel", "forgetTokens", "()V"⟩, 63) := ⟨⟨by decide +kernel, by decide +kernel⟩, List.mem_of_getElem? (i := 953) (by decide +kernel), List.mem_of_getElem? (i := 1203) (by decide +kernel), List.mem_of_getElem? (i := 1204) (by decide +kernel)⟩
theorem lw_p68 : lw_okq (⟨"TinyFrontModel", "skip", "(I)I"⟩, 63) := ⟨⟨by decide +kernel, by decide +kernel⟩, List.mem_of_getElem? (i := 953) (by decide +kernel), List.mem_of_getElem? (i := 1215) (by decide +kernel), List.mem_of_getElem? (i := 1216) (by decide +kernel)⟩
theorem lw_p69 : lw_okq (⟨"TinyFrontModel", "byteAt", "(I)I"⟩, 63) := ⟨⟨by decide +kernel, by decide +kernel⟩, List.mem_of_getElem? (i := 953) (by decide +kernel), List.mem_of_getElem? (i := 1219) (by decide +kernel), List.mem_of_getElem? (i := 1220) (by decide +kernel)⟩
theorem lw_p70 : lw_okq (⟨"TinyFrontModel", "readToken", "(I)Z"⟩, 63) := ⟨⟨by decide +kernel, by decide +kernel⟩, List.mem_of_getElem? (i := 953) (by decide +kernel), List.mem_of_getElem? (i := 1223) (by decide +kernel), List.mem_of_getElem? (i := 1224) (by decide +kernel)⟩
theorem lw_p71 : lw_okq (⟨"TinyFrontModel", "readName", "(I)Z"⟩, 63) := ⟨⟨by decide +kernel, by decide +kernel⟩, List.mem_of_getElem? (i := 953) (by decide +kernel), List.mem_of_getElem? (i := 1230) (by decide +kernel), List.mem_of_getElem? (i := 1231) (by decide +kernel)⟩
theorem lw_p72 : lw_okq (⟨"TinyFrontModel", "wordOf", "(II)I"⟩, 63) := ⟨⟨by decide +kernel, by decide +kernel⟩, List.mem_of_getElem? (i := 953) (by decide +kernel), List.mem_of_getElem? (i := 1237) (by decide +kernel), List.mem_of_getElem? (i := 1238) (by decide +kernel)⟩
theorem lw_p73 : lw_okq (⟨"TinyFrontModel", "slotOf", "(II)I"⟩, 63) := ⟨⟨by decide +kernel, by decide +kernel⟩, List.mem_of_getElem? (i := 953) (by decide +kernel), List.mem_of_getElem? (i := 1247) (by decide +kernel), List.mem_of_getElem? (i := 1248) (by decide +kernel)⟩
theorem lw_p74 : lw_okq (⟨"TinyFrontModel", "add", "(IIII)V"⟩, 63) := ⟨⟨by decide +kernel, by decide +kernel⟩, List.mem_of_getElem? (i := 953) (by decide +kernel), List.mem_of_getElem? (i := 1251) (by decide +kernel), List.mem_of_getElem? (i := 1252) (by decide +kernel)⟩
theorem lw_p75 : lw_okq (⟨"TinyFrontModel", "goOver", "()I"⟩, 63) := ⟨⟨by decide +kernel, by decide +kernel⟩, List.mem_of_getElem? (i := 953) (by decide +kernel), List.mem_of_getElem? (i := 1270) (by decide +kernel), List.mem_of_getElem? (i := 1271) (by decide +kernel)⟩
theorem lw_p76 : lw_okq (⟨"TinyFrontModel", "ruleFor", "(II)I"⟩, 63) := ⟨⟨by decide +kernel, by decide +kernel⟩, List.mem_of_getElem? (i := 953) (by decide +kernel), List.mem_of_getElem? (i := 1274) (by decide +kernel), List.mem_of_getElem? (i := 1275) (by decide +kernel)⟩
theorem lw_p77 : lw_okq (⟨"TinyFrontModel", "reduce", "(I)I"⟩, 63) := ⟨⟨by decide +kernel, by decide +kernel⟩, List.mem_of_getElem? (i := 953) (by decide +kernel), List.mem_of_getElem? (i := 1278) (by decide +kernel), List.mem_of_getElem? (i := 1279) (by decide +kernel)⟩
theorem lw_p78 : lw_okq (⟨"TinyFrontModel", "statement", "(I)I"⟩, 63) := ⟨⟨by decide +kernel, by decide +kernel⟩, List.mem_of_getElem? (i := 953) (by decide +kernel), List.mem_of_getElem? (i := 1282) (by decide +kernel), List.mem_of_getElem? (i := 1283) (by decide +kernel)⟩
theorem lw_p79 : lw_okq (⟨"TinyFrontModel", "thing", "(II)I"⟩, 63) := ⟨⟨by decide +kernel, by decide +kernel⟩, List.mem_of_getElem? (i := 953) (by decide +kernel), List.mem_of_getElem? (i := 1286) (by decide +kernel), List.mem_of_getElem? (i := 1287) (by decide +kernel)⟩
def lw_privs_5 : List (MethodName × Nat) := [(⟨"TinyFrontModel", "behindPoint", "(II)I"⟩, 63), (⟨"TinyFrontModel", "open", "(I)Z"⟩, 63), (⟨"TinyFrontModel", "move", "(II)I"⟩, 63), (⟨"TinyFrontModel", "forgetTokens", "()V"⟩, 63), (⟨"TinyFrontModel", "skip", "(I)I"⟩, 63), (⟨"TinyFrontModel", "byteAt", "(I)I"⟩, 63), (⟨"TinyFrontModel", "readToken", "(I)Z"⟩, 63), (⟨"TinyFrontModel", "readName", "(I)Z"⟩, 63), (⟨"TinyFrontModel", "wordOf", "(II)I"⟩, 63), (⟨"TinyFrontModel", "slotOf", "(II)I"⟩, 63), (⟨"TinyFrontModel", "add", "(IIII)V"⟩, 63), (⟨"TinyFrontModel", "goOver", "()I"⟩, 63), (⟨"TinyFrontModel", "ruleFor", "(II)I"⟩, 63), (⟨"TinyFrontModel", "reduce", "(I)I"⟩, 63), (⟨"TinyFrontModel", "statement", "(I)I"⟩, 63), (⟨"TinyFrontModel", "thing", "(II)I"⟩, 63)]
theorem lw_r5 : ∀ q ∈ lw_privs_5, lw_okq q := List.forall_mem_cons.mpr ⟨lw_p64, List.forall_mem_cons.mpr ⟨lw_p65, List.forall_mem_cons.mpr ⟨lw_p66, List.forall_mem_cons.mpr ⟨lw_p67, List.forall_mem_cons.mpr ⟨lw_p68, List.forall_mem_cons.mpr ⟨lw_p69, List.forall_mem_cons.mpr ⟨lw_p70, List.forall_mem_cons.mpr ⟨lw_p71, List.forall_mem_cons.mpr ⟨lw_p72, List.forall_mem_cons.mpr ⟨lw_p73, List.forall_mem_cons.mpr ⟨lw_p74, List.forall_mem_cons.mpr ⟨lw_p75, List.forall_mem_cons.mpr ⟨lw_p76, List.forall_mem_cons.mpr ⟨lw_p77, List.forall_mem_cons.mpr ⟨lw_p78, List.forall_mem_cons.mpr ⟨lw_p79, fun _ h => absurd h List.not_mem_nil⟩⟩⟩⟩⟩⟩⟩⟩⟩⟩⟩⟩⟩⟩⟩⟩
theorem lw_p80 : lw_okq (⟨"TinyFrontModel", "one", "(III)I"⟩, 63) := ⟨⟨by decide +kernel, by decide +kernel⟩, List.mem_of_getElem? (i := 953) (by decide +kernel), List.mem_of_getElem? (i := 1290) (by decide +kernel), List.mem_of_getElem? (i := 1291) (by decide +kernel)⟩
theorem lw_p81 : lw_okq (⟨"TinyFrontModel", "raw", "(II)I"⟩, 63) := ⟨⟨by decide +kernel, by decide +kernel⟩, List.mem_of_getElem? (i := 953) (by decide +kernel), List.mem_of_getElem? (i := 1294) (by decide +kernel), List.mem_of_getElem? (i := 1295) (by decide +kernel)⟩
theorem lw_p82 : lw_okq (⟨"TinyFrontModel", "hang", "(II)V"⟩, 63) := ⟨⟨by decide +kernel, by decide +kernel⟩, List.mem_of_getElem? (i := 953) (by decide +kernel), List.mem_of_getElem? (i := 1298) (by decide +kernel), List.mem_of_getElem? (i := 1299) (by decide +kernel)⟩
theorem lw_p83 : lw_okq (⟨"TinyFrontModel", "two", "(II)I"⟩, 63) := ⟨⟨by decide +kernel, by decide +kernel⟩, List.mem_of_getElem? (i := 953) (by decide +kernel), List.mem_of_getElem? (i := 1302) (by decide +kernel), List.mem_of_getElem? (i := 1303) (by decide +kernel)⟩
theorem lw_p84 : lw_okq (⟨"TinyFrontModel", "number", "(I)V"⟩, 63) := ⟨⟨by decide +kernel, by decide +kernel⟩, List.mem_of_getElem? (i := 953) (by decide +kernel), List.mem_of_getElem? (i := 1306) (by decide +kernel), List.mem_of_getElem? (i := 1307) (by decide +kernel)⟩
theorem lw_p85 : lw_okq (⟨"TinyFrontModel", "measure", "()I"⟩, 63) := ⟨⟨by decide +kernel, by decide +kernel⟩, List.mem_of_getElem? (i := 953) (by decide +kernel), List.mem_of_getElem? (i := 1310) (by decide +kernel), List.mem_of_getElem? (i := 1311) (by decide +kernel)⟩
theorem lw_p86 : lw_okq (⟨"TinyFrontModel", "strayToken", "()I"⟩, 63) := ⟨⟨by decide +kernel, by decide +kernel⟩, List.mem_of_getElem? (i := 953) (by decide +kernel), List.mem_of_getElem? (i := 1314) (by decide +kernel), List.mem_of_getElem? (i := 1315) (by decide +kernel)⟩
theorem lw_p87 : lw_okq (⟨"TinyFrontModel", "whileOf", "(I)I"⟩, 63) := ⟨⟨by decide +kernel, by decide +kernel⟩, List.mem_of_getElem? (i := 953) (by decide +kernel), List.mem_of_getElem? (i := 1318) (by decide +kernel), List.mem_of_getElem? (i := 1319) (by decide +kernel)⟩
theorem lw_p88 : lw_okq (⟨"TinyFrontModel", "before", "(II)V"⟩, 63) := ⟨⟨by decide +kernel, by decide +kernel⟩, List.mem_of_getElem? (i := 953) (by decide +kernel), List.mem_of_getElem? (i := 1334) (by decide +kernel), List.mem_of_getElem? (i := 1335) (by decide +kernel)⟩
theorem lw_p89 : lw_okq (⟨"TinyFrontModel", "emit", "(II)I"⟩, 63) := ⟨⟨by decide +kernel, by decide +kernel⟩, List.mem_of_getElem? (i := 953) (by decide +kernel), List.mem_of_getElem? (i := 1338) (by decide +kernel), List.mem_of_getElem? (i := 1339) (by decide +kernel)⟩
theorem lw_p90 : lw_okq (⟨"TinyFrontModel", "leave", "(I)V"⟩, 63) := ⟨⟨by decide +kernel, by decide +kernel⟩, List.mem_of_getElem? (i := 953) (by decide +kernel), List.mem_of_getElem? (i := 1342) (by decide +kernel), List.mem_of_getElem? (i := 1343) (by decide +kernel)⟩
theorem lw_p91 : lw_okq (⟨"TinyFrontModel", "behindWhile", "(I)V"⟩, 63) := ⟨⟨by decide +kernel, by decide +kernel⟩, List.mem_of_getElem? (i := 953) (by decide +kernel), List.mem_of_getElem? (i := 1346) (by decide +kernel), List.mem_of_getElem? (i := 1347) (by decide +kernel)⟩
theorem lw_p92 : lw_okq (⟨"TinyFrontModel", "behindAnd", "(I)V"⟩, 63) := ⟨⟨by decide +kernel, by decide +kernel⟩, List.mem_of_getElem? (i := 953) (by decide +kernel), List.mem_of_getElem? (i := 1350) (by decide +kernel), List.mem_of_getElem? (i := 1351) (by decide +kernel)⟩
theorem lw_p93 : lw_okq (⟨"TinyFrontModel", "begin", "(I)V"⟩, 63) := ⟨⟨by decide +kernel, by decide +kernel⟩, List.mem_of_getElem? (i := 953) (by decide +kernel), List.mem_of_getElem? (i := 1370) (by decide +kernel), List.mem_of_getElem? (i := 1371) (by decide +kernel)⟩
theorem lw_p94 : lw_okq (⟨"TinyFrontModel", "goTree", "()I"⟩, 63) := ⟨⟨by decide +kernel, by decide +kernel⟩, List.mem_of_getElem? (i := 953) (by decide +kernel), List.mem_of_getElem? (i := 1374) (by decide +kernel), List.mem_of_getElem? (i := 1375) (by decide +kernel)⟩
theorem lw_p95 : lw_okq (⟨"TinyFrontModel", "advance", "(I)I"⟩, 63) := ⟨⟨by decide +kernel, by decide +kernel⟩, List.mem_of_getElem? (i := 953) (by decide +kernel), List.mem_of_getElem? (i := 1378) (by decide +kernel), List.mem_of_getElem? (i := 1379) (by decide +kernel)⟩
def lw_privs_6 : List (MethodName × Nat) := [(⟨"TinyFrontModel", "one", "(III)I"⟩, 63), (⟨"TinyFrontModel", "raw", "(II)I"⟩, 63), (⟨"TinyFrontModel", "hang", "(II)V"⟩, 63), (⟨"TinyFrontModel", "two", "(II)I"⟩, 63), (⟨"TinyFrontModel", "number", "(I)V"⟩, 63), (⟨"TinyFrontModel", "measure", "()I"⟩, 63), (⟨"TinyFrontModel", "strayToken", "()I"⟩, 63), (⟨"TinyFrontModel", "whileOf", "(I)I"⟩, 63), (⟨"TinyFrontModel", "before", "(II)V"⟩, 63), (⟨"TinyFrontModel", "emit", "(II)I"⟩, 63), (⟨"TinyFrontModel", "leave", "(I)V"⟩, 63), (⟨"TinyFrontModel", "behindWhile", "(I)V"⟩, 63), (⟨"TinyFrontModel", "behindAnd", "(I)V"⟩, 63), (⟨"TinyFrontModel", "begin", "(I)V"⟩, 63), (⟨"TinyFrontModel", "goTree", "()I"⟩, 63), (⟨"TinyFrontModel", "advance", "(I)I"⟩, 63)]
theorem lw_r6 : ∀ q ∈ lw_privs_6, lw_okq q := List.forall_mem_cons.mpr ⟨lw_p80, List.forall_mem_cons.mpr ⟨lw_p81, List.forall_mem_cons.mpr ⟨lw_p82, List.forall_mem_cons.mpr ⟨lw_p83, List.forall_mem_cons.mpr ⟨lw_p84, List.forall_mem_cons.mpr ⟨lw_p85, List.forall_mem_cons.mpr ⟨lw_p86, List.forall_mem_cons.mpr ⟨lw_p87, List.forall_mem_cons.mpr ⟨lw_p88, List.forall_mem_cons.mpr ⟨lw_p89, List.forall_mem_cons.mpr ⟨lw_p90, List.forall_mem_cons.mpr ⟨lw_p91, List.forall_mem_cons.mpr ⟨lw_p92, List.forall_mem_cons.mpr ⟨lw_p93, List.forall_mem_cons.mpr ⟨lw_p94, List.forall_mem_cons.mpr ⟨lw_p95, fun _ h => absurd h List.not_mem_nil⟩⟩⟩⟩⟩⟩⟩⟩⟩⟩⟩⟩⟩⟩⟩⟩
theorem lw_p96 : lw_okq (⟨"TinyFrontModel", "pop", "()I"⟩, 63) := ⟨⟨by decide +kernel, by decide +kernel⟩, List.mem_of_getElem? (i := 953) (by decide +kernel), List.mem_of_getElem? (i := 1382) (by decide +kernel), List.mem_of_getElem? (i := 1383) (by decide +kernel)⟩
theorem lw_p97 : lw_okq (⟨"TinyFrontModel", "print", "(I)V"⟩, 63) := ⟨⟨by decide +kernel, by decide +kernel⟩, List.mem_of_getElem? (i := 953) (by decide +kernel), List.mem_of_getElem? (i := 1386) (by decide +kernel), List.mem_of_getElem? (i := 1387) (by decide +kernel)⟩
theorem lw_p98 : lw_okq (⟨"TinyFrontModel", "choose", "(I)I"⟩, 63) := ⟨⟨by decide +kernel, by decide +kernel⟩, List.mem_of_getElem? (i := 953) (by decide +kernel), List.mem_of_getElem? (i := 1390) (by decide +kernel), List.mem_of_getElem? (i := 1391) (by decide +kernel)⟩
theorem lw_p99 : lw_okq (⟨"TinyFrontModel", "round", "(I)I"⟩, 63) := ⟨⟨by decide +kernel, by decide +kernel⟩, List.mem_of_getElem? (i := 953) (by decide +kernel), List.mem_of_getElem? (i := 1394) (by decide +kernel), List.mem_of_getElem? (i := 1395) (by decide +kernel)⟩
theorem lw_p100 : lw_okq (⟨"TinyFrontModel", "burn", "(I)Z"⟩, 63) := ⟨⟨by decide +kernel, by decide +kernel⟩, List.mem_of_getElem? (i := 953) (by decide +kernel), List.mem_of_getElem? (i := 1398) (by decide +kernel), List.mem_of_getElem? (i := 1399) (by decide +kernel)⟩
theorem lw_p101 : lw_okq (⟨"TinyFrontModel", "logic", "(I)I"⟩, 63) := ⟨⟨by decide +kernel, by decide +kernel⟩, List.mem_of_getElem? (i := 953) (by decide +kernel), List.mem_of_getElem? (i := 1402) (by decide +kernel), List.mem_of_getElem? (i := 1403) (by decide +kernel)⟩
theorem lw_p102 : lw_okq (⟨"TinyFrontModel", "push", "(I)V"⟩, 63) := ⟨⟨by decide +kernel, by decide +kernel⟩, List.mem_of_getElem? (i := 953) (by decide +kernel), List.mem_of_getElem? (i := 1409) (by decide +kernel), List.mem_of_getElem? (i := 1410) (by decide +kernel)⟩
theorem lw_p103 : lw_okq (⟨"TinyFrontModel", "joinTwo", "(I)I"⟩, 63) := ⟨⟨by decide +kernel, by decide +kernel⟩, List.mem_of_getElem? (i := 953) (by decide +kernel), List.mem_of_getElem? (i := 1413) (by decide +kernel), List.mem_of_getElem? (i := 1414) (by decide +kernel)⟩
theorem lw_p104 : lw_okq (⟨"TinyFrontModel", "goCode", "()I"⟩, 63) := ⟨⟨by decide +kernel, by decide +kernel⟩, List.mem_of_getElem? (i := 953) (by decide +kernel), List.mem_of_getElem? (i := 1424) (by decide +kernel), List.mem_of_getElem? (i := 1425) (by decide +kernel)⟩
theorem lw_p105 : lw_okq (⟨"TinyFrontModel", "word", "(I)I"⟩, 63) := ⟨⟨by decide +kernel, by decide +kernel⟩, List.mem_of_getElem? (i := 953) (by decide +kernel), List.mem_of_getElem? (i := 1428) (by decide +kernel), List.mem_of_getElem? (i := 1429) (by decide +kernel)⟩
def lw_privs_7 : List (MethodName × Nat) := [(⟨"TinyFrontModel", "pop", "()I"⟩, 63), (⟨"TinyFrontModel", "print", "(I)V"⟩, 63), (⟨"TinyFrontModel", "choose", "(I)I"⟩, 63), (⟨"TinyFrontModel", "round", "(I)I"⟩, 63), (⟨"TinyFrontModel", "burn", "(I)Z"⟩, 63), (⟨"TinyFrontModel", "logic", "(I)I"⟩, 63), (⟨"TinyFrontModel", "push", "(I)V"⟩, 63), (⟨"TinyFrontModel", "joinTwo", "(I)I"⟩, 63), (⟨"TinyFrontModel", "goCode", "()I"⟩, 63), (⟨"TinyFrontModel", "word", "(I)I"⟩, 63)]
theorem lw_r7 : ∀ q ∈ lw_privs_7, lw_okq q := List.forall_mem_cons.mpr ⟨lw_p96, List.forall_mem_cons.mpr ⟨lw_p97, List.forall_mem_cons.mpr ⟨lw_p98, List.forall_mem_cons.mpr ⟨lw_p99, List.forall_mem_cons.mpr ⟨lw_p100, List.forall_mem_cons.mpr ⟨lw_p101, List.forall_mem_cons.mpr ⟨lw_p102, List.forall_mem_cons.mpr ⟨lw_p103, List.forall_mem_cons.mpr ⟨lw_p104, List.forall_mem_cons.mpr ⟨lw_p105, fun _ h => absurd h List.not_mem_nil⟩⟩⟩⟩⟩⟩⟩⟩⟩⟩
def lw_privs : List (MethodName × Nat) := lw_privs_1 ++ (lw_privs_2 ++ (lw_privs_3 ++ (lw_privs_4 ++ (lw_privs_5 ++ (lw_privs_6 ++ (lw_privs_7))))))
def lw_tbl : List Cond := k2_sels lw_privs ++ tables_1
theorem lw_privs_ok : ∀ q ∈ lw_privs, lw_okq q := by
  show ∀ q ∈ lw_privs_1 ++ (lw_privs_2 ++ (lw_privs_3 ++ (lw_privs_4 ++ (lw_privs_5 ++ (lw_privs_6 ++ (lw_privs_7)))))), lw_okq q
  exact List.forall_mem_append.mpr ⟨lw_r1, List.forall_mem_append.mpr ⟨lw_r2, List.forall_mem_append.mpr ⟨lw_r3, List.forall_mem_append.mpr ⟨lw_r4, List.forall_mem_append.mpr ⟨lw_r5, List.forall_mem_append.mpr ⟨lw_r6, lw_r7⟩⟩⟩⟩⟩⟩
end
section
def RX0 : String := "TinyFront$Code"
def TX0 : u_T := fun k => match k with
  | 0 => ("TinyFront$Code", "number", "[I", true)
  | 1 => ("TinyFront$Code", "operand", "[I", true)
  | 2 => ("TinyFront$Code", "count", "I", false)
  | 3 => ("TinyFront$Code", "start", "[I", true)
  | _ => ("TinyFront$Code", "wordCount", "[I", true)
def tyX0 : Nat → FieldType := fun k => match k with
  | 0 => .array .int
  | 1 => .array .int
  | 2 => .int
  | 3 => .array .int
  | _ => .array .int
theorem nmX0 : ∀ a, a < 5 → ∀ b, b < 5 → a ≠ b → (TX0 a).2.1 ≠ (TX0 b).2.1 := by decide +kernel
theorem tyX0_ok : ∀ k, k < 5 → parseFieldDescriptor (TX0 k).2.2.1 = some (tyX0 k) := by decide +kernel
def RX1 : String := "TinyFront$CodeEngine"
def TX1 : u_T := fun k => match k with
  | 0 => ("TinyFront$CodeEngine", "words", "LTinyFront$Code;", true)
  | 1 => ("TinyFront$CodeEngine", "run", "LTinyFront$Run;", true)
  | 2 => ("TinyFront$CodeEngine", "pile", "[I", true)
  | _ => ("TinyFront$CodeEngine", "depth", "I", false)
def tyX1 : Nat → FieldType := fun k => match k with
  | 0 => .object "TinyFront$Code"
  | 1 => .object "TinyFront$Run"
  | 2 => .array .int
  | _ => .int
theorem nmX1 : ∀ a, a < 4 → ∀ b, b < 4 → a ≠ b → (TX1 a).2.1 ≠ (TX1 b).2.1 := by decide +kernel
theorem tyX1_ok : ∀ k, k < 4 → parseFieldDescriptor (TX1 k).2.2.1 = some (tyX1 k) := by decide +kernel
def RX2 : String := "TinyFront$Parser"
def TX2 : u_T := fun k => match k with
  | 0 => ("TinyFront$Parser", "told", "[I", true)
  | 1 => ("TinyFront$Parser", "toldCount", "I", false)
  | 2 => ("TinyFront$Parser", "grown", "LTinyFront$Tree;", true)
  | 3 => ("TinyFront$Parser", "table", "LTinyFront$Table;", true)
  | 4 => ("TinyFront$Parser", "sets", "[I", true)
  | 5 => ("TinyFront$Parser", "notes", "[I", true)
  | _ => ("TinyFront$Parser", "depth", "I", false)
def tyX2 : Nat → FieldType := fun k => match k with
  | 0 => .array .int
  | 1 => .int
  | 2 => .object "TinyFront$Tree"
  | 3 => .object "TinyFront$Table"
  | 4 => .array .int
  | 5 => .array .int
  | _ => .int
theorem nmX2 : ∀ a, a < 7 → ∀ b, b < 7 → a ≠ b → (TX2 a).2.1 ≠ (TX2 b).2.1 := by decide +kernel
theorem tyX2_ok : ∀ k, k < 7 → parseFieldDescriptor (TX2 k).2.2.1 = some (tyX2 k) := by decide +kernel
def RX3 : String := "TinyFront$Paths"
def TX3 : u_T := fun k => match k with
  | 0 => ("TinyFront$Paths", "loop", "[I", true)
  | 1 => ("TinyFront$Paths", "end", "I", false)
  | 2 => ("TinyFront$Paths", "next", "[I", true)
  | _ => ("TinyFront$Paths", "entry", "[I", true)
def tyX3 : Nat → FieldType := fun k => match k with
  | 0 => .array .int
  | 1 => .int
  | 2 => .array .int
  | _ => .array .int
theorem nmX3 : ∀ a, a < 4 → ∀ b, b < 4 → a ≠ b → (TX3 a).2.1 ≠ (TX3 b).2.1 := by decide +kernel
theorem tyX3_ok : ∀ k, k < 4 → parseFieldDescriptor (TX3 k).2.2.1 = some (tyX3 k) := by decide +kernel
def RX4 : String := "TinyFront$Run"
def TX4 : u_T := fun k => match k with
  | 0 => ("TinyFront$Run", "known", "Z", false)
  | 1 => ("TinyFront$Run", "how", "I", false)
  | 2 => ("TinyFront$Run", "fuel", "I", false)
  | 3 => ("TinyFront$Run", "taken", "I", false)
  | 4 => ("TinyFront$Run", "last", "I", false)
  | 5 => ("TinyFront$Run", "printed", "I", false)
  | 6 => ("TinyFront$Run", "kept", "[I", true)
  | _ => ("TinyFront$Run", "variables", "[I", true)
def tyX4 : Nat → FieldType := fun k => match k with
  | 0 => .boolean
  | 1 => .int
  | 2 => .int
  | 3 => .int
  | 4 => .int
  | 5 => .int
  | 6 => .array .int
  | _ => .array .int
theorem nmX4 : ∀ a, a < 8 → ∀ b, b < 8 → a ≠ b → (TX4 a).2.1 ≠ (TX4 b).2.1 := by decide +kernel
theorem tyX4_ok : ∀ k, k < 8 → parseFieldDescriptor (TX4 k).2.2.1 = some (tyX4 k) := by decide +kernel
def RX5 : String := "TinyFront$Table"
def TX5 : u_T := fun k => match k with
  | 0 => ("TinyFront$Table", "acts", "[I", true)
  | 1 => ("TinyFront$Table", "start", "[I", true)
  | 2 => ("TinyFront$Table", "rowLength", "[I", true)
  | 3 => ("TinyFront$Table", "first", "[I", true)
  | 4 => ("TinyFront$Table", "follow", "[I", true)
  | 5 => ("TinyFront$Table", "cores", "[I", true)
  | 6 => ("TinyFront$Table", "coreSize", "[I", true)
  | 7 => ("TinyFront$Table", "sets", "I", false)
  | 8 => ("TinyFront$Table", "moved", "[I", true)
  | 9 => ("TinyFront$Table", "movedCount", "I", false)
  | 10 => ("TinyFront$Table", "members", "[I", true)
  | _ => ("TinyFront$Table", "memberCount", "I", false)
def tyX5 : Nat → FieldType := fun k => match k with
  | 0 => .array .int
  | 1 => .array .int
  | 2 => .array .int
  | 3 => .array .int
  | 4 => .array .int
  | 5 => .array .int
  | 6 => .array .int
  | 7 => .int
  | 8 => .array .int
  | 9 => .int
  | 10 => .array .int
  | _ => .int
theorem nmX5 : ∀ a, a < 12 → ∀ b, b < 12 → a ≠ b → (TX5 a).2.1 ≠ (TX5 b).2.1 := by decide +kernel
theorem tyX5_ok : ∀ k, k < 12 → parseFieldDescriptor (TX5 k).2.2.1 = some (tyX5 k) := by decide +kernel
def RX6 : String := "TinyFront$Tokens"
def TX6 : u_T := fun k => match k with
  | 0 => ("TinyFront$Tokens", "kind", "[I", true)
  | 1 => ("TinyFront$Tokens", "begin", "[I", true)
  | 2 => ("TinyFront$Tokens", "size", "[I", true)
  | 3 => ("TinyFront$Tokens", "worth", "[I", true)
  | 4 => ("TinyFront$Tokens", "count", "I", false)
  | 5 => ("TinyFront$Tokens", "names", "I", false)
  | 6 => ("TinyFront$Tokens", "known", "Z", false)
  | 7 => ("TinyFront$Tokens", "nameBegin", "[I", true)
  | 8 => ("TinyFront$Tokens", "nameSize", "[I", true)
  | 9 => ("TinyFront$Tokens", "text", "[I", true)
  | _ => ("TinyFront$Tokens", "length", "I", false)
def tyX6 : Nat → FieldType := fun k => match k with
  | 0 => .array .int
  | 1 => .array .int
  | 2 => .array .int
  | 3 => .array .int
  | 4 => .int
  | 5 => .int
  | 6 => .boolean
  | 7 => .array .int
  | 8 => .array .int
  | 9 => .array .int
  | _ => .int
theorem nmX6 : ∀ a, a < 11 → ∀ b, b < 11 → a ≠ b → (TX6 a).2.1 ≠ (TX6 b).2.1 := by decide +kernel
theorem tyX6_ok : ∀ k, k < 11 → parseFieldDescriptor (TX6 k).2.2.1 = some (tyX6 k) := by decide +kernel
def RX7 : String := "TinyFront$Tree"
def TX7 : u_T := fun k => match k with
  | 0 => ("TinyFront$Tree", "kind", "[I", true)
  | 1 => ("TinyFront$Tree", "token", "[I", true)
  | 2 => ("TinyFront$Tree", "parts", "[I", true)
  | 3 => ("TinyFront$Tree", "height", "[I", true)
  | 4 => ("TinyFront$Tree", "size", "[I", true)
  | 5 => ("TinyFront$Tree", "count", "I", false)
  | _ => ("TinyFront$Tree", "placeOf", "[I", true)
def tyX7 : Nat → FieldType := fun k => match k with
  | 0 => .array .int
  | 1 => .array .int
  | 2 => .array .int
  | 3 => .array .int
  | 4 => .array .int
  | 5 => .int
  | _ => .array .int
theorem nmX7 : ∀ a, a < 7 → ∀ b, b < 7 → a ≠ b → (TX7 a).2.1 ≠ (TX7 b).2.1 := by decide +kernel
theorem tyX7_ok : ∀ k, k < 7 → parseFieldDescriptor (TX7 k).2.2.1 = some (tyX7 k) := by decide +kernel
def RX8 : String := "TinyFront$TreeEngine"
def TX8 : u_T := fun k => match k with
  | 0 => ("TinyFront$TreeEngine", "tree", "LTinyFront$Tree;", true)
  | 1 => ("TinyFront$TreeEngine", "paths", "LTinyFront$Paths;", true)
  | 2 => ("TinyFront$TreeEngine", "tokens", "LTinyFront$Tokens;", true)
  | 3 => ("TinyFront$TreeEngine", "run", "LTinyFront$Run;", true)
  | 4 => ("TinyFront$TreeEngine", "waiting", "[I", true)
  | 5 => ("TinyFront$TreeEngine", "firstValue", "[I", true)
  | 6 => ("TinyFront$TreeEngine", "depth", "I", false)
  | _ => ("TinyFront$TreeEngine", "result", "I", false)
def tyX8 : Nat → FieldType := fun k => match k with
  | 0 => .object "TinyFront$Tree"
  | 1 => .object "TinyFront$Paths"
  | 2 => .object "TinyFront$Tokens"
  | 3 => .object "TinyFront$Run"
  | 4 => .array .int
  | 5 => .array .int
  | 6 => .int
  | _ => .int
theorem nmX8 : ∀ a, a < 8 → ∀ b, b < 8 → a ≠ b → (TX8 a).2.1 ≠ (TX8 b).2.1 := by decide +kernel
theorem tyX8_ok : ∀ k, k < 8 → parseFieldDescriptor (TX8 k).2.2.1 = some (tyX8 k) := by decide +kernel
def RX9 : String := "TinyFront"
def TX9 : u_T := fun k => match k with
  | 0 => ("TinyFront", "text", "[I", true)
  | 1 => ("TinyFront", "length", "I", false)
  | 2 => ("TinyFront", "tokens", "LTinyFront$Tokens;", true)
  | 3 => ("TinyFront", "parser", "LTinyFront$Parser;", true)
  | 4 => ("TinyFront", "tree", "LTinyFront$Tree;", true)
  | 5 => ("TinyFront", "paths", "LTinyFront$Paths;", true)
  | 6 => ("TinyFront", "treeKnown", "Z", false)
  | 7 => ("TinyFront", "words", "LTinyFront$Code;", true)
  | 8 => ("TinyFront", "wordsKnown", "Z", false)
  | 9 => ("TinyFront", "inputs", "[I", true)
  | 10 => ("TinyFront", "run", "LTinyFront$Run;", true)
  | 11 => ("TinyFront", "treeEngine", "LTinyFront$TreeEngine;", true)
  | _ => ("TinyFront", "codeEngine", "LTinyFront$CodeEngine;", true)
def tyX9 : Nat → FieldType := fun k => match k with
  | 0 => .array .int
  | 1 => .int
  | 2 => .object "TinyFront$Tokens"
  | 3 => .object "TinyFront$Parser"
  | 4 => .object "TinyFront$Tree"
  | 5 => .object "TinyFront$Paths"
  | 6 => .boolean
  | 7 => .object "TinyFront$Code"
  | 8 => .boolean
  | 9 => .array .int
  | 10 => .object "TinyFront$Run"
  | 11 => .object "TinyFront$TreeEngine"
  | _ => .object "TinyFront$CodeEngine"
theorem nmX9 : ∀ a, a < 13 → ∀ b, b < 13 → a ≠ b → (TX9 a).2.1 ≠ (TX9 b).2.1 := by decide +kernel
theorem tyX9_ok : ∀ k, k < 13 → parseFieldDescriptor (TX9 k).2.2.1 = some (tyX9 k) := by decide +kernel
def RX10 : String := "TinyFrontModel"
def TX10 : u_T := fun k => match k with
  | 0 => ("TinyFrontModel", "lefts", "[I", true)
  | 1 => ("TinyFrontModel", "longs", "[I", true)
  | 2 => ("TinyFrontModel", "rows", "[I", true)
  | 3 => ("TinyFrontModel", "rowAt", "[I", true)
  | 4 => ("TinyFrontModel", "itemAt", "[I", true)
  | 5 => ("TinyFrontModel", "sets", "[Z", true)
  | 6 => ("TinyFrontModel", "goes", "[I", true)
  | 7 => ("TinyFrontModel", "setMany", "I", false)
  | 8 => ("TinyFrontModel", "work", "[Z", true)
  | 9 => ("TinyFrontModel", "firsts", "[Z", true)
  | 10 => ("TinyFrontModel", "follows", "[Z", true)
  | 11 => ("TinyFrontModel", "text", "[I", true)
  | 12 => ("TinyFrontModel", "size", "I", false)
  | 13 => ("TinyFrontModel", "hasTokens", "Z", false)
  | 14 => ("TinyFrontModel", "tokenKind", "[I", true)
  | 15 => ("TinyFrontModel", "tokenAt", "[I", true)
  | 16 => ("TinyFrontModel", "tokenLong", "[I", true)
  | 17 => ("TinyFrontModel", "tokenValue", "[I", true)
  | 18 => ("TinyFrontModel", "tokens", "I", false)
  | 19 => ("TinyFrontModel", "slotAt", "[I", true)
  | 20 => ("TinyFrontModel", "slotLong", "[I", true)
  | 21 => ("TinyFrontModel", "slotMany", "I", false)
  | 22 => ("TinyFrontModel", "pileSet", "[I", true)
  | 23 => ("TinyFrontModel", "pileThing", "[I", true)
  | 24 => ("TinyFrontModel", "piled", "I", false)
  | 25 => ("TinyFrontModel", "rules", "[I", true)
  | 26 => ("TinyFrontModel", "ruleMany", "I", false)
  | 27 => ("TinyFrontModel", "rawKind", "[I", true)
  | 28 => ("TinyFrontModel", "rawToken", "[I", true)
  | 29 => ("TinyFrontModel", "rawFirst", "[I", true)
  | 30 => ("TinyFrontModel", "rawLast", "[I", true)
  | 31 => ("TinyFrontModel", "rawNext", "[I", true)
  | 32 => ("TinyFrontModel", "rawUp", "[I", true)
  | 33 => ("TinyFrontModel", "rawMany", "I", false)
  | 34 => ("TinyFrontModel", "hasTree", "Z", false)
  | 35 => ("TinyFrontModel", "kinds", "[I", true)
  | 36 => ("TinyFrontModel", "nodeToken", "[I", true)
  | 37 => ("TinyFrontModel", "parts", "[I", true)
  | 38 => ("TinyFrontModel", "heights", "[I", true)
  | 39 => ("TinyFrontModel", "firstPart", "[I", true)
  | 40 => ("TinyFrontModel", "lastPart", "[I", true)
  | 41 => ("TinyFrontModel", "nextPart", "[I", true)
  | 42 => ("TinyFrontModel", "upper", "[I", true)
  | 43 => ("TinyFrontModel", "nodes", "I", false)
  | 44 => ("TinyFrontModel", "hasCode", "Z", false)
  | 45 => ("TinyFrontModel", "codeOp", "[I", true)
  | 46 => ("TinyFrontModel", "codeValue", "[I", true)
  | 47 => ("TinyFrontModel", "words", "I", false)
  | 48 => ("TinyFrontModel", "phase", "[I", true)
  | 49 => ("TinyFrontModel", "current", "[I", true)
  | 50 => ("TinyFrontModel", "markOne", "[I", true)
  | 51 => ("TinyFrontModel", "markTwo", "[I", true)
  | 52 => ("TinyFrontModel", "inputs", "[I", true)
  | 53 => ("TinyFrontModel", "values", "[I", true)
  | 54 => ("TinyFrontModel", "pile", "[I", true)
  | 55 => ("TinyFrontModel", "height", "I", false)
  | 56 => ("TinyFrontModel", "hasRun", "Z", false)
  | 57 => ("TinyFrontModel", "how", "I", false)
  | 58 => ("TinyFrontModel", "most", "I", false)
  | 59 => ("TinyFrontModel", "fuel", "I", false)
  | 60 => ("TinyFrontModel", "latest", "I", false)
  | 61 => ("TinyFrontModel", "outMany", "I", false)
  | _ => ("TinyFrontModel", "outs", "[I", true)
def tyX10 : Nat → FieldType := fun k => match k with
  | 0 => .array .int
  | 1 => .array .int
  | 2 => .array .int
  | 3 => .array .int
  | 4 => .array .int
  | 5 => .array .boolean
  | 6 => .array .int
  | 7 => .int
  | 8 => .array .boolean
  | 9 => .array .boolean
  | 10 => .array .boolean
  | 11 => .array .int
  | 12 => .int
  | 13 => .boolean
  | 14 => .array .int
  | 15 => .array .int
  | 16 => .array .int
  | 17 => .array .int
  | 18 => .int
  | 19 => .array .int
  | 20 => .array .int
  | 21 => .int
  | 22 => .array .int
  | 23 => .array .int
  | 24 => .int
  | 25 => .array .int
  | 26 => .int
  | 27 => .array .int
  | 28 => .array .int
  | 29 => .array .int
  | 30 => .array .int
  | 31 => .array .int
  | 32 => .array .int
  | 33 => .int
  | 34 => .boolean
  | 35 => .array .int
  | 36 => .array .int
  | 37 => .array .int
  | 38 => .array .int
  | 39 => .array .int
  | 40 => .array .int
  | 41 => .array .int
  | 42 => .array .int
  | 43 => .int
  | 44 => .boolean
  | 45 => .array .int
  | 46 => .array .int
  | 47 => .int
  | 48 => .array .int
  | 49 => .array .int
  | 50 => .array .int
  | 51 => .array .int
  | 52 => .array .int
  | 53 => .array .int
  | 54 => .array .int
  | 55 => .int
  | 56 => .boolean
  | 57 => .int
  | 58 => .int
  | 59 => .int
  | 60 => .int
  | 61 => .int
  | _ => .array .int
theorem nmX10 : ∀ a, a < 63 → ∀ b, b < 63 → a ≠ b → (TX10 a).2.1 ≠ (TX10 b).2.1 := by decide +kernel
theorem tyX10_ok : ∀ k, k < 63 → parseFieldDescriptor (TX10 k).2.2.1 = some (tyX10 k) := by decide +kernel
abbrev vwCl : List vw_C := [(RX0, TX0, 5), (RX1, TX1, 4), (RX2, TX2, 7), (RX3, TX3, 4), (RX4, TX4, 8), (RX5, TX5, 12), (RX6, TX6, 11), (RX7, TX7, 7), (RX8, TX8, 8), (RX9, TX9, 13), (RX10, TX10, 63)]
def mz_B : Nat := 300
abbrev mz_E : Type := Nat × Instr × Nat × Nat × Nat × Value
abbrev mz_D : Type := MethodName × ByteArray × Nat × Option FieldType × Nat × Nat × List mz_E
/-- static fields: class, name, descriptor, what they hold (a reference from mz_B on: an old cell) -/
def mz_sts : List (String × String × String × Value) := [("TinyFront$Code", "OWN_WORDS", "[I", .ref 300), ("TinyFront$Code", "WORDS_BETWEEN", "[I", .ref 301), ("TinyFront$Code", "WORD_OF", "[I", .ref 302), ("TinyFront$Parser", "NODE_OF", "[I", .ref 303), ("TinyFront$Parser", "PARTS_OF", "[I", .ref 304), ("TinyFront$Parser", "TOKEN_AT", "[I", .ref 305), ("TinyFront$Table", "LETTER_OF", "[I", .ref 306), ("TinyFront$Table", "ROWS", "[I", .ref 307), ("java/lang/String", "COMPACT_STRINGS", "Z", .int 1), ("java/lang/StringUTF16", "$assertionsDisabled", "Z", .int 1), ("java/lang/StringUTF16", "HI_BYTE_SHIFT", "I", .int 0), ("java/lang/StringUTF16", "LO_BYTE_SHIFT", "I", .int 8), ("jdk/internal/util/Preconditions", "SIOOBE_FORMATTER", "Ljava/util/function/BiFunction;", .ref 399)]
/-- old arrays of ints: number, how long, what they hold -/
def mz_a0 : List Int32 := [0, 1, 1, 1, 2, 1, 1, 4, 4, 1, 1, 1, 1, 1, 1, 1, 1, 1, 1, 1]
def mz_a1 : List Int32 := [0, 0, 0, 1, 1, 0, 0, 3, 1, 0, 0, 0, 0, 0, 0, 0, 0, 0, 0, 0]
def mz_a2 : List Int32 := [(-1), 2, 15, (-1), (-1), 13, 13, (-1), (-1), 8, 9, 3, 4, 5, 6, 7, 10, 11, 1, 0]
def mz_a3 : List Int32 := [(-1), (-1), (-1), 1, 2, 3, 3, 4, 5, 6, (-1), 0, 7, (-1), 8, (-1), 9, 10, (-1), 11, 12, (-1), 13, 14, 15, (-1), 16, 17, (-1), 18, 19, (-1)]
def mz_a4 : List Int32 := [0, 0, 0, 1, 1, 2, 3, 2, 0, 0, 0, 0, 2, 0, 2, 0, 2, 2, 0, 2, 2, 0, 2, 2, 2, 0, 1, 1, 0, 0, 0, 0]
def mz_a5 : List Int32 := [0, 0, 0, 0, 0, 0, 0, 0, 0, 0, 0, 0, 1, 0, 1, 0, 1, 1, 0, 1, 1, 0, 1, 1, 1, 0, 0, 0, 0, 0, 0, 0]
def mz_a6 : List Int32 := [25, 26, 26, 27, 27, 27, 27, 27, 27, 27, 27, 28, 29, 29, 30, 30, 31, 31, 31, 32, 32, 32, 33, 33, 33, 33, 34, 34, 34, 35, 35, 35]
def mz_a7 : List Int32 := [26, (-1), (-2), 26, 27, (-3), 1, 19, 29, 20, (-4), 3, 29, 20, (-5), 4, 21, 29, 22, 28, (-6), 4, 21, 29, 22, 28, 5, 28, (-7), 6, 21, 29, 22, 28, (-8), 7, 20, (-9), 8, 20, (-10), 28, (-11), 23, 26, 24, (-12), 29, 9, 30, (-13), 30, (-14), 30, 10, 31, (-15), 31, (-16), 31, 11, 32, (-17), 31, 12, 32, (-18), 32, (-19), 32, 13, 33, (-20), 32, 14, 33, (-21), 33, (-22), 33, 15, 34, (-23), 33, 16, 34, (-24), 33, 17, 34, (-25), 34, (-26), 14, 34, (-27), 18, 34, (-28), 35, (-29), 1, (-30), 2, (-31), 21, 29, 22, (-32)]
/-- old texts: the class and entry that load them, the text, its bytes -/
def mz_txs : List (String × Nat × String × List Int32) := [("TinyFront$Tokens", 109, "print", [112, 114, 105, 110, 116]), ("TinyFront$Tokens", 111, "if", [105, 102]), ("TinyFront$Tokens", 113, "else", [101, 108, 115, 101]), ("TinyFront$Tokens", 115, "while", [119, 104, 105, 108, 101]), ("TinyFront$Tokens", 117, "break", [98, 114, 101, 97, 107]), ("TinyFront$Tokens", 119, "next", [110, 101, 120, 116]), ("TinyFront$Tokens", 88, "|&=", [124, 38, 61]), ("TinyFront$Tokens", 95, "<+-*/%!=;(){}", [60, 43, 45, 42, 47, 37, 33, 61, 59, 40, 41, 123, 125])]
def mz_arrs : List (Nat × FieldType × List Int32) := [(0, .int, mz_a0), (1, .int, mz_a1), (2, .int, mz_a2), (3, .int, mz_a3), (4, .int, mz_a4), (5, .int, mz_a5), (6, .int, mz_a6), (7, .int, mz_a7), (30, .byte, [112, 114, 105, 110, 116]), (31, .byte, [105, 102]), (32, .byte, [101, 108, 115, 101]), (33, .byte, [119, 104, 105, 108, 101]), (34, .byte, [98, 114, 101, 97, 107]), (35, .byte, [110, 101, 120, 116]), (36, .byte, [124, 38, 61]), (37, .byte, [60, 43, 45, 42, 47, 37, 33, 61, 59, 40, 41, 123, 125])]
def mz_nst : List (String × Nat × MethodName) := [("TinyFront", 28, ⟨"TinyFront$Parser", "<init>", "()V"⟩), ("TinyFront$Parser", 21, ⟨"TinyFront$Tree", "<init>", "()V"⟩), ("TinyFront", 35, ⟨"TinyFront$Tree", "<init>", "()V"⟩), ("TinyFront", 42, ⟨"TinyFront$Paths", "<init>", "()V"⟩), ("TinyFront", 53, ⟨"TinyFront$Code", "<init>", "()V"⟩), ("TinyFront", 66, ⟨"TinyFront$Run", "<init>", "()V"⟩)]
/-- what a new object of a class holds: none an int, some none a null -/
def mz_n0 : Nat → List (Option (Option Nat)) := fun k => match k with
  | 0 => [some none, some none, none, some none, some none]
  | 1 => [some none, some none, some none, none]
  | 2 => [some none, none, some none, some none, some none, some none, none]
  | 3 => [some none, none, some none, some none]
  | 4 => [none, none, none, none, none, none, some none, some none]
  | 5 => [some none, some none, some none, some none, some none, some none, some none, none, some none, none, some none, none]
  | 6 => [some none, some none, some none, some none, none, none, none, some none, some none, some none, none]
  | 7 => [some none, some none, some none, some none, some none, none, some none]
  | 8 => [some none, some none, some none, some none, some none, some none, none, none]
  | 9 => [some none, none, some none, some none, some none, some none, none, some none, none, some none, some none, some none, some none]
  | _ => [some none, some none, some none, some none, some none, some none, some none, none, some none, some none, some none, some none, none, none, some none, some none, some none, some none, none, some none, some none, none, some none, some none, none, some none, none, some none, some none, some none, some none, some none, some none, none, none, some none, some none, some none, some none, some none, some none, some none, some none, none, none, some none, some none, none, some none, some none, some none, some none, some none, some none, some none, none, none, none, none, none, none, none, some none]
/-- 0: TinyFrontLaw.law([I)Z -/
def mz_t0 : List mz_E := [(0, .new 7, 3, 9, 0, .null), (3, .dup, 1, 0, 0, .null), (4, .invokespecial 9, 3, 99, 1, .null), (7, .astore_n 1, 1, 1, 0, .null), (8, .new 10, 3, 10, 0, .null), (11, .dup, 1, 0, 0, .null), (12, .invokespecial 12, 3, 118, 1, .null), (15, .astore_n 2, 1, 2, 0, .null), (16, .iconst 0, 1, 0, 0, .int 0), (17, .istore_n 3, 1, 3, 0, .null), (18, .iload_n 3, 1, 3, 0, .null), (19, .aload_n 0, 1, 0, 0, .null), (20, .arraylength, 1, 0, 0, .null), (21, .iconst 4, 1, 0, 0, .int 4), (22, .isub, 1, 0, 0, .null), (23, .if_icmp .gt 493, 3, 516, 0, .null), (26, .aload_n 0, 1, 0, 0, .null), (27, .iload_n 3, 1, 3, 0, .null), (28, .iaload, 1, 0, 0, .null), (29, .bipush 15, 2, 0, 0, .int 15), (31, .iand, 1, 0, 0, .null), (32, .tableswitch 478 0 15 #[80, 143, 156, 169, 202, 215, 228, 251, 284, 297, 330, 363, 386, 409, 432, 455], 80, 0, 0, .null), (112, .aload_n 1, 1, 1, 0, .null), (113, .aload_n 0, 1, 0, 0, .null), (114, .iload_n 3, 1, 3, 0, .null), (115, .iconst 1, 1, 0, 0, .int 1), (116, .iadd, 1, 0, 0, .null), (117, .iaload, 1, 0, 0, .null), (118, .i2l, 1, 0, 0, .null), (119, .bipush 32, 2, 0, 0, .int 32), (121, .lshl, 1, 0, 0, .null), (122, .aload_n 0, 1, 0, 0, .null), (123, .iload_n 3, 1, 3, 0, .null), (124, .iconst 2, 1, 0, 0, .int 2), (125, .iadd, 1, 0, 0, .null), (126, .iaload, 1, 0, 0, .null), (127, .i2l, 1, 0, 0, .null), (128, .ldc2_w 13, 3, 0, 0, .long 4294967295), (131, .land, 1, 0, 0, .null), (132, .lor, 1, 0, 0, .null), (133, .aload_n 0, 1, 0, 0, .null), (134, .iload_n 3, 1, 3, 0, .null), (135, .iconst 3, 1, 0, 0, .int 3), (136, .iadd, 1, 0, 0, .null), (137, .iaload, 1, 0, 0, .null), (138, .invokevirtual 15, 3, 100, 3, .ref 9), (141, .aload_n 2, 1, 2, 0, .null), (142, .aload_n 0, 1, 0, 0, .null), (143, .iload_n 3, 1, 3, 0, .null), (144, .iconst 1, 1, 0, 0, .int 1), (145, .iadd, 1, 0, 0, .null), (146, .iaload, 1, 0, 0, .null), (147, .i2l, 1, 0, 0, .null), (148, .bipush 32, 2, 0, 0, .int 32), (150, .lshl, 1, 0, 0, .null), (151, .aload_n 0, 1, 0, 0, .null), (152, .iload_n 3, 1, 3, 0, .null), (153, .iconst 2, 1, 0, 0, .int 2), (154, .iadd, 1, 0, 0, .null), (155, .iaload, 1, 0, 0, .null), (156, .i2l, 1, 0, 0, .null), (157, .ldc2_w 13, 3, 0, 0, .long 4294967295), (160, .land, 1, 0, 0, .null), (161, .lor, 1, 0, 0, .null), (162, .aload_n 0, 1, 0, 0, .null), (163, .iload_n 3, 1, 3, 0, .null), (164, .iconst 3, 1, 0, 0, .int 3), (165, .iadd, 1, 0, 0, .null), (166, .iaload, 1, 0, 0, .null), (167, .invokevirtual 19, 3, 132, 3, .ref 10), (170, .if_icmp .eq 340, 3, 510, 0, .null), (173, .iconst 0, 1, 0, 0, .int 0), (174, .ireturn, 1, 0, 0, .null), (175, .aload_n 1, 1, 1, 0, .null), (176, .invokevirtual 20, 3, 101, 1, .ref 9), (179, .aload_n 2, 1, 2, 0, .null), (180, .invokevirtual 24, 3, 133, 1, .ref 10), (183, .if_icmp .eq 327, 3, 510, 0, .null), (186, .iconst 0, 1, 0, 0, .int 0), (187, .ireturn, 1, 0, 0, .null), (188, .aload_n 1, 1, 1, 0, .null), (189, .invokevirtual 25, 3, 102, 1, .ref 9), (192, .aload_n 2, 1, 2, 0, .null), (193, .invokevirtual 28, 3, 144, 1, .ref 10), (196, .if_icmp .eq 314, 3, 510, 0, .null), (199, .iconst 0, 1, 0, 0, .int 0), (200, .ireturn, 1, 0, 0, .null), (201, .aload_n 1, 1, 1, 0, .null), (202, .aload_n 0, 1, 0, 0, .null), (203, .iload_n 3, 1, 3, 0, .null), (204, .iconst 1, 1, 0, 0, .int 1), (205, .iadd, 1, 0, 0, .null), (206, .iaload, 1, 0, 0, .null), (207, .aload_n 0, 1, 0, 0, .null), (208, .iload_n 3, 1, 3, 0, .null), (209, .iconst 2, 1, 0, 0, .int 2), (210, .iadd, 1, 0, 0, .null), (211, .iaload, 1, 0, 0, .null), (212, .invokevirtual 29, 3, 103, 3, .ref 9), (215, .aload_n 2, 1, 2, 0, .null), (216, .aload_n 0, 1, 0, 0, .null), (217, .iload_n 3, 1, 3, 0, .null), (218, .iconst 1, 1, 0, 0, .int 1), (219, .iadd, 1, 0, 0, .null), (220, .iaload, 1, 0, 0, .null), (221, .aload_n 0, 1, 0, 0, .null), (222, .iload_n 3, 1, 3, 0, .null), (223, .iconst 2, 1, 0, 0, .int 2), (224, .iadd, 1, 0, 0, .null), (225, .iaload, 1, 0, 0, .null), (226, .invokevirtual 33, 3, 145, 3, .ref 10), (229, .if_icmp .eq 281, 3, 510, 0, .null), (232, .iconst 0, 1, 0, 0, .int 0), (233, .ireturn, 1, 0, 0, .null), (234, .aload_n 1, 1, 1, 0, .null), (235, .invokevirtual 34, 3, 104, 1, .ref 9), (238, .aload_n 2, 1, 2, 0, .null), (239, .invokevirtual 37, 3, 146, 1, .ref 10), (242, .if_icmp .eq 268, 3, 510, 0, .null), (245, .iconst 0, 1, 0, 0, .int 0), (246, .ireturn, 1, 0, 0, .null), (247, .aload_n 1, 1, 1, 0, .null), (248, .invokevirtual 38, 3, 105, 1, .ref 9), (251, .aload_n 2, 1, 2, 0, .null), (252, .invokevirtual 41, 3, 160, 1, .ref 10), (255, .if_icmp .eq 255, 3, 510, 0, .null), (258, .iconst 0, 1, 0, 0, .int 0), (259, .ireturn, 1, 0, 0, .null), (260, .aload_n 1, 1, 1, 0, .null), (261, .aload_n 0, 1, 0, 0, .null), (262, .iload_n 3, 1, 3, 0, .null), (263, .iconst 1, 1, 0, 0, .int 1), (264, .iadd, 1, 0, 0, .null), (265, .iaload, 1, 0, 0, .null), (266, .invokevirtual 42, 3, 106, 2, .ref 9), (269, .aload_n 2, 1, 2, 0, .null), (270, .aload_n 0, 1, 0, 0, .null), (271, .iload_n 3, 1, 3, 0, .null), (272, .iconst 1, 1, 0, 0, .int 1), (273, .iadd, 1, 0, 0, .null), (274, .iaload, 1, 0, 0, .null), (275, .invokevirtual 46, 3, 161, 2, .ref 10), (278, .if_icmp .eq 232, 3, 510, 0, .null), (281, .iconst 0, 1, 0, 0, .int 0), (282, .ireturn, 1, 0, 0, .null), (283, .aload_n 1, 1, 1, 0, .null), (284, .aload_n 0, 1, 0, 0, .null), (285, .iload_n 3, 1, 3, 0, .null), (286, .iconst 1, 1, 0, 0, .int 1), (287, .iadd, 1, 0, 0, .null), (288, .iaload, 1, 0, 0, .null), (289, .aload_n 0, 1, 0, 0, .null), (290, .iload_n 3, 1, 3, 0, .null), (291, .iconst 2, 1, 0, 0, .int 2), (292, .iadd, 1, 0, 0, .null), (293, .iaload, 1, 0, 0, .null), (294, .invokevirtual 47, 3, 107, 3, .ref 9), (297, .aload_n 2, 1, 2, 0, .null), (298, .aload_n 0, 1, 0, 0, .null), (299, .iload_n 3, 1, 3, 0, .null), (300, .iconst 1, 1, 0, 0, .int 1), (301, .iadd, 1, 0, 0, .null), (302, .iaload, 1, 0, 0, .null), (303, .aload_n 0, 1, 0, 0, .null), (304, .iload_n 3, 1, 3, 0, .null), (305, .iconst 2, 1, 0, 0, .int 2), (306, .iadd, 1, 0, 0, .null), (307, .iaload, 1, 0, 0, .null), (308, .invokevirtual 50, 3, 162, 3, .ref 10), (311, .if_icmp .eq 199, 3, 510, 0, .null), (314, .iconst 0, 1, 0, 0, .int 0), (315, .ireturn, 1, 0, 0, .null), (316, .aload_n 1, 1, 1, 0, .null), (317, .invokevirtual 51, 3, 108, 1, .ref 9), (320, .aload_n 2, 1, 2, 0, .null), (321, .invokevirtual 54, 3, 169, 1, .ref 10), (324, .if_icmp .eq 186, 3, 510, 0, .null), (327, .iconst 0, 1, 0, 0, .int 0), (328, .ireturn, 1, 0, 0, .null), (329, .aload_n 1, 1, 1, 0, .null), (330, .aload_n 0, 1, 0, 0, .null), (331, .iload_n 3, 1, 3, 0, .null), (332, .iconst 1, 1, 0, 0, .int 1), (333, .iadd, 1, 0, 0, .null), (334, .iaload, 1, 0, 0, .null), (335, .aload_n 0, 1, 0, 0, .null), (336, .iload_n 3, 1, 3, 0, .null), (337, .iconst 2, 1, 0, 0, .int 2), (338, .iadd, 1, 0, 0, .null), (339, .iaload, 1, 0, 0, .null), (340, .invokevirtual 55, 3, 109, 3, .ref 9), (343, .aload_n 2, 1, 2, 0, .null), (344, .aload_n 0, 1, 0, 0, .null), (345, .iload_n 3, 1, 3, 0, .null), (346, .iconst 1, 1, 0, 0, .int 1), (347, .iadd, 1, 0, 0, .null), (348, .iaload, 1, 0, 0, .null), (349, .aload_n 0, 1, 0, 0, .null), (350, .iload_n 3, 1, 3, 0, .null), (351, .iconst 2, 1, 0, 0, .int 2), (352, .iadd, 1, 0, 0, .null), (353, .iaload, 1, 0, 0, .null), (354, .invokevirtual 58, 3, 170, 3, .ref 10), (357, .if_icmp .eq 153, 3, 510, 0, .null), (360, .iconst 0, 1, 0, 0, .int 0), (361, .ireturn, 1, 0, 0, .null), (362, .aload_n 1, 1, 1, 0, .null), (363, .aload_n 0, 1, 0, 0, .null), (364, .iload_n 3, 1, 3, 0, .null), (365, .iconst 1, 1, 0, 0, .int 1), (366, .iadd, 1, 0, 0, .null), (367, .iaload, 1, 0, 0, .null), (368, .aload_n 0, 1, 0, 0, .null), (369, .iload_n 3, 1, 3, 0, .null), (370, .iconst 2, 1, 0, 0, .int 2), (371, .iadd, 1, 0, 0, .null), (372, .iaload, 1, 0, 0, .null), (373, .invokevirtual 59, 3, 110, 3, .ref 9), (376, .aload_n 2, 1, 2, 0, .null), (377, .aload_n 0, 1, 0, 0, .null), (378, .iload_n 3, 1, 3, 0, .null), (379, .iconst 1, 1, 0, 0, .int 1), (380, .iadd, 1, 0, 0, .null), (381, .iaload, 1, 0, 0, .null), (382, .aload_n 0, 1, 0, 0, .null), (383, .iload_n 3, 1, 3, 0, .null), (384, .iconst 2, 1, 0, 0, .int 2), (385, .iadd, 1, 0, 0, .null), (386, .iaload, 1, 0, 0, .null), (387, .invokevirtual 62, 3, 171, 3, .ref 10), (390, .if_icmp .eq 120, 3, 510, 0, .null), (393, .iconst 0, 1, 0, 0, .int 0), (394, .ireturn, 1, 0, 0, .null), (395, .aload_n 1, 1, 1, 0, .null), (396, .aload_n 0, 1, 0, 0, .null), (397, .iload_n 3, 1, 3, 0, .null), (398, .iconst 1, 1, 0, 0, .int 1), (399, .iadd, 1, 0, 0, .null), (400, .iaload, 1, 0, 0, .null), (401, .invokevirtual 63, 3, 111, 2, .ref 9), (404, .aload_n 2, 1, 2, 0, .null), (405, .aload_n 0, 1, 0, 0, .null), (406, .iload_n 3, 1, 3, 0, .null), (407, .iconst 1, 1, 0, 0, .int 1), (408, .iadd, 1, 0, 0, .null), (409, .iaload, 1, 0, 0, .null), (410, .invokevirtual 66, 3, 185, 2, .ref 10), (413, .if_icmp .eq 97, 3, 510, 0, .null), (416, .iconst 0, 1, 0, 0, .int 0), (417, .ireturn, 1, 0, 0, .null), (418, .aload_n 1, 1, 1, 0, .null), (419, .aload_n 0, 1, 0, 0, .null), (420, .iload_n 3, 1, 3, 0, .null), (421, .iconst 1, 1, 0, 0, .int 1), (422, .iadd, 1, 0, 0, .null), (423, .iaload, 1, 0, 0, .null), (424, .invokevirtual 67, 3, 112, 2, .ref 9), (427, .aload_n 2, 1, 2, 0, .null), (428, .aload_n 0, 1, 0, 0, .null), (429, .iload_n 3, 1, 3, 0, .null), (430, .iconst 1, 1, 0, 0, .int 1), (431, .iadd, 1, 0, 0, .null), (432, .iaload, 1, 0, 0, .null), (433, .invokevirtual 70, 3, 188, 2, .ref 10), (436, .if_icmp .eq 74, 3, 510, 0, .null), (439, .iconst 0, 1, 0, 0, .int 0), (440, .ireturn, 1, 0, 0, .null), (441, .aload_n 1, 1, 1, 0, .null), (442, .aload_n 0, 1, 0, 0, .null), (443, .iload_n 3, 1, 3, 0, .null), (444, .iconst 1, 1, 0, 0, .int 1), (445, .iadd, 1, 0, 0, .null), (446, .iaload, 1, 0, 0, .null), (447, .invokevirtual 71, 3, 113, 2, .ref 9), (450, .aload_n 2, 1, 2, 0, .null), (451, .aload_n 0, 1, 0, 0, .null), (452, .iload_n 3, 1, 3, 0, .null), (453, .iconst 1, 1, 0, 0, .int 1), (454, .iadd, 1, 0, 0, .null), (455, .iaload, 1, 0, 0, .null), (456, .invokevirtual 74, 3, 189, 2, .ref 10), (459, .if_icmp .eq 51, 3, 510, 0, .null), (462, .iconst 0, 1, 0, 0, .int 0), (463, .ireturn, 1, 0, 0, .null), (464, .aload_n 1, 1, 1, 0, .null), (465, .aload_n 0, 1, 0, 0, .null), (466, .iload_n 3, 1, 3, 0, .null), (467, .iconst 1, 1, 0, 0, .int 1), (468, .iadd, 1, 0, 0, .null), (469, .iaload, 1, 0, 0, .null), (470, .invokevirtual 75, 3, 114, 2, .ref 9), (473, .aload_n 2, 1, 2, 0, .null), (474, .aload_n 0, 1, 0, 0, .null), (475, .iload_n 3, 1, 3, 0, .null), (476, .iconst 1, 1, 0, 0, .int 1), (477, .iadd, 1, 0, 0, .null), (478, .iaload, 1, 0, 0, .null), (479, .invokevirtual 78, 3, 190, 2, .ref 10), (482, .if_icmp .eq 28, 3, 510, 0, .null), (485, .iconst 0, 1, 0, 0, .int 0), (486, .ireturn, 1, 0, 0, .null), (487, .aload_n 1, 1, 1, 0, .null), (488, .aload_n 0, 1, 0, 0, .null), (489, .iload_n 3, 1, 3, 0, .null), (490, .iconst 1, 1, 0, 0, .int 1), (491, .iadd, 1, 0, 0, .null), (492, .iaload, 1, 0, 0, .null), (493, .invokevirtual 79, 3, 115, 2, .ref 9), (496, .aload_n 2, 1, 2, 0, .null), (497, .aload_n 0, 1, 0, 0, .null), (498, .iload_n 3, 1, 3, 0, .null), (499, .iconst 1, 1, 0, 0, .int 1), (500, .iadd, 1, 0, 0, .null), (501, .iaload, 1, 0, 0, .null), (502, .invokevirtual 82, 3, 191, 2, .ref 10), (505, .if_icmp .eq 5, 3, 510, 0, .null), (508, .iconst 0, 1, 0, 0, .int 0), (509, .ireturn, 1, 0, 0, .null), (510, .iinc 3 4, 3, 3, 0, .int 4), (513, .goto (-495), 3, 18, 0, .null), (516, .iconst 1, 1, 0, 0, .int 1), (517, .ireturn, 1, 0, 0, .null)]
def mz_m0 : mz_D := (⟨"TinyFrontLaw", "law", "([I)Z"⟩, code, 4, ret, 10, 222, mz_t0)
/-- 1: TinyFront$Code.<init>()V -/
def mz_t1 : List mz_E := [(0, .aload_n 0, 1, 0, 0, .null), (1, .invokespecial 3, 3, 9999, 0, .null), (4, .aload_n 0, 1, 0, 0, .null), (5, .sipush 8001, 3, 0, 0, .int 8001), (8, .newarray .int, 2, 0, 0, .null), (10, .putfield 11, 3, 0, 0, .ref 0), (13, .aload_n 0, 1, 0, 0, .null), (14, .sipush 8001, 3, 0, 0, .int 8001), (17, .newarray .int, 2, 0, 0, .null), (19, .putfield 15, 3, 0, 1, .ref 0), (22, .aload_n 0, 1, 0, 0, .null), (23, .iconst 0, 1, 0, 0, .int 0), (24, .putfield 18, 3, 0, 2, .null), (27, .aload_n 0, 1, 0, 0, .null), (28, .sipush 4001, 3, 0, 0, .int 4001), (31, .newarray .int, 2, 0, 0, .null), (33, .putfield 22, 3, 0, 3, .ref 0), (36, .aload_n 0, 1, 0, 0, .null), (37, .sipush 4001, 3, 0, 0, .int 4001), (40, .newarray .int, 2, 0, 0, .null), (42, .putfield 25, 3, 0, 4, .ref 0), (45, .return_, 1, 0, 0, .null)]
def mz_m1 : mz_D := (⟨"TinyFront$Code", "<init>", "()V"⟩, prog_2_method_1_code, 1, none, 1, 20, mz_t1)
/-- 2: TinyFront$Code.wordOf(I)I -/
def mz_t2 : List mz_E := [(0, .iload_n 0, 1, 0, 0, .null), (1, .ifCond .lt 19, 3, 20, 0, .null), (4, .iload_n 0, 1, 0, 0, .null), (5, .getstatic 28, 3, 2, 0, .ref 302), (8, .arraylength, 1, 0, 0, .null), (9, .if_icmp .ge 11, 3, 20, 0, .null), (12, .getstatic 28, 3, 2, 0, .ref 302), (15, .iload_n 0, 1, 0, 0, .null), (16, .iaload, 1, 0, 0, .null), (17, .goto 4, 3, 21, 0, .null), (20, .iconst (-1), 1, 0, 0, .int (-1)), (21, .ireturn, 1, 0, 0, .null)]
def mz_m2 : mz_D := (⟨"TinyFront$Code", "wordOf", "(I)I"⟩, prog_2_method_2_code, 1, (some (.int)), 0, 0, mz_t2)
/-- 3: TinyFront$Code.make(LTinyFront$Tree;LTinyFront$Paths;LTinyFront$Tokens;)V -/
def mz_t3 : List mz_E := [(0, .aload_n 1, 1, 1, 0, .null), (1, .getfield 31, 3, 7, 5, .null), (4, .iconst 1, 1, 0, 0, .int 1), (5, .isub, 1, 0, 0, .null), (6, .istore 4, 2, 4, 0, .null), (8, .iload 4, 2, 4, 0, .null), (10, .ifCond .lt 16, 3, 26, 0, .null), (13, .aload_n 0, 1, 0, 0, .null), (14, .aload_n 1, 1, 1, 0, .null), (15, .iload 4, 2, 4, 0, .null), (17, .invokevirtual 34, 3, 4, 3, .ref 0), (20, .iinc 4 (-1), 3, 4, 0, .int (-1)), (23, .goto (-15), 3, 8, 0, .null), (26, .aload_n 0, 1, 0, 0, .null), (27, .getfield 22, 3, 0, 3, .null), (30, .iconst 0, 1, 0, 0, .int 0), (31, .iconst 0, 1, 0, 0, .int 0), (32, .iastore, 1, 0, 0, .null), (33, .iconst 0, 1, 0, 0, .int 0), (34, .istore 4, 2, 4, 0, .null), (36, .iload 4, 2, 4, 0, .null), (38, .aload_n 1, 1, 1, 0, .null), (39, .getfield 31, 3, 7, 5, .null), (42, .if_icmp .ge 25, 3, 67, 0, .null), (45, .aload_n 0, 1, 0, 0, .null), (46, .aload_n 1, 1, 1, 0, .null), (47, .iload 4, 2, 4, 0, .null), (49, .invokevirtual 38, 3, 5, 3, .ref 0), (52, .aload_n 0, 1, 0, 0, .null), (53, .aload_n 1, 1, 1, 0, .null), (54, .aload_n 2, 1, 2, 0, .null), (55, .aload_n 3, 1, 3, 0, .null), (56, .iload 4, 2, 4, 0, .null), (58, .invokevirtual 41, 3, 6, 5, .ref 0), (61, .iinc 4 1, 3, 4, 0, .int 1), (64, .goto (-28), 3, 36, 0, .null), (67, .aload_n 0, 1, 0, 0, .null), (68, .aload_n 0, 1, 0, 0, .null), (69, .getfield 25, 3, 0, 4, .null), (72, .iconst 0, 1, 0, 0, .int 0), (73, .iaload, 1, 0, 0, .null), (74, .bipush 16, 2, 0, 0, .int 16), (76, .iconst 0, 1, 0, 0, .int 0), (77, .invokevirtual 45, 3, 13, 4, .ref 0), (80, .aload_n 0, 1, 0, 0, .null), (81, .aload_n 0, 1, 0, 0, .null), (82, .getfield 25, 3, 0, 4, .null), (85, .iconst 0, 1, 0, 0, .int 0), (86, .iaload, 1, 0, 0, .null), (87, .iconst 1, 1, 0, 0, .int 1), (88, .iadd, 1, 0, 0, .null), (89, .putfield 18, 3, 0, 2, .null), (92, .return_, 1, 0, 0, .null)]
def mz_m3 : mz_D := (⟨"TinyFront$Code", "make", "(LTinyFront$Tree;LTinyFront$Paths;LTinyFront$Tokens;)V"⟩, prog_2_method_3_code, 5, none, 3, 71, mz_t3)
/-- 4: TinyFront$Code.measure(LTinyFront$Tree;I)V -/
def mz_t4 : List mz_E := [(0, .getstatic 49, 3, 0, 0, .ref 300), (3, .aload_n 1, 1, 1, 0, .null), (4, .getfield 52, 3, 7, 0, .null), (7, .iload_n 2, 1, 2, 0, .null), (8, .iaload, 1, 0, 0, .null), (9, .iaload, 1, 0, 0, .null), (10, .istore_n 3, 1, 3, 0, .null), (11, .aload_n 1, 1, 1, 0, .null), (12, .getfield 52, 3, 7, 0, .null), (15, .iload_n 2, 1, 2, 0, .null), (16, .iaload, 1, 0, 0, .null), (17, .iconst 3, 1, 0, 0, .int 3), (18, .if_icmp .ne 16, 3, 34, 0, .null), (21, .aload_n 1, 1, 1, 0, .null), (22, .getfield 55, 3, 7, 2, .null), (25, .iload_n 2, 1, 2, 0, .null), (26, .iaload, 1, 0, 0, .null), (27, .iconst 3, 1, 0, 0, .int 3), (28, .if_icmp .ne 6, 3, 34, 0, .null), (31, .iinc 3 1, 3, 3, 0, .int 1), (34, .iload_n 2, 1, 2, 0, .null), (35, .iconst 1, 1, 0, 0, .int 1), (36, .iadd, 1, 0, 0, .null), (37, .istore 4, 2, 4, 0, .null), (39, .iconst 0, 1, 0, 0, .int 0), (40, .istore 5, 2, 5, 0, .null), (42, .iload 5, 2, 5, 0, .null), (44, .aload_n 1, 1, 1, 0, .null), (45, .getfield 55, 3, 7, 2, .null), (48, .iload_n 2, 1, 2, 0, .null), (49, .iaload, 1, 0, 0, .null), (50, .if_icmp .ge 36, 3, 86, 0, .null), (53, .iload 4, 2, 4, 0, .null), (55, .aload_n 1, 1, 1, 0, .null), (56, .getfield 31, 3, 7, 5, .null), (59, .if_icmp .ge 27, 3, 86, 0, .null), (62, .iload_n 3, 1, 3, 0, .null), (63, .aload_n 0, 1, 0, 0, .null), (64, .getfield 25, 3, 0, 4, .null), (67, .iload 4, 2, 4, 0, .null), (69, .iaload, 1, 0, 0, .null), (70, .iadd, 1, 0, 0, .null), (71, .istore_n 3, 1, 3, 0, .null), (72, .aload_n 1, 1, 1, 0, .null), (73, .iload 4, 2, 4, 0, .null), (75, .invokevirtual 58, 3, 87, 2, .ref 7), (78, .istore 4, 2, 4, 0, .null), (80, .iinc 5 1, 3, 5, 0, .int 1), (83, .goto (-41), 3, 42, 0, .null), (86, .aload_n 0, 1, 0, 0, .null), (87, .getfield 25, 3, 0, 4, .null), (90, .iload_n 2, 1, 2, 0, .null), (91, .iload_n 3, 1, 3, 0, .null), (92, .iastore, 1, 0, 0, .null), (93, .return_, 1, 0, 0, .null)]
def mz_m4 : mz_D := (⟨"TinyFront$Code", "measure", "(LTinyFront$Tree;I)V"⟩, prog_2_method_4_code, 6, none, 1, 21, mz_t4)
/-- 5: TinyFront$Code.placeParts(LTinyFront$Tree;I)V -/
def mz_t5 : List mz_E := [(0, .aload_n 0, 1, 0, 0, .null), (1, .getfield 22, 3, 0, 3, .null), (4, .iload_n 2, 1, 2, 0, .null), (5, .iaload, 1, 0, 0, .null), (6, .istore_n 3, 1, 3, 0, .null), (7, .iload_n 2, 1, 2, 0, .null), (8, .iconst 1, 1, 0, 0, .int 1), (9, .iadd, 1, 0, 0, .null), (10, .istore 4, 2, 4, 0, .null), (12, .iconst 0, 1, 0, 0, .int 0), (13, .istore 5, 2, 5, 0, .null), (15, .iload 5, 2, 5, 0, .null), (17, .aload_n 1, 1, 1, 0, .null), (18, .getfield 55, 3, 7, 2, .null), (21, .iload_n 2, 1, 2, 0, .null), (22, .iaload, 1, 0, 0, .null), (23, .if_icmp .ge 55, 3, 78, 0, .null), (26, .iload 4, 2, 4, 0, .null), (28, .aload_n 1, 1, 1, 0, .null), (29, .getfield 31, 3, 7, 5, .null), (32, .if_icmp .ge 46, 3, 78, 0, .null), (35, .aload_n 0, 1, 0, 0, .null), (36, .getfield 22, 3, 0, 3, .null), (39, .iload 4, 2, 4, 0, .null), (41, .iload_n 3, 1, 3, 0, .null), (42, .iastore, 1, 0, 0, .null), (43, .iload_n 3, 1, 3, 0, .null), (44, .aload_n 0, 1, 0, 0, .null), (45, .getfield 25, 3, 0, 4, .null), (48, .iload 4, 2, 4, 0, .null), (50, .iaload, 1, 0, 0, .null), (51, .getstatic 62, 3, 1, 0, .ref 301), (54, .aload_n 1, 1, 1, 0, .null), (55, .getfield 52, 3, 7, 0, .null), (58, .iload_n 2, 1, 2, 0, .null), (59, .iaload, 1, 0, 0, .null), (60, .iaload, 1, 0, 0, .null), (61, .iadd, 1, 0, 0, .null), (62, .iadd, 1, 0, 0, .null), (63, .istore_n 3, 1, 3, 0, .null), (64, .aload_n 1, 1, 1, 0, .null), (65, .iload 4, 2, 4, 0, .null), (67, .invokevirtual 58, 3, 87, 2, .ref 7), (70, .istore 4, 2, 4, 0, .null), (72, .iinc 5 1, 3, 5, 0, .int 1), (75, .goto (-60), 3, 15, 0, .null), (78, .return_, 1, 0, 0, .null)]
def mz_m5 : mz_D := (⟨"TinyFront$Code", "placeParts", "(LTinyFront$Tree;I)V"⟩, prog_2_method_5_code, 6, none, 1, 21, mz_t5)
/-- 6: TinyFront$Code.write(LTinyFront$Tree;LTinyFront$Paths;LTinyFront$Tokens;I)V -/
def mz_t6 : List mz_E := [(0, .aload_n 1, 1, 1, 0, .null), (1, .getfield 52, 3, 7, 0, .null), (4, .iload 4, 2, 4, 0, .null), (6, .iaload, 1, 0, 0, .null), (7, .tableswitch 225 0 19 #[93, 187, 225, 96, 106, 133, 160, 115, 124, 225, 225, 225, 225, 225, 225, 225, 225, 225, 187, 187], 93, 0, 0, .null), (100, .goto 156, 3, 256, 0, .null), (103, .aload_n 0, 1, 0, 0, .null), (104, .aload_n 1, 1, 1, 0, .null), (105, .iload 4, 2, 4, 0, .null), (107, .invokevirtual 65, 3, 7, 3, .ref 0), (110, .goto 146, 3, 256, 0, .null), (113, .aload_n 0, 1, 0, 0, .null), (114, .iload 4, 2, 4, 0, .null), (116, .invokevirtual 68, 3, 8, 2, .ref 0), (119, .goto 137, 3, 256, 0, .null), (122, .aload_n 0, 1, 0, 0, .null), (123, .iload 4, 2, 4, 0, .null), (125, .invokevirtual 72, 3, 10, 2, .ref 0), (128, .goto 128, 3, 256, 0, .null), (131, .aload_n 0, 1, 0, 0, .null), (132, .iload 4, 2, 4, 0, .null), (134, .invokevirtual 75, 3, 9, 2, .ref 0), (137, .goto 119, 3, 256, 0, .null), (140, .aload_n 0, 1, 0, 0, .null), (141, .aload_n 0, 1, 0, 0, .null), (142, .getfield 22, 3, 0, 3, .null), (145, .iload 4, 2, 4, 0, .null), (147, .iaload, 1, 0, 0, .null), (148, .bipush 13, 2, 0, 0, .int 13), (150, .aload_n 0, 1, 0, 0, .null), (151, .aload_n 2, 1, 2, 0, .null), (152, .getfield 78, 3, 3, 0, .null), (155, .iload 4, 2, 4, 0, .null), (157, .iaload, 1, 0, 0, .null), (158, .invokevirtual 83, 3, 12, 2, .ref 0), (161, .invokevirtual 45, 3, 13, 4, .ref 0), (164, .goto 92, 3, 256, 0, .null), (167, .aload_n 0, 1, 0, 0, .null), (168, .aload_n 0, 1, 0, 0, .null), (169, .getfield 22, 3, 0, 3, .null), (172, .iload 4, 2, 4, 0, .null), (174, .iaload, 1, 0, 0, .null), (175, .bipush 13, 2, 0, 0, .int 13), (177, .aload_n 0, 1, 0, 0, .null), (178, .aload_n 2, 1, 2, 0, .null), (179, .getfield 78, 3, 3, 0, .null), (182, .iload 4, 2, 4, 0, .null), (184, .iaload, 1, 0, 0, .null), (185, .invokevirtual 86, 3, 11, 2, .ref 0), (188, .invokevirtual 45, 3, 13, 4, .ref 0), (191, .goto 65, 3, 256, 0, .null), (194, .aload_n 0, 1, 0, 0, .null), (195, .aload_n 0, 1, 0, 0, .null), (196, .iload 4, 2, 4, 0, .null), (198, .invokevirtual 83, 3, 12, 2, .ref 0), (201, .iconst 1, 1, 0, 0, .int 1), (202, .isub, 1, 0, 0, .null), (203, .getstatic 28, 3, 2, 0, .ref 302), (206, .aload_n 1, 1, 1, 0, .null), (207, .getfield 52, 3, 7, 0, .null), (210, .iload 4, 2, 4, 0, .null), (212, .iaload, 1, 0, 0, .null), (213, .iaload, 1, 0, 0, .null), (214, .aload_n 3, 1, 3, 0, .null), (215, .getfield 89, 3, 6, 3, .null), (218, .aload_n 1, 1, 1, 0, .null), (219, .getfield 94, 3, 7, 1, .null), (222, .iload 4, 2, 4, 0, .null), (224, .iaload, 1, 0, 0, .null), (225, .iaload, 1, 0, 0, .null), (226, .invokevirtual 45, 3, 13, 4, .ref 0), (229, .goto 27, 3, 256, 0, .null), (232, .aload_n 0, 1, 0, 0, .null), (233, .aload_n 0, 1, 0, 0, .null), (234, .iload 4, 2, 4, 0, .null), (236, .invokevirtual 83, 3, 12, 2, .ref 0), (239, .iconst 1, 1, 0, 0, .int 1), (240, .isub, 1, 0, 0, .null), (241, .getstatic 28, 3, 2, 0, .ref 302), (244, .aload_n 1, 1, 1, 0, .null), (245, .getfield 52, 3, 7, 0, .null), (248, .iload 4, 2, 4, 0, .null), (250, .iaload, 1, 0, 0, .null), (251, .iaload, 1, 0, 0, .null), (252, .iconst 0, 1, 0, 0, .int 0), (253, .invokevirtual 45, 3, 13, 4, .ref 0), (256, .return_, 1, 0, 0, .null)]
def mz_m6 : mz_D := (⟨"TinyFront$Code", "write", "(LTinyFront$Tree;LTinyFront$Paths;LTinyFront$Tokens;I)V"⟩, prog_2_method_6_code, 5, none, 2, 47, mz_t6)
/-- 7: TinyFront$Code.writeIf(LTinyFront$Tree;I)V -/
def mz_t7 : List mz_E := [(0, .aload_n 1, 1, 1, 0, .null), (1, .iload_n 2, 1, 2, 0, .null), (2, .iconst 1, 1, 0, 0, .int 1), (3, .iadd, 1, 0, 0, .null), (4, .invokevirtual 58, 3, 87, 2, .ref 7), (7, .istore_n 3, 1, 3, 0, .null), (8, .aload_n 1, 1, 1, 0, .null), (9, .getfield 55, 3, 7, 2, .null), (12, .iload_n 2, 1, 2, 0, .null), (13, .iaload, 1, 0, 0, .null), (14, .iconst 3, 1, 0, 0, .int 3), (15, .if_icmp .ne 47, 3, 62, 0, .null), (18, .aload_n 0, 1, 0, 0, .null), (19, .aload_n 1, 1, 1, 0, .null), (20, .iload_n 3, 1, 3, 0, .null), (21, .invokevirtual 58, 3, 87, 2, .ref 7), (24, .invokevirtual 86, 3, 11, 2, .ref 0), (27, .istore 4, 2, 4, 0, .null), (29, .aload_n 0, 1, 0, 0, .null), (30, .aload_n 0, 1, 0, 0, .null), (31, .iload_n 3, 1, 3, 0, .null), (32, .invokevirtual 86, 3, 11, 2, .ref 0), (35, .iconst 1, 1, 0, 0, .int 1), (36, .isub, 1, 0, 0, .null), (37, .bipush 14, 2, 0, 0, .int 14), (39, .iload 4, 2, 4, 0, .null), (41, .invokevirtual 45, 3, 13, 4, .ref 0), (44, .aload_n 0, 1, 0, 0, .null), (45, .iload 4, 2, 4, 0, .null), (47, .iconst 1, 1, 0, 0, .int 1), (48, .isub, 1, 0, 0, .null), (49, .bipush 13, 2, 0, 0, .int 13), (51, .aload_n 0, 1, 0, 0, .null), (52, .iload_n 2, 1, 2, 0, .null), (53, .invokevirtual 83, 3, 12, 2, .ref 0), (56, .invokevirtual 45, 3, 13, 4, .ref 0), (59, .goto 21, 3, 80, 0, .null), (62, .aload_n 0, 1, 0, 0, .null), (63, .aload_n 0, 1, 0, 0, .null), (64, .iload_n 3, 1, 3, 0, .null), (65, .invokevirtual 86, 3, 11, 2, .ref 0), (68, .iconst 1, 1, 0, 0, .int 1), (69, .isub, 1, 0, 0, .null), (70, .bipush 14, 2, 0, 0, .int 14), (72, .aload_n 0, 1, 0, 0, .null), (73, .iload_n 2, 1, 2, 0, .null), (74, .invokevirtual 83, 3, 12, 2, .ref 0), (77, .invokevirtual 45, 3, 13, 4, .ref 0), (80, .return_, 1, 0, 0, .null)]
def mz_m7 : mz_D := (⟨"TinyFront$Code", "writeIf", "(LTinyFront$Tree;I)V"⟩, prog_2_method_7_code, 5, none, 1, 23, mz_t7)
/-- 8: TinyFront$Code.writeWhile(I)V -/
def mz_t8 : List mz_E := [(0, .aload_n 0, 1, 0, 0, .null), (1, .aload_n 0, 1, 0, 0, .null), (2, .iload_n 1, 1, 1, 0, .null), (3, .iconst 1, 1, 0, 0, .int 1), (4, .iadd, 1, 0, 0, .null), (5, .invokevirtual 83, 3, 12, 2, .ref 0), (8, .bipush 14, 2, 0, 0, .int 14), (10, .aload_n 0, 1, 0, 0, .null), (11, .iload_n 1, 1, 1, 0, .null), (12, .invokevirtual 83, 3, 12, 2, .ref 0), (15, .invokevirtual 45, 3, 13, 4, .ref 0), (18, .aload_n 0, 1, 0, 0, .null), (19, .aload_n 0, 1, 0, 0, .null), (20, .iload_n 1, 1, 1, 0, .null), (21, .invokevirtual 83, 3, 12, 2, .ref 0), (24, .iconst 1, 1, 0, 0, .int 1), (25, .isub, 1, 0, 0, .null), (26, .bipush 13, 2, 0, 0, .int 13), (28, .aload_n 0, 1, 0, 0, .null), (29, .getfield 22, 3, 0, 3, .null), (32, .iload_n 1, 1, 1, 0, .null), (33, .iaload, 1, 0, 0, .null), (34, .invokevirtual 45, 3, 13, 4, .ref 0), (37, .return_, 1, 0, 0, .null)]
def mz_m8 : mz_D := (⟨"TinyFront$Code", "writeWhile", "(I)V"⟩, prog_2_method_8_code, 2, none, 1, 23, mz_t8)
/-- 9: TinyFront$Code.writeAnd(I)V -/
def mz_t9 : List mz_E := [(0, .aload_n 0, 1, 0, 0, .null), (1, .iload_n 1, 1, 1, 0, .null), (2, .invokevirtual 83, 3, 12, 2, .ref 0), (5, .istore_n 2, 1, 2, 0, .null), (6, .aload_n 0, 1, 0, 0, .null), (7, .aload_n 0, 1, 0, 0, .null), (8, .iload_n 1, 1, 1, 0, .null), (9, .iconst 1, 1, 0, 0, .int 1), (10, .iadd, 1, 0, 0, .null), (11, .invokevirtual 83, 3, 12, 2, .ref 0), (14, .bipush 14, 2, 0, 0, .int 14), (16, .iload_n 2, 1, 2, 0, .null), (17, .iconst 1, 1, 0, 0, .int 1), (18, .isub, 1, 0, 0, .null), (19, .invokevirtual 45, 3, 13, 4, .ref 0), (22, .aload_n 0, 1, 0, 0, .null), (23, .iload_n 2, 1, 2, 0, .null), (24, .iconst 3, 1, 0, 0, .int 3), (25, .isub, 1, 0, 0, .null), (26, .bipush 12, 2, 0, 0, .int 12), (28, .iconst 0, 1, 0, 0, .int 0), (29, .invokevirtual 45, 3, 13, 4, .ref 0), (32, .aload_n 0, 1, 0, 0, .null), (33, .iload_n 2, 1, 2, 0, .null), (34, .iconst 2, 1, 0, 0, .int 2), (35, .isub, 1, 0, 0, .null), (36, .bipush 13, 2, 0, 0, .int 13), (38, .iload_n 2, 1, 2, 0, .null), (39, .invokevirtual 45, 3, 13, 4, .ref 0), (42, .aload_n 0, 1, 0, 0, .null), (43, .iload_n 2, 1, 2, 0, .null), (44, .iconst 1, 1, 0, 0, .int 1), (45, .isub, 1, 0, 0, .null), (46, .iconst 0, 1, 0, 0, .int 0), (47, .iconst 0, 1, 0, 0, .int 0), (48, .invokevirtual 45, 3, 13, 4, .ref 0), (51, .return_, 1, 0, 0, .null)]
def mz_m9 : mz_D := (⟨"TinyFront$Code", "writeAnd", "(I)V"⟩, prog_2_method_9_code, 3, none, 1, 23, mz_t9)
/-- 10: TinyFront$Code.writeOr(I)V -/
def mz_t10 : List mz_E := [(0, .aload_n 0, 1, 0, 0, .null), (1, .iload_n 1, 1, 1, 0, .null), (2, .invokevirtual 83, 3, 12, 2, .ref 0), (5, .istore_n 2, 1, 2, 0, .null), (6, .aload_n 0, 1, 0, 0, .null), (7, .iload_n 1, 1, 1, 0, .null), (8, .iconst 1, 1, 0, 0, .int 1), (9, .iadd, 1, 0, 0, .null), (10, .invokevirtual 83, 3, 12, 2, .ref 0), (13, .istore_n 3, 1, 3, 0, .null), (14, .aload_n 0, 1, 0, 0, .null), (15, .iload_n 3, 1, 3, 0, .null), (16, .bipush 14, 2, 0, 0, .int 14), (18, .iload_n 3, 1, 3, 0, .null), (19, .iconst 3, 1, 0, 0, .int 3), (20, .iadd, 1, 0, 0, .null), (21, .invokevirtual 45, 3, 13, 4, .ref 0), (24, .aload_n 0, 1, 0, 0, .null), (25, .iload_n 3, 1, 3, 0, .null), (26, .iconst 1, 1, 0, 0, .int 1), (27, .iadd, 1, 0, 0, .null), (28, .iconst 0, 1, 0, 0, .int 0), (29, .iconst 1, 1, 0, 0, .int 1), (30, .invokevirtual 45, 3, 13, 4, .ref 0), (33, .aload_n 0, 1, 0, 0, .null), (34, .iload_n 3, 1, 3, 0, .null), (35, .iconst 2, 1, 0, 0, .int 2), (36, .iadd, 1, 0, 0, .null), (37, .bipush 13, 2, 0, 0, .int 13), (39, .iload_n 2, 1, 2, 0, .null), (40, .invokevirtual 45, 3, 13, 4, .ref 0), (43, .aload_n 0, 1, 0, 0, .null), (44, .iload_n 2, 1, 2, 0, .null), (45, .iconst 1, 1, 0, 0, .int 1), (46, .isub, 1, 0, 0, .null), (47, .bipush 12, 2, 0, 0, .int 12), (49, .iconst 0, 1, 0, 0, .int 0), (50, .invokevirtual 45, 3, 13, 4, .ref 0), (53, .return_, 1, 0, 0, .null)]
def mz_m10 : mz_D := (⟨"TinyFront$Code", "writeOr", "(I)V"⟩, prog_2_method_10_code, 4, none, 1, 23, mz_t10)
/-- 11: TinyFront$Code.startOf(I)I -/
def mz_t11 : List mz_E := [(0, .iload_n 1, 1, 1, 0, .null), (1, .ifCond .lt 19, 3, 20, 0, .null), (4, .iload_n 1, 1, 1, 0, .null), (5, .sipush 4001, 3, 0, 0, .int 4001), (8, .if_icmp .ge 12, 3, 20, 0, .null), (11, .aload_n 0, 1, 0, 0, .null), (12, .getfield 22, 3, 0, 3, .null), (15, .iload_n 1, 1, 1, 0, .null), (16, .iaload, 1, 0, 0, .null), (17, .goto 4, 3, 21, 0, .null), (20, .iconst 0, 1, 0, 0, .int 0), (21, .ireturn, 1, 0, 0, .null)]
def mz_m11 : mz_D := (⟨"TinyFront$Code", "startOf", "(I)I"⟩, prog_2_method_11_code, 2, (some (.int)), 0, 0, mz_t11)
/-- 12: TinyFront$Code.endOf(I)I -/
def mz_t12 : List mz_E := [(0, .iload_n 1, 1, 1, 0, .null), (1, .ifCond .lt 26, 3, 27, 0, .null), (4, .iload_n 1, 1, 1, 0, .null), (5, .sipush 4001, 3, 0, 0, .int 4001), (8, .if_icmp .ge 19, 3, 27, 0, .null), (11, .aload_n 0, 1, 0, 0, .null), (12, .getfield 22, 3, 0, 3, .null), (15, .iload_n 1, 1, 1, 0, .null), (16, .iaload, 1, 0, 0, .null), (17, .aload_n 0, 1, 0, 0, .null), (18, .getfield 25, 3, 0, 4, .null), (21, .iload_n 1, 1, 1, 0, .null), (22, .iaload, 1, 0, 0, .null), (23, .iadd, 1, 0, 0, .null), (24, .goto 4, 3, 28, 0, .null), (27, .iconst 0, 1, 0, 0, .int 0), (28, .ireturn, 1, 0, 0, .null)]
def mz_m12 : mz_D := (⟨"TinyFront$Code", "endOf", "(I)I"⟩, prog_2_method_12_code, 2, (some (.int)), 0, 0, mz_t12)
/-- 13: TinyFront$Code.put(III)V -/
def mz_t13 : List mz_E := [(0, .iload_n 1, 1, 1, 0, .null), (1, .ifCond .lt 24, 3, 25, 0, .null), (4, .iload_n 1, 1, 1, 0, .null), (5, .sipush 8001, 3, 0, 0, .int 8001), (8, .if_icmp .ge 17, 3, 25, 0, .null), (11, .aload_n 0, 1, 0, 0, .null), (12, .getfield 11, 3, 0, 0, .null), (15, .iload_n 1, 1, 1, 0, .null), (16, .iload_n 2, 1, 2, 0, .null), (17, .iastore, 1, 0, 0, .null), (18, .aload_n 0, 1, 0, 0, .null), (19, .getfield 15, 3, 0, 1, .null), (22, .iload_n 1, 1, 1, 0, .null), (23, .iload_n 3, 1, 3, 0, .null), (24, .iastore, 1, 0, 0, .null), (25, .return_, 1, 0, 0, .null)]
def mz_m13 : mz_D := (⟨"TinyFront$Code", "put", "(III)V"⟩, prog_2_method_13_code, 4, none, 0, 0, mz_t13)
/-- 14: TinyFront$CodeEngine.<init>(LTinyFront$Code;LTinyFront$Run;)V -/
def mz_t14 : List mz_E := [(0, .aload_n 0, 1, 0, 0, .null), (1, .invokespecial 3, 3, 9999, 0, .null), (4, .aload_n 0, 1, 0, 0, .null), (5, .sipush 208, 3, 0, 0, .int 208), (8, .newarray .int, 2, 0, 0, .null), (10, .putfield 11, 3, 1, 2, .ref 0), (13, .aload_n 0, 1, 0, 0, .null), (14, .iconst 0, 1, 0, 0, .int 0), (15, .putfield 15, 3, 1, 3, .null), (18, .aload_n 0, 1, 0, 0, .null), (19, .aload_n 1, 1, 1, 0, .null), (20, .putfield 19, 3, 1, 0, .ref 0), (23, .aload_n 0, 1, 0, 0, .null), (24, .aload_n 2, 1, 2, 0, .null), (25, .putfield 23, 3, 1, 1, .ref 0), (28, .return_, 1, 0, 0, .null)]
def mz_m14 : mz_D := (⟨"TinyFront$CodeEngine", "<init>", "(LTinyFront$Code;LTinyFront$Run;)V"⟩, prog_3_method_1_code, 3, none, 1, 20, mz_t14)
/-- 15: TinyFront$CodeEngine.go()V -/
def mz_t15 : List mz_E := [(0, .aload_n 0, 1, 0, 0, .null), (1, .iconst 0, 1, 0, 0, .int 0), (2, .putfield 15, 3, 1, 3, .null), (5, .iconst 0, 1, 0, 0, .int 0), (6, .istore_n 1, 1, 1, 0, .null), (7, .iconst 0, 1, 0, 0, .int 0), (8, .istore_n 2, 1, 2, 0, .null), (9, .iload_n 2, 1, 2, 0, .null), (10, .aload_n 0, 1, 0, 0, .null), (11, .getfield 23, 3, 1, 1, .null), (14, .getfield 27, 3, 4, 2, .null), (17, .if_icmp .gt 70, 3, 87, 0, .null), (20, .aload_n 0, 1, 0, 0, .null), (21, .getfield 23, 3, 1, 1, .null), (24, .invokevirtual 32, 3, 37, 1, .ref 4), (27, .ifCond .eq 60, 3, 87, 0, .null), (30, .iload_n 1, 1, 1, 0, .null), (31, .ifCond .lt 25, 3, 56, 0, .null), (34, .iload_n 1, 1, 1, 0, .null), (35, .aload_n 0, 1, 0, 0, .null), (36, .getfield 19, 3, 1, 0, .null), (39, .getfield 36, 3, 0, 2, .null), (42, .if_icmp .ge 14, 3, 56, 0, .null), (45, .aload_n 0, 1, 0, 0, .null), (46, .getfield 23, 3, 1, 1, .null), (49, .iload_n 1, 1, 1, 0, .null), (50, .invokevirtual 41, 3, 38, 2, .ref 4), (53, .ifCond .ne 4, 3, 57, 0, .null), (56, .return_, 1, 0, 0, .null), (57, .aload_n 0, 1, 0, 0, .null), (58, .iload_n 1, 1, 1, 0, .null), (59, .aload_n 0, 1, 0, 0, .null), (60, .getfield 19, 3, 1, 0, .null), (63, .getfield 45, 3, 0, 0, .null), (66, .iload_n 1, 1, 1, 0, .null), (67, .iaload, 1, 0, 0, .null), (68, .aload_n 0, 1, 0, 0, .null), (69, .getfield 19, 3, 1, 0, .null), (72, .getfield 48, 3, 0, 1, .null), (75, .iload_n 1, 1, 1, 0, .null), (76, .iaload, 1, 0, 0, .null), (77, .invokevirtual 51, 3, 16, 4, .ref 1), (80, .istore_n 1, 1, 1, 0, .null), (81, .iinc 2 1, 3, 2, 0, .int 1), (84, .goto (-75), 3, 9, 0, .null), (87, .return_, 1, 0, 0, .null)]
def mz_m15 : mz_D := (⟨"TinyFront$CodeEngine", "go", "()V"⟩, prog_3_method_2_code, 3, none, 4, 89, mz_t15)
/-- 16: TinyFront$CodeEngine.goWord(III)I -/
def mz_t16 : List mz_E := [(0, .iload_n 2, 1, 2, 0, .null), (1, .tableswitch 166 0 16 #[83, 92, 108, 166, 166, 166, 166, 166, 166, 166, 166, 166, 166, 124, 126, 141, 156], 83, 0, 0, .null), (84, .aload_n 0, 1, 0, 0, .null), (85, .iload_n 3, 1, 3, 0, .null), (86, .invokevirtual 55, 3, 19, 2, .ref 1), (89, .iload_n 1, 1, 1, 0, .null), (90, .iconst 1, 1, 0, 0, .int 1), (91, .iadd, 1, 0, 0, .null), (92, .ireturn, 1, 0, 0, .null), (93, .aload_n 0, 1, 0, 0, .null), (94, .aload_n 0, 1, 0, 0, .null), (95, .getfield 23, 3, 1, 1, .null), (98, .iload_n 3, 1, 3, 0, .null), (99, .invokevirtual 59, 3, 41, 2, .ref 4), (102, .invokevirtual 55, 3, 19, 2, .ref 1), (105, .iload_n 1, 1, 1, 0, .null), (106, .iconst 1, 1, 0, 0, .int 1), (107, .iadd, 1, 0, 0, .null), (108, .ireturn, 1, 0, 0, .null), (109, .aload_n 0, 1, 0, 0, .null), (110, .getfield 23, 3, 1, 1, .null), (113, .iload_n 3, 1, 3, 0, .null), (114, .aload_n 0, 1, 0, 0, .null), (115, .invokevirtual 63, 3, 20, 1, .ref 1), (118, .invokevirtual 67, 3, 42, 3, .ref 4), (121, .iload_n 1, 1, 1, 0, .null), (122, .iconst 1, 1, 0, 0, .int 1), (123, .iadd, 1, 0, 0, .null), (124, .ireturn, 1, 0, 0, .null), (125, .iload_n 3, 1, 3, 0, .null), (126, .ireturn, 1, 0, 0, .null), (127, .aload_n 0, 1, 0, 0, .null), (128, .invokevirtual 63, 3, 20, 1, .ref 1), (131, .ifCond .eq 9, 3, 140, 0, .null), (134, .iload_n 1, 1, 1, 0, .null), (135, .iconst 1, 1, 0, 0, .int 1), (136, .iadd, 1, 0, 0, .null), (137, .goto 4, 3, 141, 0, .null), (140, .iload_n 3, 1, 3, 0, .null), (141, .ireturn, 1, 0, 0, .null), (142, .aload_n 0, 1, 0, 0, .null), (143, .getfield 23, 3, 1, 1, .null), (146, .aload_n 0, 1, 0, 0, .null), (147, .invokevirtual 63, 3, 20, 1, .ref 1), (150, .invokevirtual 71, 3, 39, 2, .ref 4), (153, .iload_n 1, 1, 1, 0, .null), (154, .iconst 1, 1, 0, 0, .int 1), (155, .iadd, 1, 0, 0, .null), (156, .ireturn, 1, 0, 0, .null), (157, .aload_n 0, 1, 0, 0, .null), (158, .getfield 23, 3, 1, 1, .null), (161, .iconst 0, 1, 0, 0, .int 0), (162, .putfield 74, 3, 4, 1, .null), (165, .iload_n 1, 1, 1, 0, .null), (166, .ireturn, 1, 0, 0, .null), (167, .aload_n 0, 1, 0, 0, .null), (168, .iload_n 2, 1, 2, 0, .null), (169, .invokevirtual 77, 3, 17, 2, .ref 1), (172, .iload_n 1, 1, 1, 0, .null), (173, .iconst 1, 1, 0, 0, .int 1), (174, .iadd, 1, 0, 0, .null), (175, .ireturn, 1, 0, 0, .null)]
def mz_m16 : mz_D := (⟨"TinyFront$CodeEngine", "goWord", "(III)I"⟩, prog_3_method_3_code, 4, (some (.int)), 3, 66, mz_t16)
/-- 17: TinyFront$CodeEngine.replaceUppermost(I)V -/
def mz_t17 : List mz_E := [(0, .aload_n 0, 1, 0, 0, .null), (1, .invokevirtual 63, 3, 20, 1, .ref 1), (4, .istore_n 2, 1, 2, 0, .null), (5, .iload_n 1, 1, 1, 0, .null), (6, .invokestatic 80, 3, 18, 1, .null), (9, .ifCond .eq 7, 3, 16, 0, .null), (12, .iconst 0, 1, 0, 0, .int 0), (13, .goto 7, 3, 20, 0, .null), (16, .aload_n 0, 1, 0, 0, .null), (17, .invokevirtual 63, 3, 20, 1, .ref 1), (20, .istore_n 3, 1, 3, 0, .null), (21, .aload_n 0, 1, 0, 0, .null), (22, .aload_n 0, 1, 0, 0, .null), (23, .getfield 23, 3, 1, 1, .null), (26, .iload_n 1, 1, 1, 0, .null), (27, .iload_n 3, 1, 3, 0, .null), (28, .iload_n 2, 1, 2, 0, .null), (29, .invokevirtual 83, 3, 43, 4, .ref 4), (32, .invokevirtual 55, 3, 19, 2, .ref 1), (35, .return_, 1, 0, 0, .null)]
def mz_m17 : mz_D := (⟨"TinyFront$CodeEngine", "replaceUppermost", "(I)V"⟩, prog_3_method_4_code, 4, none, 2, 43, mz_t17)
/-- 18: TinyFront$CodeEngine.isOfOne(I)Z -/
def mz_t18 : List mz_E := [(0, .iload_n 0, 1, 0, 0, .null), (1, .bipush 10, 2, 0, 0, .int 10), (3, .if_icmp .eq 15, 3, 18, 0, .null), (6, .iload_n 0, 1, 0, 0, .null), (7, .bipush 11, 2, 0, 0, .int 11), (9, .if_icmp .eq 9, 3, 18, 0, .null), (12, .iload_n 0, 1, 0, 0, .null), (13, .bipush 12, 2, 0, 0, .int 12), (15, .if_icmp .ne 7, 3, 22, 0, .null), (18, .iconst 1, 1, 0, 0, .int 1), (19, .goto 4, 3, 23, 0, .null), (22, .iconst 0, 1, 0, 0, .int 0), (23, .ireturn, 1, 0, 0, .null)]
def mz_m18 : mz_D := (⟨"TinyFront$CodeEngine", "isOfOne", "(I)Z"⟩, prog_3_method_5_code, 1, (some (.boolean)), 0, 0, mz_t18)
/-- 19: TinyFront$CodeEngine.push(I)V -/
def mz_t19 : List mz_E := [(0, .aload_n 0, 1, 0, 0, .null), (1, .getfield 15, 3, 1, 3, .null), (4, .sipush 208, 3, 0, 0, .int 208), (7, .if_icmp .ge 23, 3, 30, 0, .null), (10, .aload_n 0, 1, 0, 0, .null), (11, .getfield 11, 3, 1, 2, .null), (14, .aload_n 0, 1, 0, 0, .null), (15, .getfield 15, 3, 1, 3, .null), (18, .iload_n 1, 1, 1, 0, .null), (19, .iastore, 1, 0, 0, .null), (20, .aload_n 0, 1, 0, 0, .null), (21, .dup, 1, 0, 0, .null), (22, .getfield 15, 3, 1, 3, .null), (25, .iconst 1, 1, 0, 0, .int 1), (26, .iadd, 1, 0, 0, .null), (27, .putfield 15, 3, 1, 3, .null), (30, .return_, 1, 0, 0, .null)]
def mz_m19 : mz_D := (⟨"TinyFront$CodeEngine", "push", "(I)V"⟩, prog_3_method_6_code, 2, none, 0, 0, mz_t19)
/-- 20: TinyFront$CodeEngine.pop()I -/
def mz_t20 : List mz_E := [(0, .aload_n 0, 1, 0, 0, .null), (1, .getfield 15, 3, 1, 3, .null), (4, .ifCond .ne 5, 3, 9, 0, .null), (7, .iconst 0, 1, 0, 0, .int 0), (8, .ireturn, 1, 0, 0, .null), (9, .aload_n 0, 1, 0, 0, .null), (10, .dup, 1, 0, 0, .null), (11, .getfield 15, 3, 1, 3, .null), (14, .iconst 1, 1, 0, 0, .int 1), (15, .isub, 1, 0, 0, .null), (16, .putfield 15, 3, 1, 3, .null), (19, .aload_n 0, 1, 0, 0, .null), (20, .getfield 11, 3, 1, 2, .null), (23, .aload_n 0, 1, 0, 0, .null), (24, .getfield 15, 3, 1, 3, .null), (27, .iaload, 1, 0, 0, .null), (28, .ireturn, 1, 0, 0, .null)]
def mz_m20 : mz_D := (⟨"TinyFront$CodeEngine", "pop", "()I"⟩, prog_3_method_7_code, 1, (some (.int)), 0, 0, mz_t20)
/-- 21: TinyFront$Parser.<init>()V -/
def mz_t21 : List mz_E := [(0, .aload_n 0, 1, 0, 0, .null), (1, .invokespecial 5, 3, 9999, 0, .null), (4, .aload_n 0, 1, 0, 0, .null), (5, .sipush 16016, 3, 0, 0, .int 16016), (8, .newarray .int, 2, 0, 0, .null), (10, .putfield 11, 3, 2, 0, .ref 0), (13, .aload_n 0, 1, 0, 0, .null), (14, .iconst 0, 1, 0, 0, .int 0), (15, .putfield 15, 3, 2, 1, .null), (18, .aload_n 0, 1, 0, 0, .null), (19, .new 19, 3, 7, 0, .null), (22, .dup, 1, 0, 0, .null), (23, .invokespecial 21, 3, 81, 1, .int 1), (26, .putfield 22, 3, 2, 2, .ref 0), (29, .aload_n 0, 1, 0, 0, .null), (30, .new 26, 3, 5, 0, .null), (33, .dup, 1, 0, 0, .null), (34, .invokespecial 28, 3, 45, 1, .null), (37, .putfield 29, 3, 2, 3, .ref 0), (40, .aload_n 0, 1, 0, 0, .null), (41, .sipush 8004, 3, 0, 0, .int 8004), (44, .newarray .int, 2, 0, 0, .null), (46, .putfield 33, 3, 2, 4, .ref 0), (49, .aload_n 0, 1, 0, 0, .null), (50, .sipush 8004, 3, 0, 0, .int 8004), (53, .newarray .int, 2, 0, 0, .null), (55, .putfield 36, 3, 2, 5, .ref 0), (58, .aload_n 0, 1, 0, 0, .null), (59, .iconst 0, 1, 0, 0, .int 0), (60, .putfield 39, 3, 2, 6, .null), (63, .return_, 1, 0, 0, .null)]
def mz_m21 : mz_D := (⟨"TinyFront$Parser", "<init>", "()V"⟩, prog_4_method_1_code, 1, none, 5, 107, mz_t21)
/-- 22: TinyFront$Parser.read(LTinyFront$Tokens;)I -/
def mz_t22 : List mz_E := [(0, .aload_n 0, 1, 0, 0, .null), (1, .iconst 0, 1, 0, 0, .int 0), (2, .putfield 15, 3, 2, 1, .null), (5, .aload_n 0, 1, 0, 0, .null), (6, .getfield 22, 3, 2, 2, .null), (9, .iconst 0, 1, 0, 0, .int 0), (10, .putfield 42, 3, 7, 5, .null), (13, .aload_n 0, 1, 0, 0, .null), (14, .iconst 0, 1, 0, 0, .int 0), (15, .putfield 39, 3, 2, 6, .null), (18, .aload_n 0, 1, 0, 0, .null), (19, .iconst 0, 1, 0, 0, .int 0), (20, .iconst 0, 1, 0, 0, .int 0), (21, .invokevirtual 45, 3, 23, 3, .ref 2), (24, .iconst 0, 1, 0, 0, .int 0), (25, .istore_n 2, 1, 2, 0, .null), (26, .iconst 0, 1, 0, 0, .int 0), (27, .istore_n 3, 1, 3, 0, .null), (28, .iload_n 3, 1, 3, 0, .null), (29, .sipush 20018, 3, 0, 0, .int 20018), (32, .if_icmp .ge 105, 3, 137, 0, .null), (35, .iload_n 2, 1, 2, 0, .null), (36, .aload_n 1, 1, 1, 0, .null), (37, .getfield 49, 3, 6, 4, .null), (40, .if_icmp .gt 97, 3, 137, 0, .null), (43, .aload_n 0, 1, 0, 0, .null), (44, .getfield 29, 3, 2, 3, .null), (47, .aload_n 0, 1, 0, 0, .null), (48, .getfield 33, 3, 2, 4, .null), (51, .aload_n 0, 1, 0, 0, .null), (52, .getfield 39, 3, 2, 6, .null), (55, .iconst 1, 1, 0, 0, .int 1), (56, .isub, 1, 0, 0, .null), (57, .iaload, 1, 0, 0, .null), (58, .aload_n 1, 1, 1, 0, .null), (59, .getfield 52, 3, 6, 0, .null), (62, .iload_n 2, 1, 2, 0, .null), (63, .iaload, 1, 0, 0, .null), (64, .invokevirtual 55, 3, 46, 3, .ref 5), (67, .istore 4, 2, 4, 0, .null), (69, .iload 4, 2, 4, 0, .null), (71, .ifCond .ne 5, 3, 76, 0, .null), (74, .iload_n 2, 1, 2, 0, .null), (75, .ireturn, 1, 0, 0, .null), (76, .iload 4, 2, 4, 0, .null), (78, .sipush 1000, 3, 0, 0, .int 1000), (81, .if_icmp .ne 25, 3, 106, 0, .null), (84, .aload_n 0, 1, 0, 0, .null), (85, .getfield 22, 3, 2, 2, .null), (88, .iconst 0, 1, 0, 0, .int 0), (89, .iconst 0, 1, 0, 0, .int 0), (90, .aload_n 0, 1, 0, 0, .null), (91, .getfield 36, 3, 2, 5, .null), (94, .aload_n 0, 1, 0, 0, .null), (95, .getfield 39, 3, 2, 6, .null), (98, .iconst 1, 1, 0, 0, .int 1), (99, .isub, 1, 0, 0, .null), (100, .iaload, 1, 0, 0, .null), (101, .invokevirtual 59, 3, 82, 4, .ref 7), (104, .iconst (-1), 1, 0, 0, .int (-1)), (105, .ireturn, 1, 0, 0, .null), (106, .iload 4, 2, 4, 0, .null), (108, .ifCond .le 16, 3, 124, 0, .null), (111, .aload_n 0, 1, 0, 0, .null), (112, .iload 4, 2, 4, 0, .null), (114, .iload_n 2, 1, 2, 0, .null), (115, .invokevirtual 45, 3, 23, 3, .ref 2), (118, .iinc 2 1, 3, 2, 0, .int 1), (121, .goto 10, 3, 131, 0, .null), (124, .aload_n 0, 1, 0, 0, .null), (125, .iload 4, 2, 4, 0, .null), (127, .ineg, 1, 0, 0, .null), (128, .invokevirtual 63, 3, 24, 2, .ref 2), (131, .iinc 3 1, 3, 3, 0, .int 1), (134, .goto (-106), 3, 28, 0, .null), (137, .iload_n 2, 1, 2, 0, .null), (138, .ireturn, 1, 0, 0, .null)]
def mz_m22 : mz_D := (⟨"TinyFront$Parser", "read", "(LTinyFront$Tokens;)I"⟩, prog_4_method_2_code, 5, (some (.int)), 4, 93, mz_t22)
/-- 23: TinyFront$Parser.push(II)V -/
def mz_t23 : List mz_E := [(0, .aload_n 0, 1, 0, 0, .null), (1, .getfield 39, 3, 2, 6, .null), (4, .sipush 8004, 3, 0, 0, .int 8004), (7, .if_icmp .ge 33, 3, 40, 0, .null), (10, .aload_n 0, 1, 0, 0, .null), (11, .getfield 33, 3, 2, 4, .null), (14, .aload_n 0, 1, 0, 0, .null), (15, .getfield 39, 3, 2, 6, .null), (18, .iload_n 1, 1, 1, 0, .null), (19, .iastore, 1, 0, 0, .null), (20, .aload_n 0, 1, 0, 0, .null), (21, .getfield 36, 3, 2, 5, .null), (24, .aload_n 0, 1, 0, 0, .null), (25, .getfield 39, 3, 2, 6, .null), (28, .iload_n 2, 1, 2, 0, .null), (29, .iastore, 1, 0, 0, .null), (30, .aload_n 0, 1, 0, 0, .null), (31, .dup, 1, 0, 0, .null), (32, .getfield 39, 3, 2, 6, .null), (35, .iconst 1, 1, 0, 0, .int 1), (36, .iadd, 1, 0, 0, .null), (37, .putfield 39, 3, 2, 6, .null), (40, .return_, 1, 0, 0, .null)]
def mz_m23 : mz_D := (⟨"TinyFront$Parser", "push", "(II)V"⟩, prog_4_method_3_code, 3, none, 0, 0, mz_t23)
/-- 24: TinyFront$Parser.reduce(I)V -/
def mz_t24 : List mz_E := [(0, .aload_n 0, 1, 0, 0, .null), (1, .iload_n 1, 1, 1, 0, .null), (2, .invokevirtual 67, 3, 25, 2, .ref 2), (5, .aload_n 0, 1, 0, 0, .null), (6, .getfield 39, 3, 2, 6, .null), (9, .aload_n 0, 1, 0, 0, .null), (10, .getfield 29, 3, 2, 3, .null), (13, .iload_n 1, 1, 1, 0, .null), (14, .invokevirtual 70, 3, 47, 2, .ref 5), (17, .isub, 1, 0, 0, .null), (18, .istore_n 2, 1, 2, 0, .null), (19, .iload_n 2, 1, 2, 0, .null), (20, .iconst 1, 1, 0, 0, .int 1), (21, .if_icmp .ge 4, 3, 25, 0, .null), (24, .return_, 1, 0, 0, .null), (25, .aload_n 0, 1, 0, 0, .null), (26, .iload_n 1, 1, 1, 0, .null), (27, .iload_n 2, 1, 2, 0, .null), (28, .invokevirtual 74, 3, 26, 3, .ref 2), (31, .iload_n 1, 1, 1, 0, .null), (32, .iconst 2, 1, 0, 0, .int 2), (33, .if_icmp .ne 14, 3, 47, 0, .null), (36, .aload_n 0, 1, 0, 0, .null), (37, .getfield 36, 3, 2, 5, .null), (40, .iload_n 2, 1, 2, 0, .null), (41, .iaload, 1, 0, 0, .null), (42, .iconst 1, 1, 0, 0, .int 1), (43, .iadd, 1, 0, 0, .null), (44, .goto 4, 3, 48, 0, .null), (47, .iconst 0, 1, 0, 0, .int 0), (48, .istore_n 3, 1, 3, 0, .null), (49, .aload_n 0, 1, 0, 0, .null), (50, .iload_n 2, 1, 2, 0, .null), (51, .putfield 39, 3, 2, 6, .null), (54, .aload_n 0, 1, 0, 0, .null), (55, .aload_n 0, 1, 0, 0, .null), (56, .getfield 29, 3, 2, 3, .null), (59, .aload_n 0, 1, 0, 0, .null), (60, .getfield 33, 3, 2, 4, .null), (63, .iload_n 2, 1, 2, 0, .null), (64, .iconst 1, 1, 0, 0, .int 1), (65, .isub, 1, 0, 0, .null), (66, .iaload, 1, 0, 0, .null), (67, .aload_n 0, 1, 0, 0, .null), (68, .getfield 29, 3, 2, 3, .null), (71, .iload_n 1, 1, 1, 0, .null), (72, .invokevirtual 77, 3, 48, 2, .ref 5), (75, .invokevirtual 55, 3, 46, 3, .ref 5), (78, .iload_n 3, 1, 3, 0, .null), (79, .invokevirtual 45, 3, 23, 3, .ref 2), (82, .return_, 1, 0, 0, .null)]
def mz_m24 : mz_D := (⟨"TinyFront$Parser", "reduce", "(I)V"⟩, prog_4_method_4_code, 4, none, 3, 70, mz_t24)
/-- 25: TinyFront$Parser.tell(I)V -/
def mz_t25 : List mz_E := [(0, .aload_n 0, 1, 0, 0, .null), (1, .getfield 15, 3, 2, 1, .null), (4, .sipush 16016, 3, 0, 0, .int 16016), (7, .if_icmp .ge 23, 3, 30, 0, .null), (10, .aload_n 0, 1, 0, 0, .null), (11, .getfield 11, 3, 2, 0, .null), (14, .aload_n 0, 1, 0, 0, .null), (15, .getfield 15, 3, 2, 1, .null), (18, .iload_n 1, 1, 1, 0, .null), (19, .iastore, 1, 0, 0, .null), (20, .aload_n 0, 1, 0, 0, .null), (21, .dup, 1, 0, 0, .null), (22, .getfield 15, 3, 2, 1, .null), (25, .iconst 1, 1, 0, 0, .int 1), (26, .iadd, 1, 0, 0, .null), (27, .putfield 15, 3, 2, 1, .null), (30, .return_, 1, 0, 0, .null)]
def mz_m25 : mz_D := (⟨"TinyFront$Parser", "tell", "(I)V"⟩, prog_4_method_5_code, 2, none, 0, 0, mz_t25)
/-- 26: TinyFront$Parser.grow(II)V -/
def mz_t26 : List mz_E := [(0, .getstatic 80, 3, 3, 0, .ref 303), (3, .iload_n 1, 1, 1, 0, .null), (4, .iaload, 1, 0, 0, .null), (5, .iconst (-1), 1, 0, 0, .int (-1)), (6, .if_icmp .ne 4, 3, 10, 0, .null), (9, .return_, 1, 0, 0, .null), (10, .iload_n 1, 1, 1, 0, .null), (11, .bipush 11, 2, 0, 0, .int 11), (13, .if_icmp .ne 14, 3, 27, 0, .null), (16, .aload_n 0, 1, 0, 0, .null), (17, .getfield 36, 3, 2, 5, .null), (20, .iload_n 2, 1, 2, 0, .null), (21, .iconst 1, 1, 0, 0, .int 1), (22, .iadd, 1, 0, 0, .null), (23, .iaload, 1, 0, 0, .null), (24, .goto 8, 3, 32, 0, .null), (27, .getstatic 83, 3, 4, 0, .ref 304), (30, .iload_n 1, 1, 1, 0, .null), (31, .iaload, 1, 0, 0, .null), (32, .istore_n 3, 1, 3, 0, .null), (33, .aload_n 0, 1, 0, 0, .null), (34, .getfield 22, 3, 2, 2, .null), (37, .getstatic 80, 3, 3, 0, .ref 303), (40, .iload_n 1, 1, 1, 0, .null), (41, .iaload, 1, 0, 0, .null), (42, .aload_n 0, 1, 0, 0, .null), (43, .getfield 36, 3, 2, 5, .null), (46, .iload_n 2, 1, 2, 0, .null), (47, .getstatic 86, 3, 5, 0, .ref 305), (50, .iload_n 1, 1, 1, 0, .null), (51, .iaload, 1, 0, 0, .null), (52, .iadd, 1, 0, 0, .null), (53, .iaload, 1, 0, 0, .null), (54, .iload_n 3, 1, 3, 0, .null), (55, .invokevirtual 59, 3, 82, 4, .ref 7), (58, .return_, 1, 0, 0, .null)]
def mz_m26 : mz_D := (⟨"TinyFront$Parser", "grow", "(II)V"⟩, prog_4_method_6_code, 4, none, 2, 47, mz_t26)
/-- 27: TinyFront$Paths.<init>()V -/
def mz_t27 : List mz_E := [(0, .aload_n 0, 1, 0, 0, .null), (1, .invokespecial 3, 3, 9999, 0, .null), (4, .aload_n 0, 1, 0, 0, .null), (5, .sipush 4001, 3, 0, 0, .int 4001), (8, .newarray .int, 2, 0, 0, .null), (10, .putfield 9, 3, 3, 0, .ref 0), (13, .aload_n 0, 1, 0, 0, .null), (14, .iconst 0, 1, 0, 0, .int 0), (15, .putfield 15, 3, 3, 1, .null), (18, .aload_n 0, 1, 0, 0, .null), (19, .sipush 4001, 3, 0, 0, .int 4001), (22, .newarray .int, 2, 0, 0, .null), (24, .putfield 19, 3, 3, 2, .ref 0), (27, .aload_n 0, 1, 0, 0, .null), (28, .sipush 4001, 3, 0, 0, .int 4001), (31, .newarray .int, 2, 0, 0, .null), (33, .putfield 22, 3, 3, 3, .ref 0), (36, .return_, 1, 0, 0, .null)]
def mz_m27 : mz_D := (⟨"TinyFront$Paths", "<init>", "()V"⟩, prog_5_method_1_code, 1, none, 1, 20, mz_t27)
/-- 28: TinyFront$Paths.find(LTinyFront$Tree;)V -/
def mz_t28 : List mz_E := [(0, .aload_n 0, 1, 0, 0, .null), (1, .aload_n 1, 1, 1, 0, .null), (2, .getfield 25, 3, 7, 5, .null), (5, .putfield 15, 3, 3, 1, .null), (8, .aload_n 0, 1, 0, 0, .null), (9, .getfield 19, 3, 3, 2, .null), (12, .iconst 0, 1, 0, 0, .int 0), (13, .aload_n 0, 1, 0, 0, .null), (14, .getfield 15, 3, 3, 1, .null), (17, .iastore, 1, 0, 0, .null), (18, .aload_n 0, 1, 0, 0, .null), (19, .getfield 9, 3, 3, 0, .null), (22, .iconst 0, 1, 0, 0, .int 0), (23, .iconst (-1), 1, 0, 0, .int (-1)), (24, .iastore, 1, 0, 0, .null), (25, .iconst 0, 1, 0, 0, .int 0), (26, .istore_n 2, 1, 2, 0, .null), (27, .iload_n 2, 1, 2, 0, .null), (28, .aload_n 1, 1, 1, 0, .null), (29, .getfield 25, 3, 7, 5, .null), (32, .if_icmp .ge 15, 3, 47, 0, .null), (35, .aload_n 0, 1, 0, 0, .null), (36, .aload_n 1, 1, 1, 0, .null), (37, .iload_n 2, 1, 2, 0, .null), (38, .invokevirtual 30, 3, 29, 3, .ref 3), (41, .iinc 2 1, 3, 2, 0, .int 1), (44, .goto (-17), 3, 27, 0, .null), (47, .aload_n 1, 1, 1, 0, .null), (48, .getfield 25, 3, 7, 5, .null), (51, .iconst 1, 1, 0, 0, .int 1), (52, .isub, 1, 0, 0, .null), (53, .istore_n 2, 1, 2, 0, .null), (54, .iload_n 2, 1, 2, 0, .null), (55, .ifCond .lt 56, 3, 111, 0, .null), (58, .aload_n 0, 1, 0, 0, .null), (59, .getfield 22, 3, 3, 3, .null), (62, .iload_n 2, 1, 2, 0, .null), (63, .iload_n 2, 1, 2, 0, .null), (64, .iastore, 1, 0, 0, .null), (65, .aload_n 1, 1, 1, 0, .null), (66, .getfield 34, 3, 7, 0, .null), (69, .iload_n 2, 1, 2, 0, .null), (70, .iaload, 1, 0, 0, .null), (71, .ifCond .ne 34, 3, 105, 0, .null), (74, .aload_n 0, 1, 0, 0, .null), (75, .getfield 22, 3, 3, 3, .null), (78, .iload_n 2, 1, 2, 0, .null), (79, .aload_n 0, 1, 0, 0, .null), (80, .aload_n 1, 1, 1, 0, .null), (81, .getfield 37, 3, 7, 2, .null), (84, .iload_n 2, 1, 2, 0, .null), (85, .iaload, 1, 0, 0, .null), (86, .ifCond .le 9, 3, 95, 0, .null), (89, .iload_n 2, 1, 2, 0, .null), (90, .iconst 1, 1, 0, 0, .int 1), (91, .iadd, 1, 0, 0, .null), (92, .goto 9, 3, 101, 0, .null), (95, .aload_n 0, 1, 0, 0, .null), (96, .getfield 19, 3, 3, 2, .null), (99, .iload_n 2, 1, 2, 0, .null), (100, .iaload, 1, 0, 0, .null), (101, .invokevirtual 40, 3, 32, 2, .ref 3), (104, .iastore, 1, 0, 0, .null), (105, .iinc 2 (-1), 3, 2, 0, .int (-1)), (108, .goto (-54), 3, 54, 0, .null), (111, .return_, 1, 0, 0, .null)]
def mz_m28 : mz_D := (⟨"TinyFront$Paths", "find", "(LTinyFront$Tree;)V"⟩, prog_5_method_2_code, 3, none, 2, 48, mz_t28)
/-- 29: TinyFront$Paths.placeStatements(LTinyFront$Tree;I)V -/
def mz_t29 : List mz_E := [(0, .aload_n 1, 1, 1, 0, .null), (1, .getfield 34, 3, 7, 0, .null), (4, .iload_n 2, 1, 2, 0, .null), (5, .iaload, 1, 0, 0, .null), (6, .istore_n 3, 1, 3, 0, .null), (7, .iload_n 3, 1, 3, 0, .null), (8, .ifCond .eq 14, 3, 22, 0, .null), (11, .iload_n 3, 1, 3, 0, .null), (12, .iconst 3, 1, 0, 0, .int 3), (13, .if_icmp .eq 9, 3, 22, 0, .null), (16, .iload_n 3, 1, 3, 0, .null), (17, .iconst 4, 1, 0, 0, .int 4), (18, .if_icmp .eq 4, 3, 22, 0, .null), (21, .return_, 1, 0, 0, .null), (22, .iload_n 2, 1, 2, 0, .null), (23, .iconst 1, 1, 0, 0, .int 1), (24, .iadd, 1, 0, 0, .null), (25, .istore 4, 2, 4, 0, .null), (27, .iconst 0, 1, 0, 0, .int 0), (28, .istore 5, 2, 5, 0, .null), (30, .iload 5, 2, 5, 0, .null), (32, .aload_n 1, 1, 1, 0, .null), (33, .getfield 37, 3, 7, 2, .null), (36, .iload_n 2, 1, 2, 0, .null), (37, .iaload, 1, 0, 0, .null), (38, .if_icmp .ge 111, 3, 149, 0, .null), (41, .iload 4, 2, 4, 0, .null), (43, .aload_n 1, 1, 1, 0, .null), (44, .getfield 25, 3, 7, 5, .null), (47, .if_icmp .ge 102, 3, 149, 0, .null), (50, .aload_n 1, 1, 1, 0, .null), (51, .iload 4, 2, 4, 0, .null), (53, .invokevirtual 44, 3, 87, 2, .ref 7), (56, .istore 6, 2, 6, 0, .null), (58, .iload_n 3, 1, 3, 0, .null), (59, .ifCond .ne 20, 3, 79, 0, .null), (62, .iload 5, 2, 5, 0, .null), (64, .iconst 1, 1, 0, 0, .int 1), (65, .iadd, 1, 0, 0, .null), (66, .aload_n 1, 1, 1, 0, .null), (67, .getfield 37, 3, 7, 2, .null), (70, .iload_n 2, 1, 2, 0, .null), (71, .iaload, 1, 0, 0, .null), (72, .if_icmp .ge 7, 3, 79, 0, .null), (75, .iconst 1, 1, 0, 0, .int 1), (76, .goto 4, 3, 80, 0, .null), (79, .iconst 0, 1, 0, 0, .int 0), (80, .istore 7, 2, 7, 0, .null), (82, .aload_n 0, 1, 0, 0, .null), (83, .getfield 19, 3, 3, 2, .null), (86, .iload 4, 2, 4, 0, .null), (88, .iload 7, 2, 7, 0, .null), (90, .ifCond .eq 8, 3, 98, 0, .null), (93, .iload 6, 2, 6, 0, .null), (95, .goto 21, 3, 116, 0, .null), (98, .iload_n 3, 1, 3, 0, .null), (99, .iconst 4, 1, 0, 0, .int 4), (100, .if_icmp .ne 10, 3, 110, 0, .null), (103, .iload_n 2, 1, 2, 0, .null), (104, .invokestatic 47, 3, 31, 1, .null), (107, .goto 9, 3, 116, 0, .null), (110, .aload_n 0, 1, 0, 0, .null), (111, .getfield 19, 3, 3, 2, .null), (114, .iload_n 2, 1, 2, 0, .null), (115, .iaload, 1, 0, 0, .null), (116, .iastore, 1, 0, 0, .null), (117, .aload_n 0, 1, 0, 0, .null), (118, .getfield 9, 3, 3, 0, .null), (121, .iload 4, 2, 4, 0, .null), (123, .iload_n 3, 1, 3, 0, .null), (124, .iconst 4, 1, 0, 0, .int 4), (125, .if_icmp .ne 7, 3, 132, 0, .null), (128, .iload_n 2, 1, 2, 0, .null), (129, .goto 9, 3, 138, 0, .null), (132, .aload_n 0, 1, 0, 0, .null), (133, .getfield 9, 3, 3, 0, .null), (136, .iload_n 2, 1, 2, 0, .null), (137, .iaload, 1, 0, 0, .null), (138, .iastore, 1, 0, 0, .null), (139, .iload 6, 2, 6, 0, .null), (141, .istore 4, 2, 4, 0, .null), (143, .iinc 5 1, 3, 5, 0, .int 1), (146, .goto (-116), 3, 30, 0, .null), (149, .return_, 1, 0, 0, .null)]
def mz_m29 : mz_D := (⟨"TinyFront$Paths", "placeStatements", "(LTinyFront$Tree;I)V"⟩, prog_5_method_3_code, 8, none, 1, 21, mz_t29)
/-- 30: TinyFront$Paths.firstStray(LTinyFront$Tree;)I -/
def mz_t30 : List mz_E := [(0, .iconst 0, 1, 0, 0, .int 0), (1, .istore_n 2, 1, 2, 0, .null), (2, .iload_n 2, 1, 2, 0, .null), (3, .aload_n 1, 1, 1, 0, .null), (4, .getfield 25, 3, 7, 5, .null), (7, .if_icmp .ge 57, 3, 64, 0, .null), (10, .aload_n 1, 1, 1, 0, .null), (11, .getfield 34, 3, 7, 0, .null), (14, .iload_n 2, 1, 2, 0, .null), (15, .iaload, 1, 0, 0, .null), (16, .iconst 5, 1, 0, 0, .int 5), (17, .if_icmp .eq 14, 3, 31, 0, .null), (20, .aload_n 1, 1, 1, 0, .null), (21, .getfield 34, 3, 7, 0, .null), (24, .iload_n 2, 1, 2, 0, .null), (25, .iaload, 1, 0, 0, .null), (26, .bipush 6, 2, 0, 0, .int 6), (28, .if_icmp .ne 7, 3, 35, 0, .null), (31, .iconst 1, 1, 0, 0, .int 1), (32, .goto 4, 3, 36, 0, .null), (35, .iconst 0, 1, 0, 0, .int 0), (36, .istore_n 3, 1, 3, 0, .null), (37, .iload_n 3, 1, 3, 0, .null), (38, .ifCond .eq 20, 3, 58, 0, .null), (41, .aload_n 0, 1, 0, 0, .null), (42, .getfield 9, 3, 3, 0, .null), (45, .iload_n 2, 1, 2, 0, .null), (46, .iaload, 1, 0, 0, .null), (47, .iconst (-1), 1, 0, 0, .int (-1)), (48, .if_icmp .ne 10, 3, 58, 0, .null), (51, .aload_n 1, 1, 1, 0, .null), (52, .getfield 50, 3, 7, 1, .null), (55, .iload_n 2, 1, 2, 0, .null), (56, .iaload, 1, 0, 0, .null), (57, .ireturn, 1, 0, 0, .null), (58, .iinc 2 1, 3, 2, 0, .int 1), (61, .goto (-59), 3, 2, 0, .null), (64, .iconst (-1), 1, 0, 0, .int (-1)), (65, .ireturn, 1, 0, 0, .null)]
def mz_m30 : mz_D := (⟨"TinyFront$Paths", "firstStray", "(LTinyFront$Tree;)I"⟩, prog_5_method_4_code, 4, (some (.int)), 0, 0, mz_t30)
/-- 31: TinyFront$Paths.round(I)I -/
def mz_t31 : List mz_E := [(0, .iconst (-1), 1, 0, 0, .int (-1)), (1, .iload_n 0, 1, 0, 0, .null), (2, .isub, 1, 0, 0, .null), (3, .ireturn, 1, 0, 0, .null)]
def mz_m31 : mz_D := (⟨"TinyFront$Paths", "round", "(I)I"⟩, prog_5_method_5_code, 1, (some (.int)), 0, 0, mz_t31)
/-- 32: TinyFront$Paths.into(I)I -/
def mz_t32 : List mz_E := [(0, .iload_n 1, 1, 1, 0, .null), (1, .ifCond .lt 20, 3, 21, 0, .null), (4, .iload_n 1, 1, 1, 0, .null), (5, .aload_n 0, 1, 0, 0, .null), (6, .getfield 15, 3, 3, 1, .null), (9, .if_icmp .ge 12, 3, 21, 0, .null), (12, .aload_n 0, 1, 0, 0, .null), (13, .getfield 22, 3, 3, 3, .null), (16, .iload_n 1, 1, 1, 0, .null), (17, .iaload, 1, 0, 0, .null), (18, .goto 4, 3, 22, 0, .null), (21, .iload_n 1, 1, 1, 0, .null), (22, .ireturn, 1, 0, 0, .null)]
def mz_m32 : mz_D := (⟨"TinyFront$Paths", "into", "(I)I"⟩, prog_5_method_6_code, 2, (some (.int)), 0, 0, mz_t32)
/-- 33: TinyFront$Paths.behind(I)I -/
def mz_t33 : List mz_E := [(0, .iload_n 1, 1, 1, 0, .null), (1, .ifCond .lt 24, 3, 25, 0, .null), (4, .iload_n 1, 1, 1, 0, .null), (5, .aload_n 0, 1, 0, 0, .null), (6, .getfield 15, 3, 3, 1, .null), (9, .if_icmp .ge 16, 3, 25, 0, .null), (12, .aload_n 0, 1, 0, 0, .null), (13, .aload_n 0, 1, 0, 0, .null), (14, .getfield 19, 3, 3, 2, .null), (17, .iload_n 1, 1, 1, 0, .null), (18, .iaload, 1, 0, 0, .null), (19, .invokevirtual 40, 3, 32, 2, .ref 3), (22, .goto 7, 3, 29, 0, .null), (25, .aload_n 0, 1, 0, 0, .null), (26, .getfield 15, 3, 3, 1, .null), (29, .ireturn, 1, 0, 0, .null)]
def mz_m33 : mz_D := (⟨"TinyFront$Paths", "behind", "(I)I"⟩, prog_5_method_7_code, 2, (some (.int)), 1, 21, mz_t33)
/-- 34: TinyFront$Run.<init>()V -/
def mz_t34 : List mz_E := [(0, .aload_n 0, 1, 0, 0, .null), (1, .invokespecial 3, 3, 9999, 0, .null), (4, .aload_n 0, 1, 0, 0, .null), (5, .iconst 0, 1, 0, 0, .int 0), (6, .putfield 9, 3, 4, 0, .int 1), (9, .aload_n 0, 1, 0, 0, .null), (10, .iconst (-1), 1, 0, 0, .int (-1)), (11, .putfield 15, 3, 4, 1, .null), (14, .aload_n 0, 1, 0, 0, .null), (15, .iconst 0, 1, 0, 0, .int 0), (16, .putfield 19, 3, 4, 2, .null), (19, .aload_n 0, 1, 0, 0, .null), (20, .iconst 0, 1, 0, 0, .int 0), (21, .putfield 22, 3, 4, 3, .null), (24, .aload_n 0, 1, 0, 0, .null), (25, .iconst (-1), 1, 0, 0, .int (-1)), (26, .putfield 25, 3, 4, 4, .null), (29, .aload_n 0, 1, 0, 0, .null), (30, .iconst 0, 1, 0, 0, .int 0), (31, .putfield 28, 3, 4, 5, .null), (34, .aload_n 0, 1, 0, 0, .null), (35, .sipush 1000, 3, 0, 0, .int 1000), (38, .newarray .int, 2, 0, 0, .null), (40, .putfield 31, 3, 4, 6, .ref 0), (43, .aload_n 0, 1, 0, 0, .null), (44, .bipush 32, 2, 0, 0, .int 32), (46, .newarray .int, 2, 0, 0, .null), (48, .putfield 35, 3, 4, 7, .ref 0), (51, .return_, 1, 0, 0, .null)]
def mz_m34 : mz_D := (⟨"TinyFront$Run", "<init>", "()V"⟩, prog_6_method_1_code, 1, none, 1, 20, mz_t34)
/-- 35: TinyFront$Run.start(I[I)V -/
def mz_t35 : List mz_E := [(0, .aload_n 0, 1, 0, 0, .null), (1, .iconst 1, 1, 0, 0, .int 1), (2, .putfield 9, 3, 4, 0, .int 1), (5, .aload_n 0, 1, 0, 0, .null), (6, .iconst (-1), 1, 0, 0, .int (-1)), (7, .putfield 15, 3, 4, 1, .null), (10, .aload_n 0, 1, 0, 0, .null), (11, .iload_n 1, 1, 1, 0, .null), (12, .putfield 19, 3, 4, 2, .null), (15, .aload_n 0, 1, 0, 0, .null), (16, .iconst 0, 1, 0, 0, .int 0), (17, .putfield 22, 3, 4, 3, .null), (20, .aload_n 0, 1, 0, 0, .null), (21, .iconst (-1), 1, 0, 0, .int (-1)), (22, .putfield 25, 3, 4, 4, .null), (25, .aload_n 0, 1, 0, 0, .null), (26, .iconst 0, 1, 0, 0, .int 0), (27, .putfield 28, 3, 4, 5, .null), (30, .aload_n 2, 1, 2, 0, .null), (31, .iconst 0, 1, 0, 0, .int 0), (32, .aload_n 0, 1, 0, 0, .null), (33, .getfield 35, 3, 4, 7, .null), (36, .iconst 0, 1, 0, 0, .int 0), (37, .bipush 32, 2, 0, 0, .int 32), (39, .invokestatic 38, 3, 9998, 0, .null), (42, .return_, 1, 0, 0, .null)]
def mz_m35 : mz_D := (⟨"TinyFront$Run", "start", "(I[I)V"⟩, prog_6_method_2_code, 3, none, 1, 99, mz_t35)
/-- 36: TinyFront$Run.forget()V -/
def mz_t36 : List mz_E := [(0, .aload_n 0, 1, 0, 0, .null), (1, .iconst 0, 1, 0, 0, .int 0), (2, .putfield 9, 3, 4, 0, .int 1), (5, .return_, 1, 0, 0, .null)]
def mz_m36 : mz_D := (⟨"TinyFront$Run", "forget", "()V"⟩, prog_6_method_3_code, 1, none, 0, 0, mz_t36)
/-- 37: TinyFront$Run.isGoing()Z -/
def mz_t37 : List mz_E := [(0, .aload_n 0, 1, 0, 0, .null), (1, .getfield 15, 3, 4, 1, .null), (4, .iconst (-1), 1, 0, 0, .int (-1)), (5, .if_icmp .ne 7, 3, 12, 0, .null), (8, .iconst 1, 1, 0, 0, .int 1), (9, .goto 4, 3, 13, 0, .null), (12, .iconst 0, 1, 0, 0, .int 0), (13, .ireturn, 1, 0, 0, .null)]
def mz_m37 : mz_D := (⟨"TinyFront$Run", "isGoing", "()Z"⟩, prog_6_method_4_code, 1, (some (.boolean)), 0, 0, mz_t37)
/-- 38: TinyFront$Run.begins(I)Z -/
def mz_t38 : List mz_E := [(0, .aload_n 0, 1, 0, 0, .null), (1, .getfield 22, 3, 4, 3, .null), (4, .aload_n 0, 1, 0, 0, .null), (5, .getfield 19, 3, 4, 2, .null), (8, .if_icmp .lt 10, 3, 18, 0, .null), (11, .aload_n 0, 1, 0, 0, .null), (12, .iconst 1, 1, 0, 0, .int 1), (13, .putfield 15, 3, 4, 1, .null), (16, .iconst 0, 1, 0, 0, .int 0), (17, .ireturn, 1, 0, 0, .null), (18, .aload_n 0, 1, 0, 0, .null), (19, .dup, 1, 0, 0, .null), (20, .getfield 22, 3, 4, 3, .null), (23, .iconst 1, 1, 0, 0, .int 1), (24, .iadd, 1, 0, 0, .null), (25, .putfield 22, 3, 4, 3, .null), (28, .aload_n 0, 1, 0, 0, .null), (29, .iload_n 1, 1, 1, 0, .null), (30, .putfield 25, 3, 4, 4, .null), (33, .iconst 1, 1, 0, 0, .int 1), (34, .ireturn, 1, 0, 0, .null)]
def mz_m38 : mz_D := (⟨"TinyFront$Run", "begins", "(I)Z"⟩, prog_6_method_5_code, 2, (some (.boolean)), 0, 0, mz_t38)
/-- 39: TinyFront$Run.print(I)V -/
def mz_t39 : List mz_E := [(0, .aload_n 0, 1, 0, 0, .null), (1, .getfield 28, 3, 4, 5, .null), (4, .sipush 1000, 3, 0, 0, .int 1000), (7, .if_icmp .ge 13, 3, 20, 0, .null), (10, .aload_n 0, 1, 0, 0, .null), (11, .getfield 31, 3, 4, 6, .null), (14, .aload_n 0, 1, 0, 0, .null), (15, .getfield 28, 3, 4, 5, .null), (18, .iload_n 1, 1, 1, 0, .null), (19, .iastore, 1, 0, 0, .null), (20, .aload_n 0, 1, 0, 0, .null), (21, .dup, 1, 0, 0, .null), (22, .getfield 28, 3, 4, 5, .null), (25, .iconst 1, 1, 0, 0, .int 1), (26, .iadd, 1, 0, 0, .null), (27, .putfield 28, 3, 4, 5, .null), (30, .return_, 1, 0, 0, .null)]
def mz_m39 : mz_D := (⟨"TinyFront$Run", "print", "(I)V"⟩, prog_6_method_6_code, 2, none, 0, 0, mz_t39)
/-- 40: TinyFront$Run.printedValue(I)I -/
def mz_t40 : List mz_E := [(0, .iload_n 1, 1, 1, 0, .null), (1, .ifCond .lt 27, 3, 28, 0, .null), (4, .iload_n 1, 1, 1, 0, .null), (5, .aload_n 0, 1, 0, 0, .null), (6, .getfield 28, 3, 4, 5, .null), (9, .if_icmp .ge 19, 3, 28, 0, .null), (12, .iload_n 1, 1, 1, 0, .null), (13, .sipush 1000, 3, 0, 0, .int 1000), (16, .if_icmp .ge 12, 3, 28, 0, .null), (19, .aload_n 0, 1, 0, 0, .null), (20, .getfield 31, 3, 4, 6, .null), (23, .iload_n 1, 1, 1, 0, .null), (24, .iaload, 1, 0, 0, .null), (25, .goto 4, 3, 29, 0, .null), (28, .iconst 0, 1, 0, 0, .int 0), (29, .ireturn, 1, 0, 0, .null)]
def mz_m40 : mz_D := (⟨"TinyFront$Run", "printedValue", "(I)I"⟩, prog_6_method_7_code, 2, (some (.int)), 0, 0, mz_t40)
/-- 41: TinyFront$Run.load(I)I -/
def mz_t41 : List mz_E := [(0, .iload_n 1, 1, 1, 0, .null), (1, .ifCond .lt 18, 3, 19, 0, .null), (4, .iload_n 1, 1, 1, 0, .null), (5, .bipush 32, 2, 0, 0, .int 32), (7, .if_icmp .ge 12, 3, 19, 0, .null), (10, .aload_n 0, 1, 0, 0, .null), (11, .getfield 35, 3, 4, 7, .null), (14, .iload_n 1, 1, 1, 0, .null), (15, .iaload, 1, 0, 0, .null), (16, .goto 4, 3, 20, 0, .null), (19, .iconst 0, 1, 0, 0, .int 0), (20, .ireturn, 1, 0, 0, .null)]
def mz_m41 : mz_D := (⟨"TinyFront$Run", "load", "(I)I"⟩, prog_6_method_8_code, 2, (some (.int)), 0, 0, mz_t41)
/-- 42: TinyFront$Run.store(II)V -/
def mz_t42 : List mz_E := [(0, .iload_n 1, 1, 1, 0, .null), (1, .ifCond .lt 16, 3, 17, 0, .null), (4, .iload_n 1, 1, 1, 0, .null), (5, .bipush 32, 2, 0, 0, .int 32), (7, .if_icmp .ge 10, 3, 17, 0, .null), (10, .aload_n 0, 1, 0, 0, .null), (11, .getfield 35, 3, 4, 7, .null), (14, .iload_n 1, 1, 1, 0, .null), (15, .iload_n 2, 1, 2, 0, .null), (16, .iastore, 1, 0, 0, .null), (17, .return_, 1, 0, 0, .null)]
def mz_m42 : mz_D := (⟨"TinyFront$Run", "store", "(II)V"⟩, prog_6_method_9_code, 3, none, 0, 0, mz_t42)
/-- 43: TinyFront$Run.calculate(III)I -/
def mz_t43 : List mz_E := [(0, .iload_n 1, 1, 1, 0, .null), (1, .tableswitch 128 3 11 #[51, 55, 59, 63, 78, 93, 104, 115, 118], 51, 0, 0, .null), (52, .iload_n 2, 1, 2, 0, .null), (53, .iload_n 3, 1, 3, 0, .null), (54, .iadd, 1, 0, 0, .null), (55, .ireturn, 1, 0, 0, .null), (56, .iload_n 2, 1, 2, 0, .null), (57, .iload_n 3, 1, 3, 0, .null), (58, .isub, 1, 0, 0, .null), (59, .ireturn, 1, 0, 0, .null), (60, .iload_n 2, 1, 2, 0, .null), (61, .iload_n 3, 1, 3, 0, .null), (62, .imul, 1, 0, 0, .null), (63, .ireturn, 1, 0, 0, .null), (64, .iload_n 3, 1, 3, 0, .null), (65, .ifCond .ne 10, 3, 75, 0, .null), (68, .aload_n 0, 1, 0, 0, .null), (69, .invokevirtual 44, 3, 44, 1, .ref 4), (72, .goto 6, 3, 78, 0, .null), (75, .iload_n 2, 1, 2, 0, .null), (76, .iload_n 3, 1, 3, 0, .null), (77, .idiv, 1, 0, 0, .null), (78, .ireturn, 1, 0, 0, .null), (79, .iload_n 3, 1, 3, 0, .null), (80, .ifCond .ne 10, 3, 90, 0, .null), (83, .aload_n 0, 1, 0, 0, .null), (84, .invokevirtual 44, 3, 44, 1, .ref 4), (87, .goto 6, 3, 93, 0, .null), (90, .iload_n 2, 1, 2, 0, .null), (91, .iload_n 3, 1, 3, 0, .null), (92, .irem, 1, 0, 0, .null), (93, .ireturn, 1, 0, 0, .null), (94, .iload_n 2, 1, 2, 0, .null), (95, .iload_n 3, 1, 3, 0, .null), (96, .if_icmp .ne 7, 3, 103, 0, .null), (99, .iconst 1, 1, 0, 0, .int 1), (100, .goto 4, 3, 104, 0, .null), (103, .iconst 0, 1, 0, 0, .int 0), (104, .ireturn, 1, 0, 0, .null), (105, .iload_n 2, 1, 2, 0, .null), (106, .iload_n 3, 1, 3, 0, .null), (107, .if_icmp .ge 7, 3, 114, 0, .null), (110, .iconst 1, 1, 0, 0, .int 1), (111, .goto 4, 3, 115, 0, .null), (114, .iconst 0, 1, 0, 0, .int 0), (115, .ireturn, 1, 0, 0, .null), (116, .iload_n 3, 1, 3, 0, .null), (117, .ineg, 1, 0, 0, .null), (118, .ireturn, 1, 0, 0, .null), (119, .iload_n 3, 1, 3, 0, .null), (120, .ifCond .ne 7, 3, 127, 0, .null), (123, .iconst 1, 1, 0, 0, .int 1), (124, .goto 4, 3, 128, 0, .null), (127, .iconst 0, 1, 0, 0, .int 0), (128, .ireturn, 1, 0, 0, .null), (129, .iload_n 3, 1, 3, 0, .null), (130, .ifCond .eq 7, 3, 137, 0, .null), (133, .iconst 1, 1, 0, 0, .int 1), (134, .goto 4, 3, 138, 0, .null), (137, .iconst 0, 1, 0, 0, .int 0), (138, .ireturn, 1, 0, 0, .null)]
def mz_m43 : mz_D := (⟨"TinyFront$Run", "calculate", "(III)I"⟩, prog_6_method_10_code, 4, (some (.int)), 1, 20, mz_t43)
/-- 44: TinyFront$Run.divided()I -/
def mz_t44 : List mz_E := [(0, .aload_n 0, 1, 0, 0, .null), (1, .iconst 2, 1, 0, 0, .int 2), (2, .putfield 15, 3, 4, 1, .null), (5, .iconst 0, 1, 0, 0, .int 0), (6, .ireturn, 1, 0, 0, .null)]
def mz_m44 : mz_D := (⟨"TinyFront$Run", "divided", "()I"⟩, prog_6_method_11_code, 1, (some (.int)), 0, 0, mz_t44)
/-- 45: TinyFront$Table.<init>()V -/
def mz_t45 : List mz_E := [(0, .aload_n 0, 1, 0, 0, .null), (1, .invokespecial 3, 3, 9999, 0, .null), (4, .aload_n 0, 1, 0, 0, .null), (5, .sipush 2304, 3, 0, 0, .int 2304), (8, .newarray .int, 2, 0, 0, .null), (10, .putfield 9, 3, 5, 0, .ref 0), (13, .aload_n 0, 1, 0, 0, .null), (14, .bipush 32, 2, 0, 0, .int 32), (16, .newarray .int, 2, 0, 0, .null), (18, .putfield 13, 3, 5, 1, .ref 0), (21, .aload_n 0, 1, 0, 0, .null), (22, .bipush 32, 2, 0, 0, .int 32), (24, .newarray .int, 2, 0, 0, .null), (26, .putfield 16, 3, 5, 2, .ref 0), (29, .aload_n 0, 1, 0, 0, .null), (30, .bipush 36, 2, 0, 0, .int 36), (32, .newarray .int, 2, 0, 0, .null), (34, .putfield 19, 3, 5, 3, .ref 0), (37, .aload_n 0, 1, 0, 0, .null), (38, .bipush 36, 2, 0, 0, .int 36), (40, .newarray .int, 2, 0, 0, .null), (42, .putfield 22, 3, 5, 4, .ref 0), (45, .aload_n 0, 1, 0, 0, .null), (46, .sipush 512, 3, 0, 0, .int 512), (49, .newarray .int, 2, 0, 0, .null), (51, .putfield 25, 3, 5, 5, .ref 0), (54, .aload_n 0, 1, 0, 0, .null), (55, .bipush 64, 2, 0, 0, .int 64), (57, .newarray .int, 2, 0, 0, .null), (59, .putfield 28, 3, 5, 6, .ref 0), (62, .aload_n 0, 1, 0, 0, .null), (63, .iconst 0, 1, 0, 0, .int 0), (64, .putfield 31, 3, 5, 7, .null), (67, .aload_n 0, 1, 0, 0, .null), (68, .bipush 8, 2, 0, 0, .int 8), (70, .newarray .int, 2, 0, 0, .null), (72, .putfield 35, 3, 5, 8, .ref 0), (75, .aload_n 0, 1, 0, 0, .null), (76, .iconst 0, 1, 0, 0, .int 0), (77, .putfield 38, 3, 5, 9, .null), (80, .aload_n 0, 1, 0, 0, .null), (81, .getstatic 41, 3, 7, 0, .ref 307), (84, .arraylength, 1, 0, 0, .null), (85, .newarray .int, 2, 0, 0, .null), (87, .putfield 44, 3, 5, 10, .ref 0), (90, .aload_n 0, 1, 0, 0, .null), (91, .iconst 0, 1, 0, 0, .int 0), (92, .putfield 47, 3, 5, 11, .null), (95, .aload_n 0, 1, 0, 0, .null), (96, .invokevirtual 50, 3, 49, 1, .ref 5), (99, .aload_n 0, 1, 0, 0, .null), (100, .invokevirtual 53, 3, 50, 1, .ref 5), (103, .aload_n 0, 1, 0, 0, .null), (104, .invokevirtual 56, 3, 53, 1, .ref 5), (107, .aload_n 0, 1, 0, 0, .null), (108, .invokevirtual 59, 3, 55, 1, .ref 5), (111, .return_, 1, 0, 0, .null)]
def mz_m45 : mz_D := (⟨"TinyFront$Table", "<init>", "()V"⟩, prog_7_method_1_code, 1, none, 4, 87, mz_t45)
/-- 46: TinyFront$Table.act(II)I -/
def mz_t46 : List mz_E := [(0, .iload_n 1, 1, 1, 0, .null), (1, .bipush 36, 2, 0, 0, .int 36), (3, .imul, 1, 0, 0, .null), (4, .iload_n 2, 1, 2, 0, .null), (5, .iadd, 1, 0, 0, .null), (6, .istore_n 3, 1, 3, 0, .null), (7, .iload_n 3, 1, 3, 0, .null), (8, .ifCond .lt 21, 3, 29, 0, .null), (11, .iload_n 3, 1, 3, 0, .null), (12, .aload_n 0, 1, 0, 0, .null), (13, .getfield 9, 3, 5, 0, .null), (16, .arraylength, 1, 0, 0, .null), (17, .if_icmp .ge 12, 3, 29, 0, .null), (20, .aload_n 0, 1, 0, 0, .null), (21, .getfield 9, 3, 5, 0, .null), (24, .iload_n 3, 1, 3, 0, .null), (25, .iaload, 1, 0, 0, .null), (26, .goto 4, 3, 30, 0, .null), (29, .iconst 0, 1, 0, 0, .int 0), (30, .ireturn, 1, 0, 0, .null)]
def mz_m46 : mz_D := (⟨"TinyFront$Table", "act", "(II)I"⟩, prog_7_method_2_code, 4, (some (.int)), 0, 0, mz_t46)
/-- 47: TinyFront$Table.lengthOf(I)I -/
def mz_t47 : List mz_E := [(0, .aload_n 0, 1, 0, 0, .null), (1, .getfield 16, 3, 5, 2, .null), (4, .iload_n 1, 1, 1, 0, .null), (5, .iaload, 1, 0, 0, .null), (6, .ireturn, 1, 0, 0, .null)]
def mz_m47 : mz_D := (⟨"TinyFront$Table", "lengthOf", "(I)I"⟩, prog_7_method_3_code, 2, (some (.int)), 0, 0, mz_t47)
/-- 48: TinyFront$Table.letterOf(I)I -/
def mz_t48 : List mz_E := [(0, .getstatic 62, 3, 6, 0, .ref 306), (3, .iload_n 1, 1, 1, 0, .null), (4, .iaload, 1, 0, 0, .null), (5, .ireturn, 1, 0, 0, .null)]
def mz_m48 : mz_D := (⟨"TinyFront$Table", "letterOf", "(I)I"⟩, prog_7_method_4_code, 2, (some (.int)), 0, 0, mz_t48)
/-- 49: TinyFront$Table.measureRows()V -/
def mz_t49 : List mz_E := [(0, .iconst 0, 1, 0, 0, .int 0), (1, .istore_n 1, 1, 1, 0, .null), (2, .iconst 0, 1, 0, 0, .int 0), (3, .istore_n 2, 1, 2, 0, .null), (4, .iload_n 2, 1, 2, 0, .null), (5, .getstatic 41, 3, 7, 0, .ref 307), (8, .arraylength, 1, 0, 0, .null), (9, .if_icmp .ge 55, 3, 64, 0, .null), (12, .iload_n 1, 1, 1, 0, .null), (13, .bipush 32, 2, 0, 0, .int 32), (15, .if_icmp .ge 49, 3, 64, 0, .null), (18, .getstatic 41, 3, 7, 0, .ref 307), (21, .iload_n 2, 1, 2, 0, .null), (22, .iaload, 1, 0, 0, .null), (23, .ifCond .ge 35, 3, 58, 0, .null), (26, .aload_n 0, 1, 0, 0, .null), (27, .getfield 16, 3, 5, 2, .null), (30, .iload_n 1, 1, 1, 0, .null), (31, .iload_n 2, 1, 2, 0, .null), (32, .aload_n 0, 1, 0, 0, .null), (33, .getfield 13, 3, 5, 1, .null), (36, .iload_n 1, 1, 1, 0, .null), (37, .iaload, 1, 0, 0, .null), (38, .isub, 1, 0, 0, .null), (39, .iastore, 1, 0, 0, .null), (40, .iinc 1 1, 3, 1, 0, .int 1), (43, .iload_n 1, 1, 1, 0, .null), (44, .bipush 32, 2, 0, 0, .int 32), (46, .if_icmp .ge 12, 3, 58, 0, .null), (49, .aload_n 0, 1, 0, 0, .null), (50, .getfield 13, 3, 5, 1, .null), (53, .iload_n 1, 1, 1, 0, .null), (54, .iload_n 2, 1, 2, 0, .null), (55, .iconst 1, 1, 0, 0, .int 1), (56, .iadd, 1, 0, 0, .null), (57, .iastore, 1, 0, 0, .null), (58, .iinc 2 1, 3, 2, 0, .int 1), (61, .goto (-57), 3, 4, 0, .null), (64, .return_, 1, 0, 0, .null)]
def mz_m49 : mz_D := (⟨"TinyFront$Table", "measureRows", "()V"⟩, prog_7_method_5_code, 3, none, 0, 0, mz_t49)
/-- 50: TinyFront$Table.findFirst()V -/
def mz_t50 : List mz_E := [(0, .iconst 0, 1, 0, 0, .int 0), (1, .istore_n 1, 1, 1, 0, .null), (2, .iload_n 1, 1, 1, 0, .null), (3, .bipush 25, 2, 0, 0, .int 25), (5, .if_icmp .ge 18, 3, 23, 0, .null), (8, .aload_n 0, 1, 0, 0, .null), (9, .getfield 19, 3, 5, 3, .null), (12, .iload_n 1, 1, 1, 0, .null), (13, .iconst 1, 1, 0, 0, .int 1), (14, .iload_n 1, 1, 1, 0, .null), (15, .ishl, 1, 0, 0, .null), (16, .iastore, 1, 0, 0, .null), (17, .iinc 1 1, 3, 1, 0, .int 1), (20, .goto (-18), 3, 2, 0, .null), (23, .iconst 0, 1, 0, 0, .int 0), (24, .istore_n 1, 1, 1, 0, .null), (25, .iload_n 1, 1, 1, 0, .null), (26, .bipush 11, 2, 0, 0, .int 11), (28, .if_icmp .ge 46, 3, 74, 0, .null), (31, .iconst 0, 1, 0, 0, .int 0), (32, .istore_n 2, 1, 2, 0, .null), (33, .iload_n 2, 1, 2, 0, .null), (34, .bipush 32, 2, 0, 0, .int 32), (36, .if_icmp .ge 32, 3, 68, 0, .null), (39, .aload_n 0, 1, 0, 0, .null), (40, .getfield 19, 3, 5, 3, .null), (43, .getstatic 62, 3, 6, 0, .ref 306), (46, .iload_n 2, 1, 2, 0, .null), (47, .iaload, 1, 0, 0, .null), (48, .dup2, 1, 0, 0, .null), (49, .iaload, 1, 0, 0, .null), (50, .aload_n 0, 1, 0, 0, .null), (51, .aload_n 0, 1, 0, 0, .null), (52, .getfield 13, 3, 5, 1, .null), (55, .iload_n 2, 1, 2, 0, .null), (56, .iaload, 1, 0, 0, .null), (57, .invokevirtual 65, 3, 51, 2, .ref 5), (60, .ior, 1, 0, 0, .null), (61, .iastore, 1, 0, 0, .null), (62, .iinc 2 1, 3, 2, 0, .int 1), (65, .goto (-32), 3, 33, 0, .null), (68, .iinc 1 1, 3, 1, 0, .int 1), (71, .goto (-46), 3, 25, 0, .null), (74, .return_, 1, 0, 0, .null)]
def mz_m50 : mz_D := (⟨"TinyFront$Table", "findFirst", "()V"⟩, prog_7_method_6_code, 3, none, 1, 23, mz_t50)
/-- 51: TinyFront$Table.firstFrom(I)I -/
def mz_t51 : List mz_E := [(0, .iconst 0, 1, 0, 0, .int 0), (1, .istore_n 2, 1, 2, 0, .null), (2, .iload_n 1, 1, 1, 0, .null), (3, .istore_n 3, 1, 3, 0, .null), (4, .iload_n 3, 1, 3, 0, .null), (5, .getstatic 41, 3, 7, 0, .ref 307), (8, .arraylength, 1, 0, 0, .null), (9, .if_icmp .ge 43, 3, 52, 0, .null), (12, .getstatic 41, 3, 7, 0, .ref 307), (15, .iload_n 3, 1, 3, 0, .null), (16, .iaload, 1, 0, 0, .null), (17, .ifCond .lt 35, 3, 52, 0, .null), (20, .iload_n 2, 1, 2, 0, .null), (21, .aload_n 0, 1, 0, 0, .null), (22, .getfield 19, 3, 5, 3, .null), (25, .getstatic 41, 3, 7, 0, .ref 307), (28, .iload_n 3, 1, 3, 0, .null), (29, .iaload, 1, 0, 0, .null), (30, .iaload, 1, 0, 0, .null), (31, .ior, 1, 0, 0, .null), (32, .istore_n 2, 1, 2, 0, .null), (33, .getstatic 41, 3, 7, 0, .ref 307), (36, .iload_n 3, 1, 3, 0, .null), (37, .iaload, 1, 0, 0, .null), (38, .bipush 26, 2, 0, 0, .int 26), (40, .if_icmp .eq 6, 3, 46, 0, .null), (43, .goto 9, 3, 52, 0, .null), (46, .iinc 3 1, 3, 3, 0, .int 1), (49, .goto (-45), 3, 4, 0, .null), (52, .iload_n 2, 1, 2, 0, .null), (53, .ireturn, 1, 0, 0, .null)]
def mz_m51 : mz_D := (⟨"TinyFront$Table", "firstFrom", "(I)I"⟩, prog_7_method_7_code, 4, (some (.int)), 0, 0, mz_t51)
/-- 52: TinyFront$Table.canBeNothing(I)Z -/
def mz_t52 : List mz_E := [(0, .iload_n 0, 1, 0, 0, .null), (1, .istore_n 1, 1, 1, 0, .null), (2, .iload_n 1, 1, 1, 0, .null), (3, .getstatic 41, 3, 7, 0, .ref 307), (6, .arraylength, 1, 0, 0, .null), (7, .if_icmp .ge 19, 3, 26, 0, .null), (10, .getstatic 41, 3, 7, 0, .ref 307), (13, .iload_n 1, 1, 1, 0, .null), (14, .iaload, 1, 0, 0, .null), (15, .bipush 26, 2, 0, 0, .int 26), (17, .if_icmp .ne 9, 3, 26, 0, .null), (20, .iinc 1 1, 3, 1, 0, .int 1), (23, .goto (-21), 3, 2, 0, .null), (26, .iload_n 1, 1, 1, 0, .null), (27, .getstatic 41, 3, 7, 0, .ref 307), (30, .arraylength, 1, 0, 0, .null), (31, .if_icmp .ge 11, 3, 42, 0, .null), (34, .getstatic 41, 3, 7, 0, .ref 307), (37, .iload_n 1, 1, 1, 0, .null), (38, .iaload, 1, 0, 0, .null), (39, .ifCond .ge 7, 3, 46, 0, .null), (42, .iconst 1, 1, 0, 0, .int 1), (43, .goto 4, 3, 47, 0, .null), (46, .iconst 0, 1, 0, 0, .int 0), (47, .ireturn, 1, 0, 0, .null)]
def mz_m52 : mz_D := (⟨"TinyFront$Table", "canBeNothing", "(I)Z"⟩, prog_7_method_8_code, 2, (some (.boolean)), 0, 0, mz_t52)
/-- 53: TinyFront$Table.findFollow()V -/
def mz_t53 : List mz_E := [(0, .aload_n 0, 1, 0, 0, .null), (1, .getfield 22, 3, 5, 4, .null), (4, .bipush 25, 2, 0, 0, .int 25), (6, .iconst 1, 1, 0, 0, .int 1), (7, .iastore, 1, 0, 0, .null), (8, .iconst 0, 1, 0, 0, .int 0), (9, .istore_n 1, 1, 1, 0, .null), (10, .iload_n 1, 1, 1, 0, .null), (11, .bipush 11, 2, 0, 0, .int 11), (13, .if_icmp .ge 67, 3, 80, 0, .null), (16, .iconst 0, 1, 0, 0, .int 0), (17, .istore_n 2, 1, 2, 0, .null), (18, .iconst 0, 1, 0, 0, .int 0), (19, .istore_n 3, 1, 3, 0, .null), (20, .iload_n 3, 1, 3, 0, .null), (21, .getstatic 41, 3, 7, 0, .ref 307), (24, .arraylength, 1, 0, 0, .null), (25, .if_icmp .ge 49, 3, 74, 0, .null), (28, .iload_n 2, 1, 2, 0, .null), (29, .bipush 32, 2, 0, 0, .int 32), (31, .if_icmp .ge 43, 3, 74, 0, .null), (34, .getstatic 41, 3, 7, 0, .ref 307), (37, .iload_n 3, 1, 3, 0, .null), (38, .iaload, 1, 0, 0, .null), (39, .ifCond .ge 9, 3, 48, 0, .null), (42, .iinc 2 1, 3, 2, 0, .int 1), (45, .goto 23, 3, 68, 0, .null), (48, .getstatic 41, 3, 7, 0, .ref 307), (51, .iload_n 3, 1, 3, 0, .null), (52, .iaload, 1, 0, 0, .null), (53, .bipush 25, 2, 0, 0, .int 25), (55, .if_icmp .lt 13, 3, 68, 0, .null), (58, .aload_n 0, 1, 0, 0, .null), (59, .iload_n 3, 1, 3, 0, .null), (60, .getstatic 62, 3, 6, 0, .ref 306), (63, .iload_n 2, 1, 2, 0, .null), (64, .iaload, 1, 0, 0, .null), (65, .invokevirtual 71, 3, 54, 3, .ref 5), (68, .iinc 3 1, 3, 3, 0, .int 1), (71, .goto (-51), 3, 20, 0, .null), (74, .iinc 1 1, 3, 1, 0, .int 1), (77, .goto (-67), 3, 10, 0, .null), (80, .return_, 1, 0, 0, .null)]
def mz_m53 : mz_D := (⟨"TinyFront$Table", "findFollow", "()V"⟩, prog_7_method_9_code, 4, none, 2, 46, mz_t53)
/-- 54: TinyFront$Table.addFollow(II)V -/
def mz_t54 : List mz_E := [(0, .getstatic 41, 3, 7, 0, .ref 307), (3, .iload_n 1, 1, 1, 0, .null), (4, .iaload, 1, 0, 0, .null), (5, .istore_n 3, 1, 3, 0, .null), (6, .aload_n 0, 1, 0, 0, .null), (7, .getfield 22, 3, 5, 4, .null), (10, .iload_n 3, 1, 3, 0, .null), (11, .dup2, 1, 0, 0, .null), (12, .iaload, 1, 0, 0, .null), (13, .aload_n 0, 1, 0, 0, .null), (14, .iload_n 1, 1, 1, 0, .null), (15, .iconst 1, 1, 0, 0, .int 1), (16, .iadd, 1, 0, 0, .null), (17, .invokevirtual 65, 3, 51, 2, .ref 5), (20, .ior, 1, 0, 0, .null), (21, .iastore, 1, 0, 0, .null), (22, .iload_n 1, 1, 1, 0, .null), (23, .iconst 1, 1, 0, 0, .int 1), (24, .iadd, 1, 0, 0, .null), (25, .invokestatic 75, 3, 52, 1, .null), (28, .ifCond .eq 18, 3, 46, 0, .null), (31, .aload_n 0, 1, 0, 0, .null), (32, .getfield 22, 3, 5, 4, .null), (35, .iload_n 3, 1, 3, 0, .null), (36, .dup2, 1, 0, 0, .null), (37, .iaload, 1, 0, 0, .null), (38, .aload_n 0, 1, 0, 0, .null), (39, .getfield 22, 3, 5, 4, .null), (42, .iload_n 2, 1, 2, 0, .null), (43, .iaload, 1, 0, 0, .null), (44, .ior, 1, 0, 0, .null), (45, .iastore, 1, 0, 0, .null), (46, .return_, 1, 0, 0, .null)]
def mz_m54 : mz_D := (⟨"TinyFront$Table", "addFollow", "(II)V"⟩, prog_7_method_10_code, 4, none, 1, 23, mz_t54)
/-- 55: TinyFront$Table.findSets()V -/
def mz_t55 : List mz_E := [(0, .aload_n 0, 1, 0, 0, .null), (1, .getfield 35, 3, 5, 8, .null), (4, .iconst 0, 1, 0, 0, .int 0), (5, .aload_n 0, 1, 0, 0, .null), (6, .getfield 13, 3, 5, 1, .null), (9, .iconst 0, 1, 0, 0, .int 0), (10, .iaload, 1, 0, 0, .null), (11, .iastore, 1, 0, 0, .null), (12, .aload_n 0, 1, 0, 0, .null), (13, .iconst 1, 1, 0, 0, .int 1), (14, .putfield 38, 3, 5, 9, .null), (17, .aload_n 0, 1, 0, 0, .null), (18, .invokevirtual 79, 3, 60, 1, .ref 5), (21, .pop, 1, 0, 0, .null), (22, .iconst 0, 1, 0, 0, .int 0), (23, .istore_n 1, 1, 1, 0, .null), (24, .iload_n 1, 1, 1, 0, .null), (25, .aload_n 0, 1, 0, 0, .null), (26, .getfield 31, 3, 5, 7, .null), (29, .if_icmp .ge 30, 3, 59, 0, .null), (32, .iload_n 1, 1, 1, 0, .null), (33, .bipush 64, 2, 0, 0, .int 64), (35, .if_icmp .ge 24, 3, 59, 0, .null), (38, .aload_n 0, 1, 0, 0, .null), (39, .iload_n 1, 1, 1, 0, .null), (40, .invokevirtual 83, 3, 56, 2, .ref 5), (43, .aload_n 0, 1, 0, 0, .null), (44, .iload_n 1, 1, 1, 0, .null), (45, .invokevirtual 87, 3, 58, 2, .ref 5), (48, .aload_n 0, 1, 0, 0, .null), (49, .iload_n 1, 1, 1, 0, .null), (50, .invokevirtual 90, 3, 62, 2, .ref 5), (53, .iinc 1 1, 3, 1, 0, .int 1), (56, .goto (-32), 3, 24, 0, .null), (59, .return_, 1, 0, 0, .null)]
def mz_m55 : mz_D := (⟨"TinyFront$Table", "findSets", "()V"⟩, prog_7_method_11_code, 2, none, 3, 66, mz_t55)
/-- 56: TinyFront$Table.openMembers(I)V -/
def mz_t56 : List mz_E := [(0, .iconst 0, 1, 0, 0, .int 0), (1, .istore_n 2, 1, 2, 0, .null), (2, .aload_n 0, 1, 0, 0, .null), (3, .aload_n 0, 1, 0, 0, .null), (4, .getfield 28, 3, 5, 6, .null), (7, .iload_n 1, 1, 1, 0, .null), (8, .iaload, 1, 0, 0, .null), (9, .putfield 47, 3, 5, 11, .null), (12, .iconst 0, 1, 0, 0, .int 0), (13, .istore_n 3, 1, 3, 0, .null), (14, .iload_n 3, 1, 3, 0, .null), (15, .aload_n 0, 1, 0, 0, .null), (16, .getfield 47, 3, 5, 11, .null), (19, .if_icmp .ge 26, 3, 45, 0, .null), (22, .aload_n 0, 1, 0, 0, .null), (23, .getfield 44, 3, 5, 10, .null), (26, .iload_n 3, 1, 3, 0, .null), (27, .aload_n 0, 1, 0, 0, .null), (28, .getfield 25, 3, 5, 5, .null), (31, .iload_n 1, 1, 1, 0, .null), (32, .bipush 8, 2, 0, 0, .int 8), (34, .imul, 1, 0, 0, .null), (35, .iload_n 3, 1, 3, 0, .null), (36, .iadd, 1, 0, 0, .null), (37, .iaload, 1, 0, 0, .null), (38, .iastore, 1, 0, 0, .null), (39, .iinc 3 1, 3, 3, 0, .int 1), (42, .goto (-28), 3, 14, 0, .null), (45, .iconst 0, 1, 0, 0, .int 0), (46, .istore_n 3, 1, 3, 0, .null), (47, .iload_n 3, 1, 3, 0, .null), (48, .aload_n 0, 1, 0, 0, .null), (49, .getfield 47, 3, 5, 11, .null), (52, .if_icmp .ge 65, 3, 117, 0, .null), (55, .iload_n 3, 1, 3, 0, .null), (56, .aload_n 0, 1, 0, 0, .null), (57, .getfield 44, 3, 5, 10, .null), (60, .arraylength, 1, 0, 0, .null), (61, .if_icmp .ge 56, 3, 117, 0, .null), (64, .getstatic 41, 3, 7, 0, .ref 307), (67, .aload_n 0, 1, 0, 0, .null), (68, .getfield 44, 3, 5, 10, .null), (71, .iload_n 3, 1, 3, 0, .null), (72, .iaload, 1, 0, 0, .null), (73, .iaload, 1, 0, 0, .null), (74, .istore 4, 2, 4, 0, .null), (76, .iload 4, 2, 4, 0, .null), (78, .bipush 25, 2, 0, 0, .int 25), (80, .if_icmp .lt 31, 3, 111, 0, .null), (83, .iload_n 2, 1, 2, 0, .null), (84, .iload 4, 2, 4, 0, .null), (86, .bipush 25, 2, 0, 0, .int 25), (88, .isub, 1, 0, 0, .null), (89, .ishr, 1, 0, 0, .null), (90, .iconst 1, 1, 0, 0, .int 1), (91, .iand, 1, 0, 0, .null), (92, .ifCond .ne 19, 3, 111, 0, .null), (95, .iload_n 2, 1, 2, 0, .null), (96, .iconst 1, 1, 0, 0, .int 1), (97, .iload 4, 2, 4, 0, .null), (99, .bipush 25, 2, 0, 0, .int 25), (101, .isub, 1, 0, 0, .null), (102, .ishl, 1, 0, 0, .null), (103, .ior, 1, 0, 0, .null), (104, .istore_n 2, 1, 2, 0, .null), (105, .aload_n 0, 1, 0, 0, .null), (106, .iload 4, 2, 4, 0, .null), (108, .invokevirtual 93, 3, 57, 2, .ref 5), (111, .iinc 3 1, 3, 3, 0, .int 1), (114, .goto (-67), 3, 47, 0, .null), (117, .return_, 1, 0, 0, .null)]
def mz_m56 : mz_D := (⟨"TinyFront$Table", "openMembers", "(I)V"⟩, prog_7_method_12_code, 5, none, 1, 22, mz_t56)
/-- 57: TinyFront$Table.addBeginnings(I)V -/
def mz_t57 : List mz_E := [(0, .iconst 0, 1, 0, 0, .int 0), (1, .istore_n 2, 1, 2, 0, .null), (2, .iload_n 2, 1, 2, 0, .null), (3, .bipush 32, 2, 0, 0, .int 32), (5, .if_icmp .ge 55, 3, 60, 0, .null), (8, .getstatic 62, 3, 6, 0, .ref 306), (11, .iload_n 2, 1, 2, 0, .null), (12, .iaload, 1, 0, 0, .null), (13, .iload_n 1, 1, 1, 0, .null), (14, .if_icmp .ne 40, 3, 54, 0, .null), (17, .aload_n 0, 1, 0, 0, .null), (18, .getfield 47, 3, 5, 11, .null), (21, .aload_n 0, 1, 0, 0, .null), (22, .getfield 44, 3, 5, 10, .null), (25, .arraylength, 1, 0, 0, .null), (26, .if_icmp .ge 28, 3, 54, 0, .null), (29, .aload_n 0, 1, 0, 0, .null), (30, .getfield 44, 3, 5, 10, .null), (33, .aload_n 0, 1, 0, 0, .null), (34, .getfield 47, 3, 5, 11, .null), (37, .aload_n 0, 1, 0, 0, .null), (38, .getfield 13, 3, 5, 1, .null), (41, .iload_n 2, 1, 2, 0, .null), (42, .iaload, 1, 0, 0, .null), (43, .iastore, 1, 0, 0, .null), (44, .aload_n 0, 1, 0, 0, .null), (45, .dup, 1, 0, 0, .null), (46, .getfield 47, 3, 5, 11, .null), (49, .iconst 1, 1, 0, 0, .int 1), (50, .iadd, 1, 0, 0, .null), (51, .putfield 47, 3, 5, 11, .null), (54, .iinc 2 1, 3, 2, 0, .int 1), (57, .goto (-55), 3, 2, 0, .null), (60, .return_, 1, 0, 0, .null)]
def mz_m57 : mz_D := (⟨"TinyFront$Table", "addBeginnings", "(I)V"⟩, prog_7_method_13_code, 3, none, 0, 0, mz_t57)
/-- 58: TinyFront$Table.findMoves(I)V -/
def mz_t58 : List mz_E := [(0, .iconst 0, 1, 0, 0, .int 0), (1, .istore_n 2, 1, 2, 0, .null), (2, .iload_n 2, 1, 2, 0, .null), (3, .aload_n 0, 1, 0, 0, .null), (4, .getfield 47, 3, 5, 11, .null), (7, .if_icmp .ge 59, 3, 66, 0, .null), (10, .getstatic 41, 3, 7, 0, .ref 307), (13, .aload_n 0, 1, 0, 0, .null), (14, .getfield 44, 3, 5, 10, .null), (17, .iload_n 2, 1, 2, 0, .null), (18, .iaload, 1, 0, 0, .null), (19, .iaload, 1, 0, 0, .null), (20, .istore_n 3, 1, 3, 0, .null), (21, .iload_n 3, 1, 3, 0, .null), (22, .ifCond .lt 38, 3, 60, 0, .null), (25, .aload_n 0, 1, 0, 0, .null), (26, .getfield 9, 3, 5, 0, .null), (29, .iload_n 1, 1, 1, 0, .null), (30, .bipush 36, 2, 0, 0, .int 36), (32, .imul, 1, 0, 0, .null), (33, .iload_n 3, 1, 3, 0, .null), (34, .iadd, 1, 0, 0, .null), (35, .iaload, 1, 0, 0, .null), (36, .ifCond .ne 24, 3, 60, 0, .null), (39, .aload_n 0, 1, 0, 0, .null), (40, .iload_n 3, 1, 3, 0, .null), (41, .iload_n 2, 1, 2, 0, .null), (42, .invokevirtual 96, 3, 59, 3, .ref 5), (45, .aload_n 0, 1, 0, 0, .null), (46, .getfield 9, 3, 5, 0, .null), (49, .iload_n 1, 1, 1, 0, .null), (50, .bipush 36, 2, 0, 0, .int 36), (52, .imul, 1, 0, 0, .null), (53, .iload_n 3, 1, 3, 0, .null), (54, .iadd, 1, 0, 0, .null), (55, .aload_n 0, 1, 0, 0, .null), (56, .invokevirtual 79, 3, 60, 1, .ref 5), (59, .iastore, 1, 0, 0, .null), (60, .iinc 2 1, 3, 2, 0, .int 1), (63, .goto (-61), 3, 2, 0, .null), (66, .return_, 1, 0, 0, .null)]
def mz_m58 : mz_D := (⟨"TinyFront$Table", "findMoves", "(I)V"⟩, prog_7_method_14_code, 4, none, 2, 43, mz_t58)
/-- 59: TinyFront$Table.moveOver(II)V -/
def mz_t59 : List mz_E := [(0, .aload_n 0, 1, 0, 0, .null), (1, .iconst 0, 1, 0, 0, .int 0), (2, .putfield 38, 3, 5, 9, .null), (5, .iload_n 2, 1, 2, 0, .null), (6, .istore_n 3, 1, 3, 0, .null), (7, .iload_n 3, 1, 3, 0, .null), (8, .aload_n 0, 1, 0, 0, .null), (9, .getfield 47, 3, 5, 11, .null), (12, .if_icmp .ge 59, 3, 71, 0, .null), (15, .getstatic 41, 3, 7, 0, .ref 307), (18, .aload_n 0, 1, 0, 0, .null), (19, .getfield 44, 3, 5, 10, .null), (22, .iload_n 3, 1, 3, 0, .null), (23, .iaload, 1, 0, 0, .null), (24, .iaload, 1, 0, 0, .null), (25, .iload_n 1, 1, 1, 0, .null), (26, .if_icmp .ne 39, 3, 65, 0, .null), (29, .aload_n 0, 1, 0, 0, .null), (30, .getfield 38, 3, 5, 9, .null), (33, .bipush 8, 2, 0, 0, .int 8), (35, .if_icmp .ge 30, 3, 65, 0, .null), (38, .aload_n 0, 1, 0, 0, .null), (39, .getfield 35, 3, 5, 8, .null), (42, .aload_n 0, 1, 0, 0, .null), (43, .getfield 38, 3, 5, 9, .null), (46, .aload_n 0, 1, 0, 0, .null), (47, .getfield 44, 3, 5, 10, .null), (50, .iload_n 3, 1, 3, 0, .null), (51, .iaload, 1, 0, 0, .null), (52, .iconst 1, 1, 0, 0, .int 1), (53, .iadd, 1, 0, 0, .null), (54, .iastore, 1, 0, 0, .null), (55, .aload_n 0, 1, 0, 0, .null), (56, .dup, 1, 0, 0, .null), (57, .getfield 38, 3, 5, 9, .null), (60, .iconst 1, 1, 0, 0, .int 1), (61, .iadd, 1, 0, 0, .null), (62, .putfield 38, 3, 5, 9, .null), (65, .iinc 3 1, 3, 3, 0, .int 1), (68, .goto (-61), 3, 7, 0, .null), (71, .return_, 1, 0, 0, .null)]
def mz_m59 : mz_D := (⟨"TinyFront$Table", "moveOver", "(II)V"⟩, prog_7_method_15_code, 4, none, 0, 0, mz_t59)
/-- 60: TinyFront$Table.setOfMoved()I -/
def mz_t60 : List mz_E := [(0, .iconst 0, 1, 0, 0, .int 0), (1, .istore_n 1, 1, 1, 0, .null), (2, .iload_n 1, 1, 1, 0, .null), (3, .aload_n 0, 1, 0, 0, .null), (4, .getfield 31, 3, 5, 7, .null), (7, .if_icmp .ge 19, 3, 26, 0, .null), (10, .aload_n 0, 1, 0, 0, .null), (11, .iload_n 1, 1, 1, 0, .null), (12, .invokevirtual 99, 3, 61, 2, .ref 5), (15, .ifCond .eq 5, 3, 20, 0, .null), (18, .iload_n 1, 1, 1, 0, .null), (19, .ireturn, 1, 0, 0, .null), (20, .iinc 1 1, 3, 1, 0, .int 1), (23, .goto (-21), 3, 2, 0, .null), (26, .aload_n 0, 1, 0, 0, .null), (27, .getfield 31, 3, 5, 7, .null), (30, .bipush 64, 2, 0, 0, .int 64), (32, .if_icmp .lt 5, 3, 37, 0, .null), (35, .iconst 0, 1, 0, 0, .int 0), (36, .ireturn, 1, 0, 0, .null), (37, .iconst 0, 1, 0, 0, .int 0), (38, .istore_n 1, 1, 1, 0, .null), (39, .iload_n 1, 1, 1, 0, .null), (40, .aload_n 0, 1, 0, 0, .null), (41, .getfield 38, 3, 5, 9, .null), (44, .if_icmp .ge 29, 3, 73, 0, .null), (47, .aload_n 0, 1, 0, 0, .null), (48, .getfield 25, 3, 5, 5, .null), (51, .aload_n 0, 1, 0, 0, .null), (52, .getfield 31, 3, 5, 7, .null), (55, .bipush 8, 2, 0, 0, .int 8), (57, .imul, 1, 0, 0, .null), (58, .iload_n 1, 1, 1, 0, .null), (59, .iadd, 1, 0, 0, .null), (60, .aload_n 0, 1, 0, 0, .null), (61, .getfield 35, 3, 5, 8, .null), (64, .iload_n 1, 1, 1, 0, .null), (65, .iaload, 1, 0, 0, .null), (66, .iastore, 1, 0, 0, .null), (67, .iinc 1 1, 3, 1, 0, .int 1), (70, .goto (-31), 3, 39, 0, .null), (73, .aload_n 0, 1, 0, 0, .null), (74, .getfield 28, 3, 5, 6, .null), (77, .aload_n 0, 1, 0, 0, .null), (78, .getfield 31, 3, 5, 7, .null), (81, .aload_n 0, 1, 0, 0, .null), (82, .getfield 38, 3, 5, 9, .null), (85, .iastore, 1, 0, 0, .null), (86, .aload_n 0, 1, 0, 0, .null), (87, .dup, 1, 0, 0, .null), (88, .getfield 31, 3, 5, 7, .null), (91, .iconst 1, 1, 0, 0, .int 1), (92, .iadd, 1, 0, 0, .null), (93, .putfield 31, 3, 5, 7, .null), (96, .aload_n 0, 1, 0, 0, .null), (97, .getfield 31, 3, 5, 7, .null), (100, .iconst 1, 1, 0, 0, .int 1), (101, .isub, 1, 0, 0, .null), (102, .ireturn, 1, 0, 0, .null)]
def mz_m60 : mz_D := (⟨"TinyFront$Table", "setOfMoved", "()I"⟩, prog_7_method_16_code, 2, (some (.int)), 1, 22, mz_t60)
/-- 61: TinyFront$Table.isMoved(I)Z -/
def mz_t61 : List mz_E := [(0, .aload_n 0, 1, 0, 0, .null), (1, .getfield 28, 3, 5, 6, .null), (4, .iload_n 1, 1, 1, 0, .null), (5, .iaload, 1, 0, 0, .null), (6, .aload_n 0, 1, 0, 0, .null), (7, .getfield 38, 3, 5, 9, .null), (10, .if_icmp .eq 5, 3, 15, 0, .null), (13, .iconst 0, 1, 0, 0, .int 0), (14, .ireturn, 1, 0, 0, .null), (15, .iconst 0, 1, 0, 0, .int 0), (16, .istore_n 2, 1, 2, 0, .null), (17, .iload_n 2, 1, 2, 0, .null), (18, .aload_n 0, 1, 0, 0, .null), (19, .getfield 38, 3, 5, 9, .null), (22, .if_icmp .ge 31, 3, 53, 0, .null), (25, .aload_n 0, 1, 0, 0, .null), (26, .getfield 25, 3, 5, 5, .null), (29, .iload_n 1, 1, 1, 0, .null), (30, .bipush 8, 2, 0, 0, .int 8), (32, .imul, 1, 0, 0, .null), (33, .iload_n 2, 1, 2, 0, .null), (34, .iadd, 1, 0, 0, .null), (35, .iaload, 1, 0, 0, .null), (36, .aload_n 0, 1, 0, 0, .null), (37, .getfield 35, 3, 5, 8, .null), (40, .iload_n 2, 1, 2, 0, .null), (41, .iaload, 1, 0, 0, .null), (42, .if_icmp .eq 5, 3, 47, 0, .null), (45, .iconst 0, 1, 0, 0, .int 0), (46, .ireturn, 1, 0, 0, .null), (47, .iinc 2 1, 3, 2, 0, .int 1), (50, .goto (-33), 3, 17, 0, .null), (53, .iconst 1, 1, 0, 0, .int 1), (54, .ireturn, 1, 0, 0, .null)]
def mz_m61 : mz_D := (⟨"TinyFront$Table", "isMoved", "(I)Z"⟩, prog_7_method_17_code, 3, (some (.boolean)), 0, 0, mz_t61)
/-- 62: TinyFront$Table.findEnds(I)V -/
def mz_t62 : List mz_E := [(0, .iconst 0, 1, 0, 0, .int 0), (1, .istore_n 2, 1, 2, 0, .null), (2, .iload_n 2, 1, 2, 0, .null), (3, .aload_n 0, 1, 0, 0, .null), (4, .getfield 47, 3, 5, 11, .null), (7, .if_icmp .ge 53, 3, 60, 0, .null), (10, .iconst (-1), 1, 0, 0, .int (-1)), (11, .getstatic 41, 3, 7, 0, .ref 307), (14, .aload_n 0, 1, 0, 0, .null), (15, .getfield 44, 3, 5, 10, .null), (18, .iload_n 2, 1, 2, 0, .null), (19, .iaload, 1, 0, 0, .null), (20, .iaload, 1, 0, 0, .null), (21, .isub, 1, 0, 0, .null), (22, .istore_n 3, 1, 3, 0, .null), (23, .iload_n 3, 1, 3, 0, .null), (24, .ifCond .ne 20, 3, 44, 0, .null), (27, .aload_n 0, 1, 0, 0, .null), (28, .getfield 9, 3, 5, 0, .null), (31, .iload_n 1, 1, 1, 0, .null), (32, .bipush 36, 2, 0, 0, .int 36), (34, .imul, 1, 0, 0, .null), (35, .iconst 0, 1, 0, 0, .int 0), (36, .iadd, 1, 0, 0, .null), (37, .sipush 1000, 3, 0, 0, .int 1000), (40, .iastore, 1, 0, 0, .null), (41, .goto 13, 3, 54, 0, .null), (44, .iload_n 3, 1, 3, 0, .null), (45, .ifCond .le 9, 3, 54, 0, .null), (48, .aload_n 0, 1, 0, 0, .null), (49, .iload_n 1, 1, 1, 0, .null), (50, .iload_n 3, 1, 3, 0, .null), (51, .invokevirtual 102, 3, 63, 3, .ref 5), (54, .iinc 2 1, 3, 2, 0, .int 1), (57, .goto (-55), 3, 2, 0, .null), (60, .return_, 1, 0, 0, .null)]
def mz_m62 : mz_D := (⟨"TinyFront$Table", "findEnds", "(I)V"⟩, prog_7_method_18_code, 4, none, 1, 24, mz_t62)
/-- 63: TinyFront$Table.addReductions(II)V -/
def mz_t63 : List mz_E := [(0, .aload_n 0, 1, 0, 0, .null), (1, .getfield 22, 3, 5, 4, .null), (4, .getstatic 62, 3, 6, 0, .ref 306), (7, .iload_n 2, 1, 2, 0, .null), (8, .iaload, 1, 0, 0, .null), (9, .iaload, 1, 0, 0, .null), (10, .istore_n 3, 1, 3, 0, .null), (11, .iconst 0, 1, 0, 0, .int 0), (12, .istore 4, 2, 4, 0, .null), (14, .iload 4, 2, 4, 0, .null), (16, .bipush 25, 2, 0, 0, .int 25), (18, .if_icmp .ge 48, 3, 66, 0, .null), (21, .iload_n 3, 1, 3, 0, .null), (22, .iload 4, 2, 4, 0, .null), (24, .ishr, 1, 0, 0, .null), (25, .iconst 1, 1, 0, 0, .int 1), (26, .iand, 1, 0, 0, .null), (27, .iconst 1, 1, 0, 0, .int 1), (28, .if_icmp .ne 32, 3, 60, 0, .null), (31, .aload_n 0, 1, 0, 0, .null), (32, .getfield 9, 3, 5, 0, .null), (35, .iload_n 1, 1, 1, 0, .null), (36, .bipush 36, 2, 0, 0, .int 36), (38, .imul, 1, 0, 0, .null), (39, .iload 4, 2, 4, 0, .null), (41, .iadd, 1, 0, 0, .null), (42, .iaload, 1, 0, 0, .null), (43, .ifCond .ne 17, 3, 60, 0, .null), (46, .aload_n 0, 1, 0, 0, .null), (47, .getfield 9, 3, 5, 0, .null), (50, .iload_n 1, 1, 1, 0, .null), (51, .bipush 36, 2, 0, 0, .int 36), (53, .imul, 1, 0, 0, .null), (54, .iload 4, 2, 4, 0, .null), (56, .iadd, 1, 0, 0, .null), (57, .iload_n 2, 1, 2, 0, .null), (58, .ineg, 1, 0, 0, .null), (59, .iastore, 1, 0, 0, .null), (60, .iinc 4 1, 3, 4, 0, .int 1), (63, .goto (-49), 3, 14, 0, .null), (66, .return_, 1, 0, 0, .null)]
def mz_m63 : mz_D := (⟨"TinyFront$Table", "addReductions", "(II)V"⟩, prog_7_method_19_code, 5, none, 0, 0, mz_t63)
/-- 64: TinyFront$Tokens.<init>([I)V -/
def mz_t64 : List mz_E := [(0, .aload_n 0, 1, 0, 0, .null), (1, .invokespecial 3, 3, 9999, 0, .null), (4, .aload_n 0, 1, 0, 0, .null), (5, .sipush 4001, 3, 0, 0, .int 4001), (8, .newarray .int, 2, 0, 0, .null), (10, .putfield 9, 3, 6, 0, .ref 0), (13, .aload_n 0, 1, 0, 0, .null), (14, .sipush 4001, 3, 0, 0, .int 4001), (17, .newarray .int, 2, 0, 0, .null), (19, .putfield 15, 3, 6, 1, .ref 0), (22, .aload_n 0, 1, 0, 0, .null), (23, .sipush 4001, 3, 0, 0, .int 4001), (26, .newarray .int, 2, 0, 0, .null), (28, .putfield 18, 3, 6, 2, .ref 0), (31, .aload_n 0, 1, 0, 0, .null), (32, .sipush 4001, 3, 0, 0, .int 4001), (35, .newarray .int, 2, 0, 0, .null), (37, .putfield 21, 3, 6, 3, .ref 0), (40, .aload_n 0, 1, 0, 0, .null), (41, .iconst 0, 1, 0, 0, .int 0), (42, .putfield 24, 3, 6, 4, .null), (45, .aload_n 0, 1, 0, 0, .null), (46, .iconst 0, 1, 0, 0, .int 0), (47, .putfield 28, 3, 6, 5, .null), (50, .aload_n 0, 1, 0, 0, .null), (51, .iconst 0, 1, 0, 0, .int 0), (52, .putfield 31, 3, 6, 6, .int 1), (55, .aload_n 0, 1, 0, 0, .null), (56, .bipush 32, 2, 0, 0, .int 32), (58, .newarray .int, 2, 0, 0, .null), (60, .putfield 35, 3, 6, 7, .ref 0), (63, .aload_n 0, 1, 0, 0, .null), (64, .bipush 32, 2, 0, 0, .int 32), (66, .newarray .int, 2, 0, 0, .null), (68, .putfield 38, 3, 6, 8, .ref 0), (71, .aload_n 0, 1, 0, 0, .null), (72, .iconst 0, 1, 0, 0, .int 0), (73, .putfield 41, 3, 6, 10, .null), (76, .aload_n 0, 1, 0, 0, .null), (77, .aload_n 1, 1, 1, 0, .null), (78, .putfield 44, 3, 6, 9, .ref 0), (81, .return_, 1, 0, 0, .null)]
def mz_m64 : mz_D := (⟨"TinyFront$Tokens", "<init>", "([I)V"⟩, prog_8_method_1_code, 2, none, 1, 20, mz_t64)
/-- 65: TinyFront$Tokens.read(I)I -/
def mz_t65 : List mz_E := [(0, .aload_n 0, 1, 0, 0, .null), (1, .iload_n 1, 1, 1, 0, .null), (2, .putfield 41, 3, 6, 10, .null), (5, .aload_n 0, 1, 0, 0, .null), (6, .iconst 0, 1, 0, 0, .int 0), (7, .putfield 24, 3, 6, 4, .null), (10, .aload_n 0, 1, 0, 0, .null), (11, .iconst 0, 1, 0, 0, .int 0), (12, .putfield 28, 3, 6, 5, .null), (15, .aload_n 0, 1, 0, 0, .null), (16, .iconst 0, 1, 0, 0, .int 0), (17, .invokevirtual 47, 3, 66, 2, .ref 6), (20, .istore_n 2, 1, 2, 0, .null), (21, .iload_n 2, 1, 2, 0, .null), (22, .aload_n 0, 1, 0, 0, .null), (23, .getfield 41, 3, 6, 10, .null), (26, .if_icmp .ge 26, 3, 52, 0, .null), (29, .aload_n 0, 1, 0, 0, .null), (30, .iload_n 2, 1, 2, 0, .null), (31, .invokevirtual 51, 3, 67, 2, .ref 6), (34, .istore_n 3, 1, 3, 0, .null), (35, .iload_n 3, 1, 3, 0, .null), (36, .ifCond .gt 5, 3, 41, 0, .null), (39, .iload_n 2, 1, 2, 0, .null), (40, .ireturn, 1, 0, 0, .null), (41, .aload_n 0, 1, 0, 0, .null), (42, .iload_n 2, 1, 2, 0, .null), (43, .iload_n 3, 1, 3, 0, .null), (44, .iadd, 1, 0, 0, .null), (45, .invokevirtual 47, 3, 66, 2, .ref 6), (48, .istore_n 2, 1, 2, 0, .null), (49, .goto (-28), 3, 21, 0, .null), (52, .aload_n 0, 1, 0, 0, .null), (53, .iconst 0, 1, 0, 0, .int 0), (54, .aload_n 0, 1, 0, 0, .null), (55, .getfield 41, 3, 6, 10, .null), (58, .iconst 0, 1, 0, 0, .int 0), (59, .iconst 0, 1, 0, 0, .int 0), (60, .invokevirtual 54, 3, 72, 5, .ref 6), (63, .aload_n 0, 1, 0, 0, .null), (64, .iconst 1, 1, 0, 0, .int 1), (65, .putfield 31, 3, 6, 6, .int 1), (68, .iconst (-1), 1, 0, 0, .int (-1)), (69, .ireturn, 1, 0, 0, .null)]
def mz_m65 : mz_D := (⟨"TinyFront$Tokens", "read", "(I)I"⟩, prog_8_method_2_code, 4, (some (.int)), 8, 178, mz_t65)
/-- 66: TinyFront$Tokens.behindBlanks(I)I -/
def mz_t66 : List mz_E := [(0, .iload_n 1, 1, 1, 0, .null), (1, .istore_n 2, 1, 2, 0, .null), (2, .iconst 0, 1, 0, 0, .int 0), (3, .istore_n 3, 1, 3, 0, .null), (4, .iload_n 2, 1, 2, 0, .null), (5, .aload_n 0, 1, 0, 0, .null), (6, .getfield 41, 3, 6, 10, .null), (9, .if_icmp .ge 68, 3, 77, 0, .null), (12, .iload_n 3, 1, 3, 0, .null), (13, .ifCond .ne 26, 3, 39, 0, .null), (16, .aload_n 0, 1, 0, 0, .null), (17, .getfield 44, 3, 6, 9, .null), (20, .iload_n 2, 1, 2, 0, .null), (21, .iaload, 1, 0, 0, .null), (22, .invokestatic 58, 3, 78, 1, .null), (25, .ifCond .ne 14, 3, 39, 0, .null), (28, .aload_n 0, 1, 0, 0, .null), (29, .getfield 44, 3, 6, 9, .null), (32, .iload_n 2, 1, 2, 0, .null), (33, .iaload, 1, 0, 0, .null), (34, .bipush 35, 2, 0, 0, .int 35), (36, .if_icmp .ne 41, 3, 77, 0, .null), (39, .aload_n 0, 1, 0, 0, .null), (40, .getfield 44, 3, 6, 9, .null), (43, .iload_n 2, 1, 2, 0, .null), (44, .iaload, 1, 0, 0, .null), (45, .bipush 10, 2, 0, 0, .int 10), (47, .if_icmp .eq 22, 3, 69, 0, .null), (50, .iload_n 3, 1, 3, 0, .null), (51, .ifCond .ne 14, 3, 65, 0, .null), (54, .aload_n 0, 1, 0, 0, .null), (55, .getfield 44, 3, 6, 9, .null), (58, .iload_n 2, 1, 2, 0, .null), (59, .iaload, 1, 0, 0, .null), (60, .bipush 35, 2, 0, 0, .int 35), (62, .if_icmp .ne 7, 3, 69, 0, .null), (65, .iconst 1, 1, 0, 0, .int 1), (66, .goto 4, 3, 70, 0, .null), (69, .iconst 0, 1, 0, 0, .int 0), (70, .istore_n 3, 1, 3, 0, .null), (71, .iinc 2 1, 3, 2, 0, .int 1), (74, .goto (-70), 3, 4, 0, .null), (77, .iload_n 2, 1, 2, 0, .null), (78, .ireturn, 1, 0, 0, .null)]
def mz_m66 : mz_D := (⟨"TinyFront$Tokens", "behindBlanks", "(I)I"⟩, prog_8_method_3_code, 4, (some (.int)), 1, 20, mz_t66)
/-- 67: TinyFront$Tokens.addToken(I)I -/
def mz_t67 : List mz_E := [(0, .aload_n 0, 1, 0, 0, .null), (1, .getfield 44, 3, 6, 9, .null), (4, .iload_n 1, 1, 1, 0, .null), (5, .iaload, 1, 0, 0, .null), (6, .invokestatic 62, 3, 79, 1, .null), (9, .ifCond .eq 9, 3, 18, 0, .null), (12, .aload_n 0, 1, 0, 0, .null), (13, .iload_n 1, 1, 1, 0, .null), (14, .invokevirtual 65, 3, 68, 2, .ref 6), (17, .ireturn, 1, 0, 0, .null), (18, .aload_n 0, 1, 0, 0, .null), (19, .getfield 44, 3, 6, 9, .null), (22, .iload_n 1, 1, 1, 0, .null), (23, .iaload, 1, 0, 0, .null), (24, .invokestatic 68, 3, 80, 1, .null), (27, .ifCond .eq 9, 3, 36, 0, .null), (30, .aload_n 0, 1, 0, 0, .null), (31, .iload_n 1, 1, 1, 0, .null), (32, .invokevirtual 71, 3, 69, 2, .ref 6), (35, .ireturn, 1, 0, 0, .null), (36, .aload_n 0, 1, 0, 0, .null), (37, .iload_n 1, 1, 1, 0, .null), (38, .invokevirtual 74, 3, 70, 2, .ref 6), (41, .ireturn, 1, 0, 0, .null)]
def mz_m67 : mz_D := (⟨"TinyFront$Tokens", "addToken", "(I)I"⟩, prog_8_method_4_code, 2, (some (.int)), 7, 157, mz_t67)
/-- 68: TinyFront$Tokens.addNumber(I)I -/
def mz_t68 : List mz_E := [(0, .iload_n 1, 1, 1, 0, .null), (1, .istore_n 2, 1, 2, 0, .null), (2, .iconst 0, 1, 0, 0, .int 0), (3, .istore_n 3, 1, 3, 0, .null), (4, .iload_n 2, 1, 2, 0, .null), (5, .aload_n 0, 1, 0, 0, .null), (6, .getfield 41, 3, 6, 10, .null), (9, .if_icmp .ge 36, 3, 45, 0, .null), (12, .aload_n 0, 1, 0, 0, .null), (13, .getfield 44, 3, 6, 9, .null), (16, .iload_n 2, 1, 2, 0, .null), (17, .iaload, 1, 0, 0, .null), (18, .invokestatic 62, 3, 79, 1, .null), (21, .ifCond .eq 24, 3, 45, 0, .null), (24, .iload_n 3, 1, 3, 0, .null), (25, .bipush 10, 2, 0, 0, .int 10), (27, .imul, 1, 0, 0, .null), (28, .aload_n 0, 1, 0, 0, .null), (29, .getfield 44, 3, 6, 9, .null), (32, .iload_n 2, 1, 2, 0, .null), (33, .iaload, 1, 0, 0, .null), (34, .bipush 48, 2, 0, 0, .int 48), (36, .isub, 1, 0, 0, .null), (37, .iadd, 1, 0, 0, .null), (38, .istore_n 3, 1, 3, 0, .null), (39, .iinc 2 1, 3, 2, 0, .int 1), (42, .goto (-38), 3, 4, 0, .null), (45, .aload_n 0, 1, 0, 0, .null), (46, .iconst 2, 1, 0, 0, .int 2), (47, .iload_n 1, 1, 1, 0, .null), (48, .iload_n 2, 1, 2, 0, .null), (49, .iload_n 1, 1, 1, 0, .null), (50, .isub, 1, 0, 0, .null), (51, .iload_n 3, 1, 3, 0, .null), (52, .invokevirtual 77, 3, 71, 5, .ref 6), (55, .ireturn, 1, 0, 0, .null)]
def mz_m68 : mz_D := (⟨"TinyFront$Tokens", "addNumber", "(I)I"⟩, prog_8_method_5_code, 4, (some (.int)), 2, 48, mz_t68)
/-- 69: TinyFront$Tokens.addWordOrName(I)I -/
def mz_t69 : List mz_E := [(0, .iload_n 1, 1, 1, 0, .null), (1, .istore_n 2, 1, 2, 0, .null), (2, .iload_n 2, 1, 2, 0, .null), (3, .aload_n 0, 1, 0, 0, .null), (4, .getfield 41, 3, 6, 10, .null), (7, .if_icmp .ge 33, 3, 40, 0, .null), (10, .aload_n 0, 1, 0, 0, .null), (11, .getfield 44, 3, 6, 9, .null), (14, .iload_n 2, 1, 2, 0, .null), (15, .iaload, 1, 0, 0, .null), (16, .invokestatic 68, 3, 80, 1, .null), (19, .ifCond .ne 15, 3, 34, 0, .null), (22, .aload_n 0, 1, 0, 0, .null), (23, .getfield 44, 3, 6, 9, .null), (26, .iload_n 2, 1, 2, 0, .null), (27, .iaload, 1, 0, 0, .null), (28, .invokestatic 62, 3, 79, 1, .null), (31, .ifCond .eq 9, 3, 40, 0, .null), (34, .iinc 2 1, 3, 2, 0, .int 1), (37, .goto (-35), 3, 2, 0, .null), (40, .iload_n 2, 1, 2, 0, .null), (41, .iload_n 1, 1, 1, 0, .null), (42, .isub, 1, 0, 0, .null), (43, .istore_n 3, 1, 3, 0, .null), (44, .aload_n 0, 1, 0, 0, .null), (45, .iload_n 1, 1, 1, 0, .null), (46, .iload_n 3, 1, 3, 0, .null), (47, .invokevirtual 81, 3, 75, 3, .ref 6), (50, .istore 4, 2, 4, 0, .null), (52, .iload 4, 2, 4, 0, .null), (54, .iconst 1, 1, 0, 0, .int 1), (55, .if_icmp .eq 13, 3, 68, 0, .null), (58, .aload_n 0, 1, 0, 0, .null), (59, .iload 4, 2, 4, 0, .null), (61, .iload_n 1, 1, 1, 0, .null), (62, .iload_n 3, 1, 3, 0, .null), (63, .iconst 0, 1, 0, 0, .int 0), (64, .invokevirtual 77, 3, 71, 5, .ref 6), (67, .ireturn, 1, 0, 0, .null), (68, .iload_n 3, 1, 3, 0, .null), (69, .bipush 16, 2, 0, 0, .int 16), (71, .if_icmp .le 7, 3, 78, 0, .null), (74, .iconst (-1), 1, 0, 0, .int (-1)), (75, .goto 9, 3, 84, 0, .null), (78, .aload_n 0, 1, 0, 0, .null), (79, .iload_n 1, 1, 1, 0, .null), (80, .iload_n 3, 1, 3, 0, .null), (81, .invokevirtual 85, 3, 73, 3, .ref 6), (84, .istore 5, 2, 5, 0, .null), (86, .iload 5, 2, 5, 0, .null), (88, .iconst (-1), 1, 0, 0, .int (-1)), (89, .if_icmp .ne 7, 3, 96, 0, .null), (92, .iconst 0, 1, 0, 0, .int 0), (93, .goto 12, 3, 105, 0, .null), (96, .aload_n 0, 1, 0, 0, .null), (97, .iconst 1, 1, 0, 0, .int 1), (98, .iload_n 1, 1, 1, 0, .null), (99, .iload_n 3, 1, 3, 0, .null), (100, .iload 5, 2, 5, 0, .null), (102, .invokevirtual 77, 3, 71, 5, .ref 6), (105, .ireturn, 1, 0, 0, .null)]
def mz_m69 : mz_D := (⟨"TinyFront$Tokens", "addWordOrName", "(I)I"⟩, prog_8_method_6_code, 6, (some (.int)), 6, 132, mz_t69)
/-- 70: TinyFront$Tokens.addSign(I)I -/
def mz_t70 : List mz_E := [(0, .aload_n 0, 1, 0, 0, .null), (1, .getfield 44, 3, 6, 9, .null), (4, .iload_n 1, 1, 1, 0, .null), (5, .iaload, 1, 0, 0, .null), (6, .i2c, 1, 0, 0, .null), (7, .istore_n 2, 1, 2, 0, .null), (8, .ldc 88, 2, 6, 1, .ref 316), (10, .iload_n 2, 1, 2, 0, .null), (11, .invokevirtual 90, 3, 194, 2, .null), (14, .istore_n 3, 1, 3, 0, .null), (15, .iload_n 3, 1, 3, 0, .null), (16, .ifCond .lt 37, 3, 53, 0, .null), (19, .iload_n 1, 1, 1, 0, .null), (20, .iconst 1, 1, 0, 0, .int 1), (21, .iadd, 1, 0, 0, .null), (22, .aload_n 0, 1, 0, 0, .null), (23, .getfield 41, 3, 6, 10, .null), (26, .if_icmp .ge 27, 3, 53, 0, .null), (29, .aload_n 0, 1, 0, 0, .null), (30, .getfield 44, 3, 6, 9, .null), (33, .iload_n 1, 1, 1, 0, .null), (34, .iconst 1, 1, 0, 0, .int 1), (35, .iadd, 1, 0, 0, .null), (36, .iaload, 1, 0, 0, .null), (37, .iload_n 2, 1, 2, 0, .null), (38, .if_icmp .ne 15, 3, 53, 0, .null), (41, .aload_n 0, 1, 0, 0, .null), (42, .bipush 9, 2, 0, 0, .int 9), (44, .iload_n 3, 1, 3, 0, .null), (45, .iadd, 1, 0, 0, .null), (46, .iload_n 1, 1, 1, 0, .null), (47, .iconst 2, 1, 0, 0, .int 2), (48, .iconst 0, 1, 0, 0, .int 0), (49, .invokevirtual 77, 3, 71, 5, .ref 6), (52, .ireturn, 1, 0, 0, .null), (53, .ldc 95, 2, 7, 1, .ref 317), (55, .iload_n 2, 1, 2, 0, .null), (56, .invokevirtual 90, 3, 194, 2, .null), (59, .istore_n 3, 1, 3, 0, .null), (60, .iload_n 3, 1, 3, 0, .null), (61, .ifCond .ge 7, 3, 68, 0, .null), (64, .iconst 0, 1, 0, 0, .int 0), (65, .goto 14, 3, 79, 0, .null), (68, .aload_n 0, 1, 0, 0, .null), (69, .bipush 12, 2, 0, 0, .int 12), (71, .iload_n 3, 1, 3, 0, .null), (72, .iadd, 1, 0, 0, .null), (73, .iload_n 1, 1, 1, 0, .null), (74, .iconst 1, 1, 0, 0, .int 1), (75, .iconst 0, 1, 0, 0, .int 0), (76, .invokevirtual 77, 3, 71, 5, .ref 6), (79, .ireturn, 1, 0, 0, .null)]
def mz_m70 : mz_D := (⟨"TinyFront$Tokens", "addSign", "(I)I"⟩, prog_8_method_7_code, 4, (some (.int)), 4, 91, mz_t70)
/-- 71: TinyFront$Tokens.add(IIII)I -/
def mz_t71 : List mz_E := [(0, .aload_n 0, 1, 0, 0, .null), (1, .iload_n 1, 1, 1, 0, .null), (2, .iload_n 2, 1, 2, 0, .null), (3, .iload_n 3, 1, 3, 0, .null), (4, .iload 4, 2, 4, 0, .null), (6, .invokevirtual 54, 3, 72, 5, .ref 6), (9, .aload_n 0, 1, 0, 0, .null), (10, .dup, 1, 0, 0, .null), (11, .getfield 24, 3, 6, 4, .null), (14, .iconst 1, 1, 0, 0, .int 1), (15, .iadd, 1, 0, 0, .null), (16, .putfield 24, 3, 6, 4, .null), (19, .iload_n 3, 1, 3, 0, .null), (20, .ireturn, 1, 0, 0, .null)]
def mz_m71 : mz_D := (⟨"TinyFront$Tokens", "add", "(IIII)I"⟩, prog_8_method_8_code, 5, (some (.int)), 1, 24, mz_t71)
/-- 72: TinyFront$Tokens.put(IIII)V -/
def mz_t72 : List mz_E := [(0, .aload_n 0, 1, 0, 0, .null), (1, .getfield 24, 3, 6, 4, .null), (4, .aload_n 0, 1, 0, 0, .null), (5, .getfield 9, 3, 6, 0, .null), (8, .arraylength, 1, 0, 0, .null), (9, .if_icmp .ge 44, 3, 53, 0, .null), (12, .aload_n 0, 1, 0, 0, .null), (13, .getfield 9, 3, 6, 0, .null), (16, .aload_n 0, 1, 0, 0, .null), (17, .getfield 24, 3, 6, 4, .null), (20, .iload_n 1, 1, 1, 0, .null), (21, .iastore, 1, 0, 0, .null), (22, .aload_n 0, 1, 0, 0, .null), (23, .getfield 15, 3, 6, 1, .null), (26, .aload_n 0, 1, 0, 0, .null), (27, .getfield 24, 3, 6, 4, .null), (30, .iload_n 2, 1, 2, 0, .null), (31, .iastore, 1, 0, 0, .null), (32, .aload_n 0, 1, 0, 0, .null), (33, .getfield 18, 3, 6, 2, .null), (36, .aload_n 0, 1, 0, 0, .null), (37, .getfield 24, 3, 6, 4, .null), (40, .iload_n 3, 1, 3, 0, .null), (41, .iastore, 1, 0, 0, .null), (42, .aload_n 0, 1, 0, 0, .null), (43, .getfield 21, 3, 6, 3, .null), (46, .aload_n 0, 1, 0, 0, .null), (47, .getfield 24, 3, 6, 4, .null), (50, .iload 4, 2, 4, 0, .null), (52, .iastore, 1, 0, 0, .null), (53, .return_, 1, 0, 0, .null)]
def mz_m72 : mz_D := (⟨"TinyFront$Tokens", "put", "(IIII)V"⟩, prog_8_method_9_code, 5, none, 0, 0, mz_t72)
/-- 73: TinyFront$Tokens.slotOf(II)I -/
def mz_t73 : List mz_E := [(0, .iconst 0, 1, 0, 0, .int 0), (1, .istore_n 3, 1, 3, 0, .null), (2, .iload_n 3, 1, 3, 0, .null), (3, .aload_n 0, 1, 0, 0, .null), (4, .getfield 28, 3, 6, 5, .null), (7, .if_icmp .ge 36, 3, 43, 0, .null), (10, .aload_n 0, 1, 0, 0, .null), (11, .getfield 38, 3, 6, 8, .null), (14, .iload_n 3, 1, 3, 0, .null), (15, .iaload, 1, 0, 0, .null), (16, .iload_n 2, 1, 2, 0, .null), (17, .if_icmp .ne 20, 3, 37, 0, .null), (20, .aload_n 0, 1, 0, 0, .null), (21, .aload_n 0, 1, 0, 0, .null), (22, .getfield 35, 3, 6, 7, .null), (25, .iload_n 3, 1, 3, 0, .null), (26, .iaload, 1, 0, 0, .null), (27, .iload_n 1, 1, 1, 0, .null), (28, .iload_n 2, 1, 2, 0, .null), (29, .invokevirtual 97, 3, 74, 4, .ref 6), (32, .ifCond .eq 5, 3, 37, 0, .null), (35, .iload_n 3, 1, 3, 0, .null), (36, .ireturn, 1, 0, 0, .null), (37, .iinc 3 1, 3, 3, 0, .int 1), (40, .goto (-38), 3, 2, 0, .null), (43, .aload_n 0, 1, 0, 0, .null), (44, .getfield 28, 3, 6, 5, .null), (47, .bipush 32, 2, 0, 0, .int 32), (49, .if_icmp .lt 5, 3, 54, 0, .null), (52, .iconst (-1), 1, 0, 0, .int (-1)), (53, .ireturn, 1, 0, 0, .null), (54, .aload_n 0, 1, 0, 0, .null), (55, .getfield 35, 3, 6, 7, .null), (58, .aload_n 0, 1, 0, 0, .null), (59, .getfield 28, 3, 6, 5, .null), (62, .iload_n 1, 1, 1, 0, .null), (63, .iastore, 1, 0, 0, .null), (64, .aload_n 0, 1, 0, 0, .null), (65, .getfield 38, 3, 6, 8, .null), (68, .aload_n 0, 1, 0, 0, .null), (69, .getfield 28, 3, 6, 5, .null), (72, .iload_n 2, 1, 2, 0, .null), (73, .iastore, 1, 0, 0, .null), (74, .aload_n 0, 1, 0, 0, .null), (75, .dup, 1, 0, 0, .null), (76, .getfield 28, 3, 6, 5, .null), (79, .iconst 1, 1, 0, 0, .int 1), (80, .iadd, 1, 0, 0, .null), (81, .putfield 28, 3, 6, 5, .null), (84, .aload_n 0, 1, 0, 0, .null), (85, .getfield 28, 3, 6, 5, .null), (88, .iconst 1, 1, 0, 0, .int 1), (89, .isub, 1, 0, 0, .null), (90, .ireturn, 1, 0, 0, .null)]
def mz_m73 : mz_D := (⟨"TinyFront$Tokens", "slotOf", "(II)I"⟩, prog_8_method_10_code, 4, (some (.int)), 1, 24, mz_t73)
/-- 74: TinyFront$Tokens.sameBytes(III)Z -/
def mz_t74 : List mz_E := [(0, .iconst 0, 1, 0, 0, .int 0), (1, .istore 4, 2, 4, 0, .null), (3, .iload 4, 2, 4, 0, .null), (5, .iload_n 3, 1, 3, 0, .null), (6, .if_icmp .ge 32, 3, 38, 0, .null), (9, .aload_n 0, 1, 0, 0, .null), (10, .getfield 44, 3, 6, 9, .null), (13, .iload_n 1, 1, 1, 0, .null), (14, .iload 4, 2, 4, 0, .null), (16, .iadd, 1, 0, 0, .null), (17, .iaload, 1, 0, 0, .null), (18, .aload_n 0, 1, 0, 0, .null), (19, .getfield 44, 3, 6, 9, .null), (22, .iload_n 2, 1, 2, 0, .null), (23, .iload 4, 2, 4, 0, .null), (25, .iadd, 1, 0, 0, .null), (26, .iaload, 1, 0, 0, .null), (27, .if_icmp .eq 5, 3, 32, 0, .null), (30, .iconst 0, 1, 0, 0, .int 0), (31, .ireturn, 1, 0, 0, .null), (32, .iinc 4 1, 3, 4, 0, .int 1), (35, .goto (-32), 3, 3, 0, .null), (38, .iconst 1, 1, 0, 0, .int 1), (39, .ireturn, 1, 0, 0, .null)]
def mz_m74 : mz_D := (⟨"TinyFront$Tokens", "sameBytes", "(III)Z"⟩, prog_8_method_11_code, 5, (some (.boolean)), 0, 0, mz_t74)
/-- 75: TinyFront$Tokens.wordKind(II)I -/
def mz_t75 : List mz_E := [(0, .iconst 3, 1, 0, 0, .int 3), (1, .istore_n 3, 1, 3, 0, .null), (2, .iload_n 3, 1, 3, 0, .null), (3, .bipush 8, 2, 0, 0, .int 8), (5, .if_icmp .gt 24, 3, 29, 0, .null), (8, .aload_n 0, 1, 0, 0, .null), (9, .iload_n 1, 1, 1, 0, .null), (10, .iload_n 2, 1, 2, 0, .null), (11, .iload_n 3, 1, 3, 0, .null), (12, .invokestatic 101, 3, 76, 1, .null), (15, .invokevirtual 105, 3, 77, 4, .ref 6), (18, .ifCond .eq 5, 3, 23, 0, .null), (21, .iload_n 3, 1, 3, 0, .null), (22, .ireturn, 1, 0, 0, .null), (23, .iinc 3 1, 3, 3, 0, .int 1), (26, .goto (-24), 3, 2, 0, .null), (29, .iconst 1, 1, 0, 0, .int 1), (30, .ireturn, 1, 0, 0, .null)]
def mz_m75 : mz_D := (⟨"TinyFront$Tokens", "wordKind", "(II)I"⟩, prog_8_method_12_code, 4, (some (.int)), 5, 109, mz_t75)
/-- 76: TinyFront$Tokens.spelling(I)Ljava/lang/String; -/
def mz_t76 : List mz_E := [(0, .iload_n 0, 1, 0, 0, .null), (1, .tableswitch 50 3 7 #[35, 38, 41, 44, 47], 35, 0, 0, .null), (36, .ldc 109, 2, 0, 1, .ref 310), (38, .areturn, 1, 0, 0, .null), (39, .ldc 111, 2, 1, 1, .ref 311), (41, .areturn, 1, 0, 0, .null), (42, .ldc 113, 2, 2, 1, .ref 312), (44, .areturn, 1, 0, 0, .null), (45, .ldc 115, 2, 3, 1, .ref 313), (47, .areturn, 1, 0, 0, .null), (48, .ldc 117, 2, 4, 1, .ref 314), (50, .areturn, 1, 0, 0, .null), (51, .ldc 119, 2, 5, 1, .ref 315), (53, .areturn, 1, 0, 0, .null)]
def mz_m76 : mz_D := (⟨"TinyFront$Tokens", "spelling", "(I)Ljava/lang/String;"⟩, prog_8_method_13_code, 1, (some (.object "java/lang/String")), 0, 0, mz_t76)
/-- 77: TinyFront$Tokens.isSpelled(IILjava/lang/String;)Z -/
def mz_t77 : List mz_E := [(0, .iload_n 2, 1, 2, 0, .null), (1, .aload_n 3, 1, 3, 0, .null), (2, .invokevirtual 121, 3, 192, 1, .null), (5, .if_icmp .eq 5, 3, 10, 0, .null), (8, .iconst 0, 1, 0, 0, .int 0), (9, .ireturn, 1, 0, 0, .null), (10, .iconst 0, 1, 0, 0, .int 0), (11, .istore 4, 2, 4, 0, .null), (13, .iload 4, 2, 4, 0, .null), (15, .iload_n 2, 1, 2, 0, .null), (16, .if_icmp .ge 29, 3, 45, 0, .null), (19, .aload_n 0, 1, 0, 0, .null), (20, .getfield 44, 3, 6, 9, .null), (23, .iload_n 1, 1, 1, 0, .null), (24, .iload 4, 2, 4, 0, .null), (26, .iadd, 1, 0, 0, .null), (27, .iaload, 1, 0, 0, .null), (28, .aload_n 3, 1, 3, 0, .null), (29, .iload 4, 2, 4, 0, .null), (31, .invokevirtual 124, 3, 193, 2, .null), (34, .if_icmp .eq 5, 3, 39, 0, .null), (37, .iconst 0, 1, 0, 0, .int 0), (38, .ireturn, 1, 0, 0, .null), (39, .iinc 4 1, 3, 4, 0, .int 1), (42, .goto (-29), 3, 13, 0, .null), (45, .iconst 1, 1, 0, 0, .int 1), (46, .ireturn, 1, 0, 0, .null)]
def mz_m77 : mz_D := (⟨"TinyFront$Tokens", "isSpelled", "(IILjava/lang/String;)Z"⟩, prog_8_method_14_code, 5, (some (.boolean)), 4, 85, mz_t77)
/-- 78: TinyFront$Tokens.isBlank(I)Z -/
def mz_t78 : List mz_E := [(0, .iload_n 0, 1, 0, 0, .null), (1, .bipush 9, 2, 0, 0, .int 9), (3, .if_icmp .eq 21, 3, 24, 0, .null), (6, .iload_n 0, 1, 0, 0, .null), (7, .bipush 10, 2, 0, 0, .int 10), (9, .if_icmp .eq 15, 3, 24, 0, .null), (12, .iload_n 0, 1, 0, 0, .null), (13, .bipush 13, 2, 0, 0, .int 13), (15, .if_icmp .eq 9, 3, 24, 0, .null), (18, .iload_n 0, 1, 0, 0, .null), (19, .bipush 32, 2, 0, 0, .int 32), (21, .if_icmp .ne 7, 3, 28, 0, .null), (24, .iconst 1, 1, 0, 0, .int 1), (25, .goto 4, 3, 29, 0, .null), (28, .iconst 0, 1, 0, 0, .int 0), (29, .ireturn, 1, 0, 0, .null)]
def mz_m78 : mz_D := (⟨"TinyFront$Tokens", "isBlank", "(I)Z"⟩, prog_8_method_15_code, 1, (some (.boolean)), 0, 0, mz_t78)
/-- 79: TinyFront$Tokens.isDigit(I)Z -/
def mz_t79 : List mz_E := [(0, .iload_n 0, 1, 0, 0, .null), (1, .bipush 48, 2, 0, 0, .int 48), (3, .if_icmp .lt 13, 3, 16, 0, .null), (6, .iload_n 0, 1, 0, 0, .null), (7, .bipush 57, 2, 0, 0, .int 57), (9, .if_icmp .gt 7, 3, 16, 0, .null), (12, .iconst 1, 1, 0, 0, .int 1), (13, .goto 4, 3, 17, 0, .null), (16, .iconst 0, 1, 0, 0, .int 0), (17, .ireturn, 1, 0, 0, .null)]
def mz_m79 : mz_D := (⟨"TinyFront$Tokens", "isDigit", "(I)Z"⟩, prog_8_method_16_code, 1, (some (.boolean)), 0, 0, mz_t79)
/-- 80: TinyFront$Tokens.isLetter(I)Z -/
def mz_t80 : List mz_E := [(0, .iload_n 0, 1, 0, 0, .null), (1, .bipush 97, 2, 0, 0, .int 97), (3, .if_icmp .lt 9, 3, 12, 0, .null), (6, .iload_n 0, 1, 0, 0, .null), (7, .bipush 122, 2, 0, 0, .int 122), (9, .if_icmp .le 21, 3, 30, 0, .null), (12, .iload_n 0, 1, 0, 0, .null), (13, .bipush 65, 2, 0, 0, .int 65), (15, .if_icmp .lt 9, 3, 24, 0, .null), (18, .iload_n 0, 1, 0, 0, .null), (19, .bipush 90, 2, 0, 0, .int 90), (21, .if_icmp .le 9, 3, 30, 0, .null), (24, .iload_n 0, 1, 0, 0, .null), (25, .bipush 95, 2, 0, 0, .int 95), (27, .if_icmp .ne 7, 3, 34, 0, .null), (30, .iconst 1, 1, 0, 0, .int 1), (31, .goto 4, 3, 35, 0, .null), (34, .iconst 0, 1, 0, 0, .int 0), (35, .ireturn, 1, 0, 0, .null)]
def mz_m80 : mz_D := (⟨"TinyFront$Tokens", "isLetter", "(I)Z"⟩, prog_8_method_17_code, 1, (some (.boolean)), 0, 0, mz_t80)
/-- 81: TinyFront$Tree.<init>()V -/
def mz_t81 : List mz_E := [(0, .aload_n 0, 1, 0, 0, .null), (1, .invokespecial 3, 3, 9999, 0, .null), (4, .aload_n 0, 1, 0, 0, .null), (5, .sipush 4001, 3, 0, 0, .int 4001), (8, .newarray .int, 2, 0, 0, .null), (10, .putfield 9, 3, 7, 0, .ref 0), (13, .aload_n 0, 1, 0, 0, .null), (14, .sipush 4001, 3, 0, 0, .int 4001), (17, .newarray .int, 2, 0, 0, .null), (19, .putfield 15, 3, 7, 1, .ref 0), (22, .aload_n 0, 1, 0, 0, .null), (23, .sipush 4001, 3, 0, 0, .int 4001), (26, .newarray .int, 2, 0, 0, .null), (28, .putfield 18, 3, 7, 2, .ref 0), (31, .aload_n 0, 1, 0, 0, .null), (32, .sipush 4001, 3, 0, 0, .int 4001), (35, .newarray .int, 2, 0, 0, .null), (37, .putfield 21, 3, 7, 3, .ref 0), (40, .aload_n 0, 1, 0, 0, .null), (41, .sipush 4001, 3, 0, 0, .int 4001), (44, .newarray .int, 2, 0, 0, .null), (46, .putfield 24, 3, 7, 4, .ref 0), (49, .aload_n 0, 1, 0, 0, .null), (50, .iconst 0, 1, 0, 0, .int 0), (51, .putfield 27, 3, 7, 5, .null), (54, .aload_n 0, 1, 0, 0, .null), (55, .sipush 4001, 3, 0, 0, .int 4001), (58, .newarray .int, 2, 0, 0, .null), (60, .putfield 31, 3, 7, 6, .ref 0), (63, .return_, 1, 0, 0, .null)]
def mz_m81 : mz_D := (⟨"TinyFront$Tree", "<init>", "()V"⟩, prog_9_method_1_code, 1, none, 1, 20, mz_t81)
/-- 82: TinyFront$Tree.add(III)V -/
def mz_t82 : List mz_E := [(0, .aload_n 0, 1, 0, 0, .null), (1, .getfield 27, 3, 7, 5, .null), (4, .sipush 4001, 3, 0, 0, .int 4001), (7, .if_icmp .lt 4, 3, 11, 0, .null), (10, .return_, 1, 0, 0, .null), (11, .iconst 0, 1, 0, 0, .int 0), (12, .istore 4, 2, 4, 0, .null), (14, .aload_n 0, 1, 0, 0, .null), (15, .getfield 27, 3, 7, 5, .null), (18, .iconst 1, 1, 0, 0, .int 1), (19, .isub, 1, 0, 0, .null), (20, .istore 5, 2, 5, 0, .null), (22, .iconst 0, 1, 0, 0, .int 0), (23, .istore 6, 2, 6, 0, .null), (25, .iload 6, 2, 6, 0, .null), (27, .iload_n 3, 1, 3, 0, .null), (28, .if_icmp .ge 40, 3, 68, 0, .null), (31, .iload 5, 2, 5, 0, .null), (33, .ifCond .lt 35, 3, 68, 0, .null), (36, .iload 4, 2, 4, 0, .null), (38, .aload_n 0, 1, 0, 0, .null), (39, .getfield 21, 3, 7, 3, .null), (42, .iload 5, 2, 5, 0, .null), (44, .iaload, 1, 0, 0, .null), (45, .invokestatic 34, 3, 9997, 0, .null), (48, .istore 4, 2, 4, 0, .null), (50, .iload 5, 2, 5, 0, .null), (52, .aload_n 0, 1, 0, 0, .null), (53, .getfield 24, 3, 7, 4, .null), (56, .iload 5, 2, 5, 0, .null), (58, .iaload, 1, 0, 0, .null), (59, .isub, 1, 0, 0, .null), (60, .istore 5, 2, 5, 0, .null), (62, .iinc 6 1, 3, 6, 0, .int 1), (65, .goto (-40), 3, 25, 0, .null), (68, .aload_n 0, 1, 0, 0, .null), (69, .getfield 9, 3, 7, 0, .null), (72, .aload_n 0, 1, 0, 0, .null), (73, .getfield 27, 3, 7, 5, .null), (76, .iload_n 1, 1, 1, 0, .null), (77, .iastore, 1, 0, 0, .null), (78, .aload_n 0, 1, 0, 0, .null), (79, .getfield 15, 3, 7, 1, .null), (82, .aload_n 0, 1, 0, 0, .null), (83, .getfield 27, 3, 7, 5, .null), (86, .iload_n 2, 1, 2, 0, .null), (87, .iastore, 1, 0, 0, .null), (88, .aload_n 0, 1, 0, 0, .null), (89, .getfield 18, 3, 7, 2, .null), (92, .aload_n 0, 1, 0, 0, .null), (93, .getfield 27, 3, 7, 5, .null), (96, .iload_n 3, 1, 3, 0, .null), (97, .iastore, 1, 0, 0, .null), (98, .aload_n 0, 1, 0, 0, .null), (99, .getfield 21, 3, 7, 3, .null), (102, .aload_n 0, 1, 0, 0, .null), (103, .getfield 27, 3, 7, 5, .null), (106, .iload 4, 2, 4, 0, .null), (108, .iconst 1, 1, 0, 0, .int 1), (109, .iadd, 1, 0, 0, .null), (110, .iastore, 1, 0, 0, .null), (111, .aload_n 0, 1, 0, 0, .null), (112, .getfield 24, 3, 7, 4, .null), (115, .aload_n 0, 1, 0, 0, .null), (116, .getfield 27, 3, 7, 5, .null), (119, .aload_n 0, 1, 0, 0, .null), (120, .getfield 27, 3, 7, 5, .null), (123, .iload 5, 2, 5, 0, .null), (125, .isub, 1, 0, 0, .null), (126, .iastore, 1, 0, 0, .null), (127, .aload_n 0, 1, 0, 0, .null), (128, .dup, 1, 0, 0, .null), (129, .getfield 27, 3, 7, 5, .null), (132, .iconst 1, 1, 0, 0, .int 1), (133, .iadd, 1, 0, 0, .null), (134, .putfield 27, 3, 7, 5, .null), (137, .return_, 1, 0, 0, .null)]
def mz_m82 : mz_D := (⟨"TinyFront$Tree", "add", "(III)V"⟩, prog_9_method_2_code, 7, none, 1, 21, mz_t82)
/-- 83: TinyFront$Tree.heightOfLatest()I -/
def mz_t83 : List mz_E := [(0, .aload_n 0, 1, 0, 0, .null), (1, .getfield 27, 3, 7, 5, .null), (4, .ifCond .le 17, 3, 21, 0, .null), (7, .aload_n 0, 1, 0, 0, .null), (8, .getfield 21, 3, 7, 3, .null), (11, .aload_n 0, 1, 0, 0, .null), (12, .getfield 27, 3, 7, 5, .null), (15, .iconst 1, 1, 0, 0, .int 1), (16, .isub, 1, 0, 0, .null), (17, .iaload, 1, 0, 0, .null), (18, .goto 4, 3, 22, 0, .null), (21, .iconst 0, 1, 0, 0, .int 0), (22, .ireturn, 1, 0, 0, .null)]
def mz_m83 : mz_D := (⟨"TinyFront$Tree", "heightOfLatest", "()I"⟩, prog_9_method_3_code, 1, (some (.int)), 0, 0, mz_t83)
/-- 84: TinyFront$Tree.takeInOrder(LTinyFront$Tree;)V -/
def mz_t84 : List mz_E := [(0, .aload_n 0, 1, 0, 0, .null), (1, .aload_n 1, 1, 1, 0, .null), (2, .getfield 27, 3, 7, 5, .null), (5, .putfield 27, 3, 7, 5, .null), (8, .aload_n 0, 1, 0, 0, .null), (9, .getfield 27, 3, 7, 5, .null), (12, .ifCond .ne 4, 3, 16, 0, .null), (15, .return_, 1, 0, 0, .null), (16, .aload_n 0, 1, 0, 0, .null), (17, .getfield 31, 3, 7, 6, .null), (20, .aload_n 0, 1, 0, 0, .null), (21, .getfield 27, 3, 7, 5, .null), (24, .iconst 1, 1, 0, 0, .int 1), (25, .isub, 1, 0, 0, .null), (26, .iconst 0, 1, 0, 0, .int 0), (27, .iastore, 1, 0, 0, .null), (28, .aload_n 0, 1, 0, 0, .null), (29, .getfield 27, 3, 7, 5, .null), (32, .iconst 1, 1, 0, 0, .int 1), (33, .isub, 1, 0, 0, .null), (34, .istore_n 2, 1, 2, 0, .null), (35, .iload_n 2, 1, 2, 0, .null), (36, .ifCond .lt 82, 3, 118, 0, .null), (39, .aload_n 0, 1, 0, 0, .null), (40, .getfield 31, 3, 7, 6, .null), (43, .iload_n 2, 1, 2, 0, .null), (44, .iaload, 1, 0, 0, .null), (45, .istore_n 3, 1, 3, 0, .null), (46, .aload_n 0, 1, 0, 0, .null), (47, .getfield 9, 3, 7, 0, .null), (50, .iload_n 3, 1, 3, 0, .null), (51, .aload_n 1, 1, 1, 0, .null), (52, .getfield 9, 3, 7, 0, .null), (55, .iload_n 2, 1, 2, 0, .null), (56, .iaload, 1, 0, 0, .null), (57, .iastore, 1, 0, 0, .null), (58, .aload_n 0, 1, 0, 0, .null), (59, .getfield 15, 3, 7, 1, .null), (62, .iload_n 3, 1, 3, 0, .null), (63, .aload_n 1, 1, 1, 0, .null), (64, .getfield 15, 3, 7, 1, .null), (67, .iload_n 2, 1, 2, 0, .null), (68, .iaload, 1, 0, 0, .null), (69, .iastore, 1, 0, 0, .null), (70, .aload_n 0, 1, 0, 0, .null), (71, .getfield 18, 3, 7, 2, .null), (74, .iload_n 3, 1, 3, 0, .null), (75, .aload_n 1, 1, 1, 0, .null), (76, .getfield 18, 3, 7, 2, .null), (79, .iload_n 2, 1, 2, 0, .null), (80, .iaload, 1, 0, 0, .null), (81, .iastore, 1, 0, 0, .null), (82, .aload_n 0, 1, 0, 0, .null), (83, .getfield 21, 3, 7, 3, .null), (86, .iload_n 3, 1, 3, 0, .null), (87, .aload_n 1, 1, 1, 0, .null), (88, .getfield 21, 3, 7, 3, .null), (91, .iload_n 2, 1, 2, 0, .null), (92, .iaload, 1, 0, 0, .null), (93, .iastore, 1, 0, 0, .null), (94, .aload_n 0, 1, 0, 0, .null), (95, .getfield 24, 3, 7, 4, .null), (98, .iload_n 3, 1, 3, 0, .null), (99, .aload_n 1, 1, 1, 0, .null), (100, .getfield 24, 3, 7, 4, .null), (103, .iload_n 2, 1, 2, 0, .null), (104, .iaload, 1, 0, 0, .null), (105, .iastore, 1, 0, 0, .null), (106, .aload_n 0, 1, 0, 0, .null), (107, .aload_n 1, 1, 1, 0, .null), (108, .iload_n 2, 1, 2, 0, .null), (109, .invokevirtual 40, 3, 85, 3, .ref 7), (112, .iinc 2 (-1), 3, 2, 0, .int (-1)), (115, .goto (-80), 3, 35, 0, .null), (118, .return_, 1, 0, 0, .null)]
def mz_m84 : mz_D := (⟨"TinyFront$Tree", "takeInOrder", "(LTinyFront$Tree;)V"⟩, prog_9_method_4_code, 4, none, 1, 25, mz_t84)
/-- 85: TinyFront$Tree.placeParts(LTinyFront$Tree;I)V -/
def mz_t85 : List mz_E := [(0, .aload_n 0, 1, 0, 0, .null), (1, .getfield 31, 3, 7, 6, .null), (4, .iload_n 2, 1, 2, 0, .null), (5, .iaload, 1, 0, 0, .null), (6, .aload_n 1, 1, 1, 0, .null), (7, .getfield 24, 3, 7, 4, .null), (10, .iload_n 2, 1, 2, 0, .null), (11, .iaload, 1, 0, 0, .null), (12, .iadd, 1, 0, 0, .null), (13, .istore_n 3, 1, 3, 0, .null), (14, .iload_n 2, 1, 2, 0, .null), (15, .iconst 1, 1, 0, 0, .int 1), (16, .isub, 1, 0, 0, .null), (17, .istore 4, 2, 4, 0, .null), (19, .iconst 0, 1, 0, 0, .int 0), (20, .istore 5, 2, 5, 0, .null), (22, .iload 5, 2, 5, 0, .null), (24, .aload_n 1, 1, 1, 0, .null), (25, .getfield 18, 3, 7, 2, .null), (28, .iload_n 2, 1, 2, 0, .null), (29, .iaload, 1, 0, 0, .null), (30, .if_icmp .ge 44, 3, 74, 0, .null), (33, .iload 4, 2, 4, 0, .null), (35, .ifCond .lt 39, 3, 74, 0, .null), (38, .iload_n 3, 1, 3, 0, .null), (39, .aload_n 1, 1, 1, 0, .null), (40, .getfield 24, 3, 7, 4, .null), (43, .iload 4, 2, 4, 0, .null), (45, .iaload, 1, 0, 0, .null), (46, .isub, 1, 0, 0, .null), (47, .istore_n 3, 1, 3, 0, .null), (48, .aload_n 0, 1, 0, 0, .null), (49, .getfield 31, 3, 7, 6, .null), (52, .iload 4, 2, 4, 0, .null), (54, .iload_n 3, 1, 3, 0, .null), (55, .iastore, 1, 0, 0, .null), (56, .iload 4, 2, 4, 0, .null), (58, .aload_n 1, 1, 1, 0, .null), (59, .getfield 24, 3, 7, 4, .null), (62, .iload 4, 2, 4, 0, .null), (64, .iaload, 1, 0, 0, .null), (65, .isub, 1, 0, 0, .null), (66, .istore 4, 2, 4, 0, .null), (68, .iinc 5 1, 3, 5, 0, .int 1), (71, .goto (-49), 3, 22, 0, .null), (74, .return_, 1, 0, 0, .null)]
def mz_m85 : mz_D := (⟨"TinyFront$Tree", "placeParts", "(LTinyFront$Tree;I)V"⟩, prog_9_method_5_code, 6, none, 0, 0, mz_t85)
/-- 86: TinyFront$Tree.lastPart(I)I -/
def mz_t86 : List mz_E := [(0, .iconst (-1), 1, 0, 0, .int (-1)), (1, .istore_n 2, 1, 2, 0, .null), (2, .iconst 0, 1, 0, 0, .int 0), (3, .istore_n 3, 1, 3, 0, .null), (4, .iload_n 3, 1, 3, 0, .null), (5, .aload_n 0, 1, 0, 0, .null), (6, .getfield 18, 3, 7, 2, .null), (9, .iload_n 1, 1, 1, 0, .null), (10, .iaload, 1, 0, 0, .null), (11, .if_icmp .ge 25, 3, 36, 0, .null), (14, .iload_n 3, 1, 3, 0, .null), (15, .ifCond .ne 9, 3, 24, 0, .null), (18, .iload_n 1, 1, 1, 0, .null), (19, .iconst 1, 1, 0, 0, .int 1), (20, .iadd, 1, 0, 0, .null), (21, .goto 8, 3, 29, 0, .null), (24, .aload_n 0, 1, 0, 0, .null), (25, .iload_n 2, 1, 2, 0, .null), (26, .invokevirtual 44, 3, 87, 2, .ref 7), (29, .istore_n 2, 1, 2, 0, .null), (30, .iinc 3 1, 3, 3, 0, .int 1), (33, .goto (-29), 3, 4, 0, .null), (36, .iload_n 2, 1, 2, 0, .null), (37, .ireturn, 1, 0, 0, .null)]
def mz_m86 : mz_D := (⟨"TinyFront$Tree", "lastPart", "(I)I"⟩, prog_9_method_6_code, 4, (some (.int)), 1, 21, mz_t86)
/-- 87: TinyFront$Tree.behind(I)I -/
def mz_t87 : List mz_E := [(0, .iload_n 1, 1, 1, 0, .null), (1, .ifCond .lt 22, 3, 23, 0, .null), (4, .iload_n 1, 1, 1, 0, .null), (5, .aload_n 0, 1, 0, 0, .null), (6, .getfield 27, 3, 7, 5, .null), (9, .if_icmp .ge 14, 3, 23, 0, .null), (12, .iload_n 1, 1, 1, 0, .null), (13, .aload_n 0, 1, 0, 0, .null), (14, .getfield 24, 3, 7, 4, .null), (17, .iload_n 1, 1, 1, 0, .null), (18, .iaload, 1, 0, 0, .null), (19, .iadd, 1, 0, 0, .null), (20, .goto 7, 3, 27, 0, .null), (23, .aload_n 0, 1, 0, 0, .null), (24, .getfield 27, 3, 7, 5, .null), (27, .ireturn, 1, 0, 0, .null)]
def mz_m87 : mz_D := (⟨"TinyFront$Tree", "behind", "(I)I"⟩, prog_9_method_7_code, 2, (some (.int)), 0, 0, mz_t87)
/-- 88: TinyFront$TreeEngine.<init>(LTinyFront$Tree;LTinyFront$Paths;LTinyFront$Tokens;LTinyFront$Run;)V -/
def mz_t88 : List mz_E := [(0, .aload_n 0, 1, 0, 0, .null), (1, .invokespecial 3, 3, 9999, 0, .null), (4, .aload_n 0, 1, 0, 0, .null), (5, .sipush 200, 3, 0, 0, .int 200), (8, .newarray .int, 2, 0, 0, .null), (10, .putfield 9, 3, 8, 4, .ref 0), (13, .aload_n 0, 1, 0, 0, .null), (14, .sipush 200, 3, 0, 0, .int 200), (17, .newarray .int, 2, 0, 0, .null), (19, .putfield 15, 3, 8, 5, .ref 0), (22, .aload_n 0, 1, 0, 0, .null), (23, .iconst 0, 1, 0, 0, .int 0), (24, .putfield 18, 3, 8, 6, .null), (27, .aload_n 0, 1, 0, 0, .null), (28, .iconst 0, 1, 0, 0, .int 0), (29, .putfield 22, 3, 8, 7, .null), (32, .aload_n 0, 1, 0, 0, .null), (33, .aload_n 1, 1, 1, 0, .null), (34, .putfield 25, 3, 8, 0, .ref 0), (37, .aload_n 0, 1, 0, 0, .null), (38, .aload_n 2, 1, 2, 0, .null), (39, .putfield 29, 3, 8, 1, .ref 0), (42, .aload_n 0, 1, 0, 0, .null), (43, .aload_n 3, 1, 3, 0, .null), (44, .putfield 33, 3, 8, 2, .ref 0), (47, .aload_n 0, 1, 0, 0, .null), (48, .aload 4, 2, 4, 0, .null), (50, .putfield 37, 3, 8, 3, .ref 0), (53, .return_, 1, 0, 0, .null)]
def mz_m88 : mz_D := (⟨"TinyFront$TreeEngine", "<init>", "(LTinyFront$Tree;LTinyFront$Paths;LTinyFront$Tokens;LTinyFront$Run;)V"⟩, prog_10_method_1_code, 5, none, 1, 20, mz_t88)
/-- 89: TinyFront$TreeEngine.go()V -/
def mz_t89 : List mz_E := [(0, .aload_n 0, 1, 0, 0, .null), (1, .getfield 29, 3, 8, 1, .null), (4, .iconst 0, 1, 0, 0, .int 0), (5, .invokevirtual 41, 3, 32, 2, .ref 3), (8, .istore_n 1, 1, 1, 0, .null), (9, .iconst 0, 1, 0, 0, .int 0), (10, .istore_n 2, 1, 2, 0, .null), (11, .iload_n 2, 1, 2, 0, .null), (12, .aload_n 0, 1, 0, 0, .null), (13, .getfield 37, 3, 8, 3, .null), (16, .getfield 47, 3, 4, 2, .null), (19, .if_icmp .gt 51, 3, 70, 0, .null), (22, .aload_n 0, 1, 0, 0, .null), (23, .getfield 37, 3, 8, 3, .null), (26, .invokevirtual 52, 3, 37, 1, .ref 4), (29, .ifCond .eq 41, 3, 70, 0, .null), (32, .iload_n 1, 1, 1, 0, .null), (33, .aload_n 0, 1, 0, 0, .null), (34, .getfield 29, 3, 8, 1, .null), (37, .getfield 56, 3, 3, 1, .null), (40, .if_icmp .eq 30, 3, 70, 0, .null), (43, .iload_n 1, 1, 1, 0, .null), (44, .ifCond .ge 14, 3, 58, 0, .null), (47, .aload_n 0, 1, 0, 0, .null), (48, .iload_n 1, 1, 1, 0, .null), (49, .invokestatic 59, 3, 31, 1, .null), (52, .invokevirtual 62, 3, 90, 2, .ref 8), (55, .goto 8, 3, 63, 0, .null), (58, .aload_n 0, 1, 0, 0, .null), (59, .iload_n 1, 1, 1, 0, .null), (60, .invokevirtual 65, 3, 91, 2, .ref 8), (63, .istore_n 1, 1, 1, 0, .null), (64, .iinc 2 1, 3, 2, 0, .int 1), (67, .goto (-56), 3, 11, 0, .null), (70, .aload_n 0, 1, 0, 0, .null), (71, .getfield 37, 3, 8, 3, .null), (74, .invokevirtual 52, 3, 37, 1, .ref 4), (77, .ifCond .eq 11, 3, 88, 0, .null), (80, .aload_n 0, 1, 0, 0, .null), (81, .getfield 37, 3, 8, 3, .null), (84, .iconst 0, 1, 0, 0, .int 0), (85, .putfield 68, 3, 4, 1, .null), (88, .return_, 1, 0, 0, .null)]
def mz_m89 : mz_D := (⟨"TinyFront$TreeEngine", "go", "()V"⟩, prog_10_method_2_code, 3, none, 5, 114, mz_t89)
/-- 90: TinyFront$TreeEngine.goRound(I)I -/
def mz_t90 : List mz_E := [(0, .aload_n 0, 1, 0, 0, .null), (1, .getfield 37, 3, 8, 3, .null), (4, .iload_n 1, 1, 1, 0, .null), (5, .invokevirtual 71, 3, 38, 2, .ref 4), (8, .ifCond .ne 11, 3, 19, 0, .null), (11, .aload_n 0, 1, 0, 0, .null), (12, .getfield 29, 3, 8, 1, .null), (15, .getfield 56, 3, 3, 1, .null), (18, .ireturn, 1, 0, 0, .null), (19, .aload_n 0, 1, 0, 0, .null), (20, .iload_n 1, 1, 1, 0, .null), (21, .iconst 1, 1, 0, 0, .int 1), (22, .iadd, 1, 0, 0, .null), (23, .invokevirtual 75, 3, 94, 2, .ref 8), (26, .aload_n 0, 1, 0, 0, .null), (27, .getfield 22, 3, 8, 7, .null), (30, .ifCond .eq 23, 3, 53, 0, .null), (33, .aload_n 0, 1, 0, 0, .null), (34, .getfield 29, 3, 8, 1, .null), (37, .aload_n 0, 1, 0, 0, .null), (38, .getfield 25, 3, 8, 0, .null), (41, .iload_n 1, 1, 1, 0, .null), (42, .iconst 1, 1, 0, 0, .int 1), (43, .iadd, 1, 0, 0, .null), (44, .invokevirtual 79, 3, 87, 2, .ref 7), (47, .invokevirtual 41, 3, 32, 2, .ref 3), (50, .goto 11, 3, 61, 0, .null), (53, .aload_n 0, 1, 0, 0, .null), (54, .getfield 29, 3, 8, 1, .null), (57, .iload_n 1, 1, 1, 0, .null), (58, .invokevirtual 84, 3, 33, 2, .ref 3), (61, .ireturn, 1, 0, 0, .null)]
def mz_m90 : mz_D := (⟨"TinyFront$TreeEngine", "goRound", "(I)I"⟩, prog_10_method_3_code, 2, (some (.int)), 4, 93, mz_t90)
/-- 91: TinyFront$TreeEngine.goStatement(I)I -/
def mz_t91 : List mz_E := [(0, .aload_n 0, 1, 0, 0, .null), (1, .getfield 37, 3, 8, 3, .null), (4, .iload_n 1, 1, 1, 0, .null), (5, .invokevirtual 71, 3, 38, 2, .ref 4), (8, .ifCond .ne 11, 3, 19, 0, .null), (11, .aload_n 0, 1, 0, 0, .null), (12, .getfield 29, 3, 8, 1, .null), (15, .getfield 56, 3, 3, 1, .null), (18, .ireturn, 1, 0, 0, .null), (19, .aload_n 0, 1, 0, 0, .null), (20, .getfield 25, 3, 8, 0, .null), (23, .getfield 85, 3, 7, 0, .null), (26, .iload_n 1, 1, 1, 0, .null), (27, .iaload, 1, 0, 0, .null), (28, .tableswitch 63 4 6 #[28, 33, 50], 28, 0, 0, .null), (56, .iload_n 1, 1, 1, 0, .null), (57, .invokestatic 59, 3, 31, 1, .null), (60, .ireturn, 1, 0, 0, .null), (61, .aload_n 0, 1, 0, 0, .null), (62, .getfield 29, 3, 8, 1, .null), (65, .aload_n 0, 1, 0, 0, .null), (66, .getfield 29, 3, 8, 1, .null), (69, .getfield 88, 3, 3, 0, .null), (72, .iload_n 1, 1, 1, 0, .null), (73, .iaload, 1, 0, 0, .null), (74, .invokevirtual 84, 3, 33, 2, .ref 3), (77, .ireturn, 1, 0, 0, .null), (78, .aload_n 0, 1, 0, 0, .null), (79, .getfield 29, 3, 8, 1, .null), (82, .getfield 88, 3, 3, 0, .null), (85, .iload_n 1, 1, 1, 0, .null), (86, .iaload, 1, 0, 0, .null), (87, .invokestatic 59, 3, 31, 1, .null), (90, .ireturn, 1, 0, 0, .null), (91, .aload_n 0, 1, 0, 0, .null), (92, .iload_n 1, 1, 1, 0, .null), (93, .iconst 1, 1, 0, 0, .int 1), (94, .iadd, 1, 0, 0, .null), (95, .invokevirtual 75, 3, 94, 2, .ref 8), (98, .aload_n 0, 1, 0, 0, .null), (99, .getfield 37, 3, 8, 3, .null), (102, .invokevirtual 52, 3, 37, 1, .ref 4), (105, .ifCond .eq 11, 3, 116, 0, .null), (108, .aload_n 0, 1, 0, 0, .null), (109, .iload_n 1, 1, 1, 0, .null), (110, .invokevirtual 91, 3, 92, 2, .ref 8), (113, .goto 10, 3, 123, 0, .null), (116, .aload_n 0, 1, 0, 0, .null), (117, .getfield 29, 3, 8, 1, .null), (120, .getfield 56, 3, 3, 1, .null), (123, .ireturn, 1, 0, 0, .null)]
def mz_m91 : mz_D := (⟨"TinyFront$TreeEngine", "goStatement", "(I)I"⟩, prog_10_method_4_code, 2, (some (.int)), 4, 93, mz_t91)
/-- 92: TinyFront$TreeEngine.useResult(I)I -/
def mz_t92 : List mz_E := [(0, .aload_n 0, 1, 0, 0, .null), (1, .getfield 25, 3, 8, 0, .null), (4, .getfield 85, 3, 7, 0, .null), (7, .iload_n 1, 1, 1, 0, .null), (8, .iaload, 1, 0, 0, .null), (9, .iconst 3, 1, 0, 0, .int 3), (10, .if_icmp .ne 9, 3, 19, 0, .null), (13, .aload_n 0, 1, 0, 0, .null), (14, .iload_n 1, 1, 1, 0, .null), (15, .invokevirtual 94, 3, 93, 2, .ref 8), (18, .ireturn, 1, 0, 0, .null), (19, .aload_n 0, 1, 0, 0, .null), (20, .getfield 25, 3, 8, 0, .null), (23, .getfield 85, 3, 7, 0, .null), (26, .iload_n 1, 1, 1, 0, .null), (27, .iaload, 1, 0, 0, .null), (28, .iconst 1, 1, 0, 0, .int 1), (29, .if_icmp .ne 34, 3, 63, 0, .null), (32, .aload_n 0, 1, 0, 0, .null), (33, .getfield 37, 3, 8, 3, .null), (36, .aload_n 0, 1, 0, 0, .null), (37, .getfield 33, 3, 8, 2, .null), (40, .getfield 97, 3, 6, 3, .null), (43, .aload_n 0, 1, 0, 0, .null), (44, .getfield 25, 3, 8, 0, .null), (47, .getfield 102, 3, 7, 1, .null), (50, .iload_n 1, 1, 1, 0, .null), (51, .iaload, 1, 0, 0, .null), (52, .iaload, 1, 0, 0, .null), (53, .aload_n 0, 1, 0, 0, .null), (54, .getfield 22, 3, 8, 7, .null), (57, .invokevirtual 105, 3, 42, 3, .ref 4), (60, .goto 14, 3, 74, 0, .null), (63, .aload_n 0, 1, 0, 0, .null), (64, .getfield 37, 3, 8, 3, .null), (67, .aload_n 0, 1, 0, 0, .null), (68, .getfield 22, 3, 8, 7, .null), (71, .invokevirtual 109, 3, 39, 2, .ref 4), (74, .aload_n 0, 1, 0, 0, .null), (75, .getfield 29, 3, 8, 1, .null), (78, .iload_n 1, 1, 1, 0, .null), (79, .invokevirtual 84, 3, 33, 2, .ref 3), (82, .ireturn, 1, 0, 0, .null)]
def mz_m92 : mz_D := (⟨"TinyFront$TreeEngine", "useResult", "(I)I"⟩, prog_10_method_5_code, 2, (some (.int)), 3, 64, mz_t92)
/-- 93: TinyFront$TreeEngine.chooseList(I)I -/
def mz_t93 : List mz_E := [(0, .aload_n 0, 1, 0, 0, .null), (1, .getfield 25, 3, 8, 0, .null), (4, .iload_n 1, 1, 1, 0, .null), (5, .iconst 1, 1, 0, 0, .int 1), (6, .iadd, 1, 0, 0, .null), (7, .invokevirtual 79, 3, 87, 2, .ref 7), (10, .istore_n 2, 1, 2, 0, .null), (11, .aload_n 0, 1, 0, 0, .null), (12, .getfield 22, 3, 8, 7, .null), (15, .ifCond .eq 12, 3, 27, 0, .null), (18, .aload_n 0, 1, 0, 0, .null), (19, .getfield 29, 3, 8, 1, .null), (22, .iload_n 2, 1, 2, 0, .null), (23, .invokevirtual 41, 3, 32, 2, .ref 3), (26, .ireturn, 1, 0, 0, .null), (27, .aload_n 0, 1, 0, 0, .null), (28, .getfield 25, 3, 8, 0, .null), (31, .getfield 112, 3, 7, 2, .null), (34, .iload_n 1, 1, 1, 0, .null), (35, .iaload, 1, 0, 0, .null), (36, .iconst 3, 1, 0, 0, .int 3), (37, .if_icmp .ne 21, 3, 58, 0, .null), (40, .aload_n 0, 1, 0, 0, .null), (41, .getfield 29, 3, 8, 1, .null), (44, .aload_n 0, 1, 0, 0, .null), (45, .getfield 25, 3, 8, 0, .null), (48, .iload_n 2, 1, 2, 0, .null), (49, .invokevirtual 79, 3, 87, 2, .ref 7), (52, .invokevirtual 41, 3, 32, 2, .ref 3), (55, .goto 11, 3, 66, 0, .null), (58, .aload_n 0, 1, 0, 0, .null), (59, .getfield 29, 3, 8, 1, .null), (62, .iload_n 1, 1, 1, 0, .null), (63, .invokevirtual 84, 3, 33, 2, .ref 3), (66, .ireturn, 1, 0, 0, .null)]
def mz_m93 : mz_D := (⟨"TinyFront$TreeEngine", "chooseList", "(I)I"⟩, prog_10_method_6_code, 3, (some (.int)), 2, 42, mz_t93)
/-- 94: TinyFront$TreeEngine.evaluate(I)V -/
def mz_t94 : List mz_E := [(0, .aload_n 0, 1, 0, 0, .null), (1, .iconst 0, 1, 0, 0, .int 0), (2, .putfield 18, 3, 8, 6, .null), (5, .aload_n 0, 1, 0, 0, .null), (6, .iconst 0, 1, 0, 0, .int 0), (7, .putfield 22, 3, 8, 7, .null), (10, .aload_n 0, 1, 0, 0, .null), (11, .getfield 25, 3, 8, 0, .null), (14, .iload_n 1, 1, 1, 0, .null), (15, .invokevirtual 79, 3, 87, 2, .ref 7), (18, .istore_n 2, 1, 2, 0, .null), (19, .iload_n 1, 1, 1, 0, .null), (20, .istore_n 3, 1, 3, 0, .null), (21, .iconst 0, 1, 0, 0, .int 0), (22, .istore 4, 2, 4, 0, .null), (24, .iload 4, 2, 4, 0, .null), (26, .sipush 4001, 3, 0, 0, .int 4001), (29, .if_icmp .ge 72, 3, 101, 0, .null), (32, .iload_n 3, 1, 3, 0, .null), (33, .iload_n 2, 1, 2, 0, .null), (34, .if_icmp .ge 67, 3, 101, 0, .null), (37, .aload_n 0, 1, 0, 0, .null), (38, .getfield 37, 3, 8, 3, .null), (41, .invokevirtual 52, 3, 37, 1, .ref 4), (44, .ifCond .eq 57, 3, 101, 0, .null), (47, .aload_n 0, 1, 0, 0, .null), (48, .getfield 37, 3, 8, 3, .null), (51, .iload_n 3, 1, 3, 0, .null), (52, .invokevirtual 71, 3, 38, 2, .ref 4), (55, .ifCond .ne 4, 3, 59, 0, .null), (58, .return_, 1, 0, 0, .null), (59, .aload_n 0, 1, 0, 0, .null), (60, .getfield 25, 3, 8, 0, .null), (63, .getfield 112, 3, 7, 2, .null), (66, .iload_n 3, 1, 3, 0, .null), (67, .iaload, 1, 0, 0, .null), (68, .ifCond .ne 19, 3, 87, 0, .null), (71, .aload_n 0, 1, 0, 0, .null), (72, .aload_n 0, 1, 0, 0, .null), (73, .iload_n 3, 1, 3, 0, .null), (74, .invokevirtual 115, 3, 96, 2, .ref 8), (77, .iload_n 3, 1, 3, 0, .null), (78, .iconst 1, 1, 0, 0, .int 1), (79, .iadd, 1, 0, 0, .null), (80, .invokevirtual 118, 3, 97, 3, .ref 8), (83, .istore_n 3, 1, 3, 0, .null), (84, .goto 11, 3, 95, 0, .null), (87, .aload_n 0, 1, 0, 0, .null), (88, .iload_n 3, 1, 3, 0, .null), (89, .invokevirtual 122, 3, 95, 2, .ref 8), (92, .iinc 3 1, 3, 3, 0, .int 1), (95, .iinc 4 1, 3, 4, 0, .int 1), (98, .goto (-74), 3, 24, 0, .null), (101, .return_, 1, 0, 0, .null)]
def mz_m94 : mz_D := (⟨"TinyFront$TreeEngine", "evaluate", "(I)V"⟩, prog_10_method_7_code, 5, none, 3, 69, mz_t94)
/-- 95: TinyFront$TreeEngine.waitForParts(I)V -/
def mz_t95 : List mz_E := [(0, .aload_n 0, 1, 0, 0, .null), (1, .getfield 18, 3, 8, 6, .null), (4, .sipush 200, 3, 0, 0, .int 200), (7, .if_icmp .ge 23, 3, 30, 0, .null), (10, .aload_n 0, 1, 0, 0, .null), (11, .getfield 9, 3, 8, 4, .null), (14, .aload_n 0, 1, 0, 0, .null), (15, .getfield 18, 3, 8, 6, .null), (18, .iload_n 1, 1, 1, 0, .null), (19, .iastore, 1, 0, 0, .null), (20, .aload_n 0, 1, 0, 0, .null), (21, .dup, 1, 0, 0, .null), (22, .getfield 18, 3, 8, 6, .null), (25, .iconst 1, 1, 0, 0, .int 1), (26, .iadd, 1, 0, 0, .null), (27, .putfield 18, 3, 8, 6, .null), (30, .return_, 1, 0, 0, .null)]
def mz_m95 : mz_D := (⟨"TinyFront$TreeEngine", "waitForParts", "(I)V"⟩, prog_10_method_8_code, 2, none, 0, 0, mz_t95)
/-- 96: TinyFront$TreeEngine.worthOf(I)I -/
def mz_t96 : List mz_E := [(0, .aload_n 0, 1, 0, 0, .null), (1, .getfield 33, 3, 8, 2, .null), (4, .getfield 97, 3, 6, 3, .null), (7, .aload_n 0, 1, 0, 0, .null), (8, .getfield 25, 3, 8, 0, .null), (11, .getfield 102, 3, 7, 1, .null), (14, .iload_n 1, 1, 1, 0, .null), (15, .iaload, 1, 0, 0, .null), (16, .iaload, 1, 0, 0, .null), (17, .istore_n 2, 1, 2, 0, .null), (18, .aload_n 0, 1, 0, 0, .null), (19, .getfield 25, 3, 8, 0, .null), (22, .getfield 85, 3, 7, 0, .null), (25, .iload_n 1, 1, 1, 0, .null), (26, .iaload, 1, 0, 0, .null), (27, .bipush 18, 2, 0, 0, .int 18), (29, .if_icmp .ne 14, 3, 43, 0, .null), (32, .aload_n 0, 1, 0, 0, .null), (33, .getfield 37, 3, 8, 3, .null), (36, .iload_n 2, 1, 2, 0, .null), (37, .invokevirtual 125, 3, 41, 2, .ref 4), (40, .goto 4, 3, 44, 0, .null), (43, .iload_n 2, 1, 2, 0, .null), (44, .ireturn, 1, 0, 0, .null)]
def mz_m96 : mz_D := (⟨"TinyFront$TreeEngine", "worthOf", "(I)I"⟩, prog_10_method_9_code, 3, (some (.int)), 1, 21, mz_t96)
/-- 97: TinyFront$TreeEngine.settle(II)I -/
def mz_t97 : List mz_E := [(0, .iload_n 1, 1, 1, 0, .null), (1, .istore_n 3, 1, 3, 0, .null), (2, .iload_n 2, 1, 2, 0, .null), (3, .istore 4, 2, 4, 0, .null), (5, .aload_n 0, 1, 0, 0, .null), (6, .getfield 18, 3, 8, 6, .null), (9, .ifCond .le 124, 3, 133, 0, .null), (12, .aload_n 0, 1, 0, 0, .null), (13, .getfield 37, 3, 8, 3, .null), (16, .invokevirtual 52, 3, 37, 1, .ref 4), (19, .ifCond .eq 114, 3, 133, 0, .null), (22, .aload_n 0, 1, 0, 0, .null), (23, .getfield 9, 3, 8, 4, .null), (26, .aload_n 0, 1, 0, 0, .null), (27, .getfield 18, 3, 8, 6, .null), (30, .iconst 1, 1, 0, 0, .int 1), (31, .isub, 1, 0, 0, .null), (32, .iaload, 1, 0, 0, .null), (33, .istore 5, 2, 5, 0, .null), (35, .aload_n 0, 1, 0, 0, .null), (36, .getfield 25, 3, 8, 0, .null), (39, .iload 5, 2, 5, 0, .null), (41, .invokevirtual 79, 3, 87, 2, .ref 7), (44, .istore 6, 2, 6, 0, .null), (46, .iload 4, 2, 4, 0, .null), (48, .iload 6, 2, 6, 0, .null), (50, .if_icmp .ge 35, 3, 85, 0, .null), (53, .aload_n 0, 1, 0, 0, .null), (54, .getfield 25, 3, 8, 0, .null), (57, .getfield 85, 3, 7, 0, .null), (60, .iload 5, 2, 5, 0, .null), (62, .iaload, 1, 0, 0, .null), (63, .iload_n 3, 1, 3, 0, .null), (64, .invokestatic 128, 3, 98, 2, .null), (67, .ifCond .ne 18, 3, 85, 0, .null), (70, .aload_n 0, 1, 0, 0, .null), (71, .getfield 15, 3, 8, 5, .null), (74, .aload_n 0, 1, 0, 0, .null), (75, .getfield 18, 3, 8, 6, .null), (78, .iconst 1, 1, 0, 0, .int 1), (79, .isub, 1, 0, 0, .null), (80, .iload_n 3, 1, 3, 0, .null), (81, .iastore, 1, 0, 0, .null), (82, .iload 4, 2, 4, 0, .null), (84, .ireturn, 1, 0, 0, .null), (85, .iload 6, 2, 6, 0, .null), (87, .istore 4, 2, 4, 0, .null), (89, .aload_n 0, 1, 0, 0, .null), (90, .dup, 1, 0, 0, .null), (91, .getfield 18, 3, 8, 6, .null), (94, .iconst 1, 1, 0, 0, .int 1), (95, .isub, 1, 0, 0, .null), (96, .putfield 18, 3, 8, 6, .null), (99, .aload_n 0, 1, 0, 0, .null), (100, .getfield 37, 3, 8, 3, .null), (103, .aload_n 0, 1, 0, 0, .null), (104, .getfield 25, 3, 8, 0, .null), (107, .getfield 85, 3, 7, 0, .null), (110, .iload 5, 2, 5, 0, .null), (112, .iaload, 1, 0, 0, .null), (113, .invokestatic 132, 3, 2, 1, .null), (116, .aload_n 0, 1, 0, 0, .null), (117, .getfield 15, 3, 8, 5, .null), (120, .aload_n 0, 1, 0, 0, .null), (121, .getfield 18, 3, 8, 6, .null), (124, .iaload, 1, 0, 0, .null), (125, .iload_n 3, 1, 3, 0, .null), (126, .invokevirtual 137, 3, 43, 4, .ref 4), (129, .istore_n 3, 1, 3, 0, .null), (130, .goto (-125), 3, 5, 0, .null), (133, .aload_n 0, 1, 0, 0, .null), (134, .iload_n 3, 1, 3, 0, .null), (135, .putfield 22, 3, 8, 7, .null), (138, .iload 4, 2, 4, 0, .null), (140, .ireturn, 1, 0, 0, .null)]
def mz_m97 : mz_D := (⟨"TinyFront$TreeEngine", "settle", "(II)I"⟩, prog_10_method_10_code, 7, (some (.int)), 2, 43, mz_t97)
/-- 98: TinyFront$TreeEngine.isDecided(II)Z -/
def mz_t98 : List mz_E := [(0, .iload_n 0, 1, 0, 0, .null), (1, .bipush 8, 2, 0, 0, .int 8), (3, .if_icmp .ne 7, 3, 10, 0, .null), (6, .iload_n 1, 1, 1, 0, .null), (7, .ifCond .eq 13, 3, 20, 0, .null), (10, .iload_n 0, 1, 0, 0, .null), (11, .bipush 7, 2, 0, 0, .int 7), (13, .if_icmp .ne 11, 3, 24, 0, .null), (16, .iload_n 1, 1, 1, 0, .null), (17, .ifCond .eq 7, 3, 24, 0, .null), (20, .iconst 1, 1, 0, 0, .int 1), (21, .goto 4, 3, 25, 0, .null), (24, .iconst 0, 1, 0, 0, .int 0), (25, .ireturn, 1, 0, 0, .null)]
def mz_m98 : mz_D := (⟨"TinyFront$TreeEngine", "isDecided", "(II)Z"⟩, prog_10_method_11_code, 2, (some (.boolean)), 0, 0, mz_t98)
/-- 99: TinyFront.<init>()V -/
def mz_t99 : List mz_E := [(0, .aload_n 0, 1, 0, 0, .null), (1, .invokespecial 3, 3, 9999, 0, .null), (4, .aload_n 0, 1, 0, 0, .null), (5, .sipush 4000, 3, 0, 0, .int 4000), (8, .newarray .int, 2, 0, 0, .null), (10, .putfield 9, 3, 9, 0, .ref 0), (13, .aload_n 0, 1, 0, 0, .null), (14, .iconst 0, 1, 0, 0, .int 0), (15, .putfield 13, 3, 9, 1, .null), (18, .aload_n 0, 1, 0, 0, .null), (19, .new 17, 3, 6, 0, .null), (22, .dup, 1, 0, 0, .null), (23, .aload_n 0, 1, 0, 0, .null), (24, .getfield 9, 3, 9, 0, .null), (27, .invokespecial 19, 3, 64, 2, .null), (30, .putfield 22, 3, 9, 2, .ref 0), (33, .aload_n 0, 1, 0, 0, .null), (34, .new 26, 3, 2, 0, .null), (37, .dup, 1, 0, 0, .null), (38, .invokespecial 28, 3, 21, 1, .int 1), (41, .putfield 29, 3, 9, 3, .ref 0), (44, .aload_n 0, 1, 0, 0, .null), (45, .new 33, 3, 7, 0, .null), (48, .dup, 1, 0, 0, .null), (49, .invokespecial 35, 3, 81, 1, .int 1), (52, .putfield 36, 3, 9, 4, .ref 0), (55, .aload_n 0, 1, 0, 0, .null), (56, .new 40, 3, 3, 0, .null), (59, .dup, 1, 0, 0, .null), (60, .invokespecial 42, 3, 27, 1, .int 1), (63, .putfield 43, 3, 9, 5, .ref 0), (66, .aload_n 0, 1, 0, 0, .null), (67, .iconst 0, 1, 0, 0, .int 0), (68, .putfield 47, 3, 9, 6, .int 1), (71, .aload_n 0, 1, 0, 0, .null), (72, .new 51, 3, 0, 0, .null), (75, .dup, 1, 0, 0, .null), (76, .invokespecial 53, 3, 1, 1, .int 1), (79, .putfield 54, 3, 9, 7, .ref 0), (82, .aload_n 0, 1, 0, 0, .null), (83, .iconst 0, 1, 0, 0, .int 0), (84, .putfield 58, 3, 9, 8, .int 1), (87, .aload_n 0, 1, 0, 0, .null), (88, .bipush 32, 2, 0, 0, .int 32), (90, .newarray .int, 2, 0, 0, .null), (92, .putfield 61, 3, 9, 9, .ref 0), (95, .aload_n 0, 1, 0, 0, .null), (96, .new 64, 3, 4, 0, .null), (99, .dup, 1, 0, 0, .null), (100, .invokespecial 66, 3, 34, 1, .int 1), (103, .putfield 67, 3, 9, 10, .ref 0), (106, .aload_n 0, 1, 0, 0, .null), (107, .new 71, 3, 8, 0, .null), (110, .dup, 1, 0, 0, .null), (111, .aload_n 0, 1, 0, 0, .null), (112, .getfield 36, 3, 9, 4, .null), (115, .aload_n 0, 1, 0, 0, .null), (116, .getfield 43, 3, 9, 5, .null), (119, .aload_n 0, 1, 0, 0, .null), (120, .getfield 22, 3, 9, 2, .null), (123, .aload_n 0, 1, 0, 0, .null), (124, .getfield 67, 3, 9, 10, .null), (127, .invokespecial 73, 3, 88, 5, .null), (130, .putfield 76, 3, 9, 11, .ref 0), (133, .aload_n 0, 1, 0, 0, .null), (134, .new 80, 3, 1, 0, .null), (137, .dup, 1, 0, 0, .null), (138, .aload_n 0, 1, 0, 0, .null), (139, .getfield 54, 3, 9, 7, .null), (142, .aload_n 0, 1, 0, 0, .null), (143, .getfield 67, 3, 9, 10, .null), (146, .invokespecial 82, 3, 14, 3, .null), (149, .putfield 85, 3, 9, 12, .ref 0), (152, .return_, 1, 0, 0, .null)]
def mz_m99 : mz_D := (⟨"TinyFront", "<init>", "()V"⟩, prog_1_method_1_code, 1, none, 6, 127, mz_t99)
/-- 100: TinyFront.feed(JI)I -/
def mz_t100 : List mz_E := [(0, .iload_n 3, 1, 3, 0, .null), (1, .iconst 1, 1, 0, 0, .int 1), (2, .if_icmp .lt 9, 3, 11, 0, .null), (5, .iload_n 3, 1, 3, 0, .null), (6, .bipush 8, 2, 0, 0, .int 8), (8, .if_icmp .le 5, 3, 13, 0, .null), (11, .iconst (-1), 1, 0, 0, .int (-1)), (12, .ireturn, 1, 0, 0, .null), (13, .aload_n 0, 1, 0, 0, .null), (14, .getfield 13, 3, 9, 1, .null), (17, .iload_n 3, 1, 3, 0, .null), (18, .iadd, 1, 0, 0, .null), (19, .sipush 4000, 3, 0, 0, .int 4000), (22, .if_icmp .le 6, 3, 28, 0, .null), (25, .bipush (-2), 2, 0, 0, .int (-2)), (27, .ireturn, 1, 0, 0, .null), (28, .iload_n 3, 1, 3, 0, .null), (29, .iconst 1, 1, 0, 0, .int 1), (30, .isub, 1, 0, 0, .null), (31, .istore 4, 2, 4, 0, .null), (33, .iload 4, 2, 4, 0, .null), (35, .ifCond .lt 40, 3, 75, 0, .null), (38, .aload_n 0, 1, 0, 0, .null), (39, .getfield 9, 3, 9, 0, .null), (42, .aload_n 0, 1, 0, 0, .null), (43, .getfield 13, 3, 9, 1, .null), (46, .lload_n 1, 1, 1, 0, .null), (47, .bipush 8, 2, 0, 0, .int 8), (49, .iload 4, 2, 4, 0, .null), (51, .imul, 1, 0, 0, .null), (52, .lushr, 1, 0, 0, .null), (53, .l2i, 1, 0, 0, .null), (54, .sipush 255, 3, 0, 0, .int 255), (57, .iand, 1, 0, 0, .null), (58, .iastore, 1, 0, 0, .null), (59, .aload_n 0, 1, 0, 0, .null), (60, .dup, 1, 0, 0, .null), (61, .getfield 13, 3, 9, 1, .null), (64, .iconst 1, 1, 0, 0, .int 1), (65, .iadd, 1, 0, 0, .null), (66, .putfield 13, 3, 9, 1, .null), (69, .iinc 4 (-1), 3, 4, 0, .int (-1)), (72, .goto (-39), 3, 33, 0, .null), (75, .aload_n 0, 1, 0, 0, .null), (76, .invokevirtual 89, 3, 116, 1, .ref 9), (79, .aload_n 0, 1, 0, 0, .null), (80, .getfield 13, 3, 9, 1, .null), (83, .ireturn, 1, 0, 0, .null)]
def mz_m100 : mz_D := (⟨"TinyFront", "feed", "(JI)I"⟩, prog_1_method_2_code, 5, (some (.int)), 2, 40, mz_t100)
/-- 101: TinyFront.clear()I -/
def mz_t101 : List mz_E := [(0, .aload_n 0, 1, 0, 0, .null), (1, .getfield 13, 3, 9, 1, .null), (4, .istore_n 1, 1, 1, 0, .null), (5, .aload_n 0, 1, 0, 0, .null), (6, .iconst 0, 1, 0, 0, .int 0), (7, .putfield 13, 3, 9, 1, .null), (10, .aload_n 0, 1, 0, 0, .null), (11, .invokevirtual 89, 3, 116, 1, .ref 9), (14, .aload_n 0, 1, 0, 0, .null), (15, .getfield 61, 3, 9, 9, .null), (18, .iconst 0, 1, 0, 0, .int 0), (19, .invokestatic 92, 3, 203, 2, .null), (22, .aload_n 0, 1, 0, 0, .null), (23, .getfield 67, 3, 9, 10, .null), (26, .invokevirtual 98, 3, 36, 1, .ref 4), (29, .iload_n 1, 1, 1, 0, .null), (30, .ireturn, 1, 0, 0, .null)]
def mz_m101 : mz_D := (⟨"TinyFront", "clear", "()I"⟩, prog_1_method_3_code, 2, (some (.int)), 2, 40, mz_t101)
/-- 102: TinyFront.lex()I -/
def mz_t102 : List mz_E := [(0, .aload_n 0, 1, 0, 0, .null), (1, .invokevirtual 89, 3, 116, 1, .ref 9), (4, .aload_n 0, 1, 0, 0, .null), (5, .getfield 67, 3, 9, 10, .null), (8, .invokevirtual 98, 3, 36, 1, .ref 4), (11, .aload_n 0, 1, 0, 0, .null), (12, .getfield 22, 3, 9, 2, .null), (15, .aload_n 0, 1, 0, 0, .null), (16, .getfield 13, 3, 9, 1, .null), (19, .invokevirtual 101, 3, 65, 2, .ref 6), (22, .istore_n 1, 1, 1, 0, .null), (23, .iload_n 1, 1, 1, 0, .null), (24, .iconst (-1), 1, 0, 0, .int (-1)), (25, .if_icmp .ne 13, 3, 38, 0, .null), (28, .aload_n 0, 1, 0, 0, .null), (29, .getfield 22, 3, 9, 2, .null), (32, .getfield 105, 3, 6, 4, .null), (35, .goto 7, 3, 42, 0, .null), (38, .bipush (-10), 2, 0, 0, .int (-10)), (40, .iload_n 1, 1, 1, 0, .null), (41, .isub, 1, 0, 0, .null), (42, .ireturn, 1, 0, 0, .null)]
def mz_m102 : mz_D := (⟨"TinyFront", "lex", "()I"⟩, prog_1_method_4_code, 2, (some (.int)), 9, 201, mz_t102)
/-- 103: TinyFront.token(II)I -/
def mz_t103 : List mz_E := [(0, .aload_n 0, 1, 0, 0, .null), (1, .getfield 22, 3, 9, 2, .null), (4, .getfield 108, 3, 6, 6, .null), (7, .ifCond .eq 18, 3, 25, 0, .null), (10, .iload_n 1, 1, 1, 0, .null), (11, .ifCond .lt 14, 3, 25, 0, .null), (14, .iload_n 1, 1, 1, 0, .null), (15, .aload_n 0, 1, 0, 0, .null), (16, .getfield 22, 3, 9, 2, .null), (19, .getfield 105, 3, 6, 4, .null), (22, .if_icmp .le 5, 3, 27, 0, .null), (25, .iconst (-1), 1, 0, 0, .int (-1)), (26, .ireturn, 1, 0, 0, .null), (27, .iload_n 2, 1, 2, 0, .null), (28, .tableswitch 72 0 3 #[32, 42, 52, 62], 32, 0, 0, .null), (60, .aload_n 0, 1, 0, 0, .null), (61, .getfield 22, 3, 9, 2, .null), (64, .getfield 111, 3, 6, 0, .null), (67, .iload_n 1, 1, 1, 0, .null), (68, .iaload, 1, 0, 0, .null), (69, .ireturn, 1, 0, 0, .null), (70, .aload_n 0, 1, 0, 0, .null), (71, .getfield 22, 3, 9, 2, .null), (74, .getfield 114, 3, 6, 1, .null), (77, .iload_n 1, 1, 1, 0, .null), (78, .iaload, 1, 0, 0, .null), (79, .ireturn, 1, 0, 0, .null), (80, .aload_n 0, 1, 0, 0, .null), (81, .getfield 22, 3, 9, 2, .null), (84, .getfield 117, 3, 6, 2, .null), (87, .iload_n 1, 1, 1, 0, .null), (88, .iaload, 1, 0, 0, .null), (89, .ireturn, 1, 0, 0, .null), (90, .aload_n 0, 1, 0, 0, .null), (91, .getfield 22, 3, 9, 2, .null), (94, .getfield 120, 3, 6, 3, .null), (97, .iload_n 1, 1, 1, 0, .null), (98, .iaload, 1, 0, 0, .null), (99, .ireturn, 1, 0, 0, .null), (100, .iconst (-1), 1, 0, 0, .int (-1)), (101, .ireturn, 1, 0, 0, .null)]
def mz_m103 : mz_D := (⟨"TinyFront", "token", "(II)I"⟩, prog_1_method_5_code, 3, (some (.int)), 0, 0, mz_t103)
/-- 104: TinyFront.slots()I -/
def mz_t104 : List mz_E := [(0, .aload_n 0, 1, 0, 0, .null), (1, .getfield 22, 3, 9, 2, .null), (4, .getfield 108, 3, 6, 6, .null), (7, .ifCond .eq 13, 3, 20, 0, .null), (10, .aload_n 0, 1, 0, 0, .null), (11, .getfield 22, 3, 9, 2, .null), (14, .getfield 123, 3, 6, 5, .null), (17, .goto 4, 3, 21, 0, .null), (20, .iconst 0, 1, 0, 0, .int 0), (21, .ireturn, 1, 0, 0, .null)]
def mz_m104 : mz_D := (⟨"TinyFront", "slots", "()I"⟩, prog_1_method_6_code, 1, (some (.int)), 0, 0, mz_t104)
/-- 105: TinyFront.parse()I -/
def mz_t105 : List mz_E := [(0, .aload_n 0, 1, 0, 0, .null), (1, .getfield 22, 3, 9, 2, .null), (4, .getfield 108, 3, 6, 6, .null), (7, .ifCond .ne 6, 3, 13, 0, .null), (10, .bipush (-3), 2, 0, 0, .int (-3)), (12, .ireturn, 1, 0, 0, .null), (13, .aload_n 0, 1, 0, 0, .null), (14, .invokevirtual 126, 3, 117, 1, .ref 9), (17, .aload_n 0, 1, 0, 0, .null), (18, .getfield 29, 3, 9, 3, .null), (21, .aload_n 0, 1, 0, 0, .null), (22, .getfield 22, 3, 9, 2, .null), (25, .invokevirtual 129, 3, 22, 2, .ref 2), (28, .istore_n 1, 1, 1, 0, .null), (29, .iload_n 1, 1, 1, 0, .null), (30, .iconst (-1), 1, 0, 0, .int (-1)), (31, .if_icmp .eq 8, 3, 39, 0, .null), (34, .bipush (-10), 2, 0, 0, .int (-10)), (36, .iload_n 1, 1, 1, 0, .null), (37, .isub, 1, 0, 0, .null), (38, .ireturn, 1, 0, 0, .null), (39, .aload_n 0, 1, 0, 0, .null), (40, .getfield 29, 3, 9, 3, .null), (43, .getfield 132, 3, 2, 2, .null), (46, .invokevirtual 135, 3, 83, 1, .ref 7), (49, .sipush 200, 3, 0, 0, .int 200), (52, .if_icmp .le 6, 3, 58, 0, .null), (55, .bipush (-2), 2, 0, 0, .int (-2)), (57, .ireturn, 1, 0, 0, .null), (58, .aload_n 0, 1, 0, 0, .null), (59, .getfield 36, 3, 9, 4, .null), (62, .aload_n 0, 1, 0, 0, .null), (63, .getfield 29, 3, 9, 3, .null), (66, .getfield 132, 3, 2, 2, .null), (69, .invokevirtual 139, 3, 84, 2, .ref 7), (72, .aload_n 0, 1, 0, 0, .null), (73, .getfield 43, 3, 9, 5, .null), (76, .aload_n 0, 1, 0, 0, .null), (77, .getfield 36, 3, 9, 4, .null), (80, .invokevirtual 143, 3, 28, 2, .ref 3), (83, .aload_n 0, 1, 0, 0, .null), (84, .getfield 43, 3, 9, 5, .null), (87, .aload_n 0, 1, 0, 0, .null), (88, .getfield 36, 3, 9, 4, .null), (91, .invokevirtual 146, 3, 30, 2, .ref 3), (94, .istore_n 2, 1, 2, 0, .null), (95, .iload_n 2, 1, 2, 0, .null), (96, .iconst (-1), 1, 0, 0, .int (-1)), (97, .if_icmp .eq 9, 3, 106, 0, .null), (100, .sipush (-10000), 3, 0, 0, .int (-10000)), (103, .iload_n 2, 1, 2, 0, .null), (104, .isub, 1, 0, 0, .null), (105, .ireturn, 1, 0, 0, .null), (106, .aload_n 0, 1, 0, 0, .null), (107, .iconst 1, 1, 0, 0, .int 1), (108, .putfield 47, 3, 9, 6, .int 1), (111, .aload_n 0, 1, 0, 0, .null), (112, .getfield 36, 3, 9, 4, .null), (115, .getfield 150, 3, 7, 5, .null), (118, .ireturn, 1, 0, 0, .null)]
def mz_m105 : mz_D := (⟨"TinyFront", "parse", "()I"⟩, prog_1_method_7_code, 3, (some (.int)), 5, 117, mz_t105)
/-- 106: TinyFront.reduced(I)I -/
def mz_t106 : List mz_E := [(0, .iload_n 1, 1, 1, 0, .null), (1, .iconst (-1), 1, 0, 0, .int (-1)), (2, .if_icmp .ne 11, 3, 13, 0, .null), (5, .aload_n 0, 1, 0, 0, .null), (6, .getfield 29, 3, 9, 3, .null), (9, .getfield 151, 3, 2, 1, .null), (12, .ireturn, 1, 0, 0, .null), (13, .iload_n 1, 1, 1, 0, .null), (14, .ifCond .lt 26, 3, 40, 0, .null), (17, .iload_n 1, 1, 1, 0, .null), (18, .aload_n 0, 1, 0, 0, .null), (19, .getfield 29, 3, 9, 3, .null), (22, .getfield 151, 3, 2, 1, .null), (25, .if_icmp .ge 15, 3, 40, 0, .null), (28, .aload_n 0, 1, 0, 0, .null), (29, .getfield 29, 3, 9, 3, .null), (32, .getfield 154, 3, 2, 0, .null), (35, .iload_n 1, 1, 1, 0, .null), (36, .iaload, 1, 0, 0, .null), (37, .goto 4, 3, 41, 0, .null), (40, .iconst (-1), 1, 0, 0, .int (-1)), (41, .ireturn, 1, 0, 0, .null)]
def mz_m106 : mz_D := (⟨"TinyFront", "reduced", "(I)I"⟩, prog_1_method_8_code, 2, (some (.int)), 0, 0, mz_t106)
/-- 107: TinyFront.node(II)I -/
def mz_t107 : List mz_E := [(0, .aload_n 0, 1, 0, 0, .null), (1, .getfield 47, 3, 9, 6, .null), (4, .ifCond .eq 18, 3, 22, 0, .null), (7, .iload_n 1, 1, 1, 0, .null), (8, .ifCond .lt 14, 3, 22, 0, .null), (11, .iload_n 1, 1, 1, 0, .null), (12, .aload_n 0, 1, 0, 0, .null), (13, .getfield 36, 3, 9, 4, .null), (16, .getfield 150, 3, 7, 5, .null), (19, .if_icmp .lt 5, 3, 24, 0, .null), (22, .iconst (-1), 1, 0, 0, .int (-1)), (23, .ireturn, 1, 0, 0, .null), (24, .iload_n 2, 1, 2, 0, .null), (25, .tableswitch 108 0 5 #[39, 49, 59, 69, 79, 99], 39, 0, 0, .null), (64, .aload_n 0, 1, 0, 0, .null), (65, .getfield 36, 3, 9, 4, .null), (68, .getfield 157, 3, 7, 0, .null), (71, .iload_n 1, 1, 1, 0, .null), (72, .iaload, 1, 0, 0, .null), (73, .ireturn, 1, 0, 0, .null), (74, .aload_n 0, 1, 0, 0, .null), (75, .getfield 36, 3, 9, 4, .null), (78, .getfield 158, 3, 7, 1, .null), (81, .iload_n 1, 1, 1, 0, .null), (82, .iaload, 1, 0, 0, .null), (83, .ireturn, 1, 0, 0, .null), (84, .aload_n 0, 1, 0, 0, .null), (85, .getfield 36, 3, 9, 4, .null), (88, .getfield 161, 3, 7, 2, .null), (91, .iload_n 1, 1, 1, 0, .null), (92, .iaload, 1, 0, 0, .null), (93, .ireturn, 1, 0, 0, .null), (94, .aload_n 0, 1, 0, 0, .null), (95, .getfield 36, 3, 9, 4, .null), (98, .getfield 164, 3, 7, 3, .null), (101, .iload_n 1, 1, 1, 0, .null), (102, .iaload, 1, 0, 0, .null), (103, .ireturn, 1, 0, 0, .null), (104, .aload_n 0, 1, 0, 0, .null), (105, .getfield 36, 3, 9, 4, .null), (108, .getfield 161, 3, 7, 2, .null), (111, .iload_n 1, 1, 1, 0, .null), (112, .iaload, 1, 0, 0, .null), (113, .ifCond .le 9, 3, 122, 0, .null), (116, .iload_n 1, 1, 1, 0, .null), (117, .iconst 1, 1, 0, 0, .int 1), (118, .iadd, 1, 0, 0, .null), (119, .goto 4, 3, 123, 0, .null), (122, .iconst (-1), 1, 0, 0, .int (-1)), (123, .ireturn, 1, 0, 0, .null), (124, .aload_n 0, 1, 0, 0, .null), (125, .getfield 36, 3, 9, 4, .null), (128, .iload_n 1, 1, 1, 0, .null), (129, .invokevirtual 167, 3, 86, 2, .ref 7), (132, .ireturn, 1, 0, 0, .null), (133, .iconst (-1), 1, 0, 0, .int (-1)), (134, .ireturn, 1, 0, 0, .null)]
def mz_m107 : mz_D := (⟨"TinyFront", "node", "(II)I"⟩, prog_1_method_9_code, 3, (some (.int)), 2, 44, mz_t107)
/-- 108: TinyFront.compile()I -/
def mz_t108 : List mz_E := [(0, .aload_n 0, 1, 0, 0, .null), (1, .getfield 47, 3, 9, 6, .null), (4, .ifCond .ne 6, 3, 10, 0, .null), (7, .bipush (-3), 2, 0, 0, .int (-3)), (9, .ireturn, 1, 0, 0, .null), (10, .aload_n 0, 1, 0, 0, .null), (11, .getfield 54, 3, 9, 7, .null), (14, .aload_n 0, 1, 0, 0, .null), (15, .getfield 36, 3, 9, 4, .null), (18, .aload_n 0, 1, 0, 0, .null), (19, .getfield 43, 3, 9, 5, .null), (22, .aload_n 0, 1, 0, 0, .null), (23, .getfield 22, 3, 9, 2, .null), (26, .invokevirtual 170, 3, 3, 4, .ref 0), (29, .aload_n 0, 1, 0, 0, .null), (30, .iconst 1, 1, 0, 0, .int 1), (31, .putfield 58, 3, 9, 8, .int 1), (34, .aload_n 0, 1, 0, 0, .null), (35, .getfield 54, 3, 9, 7, .null), (38, .getfield 174, 3, 0, 2, .null), (41, .ireturn, 1, 0, 0, .null)]
def mz_m108 : mz_D := (⟨"TinyFront", "compile", "()I"⟩, prog_1_method_10_code, 1, (some (.int)), 4, 95, mz_t108)
/-- 109: TinyFront.code(II)I -/
def mz_t109 : List mz_E := [(0, .aload_n 0, 1, 0, 0, .null), (1, .getfield 58, 3, 9, 8, .null), (4, .ifCond .eq 18, 3, 22, 0, .null), (7, .iload_n 1, 1, 1, 0, .null), (8, .ifCond .lt 14, 3, 22, 0, .null), (11, .iload_n 1, 1, 1, 0, .null), (12, .aload_n 0, 1, 0, 0, .null), (13, .getfield 54, 3, 9, 7, .null), (16, .getfield 174, 3, 0, 2, .null), (19, .if_icmp .lt 5, 3, 24, 0, .null), (22, .iconst (-1), 1, 0, 0, .int (-1)), (23, .ireturn, 1, 0, 0, .null), (24, .iload_n 2, 1, 2, 0, .null), (25, .lookupswitch 47 #[(0, 27), (1, 37)], 27, 0, 0, .null), (52, .aload_n 0, 1, 0, 0, .null), (53, .getfield 54, 3, 9, 7, .null), (56, .getfield 175, 3, 0, 0, .null), (59, .iload_n 1, 1, 1, 0, .null), (60, .iaload, 1, 0, 0, .null), (61, .ireturn, 1, 0, 0, .null), (62, .aload_n 0, 1, 0, 0, .null), (63, .getfield 54, 3, 9, 7, .null), (66, .getfield 178, 3, 0, 1, .null), (69, .iload_n 1, 1, 1, 0, .null), (70, .iaload, 1, 0, 0, .null), (71, .ireturn, 1, 0, 0, .null), (72, .iconst (-1), 1, 0, 0, .int (-1)), (73, .ireturn, 1, 0, 0, .null)]
def mz_m109 : mz_D := (⟨"TinyFront", "code", "(II)I"⟩, prog_1_method_11_code, 3, (some (.int)), 0, 0, mz_t109)
/-- 110: TinyFront.input(II)I -/
def mz_t110 : List mz_E := [(0, .iload_n 1, 1, 1, 0, .null), (1, .ifCond .lt 9, 3, 10, 0, .null), (4, .iload_n 1, 1, 1, 0, .null), (5, .bipush 32, 2, 0, 0, .int 32), (7, .if_icmp .lt 5, 3, 12, 0, .null), (10, .iconst 0, 1, 0, 0, .int 0), (11, .ireturn, 1, 0, 0, .null), (12, .aload_n 0, 1, 0, 0, .null), (13, .getfield 61, 3, 9, 9, .null), (16, .iload_n 1, 1, 1, 0, .null), (17, .iaload, 1, 0, 0, .null), (18, .istore_n 3, 1, 3, 0, .null), (19, .aload_n 0, 1, 0, 0, .null), (20, .getfield 61, 3, 9, 9, .null), (23, .iload_n 1, 1, 1, 0, .null), (24, .iload_n 2, 1, 2, 0, .null), (25, .iastore, 1, 0, 0, .null), (26, .iload_n 3, 1, 3, 0, .null), (27, .ireturn, 1, 0, 0, .null)]
def mz_m110 : mz_D := (⟨"TinyFront", "input", "(II)I"⟩, prog_1_method_12_code, 4, (some (.int)), 0, 0, mz_t110)
/-- 111: TinyFront.runTree(I)I -/
def mz_t111 : List mz_E := [(0, .iload_n 1, 1, 1, 0, .null), (1, .ifCond .lt 9, 3, 10, 0, .null), (4, .iload_n 1, 1, 1, 0, .null), (5, .ldc 181, 2, 0, 0, .int 100000), (7, .if_icmp .le 5, 3, 12, 0, .null), (10, .iconst (-1), 1, 0, 0, .int (-1)), (11, .ireturn, 1, 0, 0, .null), (12, .aload_n 0, 1, 0, 0, .null), (13, .getfield 47, 3, 9, 6, .null), (16, .ifCond .ne 6, 3, 22, 0, .null), (19, .bipush (-3), 2, 0, 0, .int (-3)), (21, .ireturn, 1, 0, 0, .null), (22, .aload_n 0, 1, 0, 0, .null), (23, .getfield 67, 3, 9, 10, .null), (26, .iload_n 1, 1, 1, 0, .null), (27, .aload_n 0, 1, 0, 0, .null), (28, .getfield 61, 3, 9, 9, .null), (31, .invokevirtual 182, 3, 35, 3, .ref 4), (34, .aload_n 0, 1, 0, 0, .null), (35, .getfield 76, 3, 9, 11, .null), (38, .invokevirtual 186, 3, 89, 1, .ref 8), (41, .aload_n 0, 1, 0, 0, .null), (42, .getfield 67, 3, 9, 10, .null), (45, .getfield 189, 3, 4, 1, .null), (48, .ireturn, 1, 0, 0, .null)]
def mz_m111 : mz_D := (⟨"TinyFront", "runTree", "(I)I"⟩, prog_1_method_13_code, 2, (some (.int)), 6, 136, mz_t111)
/-- 112: TinyFront.runCode(I)I -/
def mz_t112 : List mz_E := [(0, .iload_n 1, 1, 1, 0, .null), (1, .ifCond .lt 9, 3, 10, 0, .null), (4, .iload_n 1, 1, 1, 0, .null), (5, .ldc 181, 2, 0, 0, .int 100000), (7, .if_icmp .le 5, 3, 12, 0, .null), (10, .iconst (-1), 1, 0, 0, .int (-1)), (11, .ireturn, 1, 0, 0, .null), (12, .aload_n 0, 1, 0, 0, .null), (13, .getfield 58, 3, 9, 8, .null), (16, .ifCond .ne 6, 3, 22, 0, .null), (19, .bipush (-3), 2, 0, 0, .int (-3)), (21, .ireturn, 1, 0, 0, .null), (22, .aload_n 0, 1, 0, 0, .null), (23, .getfield 67, 3, 9, 10, .null), (26, .iload_n 1, 1, 1, 0, .null), (27, .aload_n 0, 1, 0, 0, .null), (28, .getfield 61, 3, 9, 9, .null), (31, .invokevirtual 182, 3, 35, 3, .ref 4), (34, .aload_n 0, 1, 0, 0, .null), (35, .getfield 85, 3, 9, 12, .null), (38, .invokevirtual 192, 3, 15, 1, .ref 1), (41, .aload_n 0, 1, 0, 0, .null), (42, .getfield 67, 3, 9, 10, .null), (45, .getfield 189, 3, 4, 1, .null), (48, .ireturn, 1, 0, 0, .null)]
def mz_m112 : mz_D := (⟨"TinyFront", "runCode", "(I)I"⟩, prog_1_method_14_code, 2, (some (.int)), 5, 121, mz_t112)
/-- 113: TinyFront.ran(I)I -/
def mz_t113 : List mz_E := [(0, .aload_n 0, 1, 0, 0, .null), (1, .getfield 67, 3, 9, 10, .null), (4, .getfield 193, 3, 4, 0, .null), (7, .ifCond .ne 5, 3, 12, 0, .null), (10, .iconst (-1), 1, 0, 0, .int (-1)), (11, .ireturn, 1, 0, 0, .null), (12, .iload_n 1, 1, 1, 0, .null), (13, .tableswitch 63 0 3 #[31, 39, 47, 55], 31, 0, 0, .null), (44, .aload_n 0, 1, 0, 0, .null), (45, .getfield 67, 3, 9, 10, .null), (48, .getfield 189, 3, 4, 1, .null), (51, .ireturn, 1, 0, 0, .null), (52, .aload_n 0, 1, 0, 0, .null), (53, .getfield 67, 3, 9, 10, .null), (56, .getfield 194, 3, 4, 3, .null), (59, .ireturn, 1, 0, 0, .null), (60, .aload_n 0, 1, 0, 0, .null), (61, .getfield 67, 3, 9, 10, .null), (64, .getfield 197, 3, 4, 5, .null), (67, .ireturn, 1, 0, 0, .null), (68, .aload_n 0, 1, 0, 0, .null), (69, .getfield 67, 3, 9, 10, .null), (72, .getfield 200, 3, 4, 4, .null), (75, .ireturn, 1, 0, 0, .null), (76, .iconst (-1), 1, 0, 0, .int (-1)), (77, .ireturn, 1, 0, 0, .null)]
def mz_m113 : mz_D := (⟨"TinyFront", "ran", "(I)I"⟩, prog_1_method_15_code, 2, (some (.int)), 0, 0, mz_t113)
/-- 114: TinyFront.out(I)I -/
def mz_t114 : List mz_E := [(0, .aload_n 0, 1, 0, 0, .null), (1, .getfield 67, 3, 9, 10, .null), (4, .getfield 193, 3, 4, 0, .null), (7, .ifCond .eq 14, 3, 21, 0, .null), (10, .aload_n 0, 1, 0, 0, .null), (11, .getfield 67, 3, 9, 10, .null), (14, .iload_n 1, 1, 1, 0, .null), (15, .invokevirtual 203, 3, 40, 2, .ref 4), (18, .goto 4, 3, 22, 0, .null), (21, .iconst 0, 1, 0, 0, .int 0), (22, .ireturn, 1, 0, 0, .null)]
def mz_m114 : mz_D := (⟨"TinyFront", "out", "(I)I"⟩, prog_1_method_16_code, 2, (some (.int)), 1, 21, mz_t114)
/-- 115: TinyFront.value(I)I -/
def mz_t115 : List mz_E := [(0, .aload_n 0, 1, 0, 0, .null), (1, .getfield 67, 3, 9, 10, .null), (4, .getfield 193, 3, 4, 0, .null), (7, .ifCond .eq 14, 3, 21, 0, .null), (10, .aload_n 0, 1, 0, 0, .null), (11, .getfield 67, 3, 9, 10, .null), (14, .iload_n 1, 1, 1, 0, .null), (15, .invokevirtual 206, 3, 41, 2, .ref 4), (18, .goto 4, 3, 22, 0, .null), (21, .iconst 0, 1, 0, 0, .int 0), (22, .ireturn, 1, 0, 0, .null)]
def mz_m115 : mz_D := (⟨"TinyFront", "value", "(I)I"⟩, prog_1_method_17_code, 2, (some (.int)), 1, 21, mz_t115)
/-- 116: TinyFront.forgetTokens()V -/
def mz_t116 : List mz_E := [(0, .aload_n 0, 1, 0, 0, .null), (1, .getfield 22, 3, 9, 2, .null), (4, .iconst 0, 1, 0, 0, .int 0), (5, .putfield 108, 3, 6, 6, .int 1), (8, .aload_n 0, 1, 0, 0, .null), (9, .invokevirtual 126, 3, 117, 1, .ref 9), (12, .return_, 1, 0, 0, .null)]
def mz_m116 : mz_D := (⟨"TinyFront", "forgetTokens", "()V"⟩, prog_1_method_18_code, 1, none, 1, 20, mz_t116)
/-- 117: TinyFront.forgetTree()V -/
def mz_t117 : List mz_E := [(0, .aload_n 0, 1, 0, 0, .null), (1, .iconst 0, 1, 0, 0, .int 0), (2, .putfield 47, 3, 9, 6, .int 1), (5, .aload_n 0, 1, 0, 0, .null), (6, .iconst 0, 1, 0, 0, .int 0), (7, .putfield 58, 3, 9, 8, .int 1), (10, .return_, 1, 0, 0, .null)]
def mz_m117 : mz_D := (⟨"TinyFront", "forgetTree", "()V"⟩, prog_1_method_19_code, 1, none, 0, 0, mz_t117)
/-- 118: TinyFrontModel.<init>()V -/
def mz_t118 : List mz_E := [(0, .aload_n 0, 1, 0, 0, .null), (1, .invokespecial 1, 3, 9999, 0, .null), (4, .aload_n 0, 1, 0, 0, .null), (5, .bipush 32, 2, 0, 0, .int 32), (7, .newarray .int, 2, 0, 0, .null), (9, .dup, 1, 0, 0, .null), (10, .iconst 0, 1, 0, 0, .int 0), (11, .bipush 25, 2, 0, 0, .int 25), (13, .iastore, 1, 0, 0, .null), (14, .dup, 1, 0, 0, .null), (15, .iconst 1, 1, 0, 0, .int 1), (16, .bipush 26, 2, 0, 0, .int 26), (18, .iastore, 1, 0, 0, .null), (19, .dup, 1, 0, 0, .null), (20, .iconst 2, 1, 0, 0, .int 2), (21, .bipush 26, 2, 0, 0, .int 26), (23, .iastore, 1, 0, 0, .null), (24, .dup, 1, 0, 0, .null), (25, .iconst 3, 1, 0, 0, .int 3), (26, .bipush 27, 2, 0, 0, .int 27), (28, .iastore, 1, 0, 0, .null), (29, .dup, 1, 0, 0, .null), (30, .iconst 4, 1, 0, 0, .int 4), (31, .bipush 27, 2, 0, 0, .int 27), (33, .iastore, 1, 0, 0, .null), (34, .dup, 1, 0, 0, .null), (35, .iconst 5, 1, 0, 0, .int 5), (36, .bipush 27, 2, 0, 0, .int 27), (38, .iastore, 1, 0, 0, .null), (39, .dup, 1, 0, 0, .null), (40, .bipush 6, 2, 0, 0, .int 6), (42, .bipush 27, 2, 0, 0, .int 27), (44, .iastore, 1, 0, 0, .null), (45, .dup, 1, 0, 0, .null), (46, .bipush 7, 2, 0, 0, .int 7), (48, .bipush 27, 2, 0, 0, .int 27), (50, .iastore, 1, 0, 0, .null), (51, .dup, 1, 0, 0, .null), (52, .bipush 8, 2, 0, 0, .int 8), (54, .bipush 27, 2, 0, 0, .int 27), (56, .iastore, 1, 0, 0, .null), (57, .dup, 1, 0, 0, .null), (58, .bipush 9, 2, 0, 0, .int 9), (60, .bipush 27, 2, 0, 0, .int 27), (62, .iastore, 1, 0, 0, .null), (63, .dup, 1, 0, 0, .null), (64, .bipush 10, 2, 0, 0, .int 10), (66, .bipush 27, 2, 0, 0, .int 27), (68, .iastore, 1, 0, 0, .null), (69, .dup, 1, 0, 0, .null), (70, .bipush 11, 2, 0, 0, .int 11), (72, .bipush 28, 2, 0, 0, .int 28), (74, .iastore, 1, 0, 0, .null), (75, .dup, 1, 0, 0, .null), (76, .bipush 12, 2, 0, 0, .int 12), (78, .bipush 29, 2, 0, 0, .int 29), (80, .iastore, 1, 0, 0, .null), (81, .dup, 1, 0, 0, .null), (82, .bipush 13, 2, 0, 0, .int 13), (84, .bipush 29, 2, 0, 0, .int 29), (86, .iastore, 1, 0, 0, .null), (87, .dup, 1, 0, 0, .null), (88, .bipush 14, 2, 0, 0, .int 14), (90, .bipush 30, 2, 0, 0, .int 30), (92, .iastore, 1, 0, 0, .null), (93, .dup, 1, 0, 0, .null), (94, .bipush 15, 2, 0, 0, .int 15), (96, .bipush 30, 2, 0, 0, .int 30), (98, .iastore, 1, 0, 0, .null), (99, .dup, 1, 0, 0, .null), (100, .bipush 16, 2, 0, 0, .int 16), (102, .bipush 31, 2, 0, 0, .int 31), (104, .iastore, 1, 0, 0, .null), (105, .dup, 1, 0, 0, .null), (106, .bipush 17, 2, 0, 0, .int 17), (108, .bipush 31, 2, 0, 0, .int 31), (110, .iastore, 1, 0, 0, .null), (111, .dup, 1, 0, 0, .null), (112, .bipush 18, 2, 0, 0, .int 18), (114, .bipush 31, 2, 0, 0, .int 31), (116, .iastore, 1, 0, 0, .null), (117, .dup, 1, 0, 0, .null), (118, .bipush 19, 2, 0, 0, .int 19), (120, .bipush 32, 2, 0, 0, .int 32), (122, .iastore, 1, 0, 0, .null), (123, .dup, 1, 0, 0, .null), (124, .bipush 20, 2, 0, 0, .int 20), (126, .bipush 32, 2, 0, 0, .int 32), (128, .iastore, 1, 0, 0, .null), (129, .dup, 1, 0, 0, .null), (130, .bipush 21, 2, 0, 0, .int 21), (132, .bipush 32, 2, 0, 0, .int 32), (134, .iastore, 1, 0, 0, .null), (135, .dup, 1, 0, 0, .null), (136, .bipush 22, 2, 0, 0, .int 22), (138, .bipush 33, 2, 0, 0, .int 33), (140, .iastore, 1, 0, 0, .null), (141, .dup, 1, 0, 0, .null), (142, .bipush 23, 2, 0, 0, .int 23), (144, .bipush 33, 2, 0, 0, .int 33), (146, .iastore, 1, 0, 0, .null), (147, .dup, 1, 0, 0, .null), (148, .bipush 24, 2, 0, 0, .int 24), (150, .bipush 33, 2, 0, 0, .int 33), (152, .iastore, 1, 0, 0, .null), (153, .dup, 1, 0, 0, .null), (154, .bipush 25, 2, 0, 0, .int 25), (156, .bipush 33, 2, 0, 0, .int 33), (158, .iastore, 1, 0, 0, .null), (159, .dup, 1, 0, 0, .null), (160, .bipush 26, 2, 0, 0, .int 26), (162, .bipush 34, 2, 0, 0, .int 34), (164, .iastore, 1, 0, 0, .null), (165, .dup, 1, 0, 0, .null), (166, .bipush 27, 2, 0, 0, .int 27), (168, .bipush 34, 2, 0, 0, .int 34), (170, .iastore, 1, 0, 0, .null), (171, .dup, 1, 0, 0, .null), (172, .bipush 28, 2, 0, 0, .int 28), (174, .bipush 34, 2, 0, 0, .int 34), (176, .iastore, 1, 0, 0, .null), (177, .dup, 1, 0, 0, .null), (178, .bipush 29, 2, 0, 0, .int 29), (180, .bipush 35, 2, 0, 0, .int 35), (182, .iastore, 1, 0, 0, .null), (183, .dup, 1, 0, 0, .null), (184, .bipush 30, 2, 0, 0, .int 30), (186, .bipush 35, 2, 0, 0, .int 35), (188, .iastore, 1, 0, 0, .null), (189, .dup, 1, 0, 0, .null), (190, .bipush 31, 2, 0, 0, .int 31), (192, .bipush 35, 2, 0, 0, .int 35), (194, .iastore, 1, 0, 0, .null), (195, .putfield 7, 3, 10, 0, .ref 0), (198, .aload_n 0, 1, 0, 0, .null), (199, .bipush 32, 2, 0, 0, .int 32), (201, .newarray .int, 2, 0, 0, .null), (203, .dup, 1, 0, 0, .null), (204, .iconst 0, 1, 0, 0, .int 0), (205, .iconst 1, 1, 0, 0, .int 1), (206, .iastore, 1, 0, 0, .null), (207, .dup, 1, 0, 0, .null), (208, .iconst 1, 1, 0, 0, .int 1), (209, .iconst 0, 1, 0, 0, .int 0), (210, .iastore, 1, 0, 0, .null), (211, .dup, 1, 0, 0, .null), (212, .iconst 2, 1, 0, 0, .int 2), (213, .iconst 2, 1, 0, 0, .int 2), (214, .iastore, 1, 0, 0, .null), (215, .dup, 1, 0, 0, .null), (216, .iconst 3, 1, 0, 0, .int 3), (217, .iconst 4, 1, 0, 0, .int 4), (218, .iastore, 1, 0, 0, .null), (219, .dup, 1, 0, 0, .null), (220, .iconst 4, 1, 0, 0, .int 4), (221, .iconst 3, 1, 0, 0, .int 3), (222, .iastore, 1, 0, 0, .null), (223, .dup, 1, 0, 0, .null), (224, .iconst 5, 1, 0, 0, .int 5), (225, .iconst 5, 1, 0, 0, .int 5), (226, .iastore, 1, 0, 0, .null), (227, .dup, 1, 0, 0, .null), (228, .bipush 6, 2, 0, 0, .int 6), (230, .bipush 7, 2, 0, 0, .int 7), (232, .iastore, 1, 0, 0, .null), (233, .dup, 1, 0, 0, .null), (234, .bipush 7, 2, 0, 0, .int 7), (236, .iconst 5, 1, 0, 0, .int 5), (237, .iastore, 1, 0, 0, .null), (238, .dup, 1, 0, 0, .null), (239, .bipush 8, 2, 0, 0, .int 8), (241, .iconst 2, 1, 0, 0, .int 2), (242, .iastore, 1, 0, 0, .null), (243, .dup, 1, 0, 0, .null), (244, .bipush 9, 2, 0, 0, .int 9), (246, .iconst 2, 1, 0, 0, .int 2), (247, .iastore, 1, 0, 0, .null), (248, .dup, 1, 0, 0, .null), (249, .bipush 10, 2, 0, 0, .int 10), (251, .iconst 1, 1, 0, 0, .int 1), (252, .iastore, 1, 0, 0, .null), (253, .dup, 1, 0, 0, .null), (254, .bipush 11, 2, 0, 0, .int 11), (256, .iconst 3, 1, 0, 0, .int 3), (257, .iastore, 1, 0, 0, .null), (258, .dup, 1, 0, 0, .null), (259, .bipush 12, 2, 0, 0, .int 12), (261, .iconst 3, 1, 0, 0, .int 3), (262, .iastore, 1, 0, 0, .null), (263, .dup, 1, 0, 0, .null), (264, .bipush 13, 2, 0, 0, .int 13), (266, .iconst 1, 1, 0, 0, .int 1), (267, .iastore, 1, 0, 0, .null), (268, .dup, 1, 0, 0, .null), (269, .bipush 14, 2, 0, 0, .int 14), (271, .iconst 3, 1, 0, 0, .int 3), (272, .iastore, 1, 0, 0, .null), (273, .dup, 1, 0, 0, .null), (274, .bipush 15, 2, 0, 0, .int 15), (276, .iconst 1, 1, 0, 0, .int 1), (277, .iastore, 1, 0, 0, .null), (278, .dup, 1, 0, 0, .null), (279, .bipush 16, 2, 0, 0, .int 16), (281, .iconst 3, 1, 0, 0, .int 3), (282, .iastore, 1, 0, 0, .null), (283, .dup, 1, 0, 0, .null), (284, .bipush 17, 2, 0, 0, .int 17), (286, .iconst 3, 1, 0, 0, .int 3), (287, .iastore, 1, 0, 0, .null), (288, .dup, 1, 0, 0, .null), (289, .bipush 18, 2, 0, 0, .int 18), (291, .iconst 1, 1, 0, 0, .int 1), (292, .iastore, 1, 0, 0, .null), (293, .dup, 1, 0, 0, .null), (294, .bipush 19, 2, 0, 0, .int 19), (296, .iconst 3, 1, 0, 0, .int 3), (297, .iastore, 1, 0, 0, .null), (298, .dup, 1, 0, 0, .null), (299, .bipush 20, 2, 0, 0, .int 20), (301, .iconst 3, 1, 0, 0, .int 3), (302, .iastore, 1, 0, 0, .null), (303, .dup, 1, 0, 0, .null), (304, .bipush 21, 2, 0, 0, .int 21), (306, .iconst 1, 1, 0, 0, .int 1), (307, .iastore, 1, 0, 0, .null), (308, .dup, 1, 0, 0, .null), (309, .bipush 22, 2, 0, 0, .int 22), (311, .iconst 3, 1, 0, 0, .int 3), (312, .iastore, 1, 0, 0, .null), (313, .dup, 1, 0, 0, .null), (314, .bipush 23, 2, 0, 0, .int 23), (316, .iconst 3, 1, 0, 0, .int 3), (317, .iastore, 1, 0, 0, .null), (318, .dup, 1, 0, 0, .null), (319, .bipush 24, 2, 0, 0, .int 24), (321, .iconst 3, 1, 0, 0, .int 3), (322, .iastore, 1, 0, 0, .null), (323, .dup, 1, 0, 0, .null), (324, .bipush 25, 2, 0, 0, .int 25), (326, .iconst 1, 1, 0, 0, .int 1), (327, .iastore, 1, 0, 0, .null), (328, .dup, 1, 0, 0, .null), (329, .bipush 26, 2, 0, 0, .int 26), (331, .iconst 2, 1, 0, 0, .int 2), (332, .iastore, 1, 0, 0, .null), (333, .dup, 1, 0, 0, .null), (334, .bipush 27, 2, 0, 0, .int 27), (336, .iconst 2, 1, 0, 0, .int 2), (337, .iastore, 1, 0, 0, .null), (338, .dup, 1, 0, 0, .null), (339, .bipush 28, 2, 0, 0, .int 28), (341, .iconst 1, 1, 0, 0, .int 1), (342, .iastore, 1, 0, 0, .null), (343, .dup, 1, 0, 0, .null), (344, .bipush 29, 2, 0, 0, .int 29), (346, .iconst 1, 1, 0, 0, .int 1), (347, .iastore, 1, 0, 0, .null), (348, .dup, 1, 0, 0, .null), (349, .bipush 30, 2, 0, 0, .int 30), (351, .iconst 1, 1, 0, 0, .int 1), (352, .iastore, 1, 0, 0, .null), (353, .dup, 1, 0, 0, .null), (354, .bipush 31, 2, 0, 0, .int 31), (356, .iconst 3, 1, 0, 0, .int 3), (357, .iastore, 1, 0, 0, .null), (358, .putfield 13, 3, 10, 1, .ref 0), (361, .aload_n 0, 1, 0, 0, .null), (362, .bipush 77, 2, 0, 0, .int 77), (364, .newarray .int, 2, 0, 0, .null), (366, .dup, 1, 0, 0, .null), (367, .iconst 0, 1, 0, 0, .int 0), (368, .bipush 26, 2, 0, 0, .int 26), (370, .iastore, 1, 0, 0, .null), (371, .dup, 1, 0, 0, .null), (372, .iconst 1, 1, 0, 0, .int 1), (373, .bipush 26, 2, 0, 0, .int 26), (375, .iastore, 1, 0, 0, .null), (376, .dup, 1, 0, 0, .null), (377, .iconst 2, 1, 0, 0, .int 2), (378, .bipush 27, 2, 0, 0, .int 27), (380, .iastore, 1, 0, 0, .null), (381, .dup, 1, 0, 0, .null), (382, .iconst 3, 1, 0, 0, .int 3), (383, .iconst 1, 1, 0, 0, .int 1), (384, .iastore, 1, 0, 0, .null), (385, .dup, 1, 0, 0, .null), (386, .iconst 4, 1, 0, 0, .int 4), (387, .bipush 19, 2, 0, 0, .int 19), (389, .iastore, 1, 0, 0, .null), (390, .dup, 1, 0, 0, .null), (391, .iconst 5, 1, 0, 0, .int 5), (392, .bipush 29, 2, 0, 0, .int 29), (394, .iastore, 1, 0, 0, .null), (395, .dup, 1, 0, 0, .null), (396, .bipush 6, 2, 0, 0, .int 6), (398, .bipush 20, 2, 0, 0, .int 20), (400, .iastore, 1, 0, 0, .null), (401, .dup, 1, 0, 0, .null), (402, .bipush 7, 2, 0, 0, .int 7), (404, .iconst 3, 1, 0, 0, .int 3), (405, .iastore, 1, 0, 0, .null), (406, .dup, 1, 0, 0, .null), (407, .bipush 8, 2, 0, 0, .int 8), (409, .bipush 29, 2, 0, 0, .int 29), (411, .iastore, 1, 0, 0, .null), (412, .dup, 1, 0, 0, .null), (413, .bipush 9, 2, 0, 0, .int 9), (415, .bipush 20, 2, 0, 0, .int 20), (417, .iastore, 1, 0, 0, .null), (418, .dup, 1, 0, 0, .null), (419, .bipush 10, 2, 0, 0, .int 10), (421, .iconst 4, 1, 0, 0, .int 4), (422, .iastore, 1, 0, 0, .null), (423, .dup, 1, 0, 0, .null), (424, .bipush 11, 2, 0, 0, .int 11), (426, .bipush 21, 2, 0, 0, .int 21), (428, .iastore, 1, 0, 0, .null), (429, .dup, 1, 0, 0, .null), (430, .bipush 12, 2, 0, 0, .int 12), (432, .bipush 29, 2, 0, 0, .int 29), (434, .iastore, 1, 0, 0, .null), (435, .dup, 1, 0, 0, .null), (436, .bipush 13, 2, 0, 0, .int 13), (438, .bipush 22, 2, 0, 0, .int 22), (440, .iastore, 1, 0, 0, .null), (441, .dup, 1, 0, 0, .null), (442, .bipush 14, 2, 0, 0, .int 14), (444, .bipush 28, 2, 0, 0, .int 28), (446, .iastore, 1, 0, 0, .null), (447, .dup, 1, 0, 0, .null), (448, .bipush 15, 2, 0, 0, .int 15), (450, .iconst 4, 1, 0, 0, .int 4), (451, .iastore, 1, 0, 0, .null), (452, .dup, 1, 0, 0, .null), (453, .bipush 16, 2, 0, 0, .int 16), (455, .bipush 21, 2, 0, 0, .int 21), (457, .iastore, 1, 0, 0, .null), (458, .dup, 1, 0, 0, .null), (459, .bipush 17, 2, 0, 0, .int 17), (461, .bipush 29, 2, 0, 0, .int 29), (463, .iastore, 1, 0, 0, .null), (464, .dup, 1, 0, 0, .null), (465, .bipush 18, 2, 0, 0, .int 18), (467, .bipush 22, 2, 0, 0, .int 22), (469, .iastore, 1, 0, 0, .null), (470, .dup, 1, 0, 0, .null), (471, .bipush 19, 2, 0, 0, .int 19), (473, .bipush 28, 2, 0, 0, .int 28), (475, .iastore, 1, 0, 0, .null), (476, .dup, 1, 0, 0, .null), (477, .bipush 20, 2, 0, 0, .int 20), (479, .iconst 5, 1, 0, 0, .int 5), (480, .iastore, 1, 0, 0, .null), (481, .dup, 1, 0, 0, .null), (482, .bipush 21, 2, 0, 0, .int 21), (484, .bipush 28, 2, 0, 0, .int 28), (486, .iastore, 1, 0, 0, .null), (487, .dup, 1, 0, 0, .null), (488, .bipush 22, 2, 0, 0, .int 22), (490, .bipush 6, 2, 0, 0, .int 6), (492, .iastore, 1, 0, 0, .null), (493, .dup, 1, 0, 0, .null), (494, .bipush 23, 2, 0, 0, .int 23), (496, .bipush 21, 2, 0, 0, .int 21), (498, .iastore, 1, 0, 0, .null), (499, .dup, 1, 0, 0, .null), (500, .bipush 24, 2, 0, 0, .int 24), (502, .bipush 29, 2, 0, 0, .int 29), (504, .iastore, 1, 0, 0, .null), (505, .dup, 1, 0, 0, .null), (506, .bipush 25, 2, 0, 0, .int 25), (508, .bipush 22, 2, 0, 0, .int 22), (510, .iastore, 1, 0, 0, .null), (511, .dup, 1, 0, 0, .null), (512, .bipush 26, 2, 0, 0, .int 26), (514, .bipush 28, 2, 0, 0, .int 28), (516, .iastore, 1, 0, 0, .null), (517, .dup, 1, 0, 0, .null), (518, .bipush 27, 2, 0, 0, .int 27), (520, .bipush 7, 2, 0, 0, .int 7), (522, .iastore, 1, 0, 0, .null), (523, .dup, 1, 0, 0, .null), (524, .bipush 28, 2, 0, 0, .int 28), (526, .bipush 20, 2, 0, 0, .int 20), (528, .iastore, 1, 0, 0, .null), (529, .dup, 1, 0, 0, .null), (530, .bipush 29, 2, 0, 0, .int 29), (532, .bipush 8, 2, 0, 0, .int 8), (534, .iastore, 1, 0, 0, .null), (535, .dup, 1, 0, 0, .null), (536, .bipush 30, 2, 0, 0, .int 30), (538, .bipush 20, 2, 0, 0, .int 20), (540, .iastore, 1, 0, 0, .null), (541, .dup, 1, 0, 0, .null), (542, .bipush 31, 2, 0, 0, .int 31), (544, .bipush 28, 2, 0, 0, .int 28), (546, .iastore, 1, 0, 0, .null), (547, .dup, 1, 0, 0, .null), (548, .bipush 32, 2, 0, 0, .int 32), (550, .bipush 23, 2, 0, 0, .int 23), (552, .iastore, 1, 0, 0, .null), (553, .dup, 1, 0, 0, .null), (554, .bipush 33, 2, 0, 0, .int 33), (556, .bipush 26, 2, 0, 0, .int 26), (558, .iastore, 1, 0, 0, .null), (559, .dup, 1, 0, 0, .null), (560, .bipush 34, 2, 0, 0, .int 34), (562, .bipush 24, 2, 0, 0, .int 24), (564, .iastore, 1, 0, 0, .null), (565, .dup, 1, 0, 0, .null), (566, .bipush 35, 2, 0, 0, .int 35), (568, .bipush 29, 2, 0, 0, .int 29), (570, .iastore, 1, 0, 0, .null), (571, .dup, 1, 0, 0, .null), (572, .bipush 36, 2, 0, 0, .int 36), (574, .bipush 9, 2, 0, 0, .int 9), (576, .iastore, 1, 0, 0, .null), (577, .dup, 1, 0, 0, .null), (578, .bipush 37, 2, 0, 0, .int 37), (580, .bipush 30, 2, 0, 0, .int 30), (582, .iastore, 1, 0, 0, .null), (583, .dup, 1, 0, 0, .null), (584, .bipush 38, 2, 0, 0, .int 38), (586, .bipush 30, 2, 0, 0, .int 30), (588, .iastore, 1, 0, 0, .null), (589, .dup, 1, 0, 0, .null), (590, .bipush 39, 2, 0, 0, .int 39), (592, .bipush 30, 2, 0, 0, .int 30), (594, .iastore, 1, 0, 0, .null), (595, .dup, 1, 0, 0, .null), (596, .bipush 40, 2, 0, 0, .int 40), (598, .bipush 10, 2, 0, 0, .int 10), (600, .iastore, 1, 0, 0, .null), (601, .dup, 1, 0, 0, .null), (602, .bipush 41, 2, 0, 0, .int 41), (604, .bipush 31, 2, 0, 0, .int 31), (606, .iastore, 1, 0, 0, .null), (607, .dup, 1, 0, 0, .null), (608, .bipush 42, 2, 0, 0, .int 42), (610, .bipush 31, 2, 0, 0, .int 31), (612, .iastore, 1, 0, 0, .null), (613, .dup, 1, 0, 0, .null), (614, .bipush 43, 2, 0, 0, .int 43), (616, .bipush 31, 2, 0, 0, .int 31), (618, .iastore, 1, 0, 0, .null), (619, .dup, 1, 0, 0, .null), (620, .bipush 44, 2, 0, 0, .int 44), (622, .bipush 11, 2, 0, 0, .int 11), (624, .iastore, 1, 0, 0, .null), (625, .dup, 1, 0, 0, .null), (626, .bipush 45, 2, 0, 0, .int 45), (628, .bipush 32, 2, 0, 0, .int 32), (630, .iastore, 1, 0, 0, .null), (631, .dup, 1, 0, 0, .null), (632, .bipush 46, 2, 0, 0, .int 46), (634, .bipush 31, 2, 0, 0, .int 31), (636, .iastore, 1, 0, 0, .null), (637, .dup, 1, 0, 0, .null), (638, .bipush 47, 2, 0, 0, .int 47), (640, .bipush 12, 2, 0, 0, .int 12), (642, .iastore, 1, 0, 0, .null), (643, .dup, 1, 0, 0, .null), (644, .bipush 48, 2, 0, 0, .int 48), (646, .bipush 32, 2, 0, 0, .int 32), (648, .iastore, 1, 0, 0, .null), (649, .dup, 1, 0, 0, .null), (650, .bipush 49, 2, 0, 0, .int 49), (652, .bipush 32, 2, 0, 0, .int 32), (654, .iastore, 1, 0, 0, .null), (655, .dup, 1, 0, 0, .null), (656, .bipush 50, 2, 0, 0, .int 50), (658, .bipush 32, 2, 0, 0, .int 32), (660, .iastore, 1, 0, 0, .null), (661, .dup, 1, 0, 0, .null), (662, .bipush 51, 2, 0, 0, .int 51), (664, .bipush 13, 2, 0, 0, .int 13), (666, .iastore, 1, 0, 0, .null), (667, .dup, 1, 0, 0, .null), (668, .bipush 52, 2, 0, 0, .int 52), (670, .bipush 33, 2, 0, 0, .int 33), (672, .iastore, 1, 0, 0, .null), (673, .dup, 1, 0, 0, .null), (674, .bipush 53, 2, 0, 0, .int 53), (676, .bipush 32, 2, 0, 0, .int 32), (678, .iastore, 1, 0, 0, .null), (679, .dup, 1, 0, 0, .null), (680, .bipush 54, 2, 0, 0, .int 54), (682, .bipush 14, 2, 0, 0, .int 14), (684, .iastore, 1, 0, 0, .null), (685, .dup, 1, 0, 0, .null), (686, .bipush 55, 2, 0, 0, .int 55), (688, .bipush 33, 2, 0, 0, .int 33), (690, .iastore, 1, 0, 0, .null), (691, .dup, 1, 0, 0, .null), (692, .bipush 56, 2, 0, 0, .int 56), (694, .bipush 33, 2, 0, 0, .int 33), (696, .iastore, 1, 0, 0, .null), (697, .dup, 1, 0, 0, .null), (698, .bipush 57, 2, 0, 0, .int 57), (700, .bipush 33, 2, 0, 0, .int 33), (702, .iastore, 1, 0, 0, .null), (703, .dup, 1, 0, 0, .null), (704, .bipush 58, 2, 0, 0, .int 58), (706, .bipush 15, 2, 0, 0, .int 15), (708, .iastore, 1, 0, 0, .null), (709, .dup, 1, 0, 0, .null), (710, .bipush 59, 2, 0, 0, .int 59), (712, .bipush 34, 2, 0, 0, .int 34), (714, .iastore, 1, 0, 0, .null), (715, .dup, 1, 0, 0, .null), (716, .bipush 60, 2, 0, 0, .int 60), (718, .bipush 33, 2, 0, 0, .int 33), (720, .iastore, 1, 0, 0, .null), (721, .dup, 1, 0, 0, .null), (722, .bipush 61, 2, 0, 0, .int 61), (724, .bipush 16, 2, 0, 0, .int 16), (726, .iastore, 1, 0, 0, .null), (727, .dup, 1, 0, 0, .null), (728, .bipush 62, 2, 0, 0, .int 62), (730, .bipush 34, 2, 0, 0, .int 34), (732, .iastore, 1, 0, 0, .null), (733, .dup, 1, 0, 0, .null), (734, .bipush 63, 2, 0, 0, .int 63), (736, .bipush 33, 2, 0, 0, .int 33), (738, .iastore, 1, 0, 0, .null), (739, .dup, 1, 0, 0, .null), (740, .bipush 64, 2, 0, 0, .int 64), (742, .bipush 17, 2, 0, 0, .int 17), (744, .iastore, 1, 0, 0, .null), (745, .dup, 1, 0, 0, .null), (746, .bipush 65, 2, 0, 0, .int 65), (748, .bipush 34, 2, 0, 0, .int 34), (750, .iastore, 1, 0, 0, .null), (751, .dup, 1, 0, 0, .null), (752, .bipush 66, 2, 0, 0, .int 66), (754, .bipush 34, 2, 0, 0, .int 34), (756, .iastore, 1, 0, 0, .null), (757, .dup, 1, 0, 0, .null), (758, .bipush 67, 2, 0, 0, .int 67), (760, .bipush 14, 2, 0, 0, .int 14), (762, .iastore, 1, 0, 0, .null), (763, .dup, 1, 0, 0, .null), (764, .bipush 68, 2, 0, 0, .int 68), (766, .bipush 34, 2, 0, 0, .int 34), (768, .iastore, 1, 0, 0, .null), (769, .dup, 1, 0, 0, .null), (770, .bipush 69, 2, 0, 0, .int 69), (772, .bipush 18, 2, 0, 0, .int 18), (774, .iastore, 1, 0, 0, .null), (775, .dup, 1, 0, 0, .null), (776, .bipush 70, 2, 0, 0, .int 70), (778, .bipush 34, 2, 0, 0, .int 34), (780, .iastore, 1, 0, 0, .null), (781, .dup, 1, 0, 0, .null), (782, .bipush 71, 2, 0, 0, .int 71), (784, .bipush 35, 2, 0, 0, .int 35), (786, .iastore, 1, 0, 0, .null), (787, .dup, 1, 0, 0, .null), (788, .bipush 72, 2, 0, 0, .int 72), (790, .iconst 1, 1, 0, 0, .int 1), (791, .iastore, 1, 0, 0, .null), (792, .dup, 1, 0, 0, .null), (793, .bipush 73, 2, 0, 0, .int 73), (795, .iconst 2, 1, 0, 0, .int 2), (796, .iastore, 1, 0, 0, .null), (797, .dup, 1, 0, 0, .null), (798, .bipush 74, 2, 0, 0, .int 74), (800, .bipush 21, 2, 0, 0, .int 21), (802, .iastore, 1, 0, 0, .null), (803, .dup, 1, 0, 0, .null), (804, .bipush 75, 2, 0, 0, .int 75), (806, .bipush 29, 2, 0, 0, .int 29), (808, .iastore, 1, 0, 0, .null), (809, .dup, 1, 0, 0, .null), (810, .bipush 76, 2, 0, 0, .int 76), (812, .bipush 22, 2, 0, 0, .int 22), (814, .iastore, 1, 0, 0, .null), (815, .putfield 16, 3, 10, 2, .ref 0), (818, .aload_n 0, 1, 0, 0, .null), (819, .bipush 33, 2, 0, 0, .int 33), (821, .newarray .int, 2, 0, 0, .null), (823, .putfield 19, 3, 10, 3, .ref 0), (826, .aload_n 0, 1, 0, 0, .null), (827, .bipush 33, 2, 0, 0, .int 33), (829, .newarray .int, 2, 0, 0, .null), (831, .putfield 22, 3, 10, 4, .ref 0), (834, .aload_n 0, 1, 0, 0, .null), (835, .sipush 13080, 3, 0, 0, .int 13080), (838, .newarray .boolean, 2, 0, 0, .null), (840, .putfield 25, 3, 10, 5, .ref 0), (843, .aload_n 0, 1, 0, 0, .null), (844, .sipush 4320, 3, 0, 0, .int 4320), (847, .newarray .int, 2, 0, 0, .null), (849, .putfield 29, 3, 10, 6, .ref 0), (852, .aload_n 0, 1, 0, 0, .null), (853, .bipush 109, 2, 0, 0, .int 109), (855, .newarray .boolean, 2, 0, 0, .null), (857, .putfield 32, 3, 10, 8, .ref 0), (860, .aload_n 0, 1, 0, 0, .null), (861, .sipush 900, 3, 0, 0, .int 900), (864, .newarray .boolean, 2, 0, 0, .null), (866, .putfield 35, 3, 10, 9, .ref 0), (869, .aload_n 0, 1, 0, 0, .null), (870, .sipush 900, 3, 0, 0, .int 900), (873, .newarray .boolean, 2, 0, 0, .null), (875, .putfield 38, 3, 10, 10, .ref 0), (878, .aload_n 0, 1, 0, 0, .null), (879, .sipush 4000, 3, 0, 0, .int 4000), (882, .newarray .int, 2, 0, 0, .null), (884, .putfield 41, 3, 10, 11, .ref 0), (887, .aload_n 0, 1, 0, 0, .null), (888, .sipush 4001, 3, 0, 0, .int 4001), (891, .newarray .int, 2, 0, 0, .null), (893, .putfield 44, 3, 10, 14, .ref 0), (896, .aload_n 0, 1, 0, 0, .null), (897, .sipush 4001, 3, 0, 0, .int 4001), (900, .newarray .int, 2, 0, 0, .null), (902, .putfield 47, 3, 10, 15, .ref 0), (905, .aload_n 0, 1, 0, 0, .null), (906, .sipush 4001, 3, 0, 0, .int 4001), (909, .newarray .int, 2, 0, 0, .null), (911, .putfield 50, 3, 10, 16, .ref 0), (914, .aload_n 0, 1, 0, 0, .null), (915, .sipush 4001, 3, 0, 0, .int 4001), (918, .newarray .int, 2, 0, 0, .null), (920, .putfield 53, 3, 10, 17, .ref 0), (923, .aload_n 0, 1, 0, 0, .null), (924, .bipush 32, 2, 0, 0, .int 32), (926, .newarray .int, 2, 0, 0, .null), (928, .putfield 56, 3, 10, 19, .ref 0), (931, .aload_n 0, 1, 0, 0, .null), (932, .bipush 32, 2, 0, 0, .int 32), (934, .newarray .int, 2, 0, 0, .null), (936, .putfield 59, 3, 10, 20, .ref 0), (939, .aload_n 0, 1, 0, 0, .null), (940, .sipush 8100, 3, 0, 0, .int 8100), (943, .newarray .int, 2, 0, 0, .null), (945, .putfield 62, 3, 10, 22, .ref 0), (948, .aload_n 0, 1, 0, 0, .null), (949, .sipush 8100, 3, 0, 0, .int 8100), (952, .newarray .int, 2, 0, 0, .null), (954, .putfield 65, 3, 10, 23, .ref 0), (957, .aload_n 0, 1, 0, 0, .null), (958, .ldc 68, 2, 0, 0, .int 60000), (960, .newarray .int, 2, 0, 0, .null), (962, .putfield 69, 3, 10, 25, .ref 0), (965, .aload_n 0, 1, 0, 0, .null), (966, .sipush 12100, 3, 0, 0, .int 12100), (969, .newarray .int, 2, 0, 0, .null), (971, .putfield 72, 3, 10, 27, .ref 0), (974, .aload_n 0, 1, 0, 0, .null), (975, .sipush 12100, 3, 0, 0, .int 12100), (978, .newarray .int, 2, 0, 0, .null), (980, .putfield 75, 3, 10, 28, .ref 0), (983, .aload_n 0, 1, 0, 0, .null), (984, .sipush 12100, 3, 0, 0, .int 12100), (987, .newarray .int, 2, 0, 0, .null), (989, .putfield 78, 3, 10, 29, .ref 0), (992, .aload_n 0, 1, 0, 0, .null), (993, .sipush 12100, 3, 0, 0, .int 12100), (996, .newarray .int, 2, 0, 0, .null), (998, .putfield 81, 3, 10, 30, .ref 0), (1001, .aload_n 0, 1, 0, 0, .null), (1002, .sipush 12100, 3, 0, 0, .int 12100), (1005, .newarray .int, 2, 0, 0, .null), (1007, .putfield 84, 3, 10, 31, .ref 0), (1010, .aload_n 0, 1, 0, 0, .null), (1011, .sipush 12100, 3, 0, 0, .int 12100), (1014, .newarray .int, 2, 0, 0, .null), (1016, .putfield 87, 3, 10, 32, .ref 0), (1019, .aload_n 0, 1, 0, 0, .null), (1020, .sipush 12100, 3, 0, 0, .int 12100), (1023, .newarray .int, 2, 0, 0, .null), (1025, .putfield 90, 3, 10, 35, .ref 0), (1028, .aload_n 0, 1, 0, 0, .null), (1029, .sipush 12100, 3, 0, 0, .int 12100), (1032, .newarray .int, 2, 0, 0, .null), (1034, .putfield 93, 3, 10, 36, .ref 0), (1037, .aload_n 0, 1, 0, 0, .null), (1038, .sipush 12100, 3, 0, 0, .int 12100), (1041, .newarray .int, 2, 0, 0, .null), (1043, .putfield 96, 3, 10, 37, .ref 0), (1046, .aload_n 0, 1, 0, 0, .null), (1047, .sipush 12100, 3, 0, 0, .int 12100), (1050, .newarray .int, 2, 0, 0, .null), (1052, .putfield 99, 3, 10, 38, .ref 0), (1055, .aload_n 0, 1, 0, 0, .null), (1056, .sipush 12100, 3, 0, 0, .int 12100), (1059, .newarray .int, 2, 0, 0, .null), (1061, .putfield 102, 3, 10, 39, .ref 0), (1064, .aload_n 0, 1, 0, 0, .null), (1065, .sipush 12100, 3, 0, 0, .int 12100), (1068, .newarray .int, 2, 0, 0, .null), (1070, .putfield 105, 3, 10, 40, .ref 0), (1073, .aload_n 0, 1, 0, 0, .null), (1074, .sipush 12100, 3, 0, 0, .int 12100), (1077, .newarray .int, 2, 0, 0, .null), (1079, .putfield 108, 3, 10, 41, .ref 0), (1082, .aload_n 0, 1, 0, 0, .null), (1083, .sipush 12100, 3, 0, 0, .int 12100), (1086, .newarray .int, 2, 0, 0, .null), (1088, .putfield 111, 3, 10, 42, .ref 0), (1091, .aload_n 0, 1, 0, 0, .null), (1092, .ldc 114, 2, 0, 0, .int 60100), (1094, .newarray .int, 2, 0, 0, .null), (1096, .putfield 115, 3, 10, 45, .ref 0), (1099, .aload_n 0, 1, 0, 0, .null), (1100, .ldc 114, 2, 0, 0, .int 60100), (1102, .newarray .int, 2, 0, 0, .null), (1104, .putfield 118, 3, 10, 46, .ref 0), (1107, .aload_n 0, 1, 0, 0, .null), (1108, .sipush 12100, 3, 0, 0, .int 12100), (1111, .newarray .int, 2, 0, 0, .null), (1113, .putfield 121, 3, 10, 48, .ref 0), (1116, .aload_n 0, 1, 0, 0, .null), (1117, .sipush 12100, 3, 0, 0, .int 12100), (1120, .newarray .int, 2, 0, 0, .null), (1122, .putfield 124, 3, 10, 49, .ref 0), (1125, .aload_n 0, 1, 0, 0, .null), (1126, .sipush 12100, 3, 0, 0, .int 12100), (1129, .newarray .int, 2, 0, 0, .null), (1131, .putfield 127, 3, 10, 50, .ref 0), (1134, .aload_n 0, 1, 0, 0, .null), (1135, .sipush 12100, 3, 0, 0, .int 12100), (1138, .newarray .int, 2, 0, 0, .null), (1140, .putfield 130, 3, 10, 51, .ref 0), (1143, .aload_n 0, 1, 0, 0, .null), (1144, .bipush 32, 2, 0, 0, .int 32), (1146, .newarray .int, 2, 0, 0, .null), (1148, .putfield 133, 3, 10, 52, .ref 0), (1151, .aload_n 0, 1, 0, 0, .null), (1152, .bipush 32, 2, 0, 0, .int 32), (1154, .newarray .int, 2, 0, 0, .null), (1156, .putfield 136, 3, 10, 53, .ref 0), (1159, .aload_n 0, 1, 0, 0, .null), (1160, .sipush 12200, 3, 0, 0, .int 12200), (1163, .newarray .int, 2, 0, 0, .null), (1165, .putfield 139, 3, 10, 54, .ref 0), (1168, .aload_n 0, 1, 0, 0, .null), (1169, .sipush 1000, 3, 0, 0, .int 1000), (1172, .newarray .int, 2, 0, 0, .null), (1174, .putfield 142, 3, 10, 62, .ref 0), (1177, .iconst 0, 1, 0, 0, .int 0), (1178, .istore_n 1, 1, 1, 0, .null), (1179, .iconst 0, 1, 0, 0, .int 0), (1180, .istore_n 2, 1, 2, 0, .null), (1181, .iconst 0, 1, 0, 0, .int 0), (1182, .istore_n 3, 1, 3, 0, .null), (1183, .iload_n 3, 1, 3, 0, .null), (1184, .bipush 32, 2, 0, 0, .int 32), (1186, .if_icmp .ge 43, 3, 1229, 0, .null), (1189, .aload_n 0, 1, 0, 0, .null), (1190, .getfield 19, 3, 10, 3, .null), (1193, .iload_n 3, 1, 3, 0, .null), (1194, .iload_n 1, 1, 1, 0, .null), (1195, .iastore, 1, 0, 0, .null), (1196, .aload_n 0, 1, 0, 0, .null), (1197, .getfield 22, 3, 10, 4, .null), (1200, .iload_n 3, 1, 3, 0, .null), (1201, .iload_n 2, 1, 2, 0, .null), (1202, .iastore, 1, 0, 0, .null), (1203, .iload_n 1, 1, 1, 0, .null), (1204, .aload_n 0, 1, 0, 0, .null), (1205, .getfield 13, 3, 10, 1, .null), (1208, .iload_n 3, 1, 3, 0, .null), (1209, .iaload, 1, 0, 0, .null), (1210, .iadd, 1, 0, 0, .null), (1211, .istore_n 1, 1, 1, 0, .null), (1212, .iload_n 2, 1, 2, 0, .null), (1213, .aload_n 0, 1, 0, 0, .null), (1214, .getfield 13, 3, 10, 1, .null), (1217, .iload_n 3, 1, 3, 0, .null), (1218, .iaload, 1, 0, 0, .null), (1219, .iadd, 1, 0, 0, .null), (1220, .iconst 1, 1, 0, 0, .int 1), (1221, .iadd, 1, 0, 0, .null), (1222, .istore_n 2, 1, 2, 0, .null), (1223, .iinc 3 1, 3, 3, 0, .int 1), (1226, .goto (-43), 3, 1183, 0, .null), (1229, .aload_n 0, 1, 0, 0, .null), (1230, .getfield 22, 3, 10, 4, .null), (1233, .bipush 32, 2, 0, 0, .int 32), (1235, .iload_n 2, 1, 2, 0, .null), (1236, .iastore, 1, 0, 0, .null), (1237, .aload_n 0, 1, 0, 0, .null), (1238, .invokevirtual 145, 3, 121, 1, .ref 10), (1241, .aload_n 0, 1, 0, 0, .null), (1242, .invokevirtual 148, 3, 124, 1, .ref 10), (1245, .aload_n 0, 1, 0, 0, .null), (1246, .invokevirtual 151, 3, 130, 1, .ref 10), (1249, .return_, 1, 0, 0, .null)]
def mz_m118 : mz_D := (⟨"TinyFrontModel", "<init>", "()V"⟩, prog_12_method_1_code, 4, none, 5, 117, mz_t118)
/-- 119: TinyFrontModel.isEmpty(I)Z -/
def mz_t119 : List mz_E := [(0, .iload_n 0, 1, 0, 0, .null), (1, .bipush 25, 2, 0, 0, .int 25), (3, .if_icmp .eq 9, 3, 12, 0, .null), (6, .iload_n 0, 1, 0, 0, .null), (7, .bipush 26, 2, 0, 0, .int 26), (9, .if_icmp .ne 7, 3, 16, 0, .null), (12, .iconst 1, 1, 0, 0, .int 1), (13, .goto 4, 3, 17, 0, .null), (16, .iconst 0, 1, 0, 0, .int 0), (17, .ireturn, 1, 0, 0, .null)]
def mz_m119 : mz_D := (⟨"TinyFrontModel", "isEmpty", "(I)Z"⟩, prog_12_method_2_code, 1, (some (.boolean)), 0, 0, mz_t119)
/-- 120: TinyFrontModel.takeFirst(IIZ)Z -/
def mz_t120 : List mz_E := [(0, .iconst 0, 1, 0, 0, .int 0), (1, .istore 4, 2, 4, 0, .null), (3, .iconst 0, 1, 0, 0, .int 0), (4, .istore 5, 2, 5, 0, .null), (6, .iload 5, 2, 5, 0, .null), (8, .bipush 25, 2, 0, 0, .int 25), (10, .if_icmp .ge 116, 3, 126, 0, .null), (13, .iload_n 2, 1, 2, 0, .null), (14, .bipush 25, 2, 0, 0, .int 25), (16, .if_icmp .ge 17, 3, 33, 0, .null), (19, .iload 5, 2, 5, 0, .null), (21, .iload_n 2, 1, 2, 0, .null), (22, .if_icmp .ne 7, 3, 29, 0, .null), (25, .iconst 1, 1, 0, 0, .int 1), (26, .goto 22, 3, 48, 0, .null), (29, .iconst 0, 1, 0, 0, .int 0), (30, .goto 18, 3, 48, 0, .null), (33, .aload_n 0, 1, 0, 0, .null), (34, .getfield 35, 3, 10, 9, .null), (37, .bipush 25, 2, 0, 0, .int 25), (39, .iload_n 2, 1, 2, 0, .null), (40, .bipush 25, 2, 0, 0, .int 25), (42, .isub, 1, 0, 0, .null), (43, .imul, 1, 0, 0, .null), (44, .iload 5, 2, 5, 0, .null), (46, .iadd, 1, 0, 0, .null), (47, .baload, 1, 0, 0, .null), (48, .istore 6, 2, 6, 0, .null), (50, .bipush 25, 2, 0, 0, .int 25), (52, .iload_n 1, 1, 1, 0, .null), (53, .bipush 25, 2, 0, 0, .int 25), (55, .isub, 1, 0, 0, .null), (56, .imul, 1, 0, 0, .null), (57, .iload 5, 2, 5, 0, .null), (59, .iadd, 1, 0, 0, .null), (60, .istore 7, 2, 7, 0, .null), (62, .iload 6, 2, 6, 0, .null), (64, .ifCond .eq 56, 3, 120, 0, .null), (67, .iload_n 3, 1, 3, 0, .null), (68, .ifCond .eq 16, 3, 84, 0, .null), (71, .aload_n 0, 1, 0, 0, .null), (72, .getfield 38, 3, 10, 10, .null), (75, .iload 7, 2, 7, 0, .null), (77, .baload, 1, 0, 0, .null), (78, .ifCond .eq 16, 3, 94, 0, .null), (81, .goto 39, 3, 120, 0, .null), (84, .aload_n 0, 1, 0, 0, .null), (85, .getfield 35, 3, 10, 9, .null), (88, .iload 7, 2, 7, 0, .null), (90, .baload, 1, 0, 0, .null), (91, .ifCond .ne 29, 3, 120, 0, .null), (94, .iconst 1, 1, 0, 0, .int 1), (95, .istore 4, 2, 4, 0, .null), (97, .iload_n 3, 1, 3, 0, .null), (98, .ifCond .eq 14, 3, 112, 0, .null), (101, .aload_n 0, 1, 0, 0, .null), (102, .getfield 38, 3, 10, 10, .null), (105, .iload 7, 2, 7, 0, .null), (107, .iconst 1, 1, 0, 0, .int 1), (108, .bastore, 1, 0, 0, .null), (109, .goto 11, 3, 120, 0, .null), (112, .aload_n 0, 1, 0, 0, .null), (113, .getfield 35, 3, 10, 9, .null), (116, .iload 7, 2, 7, 0, .null), (118, .iconst 1, 1, 0, 0, .int 1), (119, .bastore, 1, 0, 0, .null), (120, .iinc 5 1, 3, 5, 0, .int 1), (123, .goto (-117), 3, 6, 0, .null), (126, .iload 4, 2, 4, 0, .null), (128, .ireturn, 1, 0, 0, .null)]
def mz_m120 : mz_D := (⟨"TinyFrontModel", "takeFirst", "(IIZ)Z"⟩, prog_12_method_3_code, 8, (some (.boolean)), 0, 0, mz_t120)
/-- 121: TinyFrontModel.makeFirsts()V -/
def mz_t121 : List mz_E := [(0, .iconst 1, 1, 0, 0, .int 1), (1, .istore_n 1, 1, 1, 0, .null), (2, .iload_n 1, 1, 1, 0, .null), (3, .ifCond .eq 96, 3, 99, 0, .null), (6, .iconst 0, 1, 0, 0, .int 0), (7, .istore_n 1, 1, 1, 0, .null), (8, .iconst 0, 1, 0, 0, .int 0), (9, .istore_n 2, 1, 2, 0, .null), (10, .iload_n 2, 1, 2, 0, .null), (11, .bipush 32, 2, 0, 0, .int 32), (13, .if_icmp .ge 83, 3, 96, 0, .null), (16, .iconst 1, 1, 0, 0, .int 1), (17, .istore_n 3, 1, 3, 0, .null), (18, .iconst 0, 1, 0, 0, .int 0), (19, .istore 4, 2, 4, 0, .null), (21, .iload 4, 2, 4, 0, .null), (23, .aload_n 0, 1, 0, 0, .null), (24, .getfield 13, 3, 10, 1, .null), (27, .iload_n 2, 1, 2, 0, .null), (28, .iaload, 1, 0, 0, .null), (29, .if_icmp .ge 61, 3, 90, 0, .null), (32, .iload_n 3, 1, 3, 0, .null), (33, .ifCond .eq 57, 3, 90, 0, .null), (36, .aload_n 0, 1, 0, 0, .null), (37, .getfield 16, 3, 10, 2, .null), (40, .aload_n 0, 1, 0, 0, .null), (41, .getfield 19, 3, 10, 3, .null), (44, .iload_n 2, 1, 2, 0, .null), (45, .iaload, 1, 0, 0, .null), (46, .iload 4, 2, 4, 0, .null), (48, .iadd, 1, 0, 0, .null), (49, .iaload, 1, 0, 0, .null), (50, .istore 5, 2, 5, 0, .null), (52, .aload_n 0, 1, 0, 0, .null), (53, .aload_n 0, 1, 0, 0, .null), (54, .getfield 7, 3, 10, 0, .null), (57, .iload_n 2, 1, 2, 0, .null), (58, .iaload, 1, 0, 0, .null), (59, .iload 5, 2, 5, 0, .null), (61, .iconst 0, 1, 0, 0, .int 0), (62, .invokevirtual 154, 3, 120, 4, .ref 10), (65, .ifCond .ne 7, 3, 72, 0, .null), (68, .iload_n 1, 1, 1, 0, .null), (69, .ifCond .eq 7, 3, 76, 0, .null), (72, .iconst 1, 1, 0, 0, .int 1), (73, .goto 4, 3, 77, 0, .null), (76, .iconst 0, 1, 0, 0, .int 0), (77, .istore_n 1, 1, 1, 0, .null), (78, .iload 5, 2, 5, 0, .null), (80, .invokestatic 158, 3, 119, 1, .null), (83, .istore_n 3, 1, 3, 0, .null), (84, .iinc 4 1, 3, 4, 0, .int 1), (87, .goto (-66), 3, 21, 0, .null), (90, .iinc 2 1, 3, 2, 0, .int 1), (93, .goto (-83), 3, 10, 0, .null), (96, .goto (-94), 3, 2, 0, .null), (99, .return_, 1, 0, 0, .null)]
def mz_m121 : mz_D := (⟨"TinyFrontModel", "makeFirsts", "()V"⟩, prog_12_method_4_code, 6, none, 1, 27, mz_t121)
/-- 122: TinyFrontModel.takeFollow(II)Z -/
def mz_t122 : List mz_E := [(0, .iconst 0, 1, 0, 0, .int 0), (1, .istore_n 3, 1, 3, 0, .null), (2, .iconst 0, 1, 0, 0, .int 0), (3, .istore 4, 2, 4, 0, .null), (5, .iload 4, 2, 4, 0, .null), (7, .bipush 25, 2, 0, 0, .int 25), (9, .if_icmp .ge 59, 3, 68, 0, .null), (12, .bipush 25, 2, 0, 0, .int 25), (14, .iload_n 1, 1, 1, 0, .null), (15, .bipush 25, 2, 0, 0, .int 25), (17, .isub, 1, 0, 0, .null), (18, .imul, 1, 0, 0, .null), (19, .iload 4, 2, 4, 0, .null), (21, .iadd, 1, 0, 0, .null), (22, .istore 5, 2, 5, 0, .null), (24, .aload_n 0, 1, 0, 0, .null), (25, .getfield 38, 3, 10, 10, .null), (28, .bipush 25, 2, 0, 0, .int 25), (30, .iload_n 2, 1, 2, 0, .null), (31, .bipush 25, 2, 0, 0, .int 25), (33, .isub, 1, 0, 0, .null), (34, .imul, 1, 0, 0, .null), (35, .iload 4, 2, 4, 0, .null), (37, .iadd, 1, 0, 0, .null), (38, .baload, 1, 0, 0, .null), (39, .ifCond .eq 23, 3, 62, 0, .null), (42, .aload_n 0, 1, 0, 0, .null), (43, .getfield 38, 3, 10, 10, .null), (46, .iload 5, 2, 5, 0, .null), (48, .baload, 1, 0, 0, .null), (49, .ifCond .ne 13, 3, 62, 0, .null), (52, .aload_n 0, 1, 0, 0, .null), (53, .getfield 38, 3, 10, 10, .null), (56, .iload 5, 2, 5, 0, .null), (58, .iconst 1, 1, 0, 0, .int 1), (59, .bastore, 1, 0, 0, .null), (60, .iconst 1, 1, 0, 0, .int 1), (61, .istore_n 3, 1, 3, 0, .null), (62, .iinc 4 1, 3, 4, 0, .int 1), (65, .goto (-60), 3, 5, 0, .null), (68, .iload_n 3, 1, 3, 0, .null), (69, .ireturn, 1, 0, 0, .null)]
def mz_m122 : mz_D := (⟨"TinyFrontModel", "takeFollow", "(II)Z"⟩, prog_12_method_5_code, 6, (some (.boolean)), 0, 0, mz_t122)
/-- 123: TinyFrontModel.followsOf(II)Z -/
def mz_t123 : List mz_E := [(0, .aload_n 0, 1, 0, 0, .null), (1, .getfield 16, 3, 10, 2, .null), (4, .aload_n 0, 1, 0, 0, .null), (5, .getfield 19, 3, 10, 3, .null), (8, .iload_n 1, 1, 1, 0, .null), (9, .iaload, 1, 0, 0, .null), (10, .iload_n 2, 1, 2, 0, .null), (11, .iadd, 1, 0, 0, .null), (12, .iaload, 1, 0, 0, .null), (13, .istore_n 3, 1, 3, 0, .null), (14, .iload_n 3, 1, 3, 0, .null), (15, .bipush 25, 2, 0, 0, .int 25), (17, .if_icmp .ge 5, 3, 22, 0, .null), (20, .iconst 0, 1, 0, 0, .int 0), (21, .ireturn, 1, 0, 0, .null), (22, .iconst 0, 1, 0, 0, .int 0), (23, .istore 4, 2, 4, 0, .null), (25, .iload_n 2, 1, 2, 0, .null), (26, .iconst 1, 1, 0, 0, .int 1), (27, .iadd, 1, 0, 0, .null), (28, .istore 5, 2, 5, 0, .null), (30, .iconst 1, 1, 0, 0, .int 1), (31, .istore 6, 2, 6, 0, .null), (33, .iload 5, 2, 5, 0, .null), (35, .aload_n 0, 1, 0, 0, .null), (36, .getfield 13, 3, 10, 1, .null), (39, .iload_n 1, 1, 1, 0, .null), (40, .iaload, 1, 0, 0, .null), (41, .if_icmp .ge 60, 3, 101, 0, .null), (44, .iload 6, 2, 6, 0, .null), (46, .ifCond .eq 55, 3, 101, 0, .null), (49, .aload_n 0, 1, 0, 0, .null), (50, .getfield 16, 3, 10, 2, .null), (53, .aload_n 0, 1, 0, 0, .null), (54, .getfield 19, 3, 10, 3, .null), (57, .iload_n 1, 1, 1, 0, .null), (58, .iaload, 1, 0, 0, .null), (59, .iload 5, 2, 5, 0, .null), (61, .iadd, 1, 0, 0, .null), (62, .iaload, 1, 0, 0, .null), (63, .istore 7, 2, 7, 0, .null), (65, .aload_n 0, 1, 0, 0, .null), (66, .iload_n 3, 1, 3, 0, .null), (67, .iload 7, 2, 7, 0, .null), (69, .iconst 1, 1, 0, 0, .int 1), (70, .invokevirtual 154, 3, 120, 4, .ref 10), (73, .ifCond .ne 8, 3, 81, 0, .null), (76, .iload 4, 2, 4, 0, .null), (78, .ifCond .eq 7, 3, 85, 0, .null), (81, .iconst 1, 1, 0, 0, .int 1), (82, .goto 4, 3, 86, 0, .null), (85, .iconst 0, 1, 0, 0, .int 0), (86, .istore 4, 2, 4, 0, .null), (88, .iload 7, 2, 7, 0, .null), (90, .invokestatic 158, 3, 119, 1, .null), (93, .istore 6, 2, 6, 0, .null), (95, .iinc 5 1, 3, 5, 0, .int 1), (98, .goto (-65), 3, 33, 0, .null), (101, .iload 6, 2, 6, 0, .null), (103, .ifCond .eq 30, 3, 133, 0, .null), (106, .aload_n 0, 1, 0, 0, .null), (107, .iload_n 3, 1, 3, 0, .null), (108, .aload_n 0, 1, 0, 0, .null), (109, .getfield 7, 3, 10, 0, .null), (112, .iload_n 1, 1, 1, 0, .null), (113, .iaload, 1, 0, 0, .null), (114, .invokevirtual 162, 3, 122, 3, .ref 10), (117, .ifCond .ne 8, 3, 125, 0, .null), (120, .iload 4, 2, 4, 0, .null), (122, .ifCond .eq 7, 3, 129, 0, .null), (125, .iconst 1, 1, 0, 0, .int 1), (126, .goto 9, 3, 135, 0, .null), (129, .iconst 0, 1, 0, 0, .int 0), (130, .goto 5, 3, 135, 0, .null), (133, .iload 4, 2, 4, 0, .null), (135, .ireturn, 1, 0, 0, .null)]
def mz_m123 : mz_D := (⟨"TinyFrontModel", "followsOf", "(II)Z"⟩, prog_12_method_6_code, 8, (some (.boolean)), 1, 27, mz_t123)
/-- 124: TinyFrontModel.makeFollows()V -/
def mz_t124 : List mz_E := [(0, .aload_n 0, 1, 0, 0, .null), (1, .getfield 38, 3, 10, 10, .null), (4, .iconst 0, 1, 0, 0, .int 0), (5, .iconst 1, 1, 0, 0, .int 1), (6, .bastore, 1, 0, 0, .null), (7, .iconst 1, 1, 0, 0, .int 1), (8, .istore_n 1, 1, 1, 0, .null), (9, .iload_n 1, 1, 1, 0, .null), (10, .ifCond .eq 59, 3, 69, 0, .null), (13, .iconst 0, 1, 0, 0, .int 0), (14, .istore_n 1, 1, 1, 0, .null), (15, .iconst 0, 1, 0, 0, .int 0), (16, .istore_n 2, 1, 2, 0, .null), (17, .iload_n 2, 1, 2, 0, .null), (18, .bipush 32, 2, 0, 0, .int 32), (20, .if_icmp .ge 46, 3, 66, 0, .null), (23, .iconst 0, 1, 0, 0, .int 0), (24, .istore_n 3, 1, 3, 0, .null), (25, .iload_n 3, 1, 3, 0, .null), (26, .aload_n 0, 1, 0, 0, .null), (27, .getfield 13, 3, 10, 1, .null), (30, .iload_n 2, 1, 2, 0, .null), (31, .iaload, 1, 0, 0, .null), (32, .if_icmp .ge 28, 3, 60, 0, .null), (35, .aload_n 0, 1, 0, 0, .null), (36, .iload_n 2, 1, 2, 0, .null), (37, .iload_n 3, 1, 3, 0, .null), (38, .invokevirtual 166, 3, 123, 3, .ref 10), (41, .ifCond .ne 7, 3, 48, 0, .null), (44, .iload_n 1, 1, 1, 0, .null), (45, .ifCond .eq 7, 3, 52, 0, .null), (48, .iconst 1, 1, 0, 0, .int 1), (49, .goto 4, 3, 53, 0, .null), (52, .iconst 0, 1, 0, 0, .int 0), (53, .istore_n 1, 1, 1, 0, .null), (54, .iinc 3 1, 3, 3, 0, .int 1), (57, .goto (-32), 3, 25, 0, .null), (60, .iinc 2 1, 3, 2, 0, .int 1), (63, .goto (-46), 3, 17, 0, .null), (66, .goto (-57), 3, 9, 0, .null), (69, .return_, 1, 0, 0, .null)]
def mz_m124 : mz_D := (⟨"TinyFrontModel", "makeFollows", "()V"⟩, prog_12_method_7_code, 4, none, 2, 54, mz_t124)
/-- 125: TinyFrontModel.behindPoint(II)I -/
def mz_t125 : List mz_E := [(0, .iload_n 2, 1, 2, 0, .null), (1, .aload_n 0, 1, 0, 0, .null), (2, .getfield 13, 3, 10, 1, .null), (5, .iload_n 1, 1, 1, 0, .null), (6, .iaload, 1, 0, 0, .null), (7, .if_icmp .ge 19, 3, 26, 0, .null), (10, .aload_n 0, 1, 0, 0, .null), (11, .getfield 16, 3, 10, 2, .null), (14, .aload_n 0, 1, 0, 0, .null), (15, .getfield 19, 3, 10, 3, .null), (18, .iload_n 1, 1, 1, 0, .null), (19, .iaload, 1, 0, 0, .null), (20, .iload_n 2, 1, 2, 0, .null), (21, .iadd, 1, 0, 0, .null), (22, .iaload, 1, 0, 0, .null), (23, .goto 4, 3, 27, 0, .null), (26, .iconst (-1), 1, 0, 0, .int (-1)), (27, .ireturn, 1, 0, 0, .null)]
def mz_m125 : mz_D := (⟨"TinyFrontModel", "behindPoint", "(II)I"⟩, prog_12_method_8_code, 3, (some (.int)), 0, 0, mz_t125)
/-- 126: TinyFrontModel.close()V -/
def mz_t126 : List mz_E := [(0, .iconst 1, 1, 0, 0, .int 1), (1, .istore_n 1, 1, 1, 0, .null), (2, .iload_n 1, 1, 1, 0, .null), (3, .ifCond .eq 79, 3, 82, 0, .null), (6, .iconst 0, 1, 0, 0, .int 0), (7, .istore_n 1, 1, 1, 0, .null), (8, .iconst 0, 1, 0, 0, .int 0), (9, .istore_n 2, 1, 2, 0, .null), (10, .iload_n 2, 1, 2, 0, .null), (11, .bipush 32, 2, 0, 0, .int 32), (13, .if_icmp .ge 66, 3, 79, 0, .null), (16, .iconst 0, 1, 0, 0, .int 0), (17, .istore_n 3, 1, 3, 0, .null), (18, .iload_n 3, 1, 3, 0, .null), (19, .aload_n 0, 1, 0, 0, .null), (20, .getfield 13, 3, 10, 1, .null), (23, .iload_n 2, 1, 2, 0, .null), (24, .iaload, 1, 0, 0, .null), (25, .if_icmp .gt 48, 3, 73, 0, .null), (28, .aload_n 0, 1, 0, 0, .null), (29, .getfield 32, 3, 10, 8, .null), (32, .aload_n 0, 1, 0, 0, .null), (33, .getfield 22, 3, 10, 4, .null), (36, .iload_n 2, 1, 2, 0, .null), (37, .iaload, 1, 0, 0, .null), (38, .iload_n 3, 1, 3, 0, .null), (39, .iadd, 1, 0, 0, .null), (40, .baload, 1, 0, 0, .null), (41, .ifCond .eq 16, 3, 57, 0, .null), (44, .aload_n 0, 1, 0, 0, .null), (45, .aload_n 0, 1, 0, 0, .null), (46, .iload_n 2, 1, 2, 0, .null), (47, .iload_n 3, 1, 3, 0, .null), (48, .invokevirtual 169, 3, 125, 3, .ref 10), (51, .invokevirtual 173, 3, 127, 2, .ref 10), (54, .ifCond .ne 7, 3, 61, 0, .null), (57, .iload_n 1, 1, 1, 0, .null), (58, .ifCond .eq 7, 3, 65, 0, .null), (61, .iconst 1, 1, 0, 0, .int 1), (62, .goto 4, 3, 66, 0, .null), (65, .iconst 0, 1, 0, 0, .int 0), (66, .istore_n 1, 1, 1, 0, .null), (67, .iinc 3 1, 3, 3, 0, .int 1), (70, .goto (-52), 3, 18, 0, .null), (73, .iinc 2 1, 3, 2, 0, .int 1), (76, .goto (-66), 3, 10, 0, .null), (79, .goto (-77), 3, 2, 0, .null), (82, .return_, 1, 0, 0, .null)]
def mz_m126 : mz_D := (⟨"TinyFrontModel", "close", "()V"⟩, prog_12_method_9_code, 4, none, 1, 23, mz_t126)
/-- 127: TinyFrontModel.open(I)Z -/
def mz_t127 : List mz_E := [(0, .iconst 0, 1, 0, 0, .int 0), (1, .istore_n 2, 1, 2, 0, .null), (2, .iconst 0, 1, 0, 0, .int 0), (3, .istore_n 3, 1, 3, 0, .null), (4, .iload_n 3, 1, 3, 0, .null), (5, .bipush 32, 2, 0, 0, .int 32), (7, .if_icmp .ge 53, 3, 60, 0, .null), (10, .iload_n 1, 1, 1, 0, .null), (11, .bipush 25, 2, 0, 0, .int 25), (13, .if_icmp .lt 47, 3, 60, 0, .null), (16, .aload_n 0, 1, 0, 0, .null), (17, .getfield 7, 3, 10, 0, .null), (20, .iload_n 3, 1, 3, 0, .null), (21, .iaload, 1, 0, 0, .null), (22, .iload_n 1, 1, 1, 0, .null), (23, .if_icmp .ne 31, 3, 54, 0, .null), (26, .aload_n 0, 1, 0, 0, .null), (27, .getfield 32, 3, 10, 8, .null), (30, .aload_n 0, 1, 0, 0, .null), (31, .getfield 22, 3, 10, 4, .null), (34, .iload_n 3, 1, 3, 0, .null), (35, .iaload, 1, 0, 0, .null), (36, .baload, 1, 0, 0, .null), (37, .ifCond .ne 17, 3, 54, 0, .null), (40, .aload_n 0, 1, 0, 0, .null), (41, .getfield 32, 3, 10, 8, .null), (44, .aload_n 0, 1, 0, 0, .null), (45, .getfield 22, 3, 10, 4, .null), (48, .iload_n 3, 1, 3, 0, .null), (49, .iaload, 1, 0, 0, .null), (50, .iconst 1, 1, 0, 0, .int 1), (51, .bastore, 1, 0, 0, .null), (52, .iconst 1, 1, 0, 0, .int 1), (53, .istore_n 2, 1, 2, 0, .null), (54, .iinc 3 1, 3, 3, 0, .int 1), (57, .goto (-53), 3, 4, 0, .null), (60, .iload_n 2, 1, 2, 0, .null), (61, .ireturn, 1, 0, 0, .null)]
def mz_m127 : mz_D := (⟨"TinyFrontModel", "open", "(I)Z"⟩, prog_12_method_10_code, 4, (some (.boolean)), 0, 0, mz_t127)
/-- 128: TinyFrontModel.numberSet()I -/
def mz_t128 : List mz_E := [(0, .aload_n 0, 1, 0, 0, .null), (1, .invokevirtual 176, 3, 126, 1, .ref 10), (4, .iconst 0, 1, 0, 0, .int 0), (5, .istore_n 1, 1, 1, 0, .null), (6, .iload_n 1, 1, 1, 0, .null), (7, .aload_n 0, 1, 0, 0, .null), (8, .getfield 179, 3, 10, 7, .null), (11, .if_icmp .ge 61, 3, 72, 0, .null), (14, .iconst 1, 1, 0, 0, .int 1), (15, .istore_n 2, 1, 2, 0, .null), (16, .iconst 0, 1, 0, 0, .int 0), (17, .istore_n 3, 1, 3, 0, .null), (18, .iload_n 3, 1, 3, 0, .null), (19, .bipush 109, 2, 0, 0, .int 109), (21, .if_icmp .ge 39, 3, 60, 0, .null), (24, .iload_n 2, 1, 2, 0, .null), (25, .ifCond .eq 35, 3, 60, 0, .null), (28, .aload_n 0, 1, 0, 0, .null), (29, .getfield 25, 3, 10, 5, .null), (32, .bipush 109, 2, 0, 0, .int 109), (34, .iload_n 1, 1, 1, 0, .null), (35, .imul, 1, 0, 0, .null), (36, .iload_n 3, 1, 3, 0, .null), (37, .iadd, 1, 0, 0, .null), (38, .baload, 1, 0, 0, .null), (39, .aload_n 0, 1, 0, 0, .null), (40, .getfield 32, 3, 10, 8, .null), (43, .iload_n 3, 1, 3, 0, .null), (44, .baload, 1, 0, 0, .null), (45, .if_icmp .ne 7, 3, 52, 0, .null), (48, .iconst 1, 1, 0, 0, .int 1), (49, .goto 4, 3, 53, 0, .null), (52, .iconst 0, 1, 0, 0, .int 0), (53, .istore_n 2, 1, 2, 0, .null), (54, .iinc 3 1, 3, 3, 0, .int 1), (57, .goto (-39), 3, 18, 0, .null), (60, .iload_n 2, 1, 2, 0, .null), (61, .ifCond .eq 5, 3, 66, 0, .null), (64, .iload_n 1, 1, 1, 0, .null), (65, .ireturn, 1, 0, 0, .null), (66, .iinc 1 1, 3, 1, 0, .int 1), (69, .goto (-63), 3, 6, 0, .null), (72, .iconst 0, 1, 0, 0, .int 0), (73, .istore_n 1, 1, 1, 0, .null), (74, .iload_n 1, 1, 1, 0, .null), (75, .bipush 109, 2, 0, 0, .int 109), (77, .if_icmp .ge 29, 3, 106, 0, .null), (80, .aload_n 0, 1, 0, 0, .null), (81, .getfield 25, 3, 10, 5, .null), (84, .bipush 109, 2, 0, 0, .int 109), (86, .aload_n 0, 1, 0, 0, .null), (87, .getfield 179, 3, 10, 7, .null), (90, .imul, 1, 0, 0, .null), (91, .iload_n 1, 1, 1, 0, .null), (92, .iadd, 1, 0, 0, .null), (93, .aload_n 0, 1, 0, 0, .null), (94, .getfield 32, 3, 10, 8, .null), (97, .iload_n 1, 1, 1, 0, .null), (98, .baload, 1, 0, 0, .null), (99, .bastore, 1, 0, 0, .null), (100, .iinc 1 1, 3, 1, 0, .int 1), (103, .goto (-29), 3, 74, 0, .null), (106, .aload_n 0, 1, 0, 0, .null), (107, .dup, 1, 0, 0, .null), (108, .getfield 179, 3, 10, 7, .null), (111, .iconst 1, 1, 0, 0, .int 1), (112, .iadd, 1, 0, 0, .null), (113, .putfield 179, 3, 10, 7, .null), (116, .aload_n 0, 1, 0, 0, .null), (117, .getfield 179, 3, 10, 7, .null), (120, .iconst 1, 1, 0, 0, .int 1), (121, .isub, 1, 0, 0, .null), (122, .ireturn, 1, 0, 0, .null)]
def mz_m128 : mz_D := (⟨"TinyFrontModel", "numberSet", "()I"⟩, prog_12_method_11_code, 4, (some (.int)), 2, 46, mz_t128)
/-- 129: TinyFrontModel.move(II)I -/
def mz_t129 : List mz_E := [(0, .iconst 0, 1, 0, 0, .int 0), (1, .istore_n 3, 1, 3, 0, .null), (2, .iconst 0, 1, 0, 0, .int 0), (3, .istore 4, 2, 4, 0, .null), (5, .iload 4, 2, 4, 0, .null), (7, .bipush 109, 2, 0, 0, .int 109), (9, .if_icmp .ge 17, 3, 26, 0, .null), (12, .aload_n 0, 1, 0, 0, .null), (13, .getfield 32, 3, 10, 8, .null), (16, .iload 4, 2, 4, 0, .null), (18, .iconst 0, 1, 0, 0, .int 0), (19, .bastore, 1, 0, 0, .null), (20, .iinc 4 1, 3, 4, 0, .int 1), (23, .goto (-18), 3, 5, 0, .null), (26, .iconst 0, 1, 0, 0, .int 0), (27, .istore 4, 2, 4, 0, .null), (29, .iload 4, 2, 4, 0, .null), (31, .bipush 32, 2, 0, 0, .int 32), (33, .if_icmp .ge 85, 3, 118, 0, .null), (36, .iconst 0, 1, 0, 0, .int 0), (37, .istore 5, 2, 5, 0, .null), (39, .iload 5, 2, 5, 0, .null), (41, .aload_n 0, 1, 0, 0, .null), (42, .getfield 13, 3, 10, 1, .null), (45, .iload 4, 2, 4, 0, .null), (47, .iaload, 1, 0, 0, .null), (48, .if_icmp .ge 64, 3, 112, 0, .null), (51, .aload_n 0, 1, 0, 0, .null), (52, .getfield 25, 3, 10, 5, .null), (55, .bipush 109, 2, 0, 0, .int 109), (57, .iload_n 1, 1, 1, 0, .null), (58, .imul, 1, 0, 0, .null), (59, .aload_n 0, 1, 0, 0, .null), (60, .getfield 22, 3, 10, 4, .null), (63, .iload 4, 2, 4, 0, .null), (65, .iaload, 1, 0, 0, .null), (66, .iadd, 1, 0, 0, .null), (67, .iload 5, 2, 5, 0, .null), (69, .iadd, 1, 0, 0, .null), (70, .baload, 1, 0, 0, .null), (71, .ifCond .eq 35, 3, 106, 0, .null), (74, .aload_n 0, 1, 0, 0, .null), (75, .iload 4, 2, 4, 0, .null), (77, .iload 5, 2, 5, 0, .null), (79, .invokevirtual 169, 3, 125, 3, .ref 10), (82, .iload_n 2, 1, 2, 0, .null), (83, .if_icmp .ne 23, 3, 106, 0, .null), (86, .aload_n 0, 1, 0, 0, .null), (87, .getfield 32, 3, 10, 8, .null), (90, .aload_n 0, 1, 0, 0, .null), (91, .getfield 22, 3, 10, 4, .null), (94, .iload 4, 2, 4, 0, .null), (96, .iaload, 1, 0, 0, .null), (97, .iload 5, 2, 5, 0, .null), (99, .iadd, 1, 0, 0, .null), (100, .iconst 1, 1, 0, 0, .int 1), (101, .iadd, 1, 0, 0, .null), (102, .iconst 1, 1, 0, 0, .int 1), (103, .bastore, 1, 0, 0, .null), (104, .iconst 1, 1, 0, 0, .int 1), (105, .istore_n 3, 1, 3, 0, .null), (106, .iinc 5 1, 3, 5, 0, .int 1), (109, .goto (-70), 3, 39, 0, .null), (112, .iinc 4 1, 3, 4, 0, .int 1), (115, .goto (-86), 3, 29, 0, .null), (118, .iload_n 3, 1, 3, 0, .null), (119, .ifCond .eq 10, 3, 129, 0, .null), (122, .aload_n 0, 1, 0, 0, .null), (123, .invokevirtual 183, 3, 128, 1, .ref 10), (126, .goto 4, 3, 130, 0, .null), (129, .iconst (-1), 1, 0, 0, .int (-1)), (130, .ireturn, 1, 0, 0, .null)]
def mz_m129 : mz_D := (⟨"TinyFrontModel", "move", "(II)I"⟩, prog_12_method_12_code, 6, (some (.int)), 3, 69, mz_t129)
/-- 130: TinyFrontModel.makeSets()V -/
def mz_t130 : List mz_E := [(0, .iconst 0, 1, 0, 0, .int 0), (1, .istore_n 1, 1, 1, 0, .null), (2, .iload_n 1, 1, 1, 0, .null), (3, .bipush 109, 2, 0, 0, .int 109), (5, .if_icmp .ge 16, 3, 21, 0, .null), (8, .aload_n 0, 1, 0, 0, .null), (9, .getfield 32, 3, 10, 8, .null), (12, .iload_n 1, 1, 1, 0, .null), (13, .iconst 0, 1, 0, 0, .int 0), (14, .bastore, 1, 0, 0, .null), (15, .iinc 1 1, 3, 1, 0, .int 1), (18, .goto (-16), 3, 2, 0, .null), (21, .aload_n 0, 1, 0, 0, .null), (22, .getfield 32, 3, 10, 8, .null), (25, .iconst 0, 1, 0, 0, .int 0), (26, .iconst 1, 1, 0, 0, .int 1), (27, .bastore, 1, 0, 0, .null), (28, .aload_n 0, 1, 0, 0, .null), (29, .invokevirtual 183, 3, 128, 1, .ref 10), (32, .istore_n 1, 1, 1, 0, .null), (33, .iload_n 1, 1, 1, 0, .null), (34, .istore_n 2, 1, 2, 0, .null), (35, .iload_n 2, 1, 2, 0, .null), (36, .aload_n 0, 1, 0, 0, .null), (37, .getfield 179, 3, 10, 7, .null), (40, .if_icmp .ge 40, 3, 80, 0, .null), (43, .iconst 0, 1, 0, 0, .int 0), (44, .istore_n 3, 1, 3, 0, .null), (45, .iload_n 3, 1, 3, 0, .null), (46, .bipush 36, 2, 0, 0, .int 36), (48, .if_icmp .ge 26, 3, 74, 0, .null), (51, .aload_n 0, 1, 0, 0, .null), (52, .getfield 29, 3, 10, 6, .null), (55, .bipush 36, 2, 0, 0, .int 36), (57, .iload_n 2, 1, 2, 0, .null), (58, .imul, 1, 0, 0, .null), (59, .iload_n 3, 1, 3, 0, .null), (60, .iadd, 1, 0, 0, .null), (61, .aload_n 0, 1, 0, 0, .null), (62, .iload_n 2, 1, 2, 0, .null), (63, .iload_n 3, 1, 3, 0, .null), (64, .invokevirtual 187, 3, 129, 3, .ref 10), (67, .iastore, 1, 0, 0, .null), (68, .iinc 3 1, 3, 3, 0, .int 1), (71, .goto (-26), 3, 45, 0, .null), (74, .iinc 2 1, 3, 2, 0, .int 1), (77, .goto (-42), 3, 35, 0, .null), (80, .return_, 1, 0, 0, .null)]
def mz_m130 : mz_D := (⟨"TinyFrontModel", "makeSets", "()V"⟩, prog_12_method_13_code, 4, none, 4, 94, mz_t130)
/-- 131: TinyFrontModel.forgetTokens()V -/
def mz_t131 : List mz_E := [(0, .aload_n 0, 1, 0, 0, .null), (1, .iconst 0, 1, 0, 0, .int 0), (2, .putfield 190, 3, 10, 13, .int 1), (5, .aload_n 0, 1, 0, 0, .null), (6, .iconst 0, 1, 0, 0, .int 0), (7, .putfield 194, 3, 10, 34, .int 1), (10, .aload_n 0, 1, 0, 0, .null), (11, .iconst 0, 1, 0, 0, .int 0), (12, .putfield 197, 3, 10, 44, .int 1), (15, .return_, 1, 0, 0, .null)]
def mz_m131 : mz_D := (⟨"TinyFrontModel", "forgetTokens", "()V"⟩, prog_12_method_14_code, 1, none, 0, 0, mz_t131)
/-- 132: TinyFrontModel.feed(JI)I -/
def mz_t132 : List mz_E := [(0, .iload_n 3, 1, 3, 0, .null), (1, .iconst 1, 1, 0, 0, .int 1), (2, .if_icmp .lt 9, 3, 11, 0, .null), (5, .iload_n 3, 1, 3, 0, .null), (6, .bipush 8, 2, 0, 0, .int 8), (8, .if_icmp .le 5, 3, 13, 0, .null), (11, .iconst (-1), 1, 0, 0, .int (-1)), (12, .ireturn, 1, 0, 0, .null), (13, .aload_n 0, 1, 0, 0, .null), (14, .getfield 200, 3, 10, 12, .null), (17, .iload_n 3, 1, 3, 0, .null), (18, .iadd, 1, 0, 0, .null), (19, .sipush 4000, 3, 0, 0, .int 4000), (22, .if_icmp .le 6, 3, 28, 0, .null), (25, .bipush (-2), 2, 0, 0, .int (-2)), (27, .ireturn, 1, 0, 0, .null), (28, .iload_n 3, 1, 3, 0, .null), (29, .iconst 1, 1, 0, 0, .int 1), (30, .isub, 1, 0, 0, .null), (31, .istore 4, 2, 4, 0, .null), (33, .iload 4, 2, 4, 0, .null), (35, .ifCond .lt 40, 3, 75, 0, .null), (38, .aload_n 0, 1, 0, 0, .null), (39, .getfield 41, 3, 10, 11, .null), (42, .aload_n 0, 1, 0, 0, .null), (43, .getfield 200, 3, 10, 12, .null), (46, .lload_n 1, 1, 1, 0, .null), (47, .bipush 8, 2, 0, 0, .int 8), (49, .iload 4, 2, 4, 0, .null), (51, .imul, 1, 0, 0, .null), (52, .lushr, 1, 0, 0, .null), (53, .l2i, 1, 0, 0, .null), (54, .sipush 255, 3, 0, 0, .int 255), (57, .iand, 1, 0, 0, .null), (58, .iastore, 1, 0, 0, .null), (59, .aload_n 0, 1, 0, 0, .null), (60, .dup, 1, 0, 0, .null), (61, .getfield 200, 3, 10, 12, .null), (64, .iconst 1, 1, 0, 0, .int 1), (65, .iadd, 1, 0, 0, .null), (66, .putfield 200, 3, 10, 12, .null), (69, .iinc 4 (-1), 3, 4, 0, .int (-1)), (72, .goto (-39), 3, 33, 0, .null), (75, .aload_n 0, 1, 0, 0, .null), (76, .invokevirtual 203, 3, 131, 1, .ref 10), (79, .aload_n 0, 1, 0, 0, .null), (80, .getfield 200, 3, 10, 12, .null), (83, .ireturn, 1, 0, 0, .null)]
def mz_m132 : mz_D := (⟨"TinyFrontModel", "feed", "(JI)I"⟩, prog_12_method_15_code, 5, (some (.int)), 1, 20, mz_t132)
/-- 133: TinyFrontModel.clear()I -/
def mz_t133 : List mz_E := [(0, .aload_n 0, 1, 0, 0, .null), (1, .getfield 200, 3, 10, 12, .null), (4, .istore_n 1, 1, 1, 0, .null), (5, .aload_n 0, 1, 0, 0, .null), (6, .iconst 0, 1, 0, 0, .int 0), (7, .putfield 200, 3, 10, 12, .null), (10, .aload_n 0, 1, 0, 0, .null), (11, .invokevirtual 203, 3, 131, 1, .ref 10), (14, .iconst 0, 1, 0, 0, .int 0), (15, .istore_n 2, 1, 2, 0, .null), (16, .iload_n 2, 1, 2, 0, .null), (17, .bipush 32, 2, 0, 0, .int 32), (19, .if_icmp .ge 16, 3, 35, 0, .null), (22, .aload_n 0, 1, 0, 0, .null), (23, .getfield 133, 3, 10, 52, .null), (26, .iload_n 2, 1, 2, 0, .null), (27, .iconst 0, 1, 0, 0, .int 0), (28, .iastore, 1, 0, 0, .null), (29, .iinc 2 1, 3, 2, 0, .int 1), (32, .goto (-16), 3, 16, 0, .null), (35, .aload_n 0, 1, 0, 0, .null), (36, .iconst 0, 1, 0, 0, .int 0), (37, .putfield 206, 3, 10, 56, .int 1), (40, .iload_n 1, 1, 1, 0, .null), (41, .ireturn, 1, 0, 0, .null)]
def mz_m133 : mz_D := (⟨"TinyFrontModel", "clear", "()I"⟩, prog_12_method_16_code, 3, (some (.int)), 1, 20, mz_t133)
/-- 134: TinyFrontModel.byteAt(I)I -/
def mz_t134 : List mz_E := [(0, .iload_n 1, 1, 1, 0, .null), (1, .aload_n 0, 1, 0, 0, .null), (2, .getfield 200, 3, 10, 12, .null), (5, .if_icmp .ge 12, 3, 17, 0, .null), (8, .aload_n 0, 1, 0, 0, .null), (9, .getfield 41, 3, 10, 11, .null), (12, .iload_n 1, 1, 1, 0, .null), (13, .iaload, 1, 0, 0, .null), (14, .goto 4, 3, 18, 0, .null), (17, .iconst (-1), 1, 0, 0, .int (-1)), (18, .ireturn, 1, 0, 0, .null)]
def mz_m134 : mz_D := (⟨"TinyFrontModel", "byteAt", "(I)I"⟩, prog_12_method_17_code, 2, (some (.int)), 0, 0, mz_t134)
/-- 135: TinyFrontModel.isLetter(I)Z -/
def mz_t135 : List mz_E := [(0, .iload_n 0, 1, 0, 0, .null), (1, .bipush 97, 2, 0, 0, .int 97), (3, .if_icmp .lt 9, 3, 12, 0, .null), (6, .iload_n 0, 1, 0, 0, .null), (7, .bipush 122, 2, 0, 0, .int 122), (9, .if_icmp .le 21, 3, 30, 0, .null), (12, .iload_n 0, 1, 0, 0, .null), (13, .bipush 65, 2, 0, 0, .int 65), (15, .if_icmp .lt 9, 3, 24, 0, .null), (18, .iload_n 0, 1, 0, 0, .null), (19, .bipush 90, 2, 0, 0, .int 90), (21, .if_icmp .le 9, 3, 30, 0, .null), (24, .iload_n 0, 1, 0, 0, .null), (25, .bipush 95, 2, 0, 0, .int 95), (27, .if_icmp .ne 7, 3, 34, 0, .null), (30, .iconst 1, 1, 0, 0, .int 1), (31, .goto 4, 3, 35, 0, .null), (34, .iconst 0, 1, 0, 0, .int 0), (35, .ireturn, 1, 0, 0, .null)]
def mz_m135 : mz_D := (⟨"TinyFrontModel", "isLetter", "(I)Z"⟩, prog_12_method_18_code, 1, (some (.boolean)), 0, 0, mz_t135)
/-- 136: TinyFrontModel.isDigit(I)Z -/
def mz_t136 : List mz_E := [(0, .iload_n 0, 1, 0, 0, .null), (1, .bipush 48, 2, 0, 0, .int 48), (3, .if_icmp .lt 13, 3, 16, 0, .null), (6, .iload_n 0, 1, 0, 0, .null), (7, .bipush 57, 2, 0, 0, .int 57), (9, .if_icmp .gt 7, 3, 16, 0, .null), (12, .iconst 1, 1, 0, 0, .int 1), (13, .goto 4, 3, 17, 0, .null), (16, .iconst 0, 1, 0, 0, .int 0), (17, .ireturn, 1, 0, 0, .null)]
def mz_m136 : mz_D := (⟨"TinyFrontModel", "isDigit", "(I)Z"⟩, prog_12_method_19_code, 1, (some (.boolean)), 0, 0, mz_t136)
/-- 137: TinyFrontModel.skip(I)I -/
def mz_t137 : List mz_E := [(0, .iload_n 1, 1, 1, 0, .null), (1, .istore_n 2, 1, 2, 0, .null), (2, .iconst 1, 1, 0, 0, .int 1), (3, .istore_n 3, 1, 3, 0, .null), (4, .iload_n 3, 1, 3, 0, .null), (5, .ifCond .eq 93, 3, 98, 0, .null), (8, .aload_n 0, 1, 0, 0, .null), (9, .iload_n 2, 1, 2, 0, .null), (10, .invokevirtual 209, 3, 134, 2, .ref 10), (13, .istore 4, 2, 4, 0, .null), (15, .iload 4, 2, 4, 0, .null), (17, .bipush 9, 2, 0, 0, .int 9), (19, .if_icmp .eq 31, 3, 50, 0, .null), (22, .iload 4, 2, 4, 0, .null), (24, .bipush 10, 2, 0, 0, .int 10), (26, .if_icmp .eq 24, 3, 50, 0, .null), (29, .iload 4, 2, 4, 0, .null), (31, .bipush 13, 2, 0, 0, .int 13), (33, .if_icmp .eq 17, 3, 50, 0, .null), (36, .iload 4, 2, 4, 0, .null), (38, .bipush 32, 2, 0, 0, .int 32), (40, .if_icmp .eq 10, 3, 50, 0, .null), (43, .iload 4, 2, 4, 0, .null), (45, .bipush 35, 2, 0, 0, .int 35), (47, .if_icmp .ne 7, 3, 54, 0, .null), (50, .iconst 1, 1, 0, 0, .int 1), (51, .goto 4, 3, 55, 0, .null), (54, .iconst 0, 1, 0, 0, .int 0), (55, .istore_n 3, 1, 3, 0, .null), (56, .iload 4, 2, 4, 0, .null), (58, .bipush 35, 2, 0, 0, .int 35), (60, .if_icmp .ne 28, 3, 88, 0, .null), (63, .iload_n 2, 1, 2, 0, .null), (64, .aload_n 0, 1, 0, 0, .null), (65, .getfield 200, 3, 10, 12, .null), (68, .if_icmp .ge 27, 3, 95, 0, .null), (71, .aload_n 0, 1, 0, 0, .null), (72, .getfield 41, 3, 10, 11, .null), (75, .iload_n 2, 1, 2, 0, .null), (76, .iaload, 1, 0, 0, .null), (77, .bipush 10, 2, 0, 0, .int 10), (79, .if_icmp .eq 16, 3, 95, 0, .null), (82, .iinc 2 1, 3, 2, 0, .int 1), (85, .goto (-22), 3, 63, 0, .null), (88, .iload_n 3, 1, 3, 0, .null), (89, .ifCond .eq 6, 3, 95, 0, .null), (92, .iinc 2 1, 3, 2, 0, .int 1), (95, .goto (-91), 3, 4, 0, .null), (98, .iload_n 2, 1, 2, 0, .null), (99, .ireturn, 1, 0, 0, .null)]
def mz_m137 : mz_D := (⟨"TinyFrontModel", "skip", "(I)I"⟩, prog_12_method_20_code, 5, (some (.int)), 1, 21, mz_t137)
/-- 138: TinyFrontModel.wordOf(II)I -/
def mz_t138 : List mz_E := [(0, .lconst 0, 1, 0, 0, .long 0), (1, .lstore_n 3, 1, 3, 0, .null), (2, .iconst 0, 1, 0, 0, .int 0), (3, .istore 5, 2, 5, 0, .null), (5, .iload 5, 2, 5, 0, .null), (7, .iload_n 2, 1, 2, 0, .null), (8, .if_icmp .ge 30, 3, 38, 0, .null), (11, .iload_n 2, 1, 2, 0, .null), (12, .iconst 5, 1, 0, 0, .int 5), (13, .if_icmp .gt 25, 3, 38, 0, .null), (16, .lload_n 3, 1, 3, 0, .null), (17, .bipush 8, 2, 0, 0, .int 8), (19, .lshl, 1, 0, 0, .null), (20, .aload_n 0, 1, 0, 0, .null), (21, .getfield 41, 3, 10, 11, .null), (24, .iload_n 1, 1, 1, 0, .null), (25, .iload 5, 2, 5, 0, .null), (27, .iadd, 1, 0, 0, .null), (28, .iaload, 1, 0, 0, .null), (29, .i2l, 1, 0, 0, .null), (30, .lor, 1, 0, 0, .null), (31, .lstore_n 3, 1, 3, 0, .null), (32, .iinc 5 1, 3, 5, 0, .int 1), (35, .goto (-30), 3, 5, 0, .null), (38, .lload_n 3, 1, 3, 0, .null), (39, .ldc2_w 213, 3, 0, 0, .long 482955849332), (42, .lcmp, 1, 0, 0, .null), (43, .ifCond .ne 5, 3, 48, 0, .null), (46, .iconst 3, 1, 0, 0, .int 3), (47, .ireturn, 1, 0, 0, .null), (48, .lload_n 3, 1, 3, 0, .null), (49, .ldc2_w 215, 3, 0, 0, .long 26982), (52, .lcmp, 1, 0, 0, .null), (53, .ifCond .ne 5, 3, 58, 0, .null), (56, .iconst 4, 1, 0, 0, .int 4), (57, .ireturn, 1, 0, 0, .null), (58, .lload_n 3, 1, 3, 0, .null), (59, .ldc2_w 217, 3, 0, 0, .long 1701606245), (62, .lcmp, 1, 0, 0, .null), (63, .ifCond .ne 5, 3, 68, 0, .null), (66, .iconst 5, 1, 0, 0, .int 5), (67, .ireturn, 1, 0, 0, .null), (68, .lload_n 3, 1, 3, 0, .null), (69, .ldc2_w 219, 3, 0, 0, .long 512852847717), (72, .lcmp, 1, 0, 0, .null), (73, .ifCond .ne 6, 3, 79, 0, .null), (76, .bipush 6, 2, 0, 0, .int 6), (78, .ireturn, 1, 0, 0, .null), (79, .lload_n 3, 1, 3, 0, .null), (80, .ldc2_w 221, 3, 0, 0, .long 422826041707), (83, .lcmp, 1, 0, 0, .null), (84, .ifCond .ne 6, 3, 90, 0, .null), (87, .bipush 7, 2, 0, 0, .int 7), (89, .ireturn, 1, 0, 0, .null), (90, .lload_n 3, 1, 3, 0, .null), (91, .ldc2_w 223, 3, 0, 0, .long 1852143732), (94, .lcmp, 1, 0, 0, .null), (95, .ifCond .ne 8, 3, 103, 0, .null), (98, .bipush 8, 2, 0, 0, .int 8), (100, .goto 4, 3, 104, 0, .null), (103, .iconst 1, 1, 0, 0, .int 1), (104, .ireturn, 1, 0, 0, .null)]
def mz_m138 : mz_D := (⟨"TinyFrontModel", "wordOf", "(II)I"⟩, prog_12_method_21_code, 6, (some (.int)), 0, 0, mz_t138)
/-- 139: TinyFrontModel.slotOf(II)I -/
def mz_t139 : List mz_E := [(0, .iconst 0, 1, 0, 0, .int 0), (1, .istore_n 3, 1, 3, 0, .null), (2, .iload_n 3, 1, 3, 0, .null), (3, .aload_n 0, 1, 0, 0, .null), (4, .getfield 225, 3, 10, 21, .null), (7, .if_icmp .ge 86, 3, 93, 0, .null), (10, .aload_n 0, 1, 0, 0, .null), (11, .getfield 59, 3, 10, 20, .null), (14, .iload_n 3, 1, 3, 0, .null), (15, .iaload, 1, 0, 0, .null), (16, .iload_n 2, 1, 2, 0, .null), (17, .if_icmp .ne 7, 3, 24, 0, .null), (20, .iconst 1, 1, 0, 0, .int 1), (21, .goto 4, 3, 25, 0, .null), (24, .iconst 0, 1, 0, 0, .int 0), (25, .istore 4, 2, 4, 0, .null), (27, .iconst 0, 1, 0, 0, .int 0), (28, .istore 5, 2, 5, 0, .null), (30, .iload 5, 2, 5, 0, .null), (32, .iload_n 2, 1, 2, 0, .null), (33, .if_icmp .ge 47, 3, 80, 0, .null), (36, .iload 4, 2, 4, 0, .null), (38, .ifCond .eq 42, 3, 80, 0, .null), (41, .aload_n 0, 1, 0, 0, .null), (42, .getfield 41, 3, 10, 11, .null), (45, .aload_n 0, 1, 0, 0, .null), (46, .getfield 56, 3, 10, 19, .null), (49, .iload_n 3, 1, 3, 0, .null), (50, .iaload, 1, 0, 0, .null), (51, .iload 5, 2, 5, 0, .null), (53, .iadd, 1, 0, 0, .null), (54, .iaload, 1, 0, 0, .null), (55, .aload_n 0, 1, 0, 0, .null), (56, .getfield 41, 3, 10, 11, .null), (59, .iload_n 1, 1, 1, 0, .null), (60, .iload 5, 2, 5, 0, .null), (62, .iadd, 1, 0, 0, .null), (63, .iaload, 1, 0, 0, .null), (64, .if_icmp .ne 7, 3, 71, 0, .null), (67, .iconst 1, 1, 0, 0, .int 1), (68, .goto 4, 3, 72, 0, .null), (71, .iconst 0, 1, 0, 0, .int 0), (72, .istore 4, 2, 4, 0, .null), (74, .iinc 5 1, 3, 5, 0, .int 1), (77, .goto (-47), 3, 30, 0, .null), (80, .iload 4, 2, 4, 0, .null), (82, .ifCond .eq 5, 3, 87, 0, .null), (85, .iload_n 3, 1, 3, 0, .null), (86, .ireturn, 1, 0, 0, .null), (87, .iinc 3 1, 3, 3, 0, .int 1), (90, .goto (-88), 3, 2, 0, .null), (93, .aload_n 0, 1, 0, 0, .null), (94, .getfield 225, 3, 10, 21, .null), (97, .bipush 32, 2, 0, 0, .int 32), (99, .if_icmp .ne 5, 3, 104, 0, .null), (102, .iconst (-1), 1, 0, 0, .int (-1)), (103, .ireturn, 1, 0, 0, .null), (104, .aload_n 0, 1, 0, 0, .null), (105, .getfield 56, 3, 10, 19, .null), (108, .aload_n 0, 1, 0, 0, .null), (109, .getfield 225, 3, 10, 21, .null), (112, .iload_n 1, 1, 1, 0, .null), (113, .iastore, 1, 0, 0, .null), (114, .aload_n 0, 1, 0, 0, .null), (115, .getfield 59, 3, 10, 20, .null), (118, .aload_n 0, 1, 0, 0, .null), (119, .getfield 225, 3, 10, 21, .null), (122, .iload_n 2, 1, 2, 0, .null), (123, .iastore, 1, 0, 0, .null), (124, .aload_n 0, 1, 0, 0, .null), (125, .dup, 1, 0, 0, .null), (126, .getfield 225, 3, 10, 21, .null), (129, .iconst 1, 1, 0, 0, .int 1), (130, .iadd, 1, 0, 0, .null), (131, .putfield 225, 3, 10, 21, .null), (134, .aload_n 0, 1, 0, 0, .null), (135, .getfield 225, 3, 10, 21, .null), (138, .iconst 1, 1, 0, 0, .int 1), (139, .isub, 1, 0, 0, .null), (140, .ireturn, 1, 0, 0, .null)]
def mz_m139 : mz_D := (⟨"TinyFrontModel", "slotOf", "(II)I"⟩, prog_12_method_22_code, 6, (some (.int)), 0, 0, mz_t139)
/-- 140: TinyFrontModel.signKind(II)I -/
def mz_t140 : List mz_E := [(0, .iload_n 0, 1, 0, 0, .null), (1, .lookupswitch 207 #[(33, 189), (37, 186), (38, 144), (40, 195), (41, 198), (42, 180), (43, 174), (45, 177), (47, 183), (59, 192), (60, 171), (61, 157), (123, 201), (124, 131), (125, 204)], 131, 0, 0, .null), (132, .iload_n 1, 1, 1, 0, .null), (133, .bipush 124, 2, 0, 0, .int 124), (135, .if_icmp .ne 8, 3, 143, 0, .null), (138, .bipush 9, 2, 0, 0, .int 9), (140, .goto 4, 3, 144, 0, .null), (143, .iconst (-1), 1, 0, 0, .int (-1)), (144, .ireturn, 1, 0, 0, .null), (145, .iload_n 1, 1, 1, 0, .null), (146, .bipush 38, 2, 0, 0, .int 38), (148, .if_icmp .ne 8, 3, 156, 0, .null), (151, .bipush 10, 2, 0, 0, .int 10), (153, .goto 4, 3, 157, 0, .null), (156, .iconst (-1), 1, 0, 0, .int (-1)), (157, .ireturn, 1, 0, 0, .null), (158, .iload_n 1, 1, 1, 0, .null), (159, .bipush 61, 2, 0, 0, .int 61), (161, .if_icmp .ne 8, 3, 169, 0, .null), (164, .bipush 11, 2, 0, 0, .int 11), (166, .goto 5, 3, 171, 0, .null), (169, .bipush 19, 2, 0, 0, .int 19), (171, .ireturn, 1, 0, 0, .null), (172, .bipush 12, 2, 0, 0, .int 12), (174, .ireturn, 1, 0, 0, .null), (175, .bipush 13, 2, 0, 0, .int 13), (177, .ireturn, 1, 0, 0, .null), (178, .bipush 14, 2, 0, 0, .int 14), (180, .ireturn, 1, 0, 0, .null), (181, .bipush 15, 2, 0, 0, .int 15), (183, .ireturn, 1, 0, 0, .null), (184, .bipush 16, 2, 0, 0, .int 16), (186, .ireturn, 1, 0, 0, .null), (187, .bipush 17, 2, 0, 0, .int 17), (189, .ireturn, 1, 0, 0, .null), (190, .bipush 18, 2, 0, 0, .int 18), (192, .ireturn, 1, 0, 0, .null), (193, .bipush 20, 2, 0, 0, .int 20), (195, .ireturn, 1, 0, 0, .null), (196, .bipush 21, 2, 0, 0, .int 21), (198, .ireturn, 1, 0, 0, .null), (199, .bipush 22, 2, 0, 0, .int 22), (201, .ireturn, 1, 0, 0, .null), (202, .bipush 23, 2, 0, 0, .int 23), (204, .ireturn, 1, 0, 0, .null), (205, .bipush 24, 2, 0, 0, .int 24), (207, .ireturn, 1, 0, 0, .null), (208, .iconst (-1), 1, 0, 0, .int (-1)), (209, .ireturn, 1, 0, 0, .null)]
def mz_m140 : mz_D := (⟨"TinyFrontModel", "signKind", "(II)I"⟩, prog_12_method_23_code, 2, (some (.int)), 0, 0, mz_t140)
/-- 141: TinyFrontModel.add(IIII)V -/
def mz_t141 : List mz_E := [(0, .aload_n 0, 1, 0, 0, .null), (1, .getfield 44, 3, 10, 14, .null), (4, .aload_n 0, 1, 0, 0, .null), (5, .getfield 228, 3, 10, 18, .null), (8, .iload_n 1, 1, 1, 0, .null), (9, .iastore, 1, 0, 0, .null), (10, .aload_n 0, 1, 0, 0, .null), (11, .getfield 47, 3, 10, 15, .null), (14, .aload_n 0, 1, 0, 0, .null), (15, .getfield 228, 3, 10, 18, .null), (18, .iload_n 2, 1, 2, 0, .null), (19, .iastore, 1, 0, 0, .null), (20, .aload_n 0, 1, 0, 0, .null), (21, .getfield 50, 3, 10, 16, .null), (24, .aload_n 0, 1, 0, 0, .null), (25, .getfield 228, 3, 10, 18, .null), (28, .iload_n 3, 1, 3, 0, .null), (29, .iastore, 1, 0, 0, .null), (30, .aload_n 0, 1, 0, 0, .null), (31, .getfield 53, 3, 10, 17, .null), (34, .aload_n 0, 1, 0, 0, .null), (35, .getfield 228, 3, 10, 18, .null), (38, .iload 4, 2, 4, 0, .null), (40, .iastore, 1, 0, 0, .null), (41, .aload_n 0, 1, 0, 0, .null), (42, .dup, 1, 0, 0, .null), (43, .getfield 228, 3, 10, 18, .null), (46, .iconst 1, 1, 0, 0, .int 1), (47, .iadd, 1, 0, 0, .null), (48, .putfield 228, 3, 10, 18, .null), (51, .return_, 1, 0, 0, .null)]
def mz_m141 : mz_D := (⟨"TinyFrontModel", "add", "(IIII)V"⟩, prog_12_method_24_code, 5, none, 0, 0, mz_t141)
/-- 142: TinyFrontModel.readName(I)Z -/
def mz_t142 : List mz_E := [(0, .iload_n 1, 1, 1, 0, .null), (1, .istore_n 2, 1, 2, 0, .null), (2, .aload_n 0, 1, 0, 0, .null), (3, .iload_n 2, 1, 2, 0, .null), (4, .invokevirtual 209, 3, 134, 2, .ref 10), (7, .invokestatic 231, 3, 135, 1, .null), (10, .ifCond .ne 14, 3, 24, 0, .null), (13, .aload_n 0, 1, 0, 0, .null), (14, .iload_n 2, 1, 2, 0, .null), (15, .invokevirtual 209, 3, 134, 2, .ref 10), (18, .invokestatic 234, 3, 136, 1, .null), (21, .ifCond .eq 9, 3, 30, 0, .null), (24, .iinc 2 1, 3, 2, 0, .int 1), (27, .goto (-25), 3, 2, 0, .null), (30, .aload_n 0, 1, 0, 0, .null), (31, .iload_n 1, 1, 1, 0, .null), (32, .iload_n 2, 1, 2, 0, .null), (33, .iload_n 1, 1, 1, 0, .null), (34, .isub, 1, 0, 0, .null), (35, .invokevirtual 237, 3, 138, 3, .ref 10), (38, .istore_n 3, 1, 3, 0, .null), (39, .iconst 0, 1, 0, 0, .int 0), (40, .istore 4, 2, 4, 0, .null), (42, .iload_n 3, 1, 3, 0, .null), (43, .iconst 1, 1, 0, 0, .int 1), (44, .if_icmp .ne 25, 3, 69, 0, .null), (47, .iload_n 2, 1, 2, 0, .null), (48, .iload_n 1, 1, 1, 0, .null), (49, .isub, 1, 0, 0, .null), (50, .bipush 16, 2, 0, 0, .int 16), (52, .if_icmp .le 7, 3, 59, 0, .null), (55, .iconst (-1), 1, 0, 0, .int (-1)), (56, .goto 11, 3, 67, 0, .null), (59, .aload_n 0, 1, 0, 0, .null), (60, .iload_n 1, 1, 1, 0, .null), (61, .iload_n 2, 1, 2, 0, .null), (62, .iload_n 1, 1, 1, 0, .null), (63, .isub, 1, 0, 0, .null), (64, .invokevirtual 240, 3, 139, 3, .ref 10), (67, .istore 4, 2, 4, 0, .null), (69, .iload 4, 2, 4, 0, .null), (71, .ifCond .ge 5, 3, 76, 0, .null), (74, .iconst 0, 1, 0, 0, .int 0), (75, .ireturn, 1, 0, 0, .null), (76, .aload_n 0, 1, 0, 0, .null), (77, .iload_n 3, 1, 3, 0, .null), (78, .iload_n 1, 1, 1, 0, .null), (79, .iload_n 2, 1, 2, 0, .null), (80, .iload_n 1, 1, 1, 0, .null), (81, .isub, 1, 0, 0, .null), (82, .iload 4, 2, 4, 0, .null), (84, .invokevirtual 243, 3, 141, 5, .ref 10), (87, .iconst 1, 1, 0, 0, .int 1), (88, .ireturn, 1, 0, 0, .null)]
def mz_m142 : mz_D := (⟨"TinyFrontModel", "readName", "(I)Z"⟩, prog_12_method_25_code, 5, (some (.boolean)), 1, 25, mz_t142)
/-- 143: TinyFrontModel.readToken(I)Z -/
def mz_t143 : List mz_E := [(0, .aload_n 0, 1, 0, 0, .null), (1, .iload_n 1, 1, 1, 0, .null), (2, .invokevirtual 209, 3, 134, 2, .ref 10), (5, .istore_n 2, 1, 2, 0, .null), (6, .iload_n 2, 1, 2, 0, .null), (7, .invokestatic 231, 3, 135, 1, .null), (10, .ifCond .eq 9, 3, 19, 0, .null), (13, .aload_n 0, 1, 0, 0, .null), (14, .iload_n 1, 1, 1, 0, .null), (15, .invokevirtual 247, 3, 142, 2, .ref 10), (18, .ireturn, 1, 0, 0, .null), (19, .iload_n 2, 1, 2, 0, .null), (20, .invokestatic 234, 3, 136, 1, .null), (23, .ifCond .eq 54, 3, 77, 0, .null), (26, .iload_n 1, 1, 1, 0, .null), (27, .istore_n 3, 1, 3, 0, .null), (28, .iconst 0, 1, 0, 0, .int 0), (29, .istore 4, 2, 4, 0, .null), (31, .aload_n 0, 1, 0, 0, .null), (32, .iload_n 3, 1, 3, 0, .null), (33, .invokevirtual 209, 3, 134, 2, .ref 10), (36, .invokestatic 234, 3, 136, 1, .null), (39, .ifCond .eq 25, 3, 64, 0, .null), (42, .bipush 10, 2, 0, 0, .int 10), (44, .iload 4, 2, 4, 0, .null), (46, .imul, 1, 0, 0, .null), (47, .aload_n 0, 1, 0, 0, .null), (48, .iload_n 3, 1, 3, 0, .null), (49, .invokevirtual 209, 3, 134, 2, .ref 10), (52, .iadd, 1, 0, 0, .null), (53, .bipush 48, 2, 0, 0, .int 48), (55, .isub, 1, 0, 0, .null), (56, .istore 4, 2, 4, 0, .null), (58, .iinc 3 1, 3, 3, 0, .int 1), (61, .goto (-30), 3, 31, 0, .null), (64, .aload_n 0, 1, 0, 0, .null), (65, .iconst 2, 1, 0, 0, .int 2), (66, .iload_n 1, 1, 1, 0, .null), (67, .iload_n 3, 1, 3, 0, .null), (68, .iload_n 1, 1, 1, 0, .null), (69, .isub, 1, 0, 0, .null), (70, .iload 4, 2, 4, 0, .null), (72, .invokevirtual 243, 3, 141, 5, .ref 10), (75, .iconst 1, 1, 0, 0, .int 1), (76, .ireturn, 1, 0, 0, .null), (77, .iload_n 2, 1, 2, 0, .null), (78, .aload_n 0, 1, 0, 0, .null), (79, .iload_n 1, 1, 1, 0, .null), (80, .iconst 1, 1, 0, 0, .int 1), (81, .iadd, 1, 0, 0, .null), (82, .invokevirtual 209, 3, 134, 2, .ref 10), (85, .invokestatic 250, 3, 140, 2, .null), (88, .istore_n 3, 1, 3, 0, .null), (89, .iload_n 3, 1, 3, 0, .null), (90, .ifCond .ge 5, 3, 95, 0, .null), (93, .iconst 0, 1, 0, 0, .int 0), (94, .ireturn, 1, 0, 0, .null), (95, .aload_n 0, 1, 0, 0, .null), (96, .iload_n 3, 1, 3, 0, .null), (97, .iload_n 1, 1, 1, 0, .null), (98, .iload_n 3, 1, 3, 0, .null), (99, .bipush 9, 2, 0, 0, .int 9), (101, .if_icmp .lt 13, 3, 114, 0, .null), (104, .iload_n 3, 1, 3, 0, .null), (105, .bipush 11, 2, 0, 0, .int 11), (107, .if_icmp .gt 7, 3, 114, 0, .null), (110, .iconst 2, 1, 0, 0, .int 2), (111, .goto 4, 3, 115, 0, .null), (114, .iconst 1, 1, 0, 0, .int 1), (115, .iconst 0, 1, 0, 0, .int 0), (116, .invokevirtual 243, 3, 141, 5, .ref 10), (119, .iconst 1, 1, 0, 0, .int 1), (120, .ireturn, 1, 0, 0, .null)]
def mz_m143 : mz_D := (⟨"TinyFrontModel", "readToken", "(I)Z"⟩, prog_12_method_26_code, 5, (some (.boolean)), 2, 49, mz_t143)
/-- 144: TinyFrontModel.lex()I -/
def mz_t144 : List mz_E := [(0, .aload_n 0, 1, 0, 0, .null), (1, .invokevirtual 203, 3, 131, 1, .ref 10), (4, .aload_n 0, 1, 0, 0, .null), (5, .iconst 0, 1, 0, 0, .int 0), (6, .putfield 206, 3, 10, 56, .int 1), (9, .aload_n 0, 1, 0, 0, .null), (10, .iconst 0, 1, 0, 0, .int 0), (11, .putfield 228, 3, 10, 18, .null), (14, .aload_n 0, 1, 0, 0, .null), (15, .iconst 0, 1, 0, 0, .int 0), (16, .putfield 225, 3, 10, 21, .null), (19, .aload_n 0, 1, 0, 0, .null), (20, .iconst 0, 1, 0, 0, .int 0), (21, .invokevirtual 253, 3, 137, 2, .ref 10), (24, .istore_n 1, 1, 1, 0, .null), (25, .iload_n 1, 1, 1, 0, .null), (26, .aload_n 0, 1, 0, 0, .null), (27, .getfield 200, 3, 10, 12, .null), (30, .if_icmp .ge 37, 3, 67, 0, .null), (33, .aload_n 0, 1, 0, 0, .null), (34, .iload_n 1, 1, 1, 0, .null), (35, .invokevirtual 256, 3, 143, 2, .ref 10), (38, .ifCond .ne 8, 3, 46, 0, .null), (41, .bipush (-10), 2, 0, 0, .int (-10)), (43, .iload_n 1, 1, 1, 0, .null), (44, .isub, 1, 0, 0, .null), (45, .ireturn, 1, 0, 0, .null), (46, .aload_n 0, 1, 0, 0, .null), (47, .iload_n 1, 1, 1, 0, .null), (48, .aload_n 0, 1, 0, 0, .null), (49, .getfield 50, 3, 10, 16, .null), (52, .aload_n 0, 1, 0, 0, .null), (53, .getfield 228, 3, 10, 18, .null), (56, .iconst 1, 1, 0, 0, .int 1), (57, .isub, 1, 0, 0, .null), (58, .iaload, 1, 0, 0, .null), (59, .iadd, 1, 0, 0, .null), (60, .invokevirtual 253, 3, 137, 2, .ref 10), (63, .istore_n 1, 1, 1, 0, .null), (64, .goto (-39), 3, 25, 0, .null), (67, .aload_n 0, 1, 0, 0, .null), (68, .getfield 44, 3, 10, 14, .null), (71, .aload_n 0, 1, 0, 0, .null), (72, .getfield 228, 3, 10, 18, .null), (75, .iconst 0, 1, 0, 0, .int 0), (76, .iastore, 1, 0, 0, .null), (77, .aload_n 0, 1, 0, 0, .null), (78, .getfield 47, 3, 10, 15, .null), (81, .aload_n 0, 1, 0, 0, .null), (82, .getfield 228, 3, 10, 18, .null), (85, .aload_n 0, 1, 0, 0, .null), (86, .getfield 200, 3, 10, 12, .null), (89, .iastore, 1, 0, 0, .null), (90, .aload_n 0, 1, 0, 0, .null), (91, .getfield 50, 3, 10, 16, .null), (94, .aload_n 0, 1, 0, 0, .null), (95, .getfield 228, 3, 10, 18, .null), (98, .iconst 0, 1, 0, 0, .int 0), (99, .iastore, 1, 0, 0, .null), (100, .aload_n 0, 1, 0, 0, .null), (101, .getfield 53, 3, 10, 17, .null), (104, .aload_n 0, 1, 0, 0, .null), (105, .getfield 228, 3, 10, 18, .null), (108, .iconst 0, 1, 0, 0, .int 0), (109, .iastore, 1, 0, 0, .null), (110, .aload_n 0, 1, 0, 0, .null), (111, .iconst 1, 1, 0, 0, .int 1), (112, .putfield 190, 3, 10, 13, .int 1), (115, .aload_n 0, 1, 0, 0, .null), (116, .getfield 228, 3, 10, 18, .null), (119, .ireturn, 1, 0, 0, .null)]
def mz_m144 : mz_D := (⟨"TinyFrontModel", "lex", "()I"⟩, prog_12_method_27_code, 2, (some (.int)), 3, 73, mz_t144)
/-- 145: TinyFrontModel.token(II)I -/
def mz_t145 : List mz_E := [(0, .aload_n 0, 1, 0, 0, .null), (1, .getfield 190, 3, 10, 13, .null), (4, .ifCond .eq 15, 3, 19, 0, .null), (7, .iload_n 1, 1, 1, 0, .null), (8, .ifCond .lt 11, 3, 19, 0, .null), (11, .iload_n 1, 1, 1, 0, .null), (12, .aload_n 0, 1, 0, 0, .null), (13, .getfield 228, 3, 10, 18, .null), (16, .if_icmp .le 5, 3, 21, 0, .null), (19, .iconst (-1), 1, 0, 0, .int (-1)), (20, .ireturn, 1, 0, 0, .null), (21, .iload_n 2, 1, 2, 0, .null), (22, .tableswitch 58 0 3 #[30, 37, 44, 51], 30, 0, 0, .null), (52, .aload_n 0, 1, 0, 0, .null), (53, .getfield 44, 3, 10, 14, .null), (56, .iload_n 1, 1, 1, 0, .null), (57, .iaload, 1, 0, 0, .null), (58, .ireturn, 1, 0, 0, .null), (59, .aload_n 0, 1, 0, 0, .null), (60, .getfield 47, 3, 10, 15, .null), (63, .iload_n 1, 1, 1, 0, .null), (64, .iaload, 1, 0, 0, .null), (65, .ireturn, 1, 0, 0, .null), (66, .aload_n 0, 1, 0, 0, .null), (67, .getfield 50, 3, 10, 16, .null), (70, .iload_n 1, 1, 1, 0, .null), (71, .iaload, 1, 0, 0, .null), (72, .ireturn, 1, 0, 0, .null), (73, .aload_n 0, 1, 0, 0, .null), (74, .getfield 53, 3, 10, 17, .null), (77, .iload_n 1, 1, 1, 0, .null), (78, .iaload, 1, 0, 0, .null), (79, .ireturn, 1, 0, 0, .null), (80, .iconst (-1), 1, 0, 0, .int (-1)), (81, .ireturn, 1, 0, 0, .null)]
def mz_m145 : mz_D := (⟨"TinyFrontModel", "token", "(II)I"⟩, prog_12_method_28_code, 3, (some (.int)), 0, 0, mz_t145)
/-- 146: TinyFrontModel.slots()I -/
def mz_t146 : List mz_E := [(0, .aload_n 0, 1, 0, 0, .null), (1, .getfield 190, 3, 10, 13, .null), (4, .ifCond .eq 10, 3, 14, 0, .null), (7, .aload_n 0, 1, 0, 0, .null), (8, .getfield 225, 3, 10, 21, .null), (11, .goto 4, 3, 15, 0, .null), (14, .iconst 0, 1, 0, 0, .int 0), (15, .ireturn, 1, 0, 0, .null)]
def mz_m146 : mz_D := (⟨"TinyFrontModel", "slots", "()I"⟩, prog_12_method_29_code, 1, (some (.int)), 0, 0, mz_t146)
/-- 147: TinyFrontModel.raw(II)I -/
def mz_t147 : List mz_E := [(0, .aload_n 0, 1, 0, 0, .null), (1, .getfield 72, 3, 10, 27, .null), (4, .aload_n 0, 1, 0, 0, .null), (5, .getfield 259, 3, 10, 33, .null), (8, .iload_n 1, 1, 1, 0, .null), (9, .iastore, 1, 0, 0, .null), (10, .aload_n 0, 1, 0, 0, .null), (11, .getfield 75, 3, 10, 28, .null), (14, .aload_n 0, 1, 0, 0, .null), (15, .getfield 259, 3, 10, 33, .null), (18, .iload_n 2, 1, 2, 0, .null), (19, .iastore, 1, 0, 0, .null), (20, .aload_n 0, 1, 0, 0, .null), (21, .getfield 78, 3, 10, 29, .null), (24, .aload_n 0, 1, 0, 0, .null), (25, .getfield 259, 3, 10, 33, .null), (28, .iconst (-1), 1, 0, 0, .int (-1)), (29, .iastore, 1, 0, 0, .null), (30, .aload_n 0, 1, 0, 0, .null), (31, .getfield 81, 3, 10, 30, .null), (34, .aload_n 0, 1, 0, 0, .null), (35, .getfield 259, 3, 10, 33, .null), (38, .iconst (-1), 1, 0, 0, .int (-1)), (39, .iastore, 1, 0, 0, .null), (40, .aload_n 0, 1, 0, 0, .null), (41, .getfield 84, 3, 10, 31, .null), (44, .aload_n 0, 1, 0, 0, .null), (45, .getfield 259, 3, 10, 33, .null), (48, .iconst (-1), 1, 0, 0, .int (-1)), (49, .iastore, 1, 0, 0, .null), (50, .aload_n 0, 1, 0, 0, .null), (51, .getfield 87, 3, 10, 32, .null), (54, .aload_n 0, 1, 0, 0, .null), (55, .getfield 259, 3, 10, 33, .null), (58, .iconst (-1), 1, 0, 0, .int (-1)), (59, .iastore, 1, 0, 0, .null), (60, .aload_n 0, 1, 0, 0, .null), (61, .dup, 1, 0, 0, .null), (62, .getfield 259, 3, 10, 33, .null), (65, .iconst 1, 1, 0, 0, .int 1), (66, .iadd, 1, 0, 0, .null), (67, .putfield 259, 3, 10, 33, .null), (70, .aload_n 0, 1, 0, 0, .null), (71, .getfield 259, 3, 10, 33, .null), (74, .iconst 1, 1, 0, 0, .int 1), (75, .isub, 1, 0, 0, .null), (76, .ireturn, 1, 0, 0, .null)]
def mz_m147 : mz_D := (⟨"TinyFrontModel", "raw", "(II)I"⟩, prog_12_method_30_code, 3, (some (.int)), 0, 0, mz_t147)
/-- 148: TinyFrontModel.hang(II)V -/
def mz_t148 : List mz_E := [(0, .aload_n 0, 1, 0, 0, .null), (1, .getfield 87, 3, 10, 32, .null), (4, .iload_n 2, 1, 2, 0, .null), (5, .iload_n 1, 1, 1, 0, .null), (6, .iastore, 1, 0, 0, .null), (7, .aload_n 0, 1, 0, 0, .null), (8, .getfield 78, 3, 10, 29, .null), (11, .iload_n 1, 1, 1, 0, .null), (12, .iaload, 1, 0, 0, .null), (13, .ifCond .ge 13, 3, 26, 0, .null), (16, .aload_n 0, 1, 0, 0, .null), (17, .getfield 78, 3, 10, 29, .null), (20, .iload_n 1, 1, 1, 0, .null), (21, .iload_n 2, 1, 2, 0, .null), (22, .iastore, 1, 0, 0, .null), (23, .goto 15, 3, 38, 0, .null), (26, .aload_n 0, 1, 0, 0, .null), (27, .getfield 84, 3, 10, 31, .null), (30, .aload_n 0, 1, 0, 0, .null), (31, .getfield 81, 3, 10, 30, .null), (34, .iload_n 1, 1, 1, 0, .null), (35, .iaload, 1, 0, 0, .null), (36, .iload_n 2, 1, 2, 0, .null), (37, .iastore, 1, 0, 0, .null), (38, .aload_n 0, 1, 0, 0, .null), (39, .getfield 81, 3, 10, 30, .null), (42, .iload_n 1, 1, 1, 0, .null), (43, .iload_n 2, 1, 2, 0, .null), (44, .iastore, 1, 0, 0, .null), (45, .return_, 1, 0, 0, .null)]
def mz_m148 : mz_D := (⟨"TinyFrontModel", "hang", "(II)V"⟩, prog_12_method_31_code, 3, none, 0, 0, mz_t148)
/-- 149: TinyFrontModel.thing(II)I -/
def mz_t149 : List mz_E := [(0, .aload_n 0, 1, 0, 0, .null), (1, .getfield 65, 3, 10, 23, .null), (4, .aload_n 0, 1, 0, 0, .null), (5, .getfield 262, 3, 10, 24, .null), (8, .iload_n 2, 1, 2, 0, .null), (9, .isub, 1, 0, 0, .null), (10, .iload_n 1, 1, 1, 0, .null), (11, .iadd, 1, 0, 0, .null), (12, .iaload, 1, 0, 0, .null), (13, .ireturn, 1, 0, 0, .null)]
def mz_m149 : mz_D := (⟨"TinyFrontModel", "thing", "(II)I"⟩, prog_12_method_32_code, 3, (some (.int)), 0, 0, mz_t149)
/-- 150: TinyFrontModel.one(III)I -/
def mz_t150 : List mz_E := [(0, .aload_n 0, 1, 0, 0, .null), (1, .iload_n 1, 1, 1, 0, .null), (2, .iload_n 2, 1, 2, 0, .null), (3, .invokevirtual 265, 3, 147, 3, .ref 10), (6, .istore 4, 2, 4, 0, .null), (8, .aload_n 0, 1, 0, 0, .null), (9, .iload 4, 2, 4, 0, .null), (11, .iload_n 3, 1, 3, 0, .null), (12, .invokevirtual 268, 3, 148, 3, .ref 10), (15, .iload 4, 2, 4, 0, .null), (17, .ireturn, 1, 0, 0, .null)]
def mz_m150 : mz_D := (⟨"TinyFrontModel", "one", "(III)I"⟩, prog_12_method_33_code, 5, (some (.int)), 1, 22, mz_t150)
/-- 151: TinyFrontModel.two(II)I -/
def mz_t151 : List mz_E := [(0, .aload_n 0, 1, 0, 0, .null), (1, .iload_n 1, 1, 1, 0, .null), (2, .aload_n 0, 1, 0, 0, .null), (3, .iconst 1, 1, 0, 0, .int 1), (4, .iload_n 2, 1, 2, 0, .null), (5, .invokevirtual 272, 3, 149, 3, .ref 10), (8, .invokevirtual 265, 3, 147, 3, .ref 10), (11, .istore_n 3, 1, 3, 0, .null), (12, .aload_n 0, 1, 0, 0, .null), (13, .iload_n 3, 1, 3, 0, .null), (14, .aload_n 0, 1, 0, 0, .null), (15, .iconst 0, 1, 0, 0, .int 0), (16, .iload_n 2, 1, 2, 0, .null), (17, .invokevirtual 272, 3, 149, 3, .ref 10), (20, .invokevirtual 268, 3, 148, 3, .ref 10), (23, .aload_n 0, 1, 0, 0, .null), (24, .iload_n 3, 1, 3, 0, .null), (25, .aload_n 0, 1, 0, 0, .null), (26, .iconst 2, 1, 0, 0, .int 2), (27, .iload_n 2, 1, 2, 0, .null), (28, .invokevirtual 272, 3, 149, 3, .ref 10), (31, .invokevirtual 268, 3, 148, 3, .ref 10), (34, .iload_n 3, 1, 3, 0, .null), (35, .ireturn, 1, 0, 0, .null)]
def mz_m151 : mz_D := (⟨"TinyFrontModel", "two", "(II)I"⟩, prog_12_method_34_code, 4, (some (.int)), 1, 22, mz_t151)
/-- 152: TinyFrontModel.statement(I)I -/
def mz_t152 : List mz_E := [(0, .aload_n 0, 1, 0, 0, .null), (1, .getfield 13, 3, 10, 1, .null), (4, .iload_n 1, 1, 1, 0, .null), (5, .iaload, 1, 0, 0, .null), (6, .istore_n 2, 1, 2, 0, .null), (7, .iload_n 1, 1, 1, 0, .null), (8, .tableswitch 152 3 8 #[40, 58, 76, 76, 76, 140], 40, 0, 0, .null), (48, .aload_n 0, 1, 0, 0, .null), (49, .iconst 1, 1, 0, 0, .int 1), (50, .aload_n 0, 1, 0, 0, .null), (51, .iconst 0, 1, 0, 0, .int 0), (52, .iload_n 2, 1, 2, 0, .null), (53, .invokevirtual 272, 3, 149, 3, .ref 10), (56, .aload_n 0, 1, 0, 0, .null), (57, .iconst 2, 1, 0, 0, .int 2), (58, .iload_n 2, 1, 2, 0, .null), (59, .invokevirtual 272, 3, 149, 3, .ref 10), (62, .invokevirtual 275, 3, 150, 4, .ref 10), (65, .ireturn, 1, 0, 0, .null), (66, .aload_n 0, 1, 0, 0, .null), (67, .iconst 2, 1, 0, 0, .int 2), (68, .aload_n 0, 1, 0, 0, .null), (69, .iconst 0, 1, 0, 0, .int 0), (70, .iload_n 2, 1, 2, 0, .null), (71, .invokevirtual 272, 3, 149, 3, .ref 10), (74, .aload_n 0, 1, 0, 0, .null), (75, .iconst 1, 1, 0, 0, .int 1), (76, .iload_n 2, 1, 2, 0, .null), (77, .invokevirtual 272, 3, 149, 3, .ref 10), (80, .invokevirtual 275, 3, 150, 4, .ref 10), (83, .ireturn, 1, 0, 0, .null), (84, .aload_n 0, 1, 0, 0, .null), (85, .iload_n 1, 1, 1, 0, .null), (86, .bipush 7, 2, 0, 0, .int 7), (88, .if_icmp .ne 7, 3, 95, 0, .null), (91, .iconst 4, 1, 0, 0, .int 4), (92, .goto 4, 3, 96, 0, .null), (95, .iconst 3, 1, 0, 0, .int 3), (96, .aload_n 0, 1, 0, 0, .null), (97, .iconst 0, 1, 0, 0, .int 0), (98, .iload_n 2, 1, 2, 0, .null), (99, .invokevirtual 272, 3, 149, 3, .ref 10), (102, .invokevirtual 265, 3, 147, 3, .ref 10), (105, .istore_n 3, 1, 3, 0, .null), (106, .aload_n 0, 1, 0, 0, .null), (107, .iload_n 3, 1, 3, 0, .null), (108, .aload_n 0, 1, 0, 0, .null), (109, .iconst 2, 1, 0, 0, .int 2), (110, .iload_n 2, 1, 2, 0, .null), (111, .invokevirtual 272, 3, 149, 3, .ref 10), (114, .invokevirtual 268, 3, 148, 3, .ref 10), (117, .aload_n 0, 1, 0, 0, .null), (118, .iload_n 3, 1, 3, 0, .null), (119, .aload_n 0, 1, 0, 0, .null), (120, .iconst 4, 1, 0, 0, .int 4), (121, .iload_n 2, 1, 2, 0, .null), (122, .invokevirtual 272, 3, 149, 3, .ref 10), (125, .invokevirtual 268, 3, 148, 3, .ref 10), (128, .iload_n 1, 1, 1, 0, .null), (129, .bipush 6, 2, 0, 0, .int 6), (131, .if_icmp .ne 15, 3, 146, 0, .null), (134, .aload_n 0, 1, 0, 0, .null), (135, .iload_n 3, 1, 3, 0, .null), (136, .aload_n 0, 1, 0, 0, .null), (137, .bipush 6, 2, 0, 0, .int 6), (139, .iload_n 2, 1, 2, 0, .null), (140, .invokevirtual 272, 3, 149, 3, .ref 10), (143, .invokevirtual 268, 3, 148, 3, .ref 10), (146, .iload_n 3, 1, 3, 0, .null), (147, .ireturn, 1, 0, 0, .null), (148, .aload_n 0, 1, 0, 0, .null), (149, .iconst 5, 1, 0, 0, .int 5), (150, .aload_n 0, 1, 0, 0, .null), (151, .iconst 0, 1, 0, 0, .int 0), (152, .iload_n 2, 1, 2, 0, .null), (153, .invokevirtual 272, 3, 149, 3, .ref 10), (156, .invokevirtual 265, 3, 147, 3, .ref 10), (159, .ireturn, 1, 0, 0, .null), (160, .aload_n 0, 1, 0, 0, .null), (161, .bipush 6, 2, 0, 0, .int 6), (163, .aload_n 0, 1, 0, 0, .null), (164, .iconst 0, 1, 0, 0, .int 0), (165, .iload_n 2, 1, 2, 0, .null), (166, .invokevirtual 272, 3, 149, 3, .ref 10), (169, .invokevirtual 265, 3, 147, 3, .ref 10), (172, .ireturn, 1, 0, 0, .null)]
def mz_m152 : mz_D := (⟨"TinyFrontModel", "statement", "(I)I"⟩, prog_12_method_35_code, 4, (some (.int)), 2, 46, mz_t152)
/-- 153: TinyFrontModel.reduce(I)I -/
def mz_t153 : List mz_E := [(0, .aload_n 0, 1, 0, 0, .null), (1, .getfield 13, 3, 10, 1, .null), (4, .iload_n 1, 1, 1, 0, .null), (5, .iaload, 1, 0, 0, .null), (6, .istore_n 2, 1, 2, 0, .null), (7, .iload_n 1, 1, 1, 0, .null), (8, .iconst 3, 1, 0, 0, .int 3), (9, .if_icmp .lt 15, 3, 24, 0, .null), (12, .iload_n 1, 1, 1, 0, .null), (13, .bipush 9, 2, 0, 0, .int 9), (15, .if_icmp .gt 9, 3, 24, 0, .null), (18, .aload_n 0, 1, 0, 0, .null), (19, .iload_n 1, 1, 1, 0, .null), (20, .invokevirtual 279, 3, 152, 2, .ref 10), (23, .ireturn, 1, 0, 0, .null), (24, .iload_n 1, 1, 1, 0, .null), (25, .tableswitch 282 1 31 #[139, 146, 282, 282, 282, 282, 282, 282, 282, 282, 169, 193, 282, 201, 282, 209, 209, 282, 219, 219, 282, 229, 229, 229, 282, 239, 239, 282, 260, 260, 275], 139, 0, 0, .null), (164, .aload_n 0, 1, 0, 0, .null), (165, .iconst 0, 1, 0, 0, .int 0), (166, .iconst 0, 1, 0, 0, .int 0), (167, .invokevirtual 265, 3, 147, 3, .ref 10), (170, .ireturn, 1, 0, 0, .null), (171, .aload_n 0, 1, 0, 0, .null), (172, .aload_n 0, 1, 0, 0, .null), (173, .iconst 0, 1, 0, 0, .int 0), (174, .iload_n 2, 1, 2, 0, .null), (175, .invokevirtual 272, 3, 149, 3, .ref 10), (178, .aload_n 0, 1, 0, 0, .null), (179, .iconst 1, 1, 0, 0, .int 1), (180, .iload_n 2, 1, 2, 0, .null), (181, .invokevirtual 272, 3, 149, 3, .ref 10), (184, .invokevirtual 268, 3, 148, 3, .ref 10), (187, .aload_n 0, 1, 0, 0, .null), (188, .iconst 0, 1, 0, 0, .int 0), (189, .iload_n 2, 1, 2, 0, .null), (190, .invokevirtual 272, 3, 149, 3, .ref 10), (193, .ireturn, 1, 0, 0, .null), (194, .aload_n 0, 1, 0, 0, .null), (195, .getfield 75, 3, 10, 28, .null), (198, .aload_n 0, 1, 0, 0, .null), (199, .iconst 1, 1, 0, 0, .int 1), (200, .iload_n 2, 1, 2, 0, .null), (201, .invokevirtual 272, 3, 149, 3, .ref 10), (204, .aload_n 0, 1, 0, 0, .null), (205, .iconst 0, 1, 0, 0, .int 0), (206, .iload_n 2, 1, 2, 0, .null), (207, .invokevirtual 272, 3, 149, 3, .ref 10), (210, .iastore, 1, 0, 0, .null), (211, .aload_n 0, 1, 0, 0, .null), (212, .iconst 1, 1, 0, 0, .int 1), (213, .iload_n 2, 1, 2, 0, .null), (214, .invokevirtual 272, 3, 149, 3, .ref 10), (217, .ireturn, 1, 0, 0, .null), (218, .aload_n 0, 1, 0, 0, .null), (219, .bipush 7, 2, 0, 0, .int 7), (221, .iload_n 2, 1, 2, 0, .null), (222, .invokevirtual 282, 3, 151, 3, .ref 10), (225, .ireturn, 1, 0, 0, .null), (226, .aload_n 0, 1, 0, 0, .null), (227, .bipush 8, 2, 0, 0, .int 8), (229, .iload_n 2, 1, 2, 0, .null), (230, .invokevirtual 282, 3, 151, 3, .ref 10), (233, .ireturn, 1, 0, 0, .null), (234, .aload_n 0, 1, 0, 0, .null), (235, .iload_n 1, 1, 1, 0, .null), (236, .bipush 7, 2, 0, 0, .int 7), (238, .isub, 1, 0, 0, .null), (239, .iload_n 2, 1, 2, 0, .null), (240, .invokevirtual 282, 3, 151, 3, .ref 10), (243, .ireturn, 1, 0, 0, .null), (244, .aload_n 0, 1, 0, 0, .null), (245, .iload_n 1, 1, 1, 0, .null), (246, .bipush 8, 2, 0, 0, .int 8), (248, .isub, 1, 0, 0, .null), (249, .iload_n 2, 1, 2, 0, .null), (250, .invokevirtual 282, 3, 151, 3, .ref 10), (253, .ireturn, 1, 0, 0, .null), (254, .aload_n 0, 1, 0, 0, .null), (255, .iload_n 1, 1, 1, 0, .null), (256, .bipush 9, 2, 0, 0, .int 9), (258, .isub, 1, 0, 0, .null), (259, .iload_n 2, 1, 2, 0, .null), (260, .invokevirtual 282, 3, 151, 3, .ref 10), (263, .ireturn, 1, 0, 0, .null), (264, .aload_n 0, 1, 0, 0, .null), (265, .iload_n 1, 1, 1, 0, .null), (266, .bipush 10, 2, 0, 0, .int 10), (268, .isub, 1, 0, 0, .null), (269, .aload_n 0, 1, 0, 0, .null), (270, .iconst 0, 1, 0, 0, .int 0), (271, .iload_n 2, 1, 2, 0, .null), (272, .invokevirtual 272, 3, 149, 3, .ref 10), (275, .aload_n 0, 1, 0, 0, .null), (276, .iconst 1, 1, 0, 0, .int 1), (277, .iload_n 2, 1, 2, 0, .null), (278, .invokevirtual 272, 3, 149, 3, .ref 10), (281, .invokevirtual 275, 3, 150, 4, .ref 10), (284, .ireturn, 1, 0, 0, .null), (285, .aload_n 0, 1, 0, 0, .null), (286, .iload_n 1, 1, 1, 0, .null), (287, .bipush 11, 2, 0, 0, .int 11), (289, .isub, 1, 0, 0, .null), (290, .aload_n 0, 1, 0, 0, .null), (291, .iconst 0, 1, 0, 0, .int 0), (292, .iload_n 2, 1, 2, 0, .null), (293, .invokevirtual 272, 3, 149, 3, .ref 10), (296, .invokevirtual 265, 3, 147, 3, .ref 10), (299, .ireturn, 1, 0, 0, .null), (300, .aload_n 0, 1, 0, 0, .null), (301, .iconst 1, 1, 0, 0, .int 1), (302, .iload_n 2, 1, 2, 0, .null), (303, .invokevirtual 272, 3, 149, 3, .ref 10), (306, .ireturn, 1, 0, 0, .null), (307, .aload_n 0, 1, 0, 0, .null), (308, .iconst 0, 1, 0, 0, .int 0), (309, .iload_n 2, 1, 2, 0, .null), (310, .invokevirtual 272, 3, 149, 3, .ref 10), (313, .ireturn, 1, 0, 0, .null)]
def mz_m153 : mz_D := (⟨"TinyFrontModel", "reduce", "(I)I"⟩, prog_12_method_36_code, 3, (some (.int)), 3, 69, mz_t153)
/-- 154: TinyFrontModel.ruleFor(II)I -/
def mz_t154 : List mz_E := [(0, .iconst 1, 1, 0, 0, .int 1), (1, .istore_n 3, 1, 3, 0, .null), (2, .iload_n 3, 1, 3, 0, .null), (3, .bipush 32, 2, 0, 0, .int 32), (5, .if_icmp .ge 59, 3, 64, 0, .null), (8, .aload_n 0, 1, 0, 0, .null), (9, .getfield 25, 3, 10, 5, .null), (12, .bipush 109, 2, 0, 0, .int 109), (14, .iload_n 1, 1, 1, 0, .null), (15, .imul, 1, 0, 0, .null), (16, .aload_n 0, 1, 0, 0, .null), (17, .getfield 22, 3, 10, 4, .null), (20, .iload_n 3, 1, 3, 0, .null), (21, .iaload, 1, 0, 0, .null), (22, .iadd, 1, 0, 0, .null), (23, .aload_n 0, 1, 0, 0, .null), (24, .getfield 13, 3, 10, 1, .null), (27, .iload_n 3, 1, 3, 0, .null), (28, .iaload, 1, 0, 0, .null), (29, .iadd, 1, 0, 0, .null), (30, .baload, 1, 0, 0, .null), (31, .ifCond .eq 27, 3, 58, 0, .null), (34, .aload_n 0, 1, 0, 0, .null), (35, .getfield 38, 3, 10, 10, .null), (38, .bipush 25, 2, 0, 0, .int 25), (40, .aload_n 0, 1, 0, 0, .null), (41, .getfield 7, 3, 10, 0, .null), (44, .iload_n 3, 1, 3, 0, .null), (45, .iaload, 1, 0, 0, .null), (46, .bipush 25, 2, 0, 0, .int 25), (48, .isub, 1, 0, 0, .null), (49, .imul, 1, 0, 0, .null), (50, .iload_n 2, 1, 2, 0, .null), (51, .iadd, 1, 0, 0, .null), (52, .baload, 1, 0, 0, .null), (53, .ifCond .eq 5, 3, 58, 0, .null), (56, .iload_n 3, 1, 3, 0, .null), (57, .ireturn, 1, 0, 0, .null), (58, .iinc 3 1, 3, 3, 0, .int 1), (61, .goto (-59), 3, 2, 0, .null), (64, .iconst (-1), 1, 0, 0, .int (-1)), (65, .ireturn, 1, 0, 0, .null)]
def mz_m154 : mz_D := (⟨"TinyFrontModel", "ruleFor", "(II)I"⟩, prog_12_method_37_code, 4, (some (.int)), 0, 0, mz_t154)
/-- 155: TinyFrontModel.goOver()I -/
def mz_t155 : List mz_E := [(0, .aload_n 0, 1, 0, 0, .null), (1, .iconst 1, 1, 0, 0, .int 1), (2, .putfield 262, 3, 10, 24, .null), (5, .aload_n 0, 1, 0, 0, .null), (6, .getfield 62, 3, 10, 22, .null), (9, .iconst 0, 1, 0, 0, .int 0), (10, .iconst 0, 1, 0, 0, .int 0), (11, .iastore, 1, 0, 0, .null), (12, .aload_n 0, 1, 0, 0, .null), (13, .iconst 0, 1, 0, 0, .int 0), (14, .putfield 285, 3, 10, 26, .null), (17, .aload_n 0, 1, 0, 0, .null), (18, .iconst 0, 1, 0, 0, .int 0), (19, .putfield 259, 3, 10, 33, .null), (22, .iconst 0, 1, 0, 0, .int 0), (23, .istore_n 1, 1, 1, 0, .null), (24, .aload_n 0, 1, 0, 0, .null), (25, .getfield 62, 3, 10, 22, .null), (28, .aload_n 0, 1, 0, 0, .null), (29, .getfield 262, 3, 10, 24, .null), (32, .iconst 1, 1, 0, 0, .int 1), (33, .isub, 1, 0, 0, .null), (34, .iaload, 1, 0, 0, .null), (35, .istore_n 2, 1, 2, 0, .null), (36, .aload_n 0, 1, 0, 0, .null), (37, .getfield 44, 3, 10, 14, .null), (40, .iload_n 1, 1, 1, 0, .null), (41, .iaload, 1, 0, 0, .null), (42, .istore_n 3, 1, 3, 0, .null), (43, .aload_n 0, 1, 0, 0, .null), (44, .getfield 29, 3, 10, 6, .null), (47, .bipush 36, 2, 0, 0, .int 36), (49, .iload_n 2, 1, 2, 0, .null), (50, .imul, 1, 0, 0, .null), (51, .iload_n 3, 1, 3, 0, .null), (52, .iadd, 1, 0, 0, .null), (53, .iaload, 1, 0, 0, .null), (54, .istore 4, 2, 4, 0, .null), (56, .iload 4, 2, 4, 0, .null), (58, .ifCond .lt 40, 3, 98, 0, .null), (61, .aload_n 0, 1, 0, 0, .null), (62, .getfield 62, 3, 10, 22, .null), (65, .aload_n 0, 1, 0, 0, .null), (66, .getfield 262, 3, 10, 24, .null), (69, .iload 4, 2, 4, 0, .null), (71, .iastore, 1, 0, 0, .null), (72, .aload_n 0, 1, 0, 0, .null), (73, .getfield 65, 3, 10, 23, .null), (76, .aload_n 0, 1, 0, 0, .null), (77, .getfield 262, 3, 10, 24, .null), (80, .iload_n 1, 1, 1, 0, .null), (81, .iastore, 1, 0, 0, .null), (82, .aload_n 0, 1, 0, 0, .null), (83, .dup, 1, 0, 0, .null), (84, .getfield 262, 3, 10, 24, .null), (87, .iconst 1, 1, 0, 0, .int 1), (88, .iadd, 1, 0, 0, .null), (89, .putfield 262, 3, 10, 24, .null), (92, .iinc 1 1, 3, 1, 0, .int 1), (95, .goto 142, 3, 237, 0, .null), (98, .aload_n 0, 1, 0, 0, .null), (99, .iload_n 2, 1, 2, 0, .null), (100, .iload_n 3, 1, 3, 0, .null), (101, .invokevirtual 288, 3, 154, 3, .ref 10), (104, .istore 5, 2, 5, 0, .null), (106, .iload 5, 2, 5, 0, .null), (108, .ifCond .ge 27, 3, 135, 0, .null), (111, .iload_n 3, 1, 3, 0, .null), (112, .ifCond .ne 21, 3, 133, 0, .null), (115, .aload_n 0, 1, 0, 0, .null), (116, .getfield 25, 3, 10, 5, .null), (119, .bipush 109, 2, 0, 0, .int 109), (121, .iload_n 2, 1, 2, 0, .null), (122, .imul, 1, 0, 0, .null), (123, .iconst 1, 1, 0, 0, .int 1), (124, .iadd, 1, 0, 0, .null), (125, .baload, 1, 0, 0, .null), (126, .ifCond .eq 7, 3, 133, 0, .null), (129, .iconst (-1), 1, 0, 0, .int (-1)), (130, .goto 4, 3, 134, 0, .null), (133, .iload_n 1, 1, 1, 0, .null), (134, .ireturn, 1, 0, 0, .null), (135, .aload_n 0, 1, 0, 0, .null), (136, .getfield 69, 3, 10, 25, .null), (139, .aload_n 0, 1, 0, 0, .null), (140, .getfield 285, 3, 10, 26, .null), (143, .iload 5, 2, 5, 0, .null), (145, .iastore, 1, 0, 0, .null), (146, .aload_n 0, 1, 0, 0, .null), (147, .dup, 1, 0, 0, .null), (148, .getfield 285, 3, 10, 26, .null), (151, .iconst 1, 1, 0, 0, .int 1), (152, .iadd, 1, 0, 0, .null), (153, .putfield 285, 3, 10, 26, .null), (156, .aload_n 0, 1, 0, 0, .null), (157, .iload 5, 2, 5, 0, .null), (159, .invokevirtual 291, 3, 153, 2, .ref 10), (162, .istore 6, 2, 6, 0, .null), (164, .aload_n 0, 1, 0, 0, .null), (165, .aload_n 0, 1, 0, 0, .null), (166, .getfield 262, 3, 10, 24, .null), (169, .aload_n 0, 1, 0, 0, .null), (170, .getfield 13, 3, 10, 1, .null), (173, .iload 5, 2, 5, 0, .null), (175, .iaload, 1, 0, 0, .null), (176, .isub, 1, 0, 0, .null), (177, .putfield 262, 3, 10, 24, .null), (180, .aload_n 0, 1, 0, 0, .null), (181, .getfield 62, 3, 10, 22, .null), (184, .aload_n 0, 1, 0, 0, .null), (185, .getfield 262, 3, 10, 24, .null), (188, .aload_n 0, 1, 0, 0, .null), (189, .getfield 29, 3, 10, 6, .null), (192, .bipush 36, 2, 0, 0, .int 36), (194, .aload_n 0, 1, 0, 0, .null), (195, .getfield 62, 3, 10, 22, .null), (198, .aload_n 0, 1, 0, 0, .null), (199, .getfield 262, 3, 10, 24, .null), (202, .iconst 1, 1, 0, 0, .int 1), (203, .isub, 1, 0, 0, .null), (204, .iaload, 1, 0, 0, .null), (205, .imul, 1, 0, 0, .null), (206, .aload_n 0, 1, 0, 0, .null), (207, .getfield 7, 3, 10, 0, .null), (210, .iload 5, 2, 5, 0, .null), (212, .iaload, 1, 0, 0, .null), (213, .iadd, 1, 0, 0, .null), (214, .iaload, 1, 0, 0, .null), (215, .iastore, 1, 0, 0, .null), (216, .aload_n 0, 1, 0, 0, .null), (217, .getfield 65, 3, 10, 23, .null), (220, .aload_n 0, 1, 0, 0, .null), (221, .getfield 262, 3, 10, 24, .null), (224, .iload 6, 2, 6, 0, .null), (226, .iastore, 1, 0, 0, .null), (227, .aload_n 0, 1, 0, 0, .null), (228, .dup, 1, 0, 0, .null), (229, .getfield 262, 3, 10, 24, .null), (232, .iconst 1, 1, 0, 0, .int 1), (233, .iadd, 1, 0, 0, .null), (234, .putfield 262, 3, 10, 24, .null), (237, .goto (-213), 3, 24, 0, .null)]
def mz_m155 : mz_D := (⟨"TinyFrontModel", "goOver", "()I"⟩, prog_12_method_38_code, 7, (some (.int)), 4, 91, mz_t155)
/-- 156: TinyFrontModel.number(I)V -/
def mz_t156 : List mz_E := [(0, .aload_n 0, 1, 0, 0, .null), (1, .iconst 0, 1, 0, 0, .int 0), (2, .putfield 294, 3, 10, 43, .null), (5, .iload_n 1, 1, 1, 0, .null), (6, .istore_n 2, 1, 2, 0, .null), (7, .iconst (-1), 1, 0, 0, .int (-1)), (8, .istore_n 3, 1, 3, 0, .null), (9, .iload_n 2, 1, 2, 0, .null), (10, .ifCond .lt 212, 3, 222, 0, .null), (13, .aload_n 0, 1, 0, 0, .null), (14, .getfield 294, 3, 10, 43, .null), (17, .istore 4, 2, 4, 0, .null), (19, .aload_n 0, 1, 0, 0, .null), (20, .dup, 1, 0, 0, .null), (21, .getfield 294, 3, 10, 43, .null), (24, .iconst 1, 1, 0, 0, .int 1), (25, .iadd, 1, 0, 0, .null), (26, .putfield 294, 3, 10, 43, .null), (29, .aload_n 0, 1, 0, 0, .null), (30, .getfield 90, 3, 10, 35, .null), (33, .iload 4, 2, 4, 0, .null), (35, .aload_n 0, 1, 0, 0, .null), (36, .getfield 72, 3, 10, 27, .null), (39, .iload_n 2, 1, 2, 0, .null), (40, .iaload, 1, 0, 0, .null), (41, .iastore, 1, 0, 0, .null), (42, .aload_n 0, 1, 0, 0, .null), (43, .getfield 93, 3, 10, 36, .null), (46, .iload 4, 2, 4, 0, .null), (48, .aload_n 0, 1, 0, 0, .null), (49, .getfield 75, 3, 10, 28, .null), (52, .iload_n 2, 1, 2, 0, .null), (53, .iaload, 1, 0, 0, .null), (54, .iastore, 1, 0, 0, .null), (55, .aload_n 0, 1, 0, 0, .null), (56, .getfield 96, 3, 10, 37, .null), (59, .iload 4, 2, 4, 0, .null), (61, .iconst 0, 1, 0, 0, .int 0), (62, .iastore, 1, 0, 0, .null), (63, .aload_n 0, 1, 0, 0, .null), (64, .getfield 102, 3, 10, 39, .null), (67, .iload 4, 2, 4, 0, .null), (69, .iconst (-1), 1, 0, 0, .int (-1)), (70, .iastore, 1, 0, 0, .null), (71, .aload_n 0, 1, 0, 0, .null), (72, .getfield 105, 3, 10, 40, .null), (75, .iload 4, 2, 4, 0, .null), (77, .iconst (-1), 1, 0, 0, .int (-1)), (78, .iastore, 1, 0, 0, .null), (79, .aload_n 0, 1, 0, 0, .null), (80, .getfield 108, 3, 10, 41, .null), (83, .iload 4, 2, 4, 0, .null), (85, .iconst (-1), 1, 0, 0, .int (-1)), (86, .iastore, 1, 0, 0, .null), (87, .aload_n 0, 1, 0, 0, .null), (88, .getfield 111, 3, 10, 42, .null), (91, .iload 4, 2, 4, 0, .null), (93, .iload_n 3, 1, 3, 0, .null), (94, .iastore, 1, 0, 0, .null), (95, .iload_n 3, 1, 3, 0, .null), (96, .ifCond .lt 54, 3, 150, 0, .null), (99, .aload_n 0, 1, 0, 0, .null), (100, .getfield 96, 3, 10, 37, .null), (103, .iload_n 3, 1, 3, 0, .null), (104, .dup2, 1, 0, 0, .null), (105, .iaload, 1, 0, 0, .null), (106, .iconst 1, 1, 0, 0, .int 1), (107, .iadd, 1, 0, 0, .null), (108, .iastore, 1, 0, 0, .null), (109, .aload_n 0, 1, 0, 0, .null), (110, .getfield 102, 3, 10, 39, .null), (113, .iload_n 3, 1, 3, 0, .null), (114, .iaload, 1, 0, 0, .null), (115, .ifCond .ge 14, 3, 129, 0, .null), (118, .aload_n 0, 1, 0, 0, .null), (119, .getfield 102, 3, 10, 39, .null), (122, .iload_n 3, 1, 3, 0, .null), (123, .iload 4, 2, 4, 0, .null), (125, .iastore, 1, 0, 0, .null), (126, .goto 16, 3, 142, 0, .null), (129, .aload_n 0, 1, 0, 0, .null), (130, .getfield 108, 3, 10, 41, .null), (133, .aload_n 0, 1, 0, 0, .null), (134, .getfield 105, 3, 10, 40, .null), (137, .iload_n 3, 1, 3, 0, .null), (138, .iaload, 1, 0, 0, .null), (139, .iload 4, 2, 4, 0, .null), (141, .iastore, 1, 0, 0, .null), (142, .aload_n 0, 1, 0, 0, .null), (143, .getfield 105, 3, 10, 40, .null), (146, .iload_n 3, 1, 3, 0, .null), (147, .iload 4, 2, 4, 0, .null), (149, .iastore, 1, 0, 0, .null), (150, .aload_n 0, 1, 0, 0, .null), (151, .getfield 78, 3, 10, 29, .null), (154, .iload_n 2, 1, 2, 0, .null), (155, .iaload, 1, 0, 0, .null), (156, .ifCond .lt 16, 3, 172, 0, .null), (159, .iload 4, 2, 4, 0, .null), (161, .istore_n 3, 1, 3, 0, .null), (162, .aload_n 0, 1, 0, 0, .null), (163, .getfield 78, 3, 10, 29, .null), (166, .iload_n 2, 1, 2, 0, .null), (167, .iaload, 1, 0, 0, .null), (168, .istore_n 2, 1, 2, 0, .null), (169, .goto 50, 3, 219, 0, .null), (172, .iload_n 2, 1, 2, 0, .null), (173, .iload_n 1, 1, 1, 0, .null), (174, .if_icmp .eq 29, 3, 203, 0, .null), (177, .aload_n 0, 1, 0, 0, .null), (178, .getfield 84, 3, 10, 31, .null), (181, .iload_n 2, 1, 2, 0, .null), (182, .iaload, 1, 0, 0, .null), (183, .ifCond .ge 20, 3, 203, 0, .null), (186, .aload_n 0, 1, 0, 0, .null), (187, .getfield 87, 3, 10, 32, .null), (190, .iload_n 2, 1, 2, 0, .null), (191, .iaload, 1, 0, 0, .null), (192, .istore_n 2, 1, 2, 0, .null), (193, .aload_n 0, 1, 0, 0, .null), (194, .getfield 111, 3, 10, 42, .null), (197, .iload_n 3, 1, 3, 0, .null), (198, .iaload, 1, 0, 0, .null), (199, .istore_n 3, 1, 3, 0, .null), (200, .goto (-28), 3, 172, 0, .null), (203, .iload_n 2, 1, 2, 0, .null), (204, .iload_n 1, 1, 1, 0, .null), (205, .if_icmp .ne 7, 3, 212, 0, .null), (208, .iconst (-1), 1, 0, 0, .int (-1)), (209, .goto 9, 3, 218, 0, .null), (212, .aload_n 0, 1, 0, 0, .null), (213, .getfield 84, 3, 10, 31, .null), (216, .iload_n 2, 1, 2, 0, .null), (217, .iaload, 1, 0, 0, .null), (218, .istore_n 2, 1, 2, 0, .null), (219, .goto (-210), 3, 9, 0, .null), (222, .return_, 1, 0, 0, .null)]
def mz_m156 : mz_D := (⟨"TinyFrontModel", "number", "(I)V"⟩, prog_12_method_39_code, 5, none, 0, 0, mz_t156)
/-- 157: TinyFrontModel.measure()I -/
def mz_t157 : List mz_E := [(0, .aload_n 0, 1, 0, 0, .null), (1, .getfield 294, 3, 10, 43, .null), (4, .iconst 1, 1, 0, 0, .int 1), (5, .isub, 1, 0, 0, .null), (6, .istore_n 1, 1, 1, 0, .null), (7, .iload_n 1, 1, 1, 0, .null), (8, .ifCond .lt 75, 3, 83, 0, .null), (11, .aload_n 0, 1, 0, 0, .null), (12, .getfield 99, 3, 10, 38, .null), (15, .iload_n 1, 1, 1, 0, .null), (16, .iconst 1, 1, 0, 0, .int 1), (17, .iastore, 1, 0, 0, .null), (18, .aload_n 0, 1, 0, 0, .null), (19, .getfield 102, 3, 10, 39, .null), (22, .iload_n 1, 1, 1, 0, .null), (23, .iaload, 1, 0, 0, .null), (24, .istore_n 2, 1, 2, 0, .null), (25, .iload_n 2, 1, 2, 0, .null), (26, .ifCond .lt 51, 3, 77, 0, .null), (29, .aload_n 0, 1, 0, 0, .null), (30, .getfield 99, 3, 10, 38, .null), (33, .iload_n 1, 1, 1, 0, .null), (34, .aload_n 0, 1, 0, 0, .null), (35, .getfield 99, 3, 10, 38, .null), (38, .iload_n 2, 1, 2, 0, .null), (39, .iaload, 1, 0, 0, .null), (40, .aload_n 0, 1, 0, 0, .null), (41, .getfield 99, 3, 10, 38, .null), (44, .iload_n 1, 1, 1, 0, .null), (45, .iaload, 1, 0, 0, .null), (46, .if_icmp .lt 14, 3, 60, 0, .null), (49, .aload_n 0, 1, 0, 0, .null), (50, .getfield 99, 3, 10, 38, .null), (53, .iload_n 2, 1, 2, 0, .null), (54, .iaload, 1, 0, 0, .null), (55, .iconst 1, 1, 0, 0, .int 1), (56, .iadd, 1, 0, 0, .null), (57, .goto 9, 3, 66, 0, .null), (60, .aload_n 0, 1, 0, 0, .null), (61, .getfield 99, 3, 10, 38, .null), (64, .iload_n 1, 1, 1, 0, .null), (65, .iaload, 1, 0, 0, .null), (66, .iastore, 1, 0, 0, .null), (67, .aload_n 0, 1, 0, 0, .null), (68, .getfield 108, 3, 10, 41, .null), (71, .iload_n 2, 1, 2, 0, .null), (72, .iaload, 1, 0, 0, .null), (73, .istore_n 2, 1, 2, 0, .null), (74, .goto (-49), 3, 25, 0, .null), (77, .iinc 1 (-1), 3, 1, 0, .int (-1)), (80, .goto (-73), 3, 7, 0, .null), (83, .aload_n 0, 1, 0, 0, .null), (84, .getfield 99, 3, 10, 38, .null), (87, .iconst 0, 1, 0, 0, .int 0), (88, .iaload, 1, 0, 0, .null), (89, .ireturn, 1, 0, 0, .null)]
def mz_m157 : mz_D := (⟨"TinyFrontModel", "measure", "()I"⟩, prog_12_method_40_code, 3, (some (.int)), 0, 0, mz_t157)
/-- 158: TinyFrontModel.whileOf(I)I -/
def mz_t158 : List mz_E := [(0, .aload_n 0, 1, 0, 0, .null), (1, .getfield 111, 3, 10, 42, .null), (4, .iload_n 1, 1, 1, 0, .null), (5, .iaload, 1, 0, 0, .null), (6, .istore_n 2, 1, 2, 0, .null), (7, .iload_n 2, 1, 2, 0, .null), (8, .ifCond .lt 23, 3, 31, 0, .null), (11, .aload_n 0, 1, 0, 0, .null), (12, .getfield 90, 3, 10, 35, .null), (15, .iload_n 2, 1, 2, 0, .null), (16, .iaload, 1, 0, 0, .null), (17, .iconst 4, 1, 0, 0, .int 4), (18, .if_icmp .eq 13, 3, 31, 0, .null), (21, .aload_n 0, 1, 0, 0, .null), (22, .getfield 111, 3, 10, 42, .null), (25, .iload_n 2, 1, 2, 0, .null), (26, .iaload, 1, 0, 0, .null), (27, .istore_n 2, 1, 2, 0, .null), (28, .goto (-21), 3, 7, 0, .null), (31, .iload_n 2, 1, 2, 0, .null), (32, .ireturn, 1, 0, 0, .null)]
def mz_m158 : mz_D := (⟨"TinyFrontModel", "whileOf", "(I)I"⟩, prog_12_method_41_code, 3, (some (.int)), 0, 0, mz_t158)
/-- 159: TinyFrontModel.strayToken()I -/
def mz_t159 : List mz_E := [(0, .iconst (-1), 1, 0, 0, .int (-1)), (1, .istore_n 1, 1, 1, 0, .null), (2, .iconst 0, 1, 0, 0, .int 0), (3, .istore_n 2, 1, 2, 0, .null), (4, .iload_n 2, 1, 2, 0, .null), (5, .aload_n 0, 1, 0, 0, .null), (6, .getfield 294, 3, 10, 43, .null), (9, .if_icmp .ge 59, 3, 68, 0, .null), (12, .aload_n 0, 1, 0, 0, .null), (13, .getfield 90, 3, 10, 35, .null), (16, .iload_n 2, 1, 2, 0, .null), (17, .iaload, 1, 0, 0, .null), (18, .iconst 5, 1, 0, 0, .int 5), (19, .if_icmp .eq 14, 3, 33, 0, .null), (22, .aload_n 0, 1, 0, 0, .null), (23, .getfield 90, 3, 10, 35, .null), (26, .iload_n 2, 1, 2, 0, .null), (27, .iaload, 1, 0, 0, .null), (28, .bipush 6, 2, 0, 0, .int 6), (30, .if_icmp .ne 32, 3, 62, 0, .null), (33, .aload_n 0, 1, 0, 0, .null), (34, .iload_n 2, 1, 2, 0, .null), (35, .invokevirtual 297, 3, 158, 2, .ref 10), (38, .ifCond .ge 24, 3, 62, 0, .null), (41, .iload_n 1, 1, 1, 0, .null), (42, .ifCond .lt 13, 3, 55, 0, .null), (45, .aload_n 0, 1, 0, 0, .null), (46, .getfield 93, 3, 10, 36, .null), (49, .iload_n 2, 1, 2, 0, .null), (50, .iaload, 1, 0, 0, .null), (51, .iload_n 1, 1, 1, 0, .null), (52, .if_icmp .ge 10, 3, 62, 0, .null), (55, .aload_n 0, 1, 0, 0, .null), (56, .getfield 93, 3, 10, 36, .null), (59, .iload_n 2, 1, 2, 0, .null), (60, .iaload, 1, 0, 0, .null), (61, .istore_n 1, 1, 1, 0, .null), (62, .iinc 2 1, 3, 2, 0, .int 1), (65, .goto (-61), 3, 4, 0, .null), (68, .iload_n 1, 1, 1, 0, .null), (69, .ireturn, 1, 0, 0, .null)]
def mz_m159 : mz_D := (⟨"TinyFrontModel", "strayToken", "()I"⟩, prog_12_method_42_code, 3, (some (.int)), 1, 22, mz_t159)
/-- 160: TinyFrontModel.parse()I -/
def mz_t160 : List mz_E := [(0, .aload_n 0, 1, 0, 0, .null), (1, .getfield 190, 3, 10, 13, .null), (4, .ifCond .ne 6, 3, 10, 0, .null), (7, .bipush (-3), 2, 0, 0, .int (-3)), (9, .ireturn, 1, 0, 0, .null), (10, .aload_n 0, 1, 0, 0, .null), (11, .iconst 0, 1, 0, 0, .int 0), (12, .putfield 194, 3, 10, 34, .int 1), (15, .aload_n 0, 1, 0, 0, .null), (16, .iconst 0, 1, 0, 0, .int 0), (17, .putfield 197, 3, 10, 44, .int 1), (20, .aload_n 0, 1, 0, 0, .null), (21, .invokevirtual 300, 3, 155, 1, .ref 10), (24, .istore_n 1, 1, 1, 0, .null), (25, .iload_n 1, 1, 1, 0, .null), (26, .ifCond .lt 8, 3, 34, 0, .null), (29, .bipush (-10), 2, 0, 0, .int (-10)), (31, .iload_n 1, 1, 1, 0, .null), (32, .isub, 1, 0, 0, .null), (33, .ireturn, 1, 0, 0, .null), (34, .aload_n 0, 1, 0, 0, .null), (35, .aload_n 0, 1, 0, 0, .null), (36, .getfield 65, 3, 10, 23, .null), (39, .aload_n 0, 1, 0, 0, .null), (40, .getfield 262, 3, 10, 24, .null), (43, .iconst 1, 1, 0, 0, .int 1), (44, .isub, 1, 0, 0, .null), (45, .iaload, 1, 0, 0, .null), (46, .invokevirtual 303, 3, 156, 2, .ref 10), (49, .aload_n 0, 1, 0, 0, .null), (50, .invokevirtual 307, 3, 157, 1, .ref 10), (53, .sipush 200, 3, 0, 0, .int 200), (56, .if_icmp .le 6, 3, 62, 0, .null), (59, .bipush (-2), 2, 0, 0, .int (-2)), (61, .ireturn, 1, 0, 0, .null), (62, .aload_n 0, 1, 0, 0, .null), (63, .invokevirtual 310, 3, 159, 1, .ref 10), (66, .istore_n 2, 1, 2, 0, .null), (67, .iload_n 2, 1, 2, 0, .null), (68, .ifCond .lt 9, 3, 77, 0, .null), (71, .sipush (-10000), 3, 0, 0, .int (-10000)), (74, .iload_n 2, 1, 2, 0, .null), (75, .isub, 1, 0, 0, .null), (76, .ireturn, 1, 0, 0, .null), (77, .aload_n 0, 1, 0, 0, .null), (78, .iconst 1, 1, 0, 0, .int 1), (79, .putfield 194, 3, 10, 34, .int 1), (82, .aload_n 0, 1, 0, 0, .null), (83, .getfield 294, 3, 10, 43, .null), (86, .ireturn, 1, 0, 0, .null)]
def mz_m160 : mz_D := (⟨"TinyFrontModel", "parse", "()I"⟩, prog_12_method_43_code, 3, (some (.int)), 5, 117, mz_t160)
/-- 161: TinyFrontModel.reduced(I)I -/
def mz_t161 : List mz_E := [(0, .iload_n 1, 1, 1, 0, .null), (1, .iconst (-1), 1, 0, 0, .int (-1)), (2, .if_icmp .ne 10, 3, 12, 0, .null), (5, .aload_n 0, 1, 0, 0, .null), (6, .getfield 285, 3, 10, 26, .null), (9, .goto 25, 3, 34, 0, .null), (12, .iload_n 1, 1, 1, 0, .null), (13, .ifCond .lt 11, 3, 24, 0, .null), (16, .iload_n 1, 1, 1, 0, .null), (17, .aload_n 0, 1, 0, 0, .null), (18, .getfield 285, 3, 10, 26, .null), (21, .if_icmp .lt 7, 3, 28, 0, .null), (24, .iconst (-1), 1, 0, 0, .int (-1)), (25, .goto 9, 3, 34, 0, .null), (28, .aload_n 0, 1, 0, 0, .null), (29, .getfield 69, 3, 10, 25, .null), (32, .iload_n 1, 1, 1, 0, .null), (33, .iaload, 1, 0, 0, .null), (34, .ireturn, 1, 0, 0, .null)]
def mz_m161 : mz_D := (⟨"TinyFrontModel", "reduced", "(I)I"⟩, prog_12_method_44_code, 2, (some (.int)), 0, 0, mz_t161)
/-- 162: TinyFrontModel.node(II)I -/
def mz_t162 : List mz_E := [(0, .aload_n 0, 1, 0, 0, .null), (1, .getfield 194, 3, 10, 34, .null), (4, .ifCond .eq 15, 3, 19, 0, .null), (7, .iload_n 1, 1, 1, 0, .null), (8, .ifCond .lt 11, 3, 19, 0, .null), (11, .iload_n 1, 1, 1, 0, .null), (12, .aload_n 0, 1, 0, 0, .null), (13, .getfield 294, 3, 10, 43, .null), (16, .if_icmp .lt 5, 3, 21, 0, .null), (19, .iconst (-1), 1, 0, 0, .int (-1)), (20, .ireturn, 1, 0, 0, .null), (21, .iload_n 2, 1, 2, 0, .null), (22, .tableswitch 80 0 5 #[38, 45, 52, 59, 66, 73], 38, 0, 0, .null), (60, .aload_n 0, 1, 0, 0, .null), (61, .getfield 90, 3, 10, 35, .null), (64, .iload_n 1, 1, 1, 0, .null), (65, .iaload, 1, 0, 0, .null), (66, .ireturn, 1, 0, 0, .null), (67, .aload_n 0, 1, 0, 0, .null), (68, .getfield 93, 3, 10, 36, .null), (71, .iload_n 1, 1, 1, 0, .null), (72, .iaload, 1, 0, 0, .null), (73, .ireturn, 1, 0, 0, .null), (74, .aload_n 0, 1, 0, 0, .null), (75, .getfield 96, 3, 10, 37, .null), (78, .iload_n 1, 1, 1, 0, .null), (79, .iaload, 1, 0, 0, .null), (80, .ireturn, 1, 0, 0, .null), (81, .aload_n 0, 1, 0, 0, .null), (82, .getfield 99, 3, 10, 38, .null), (85, .iload_n 1, 1, 1, 0, .null), (86, .iaload, 1, 0, 0, .null), (87, .ireturn, 1, 0, 0, .null), (88, .aload_n 0, 1, 0, 0, .null), (89, .getfield 102, 3, 10, 39, .null), (92, .iload_n 1, 1, 1, 0, .null), (93, .iaload, 1, 0, 0, .null), (94, .ireturn, 1, 0, 0, .null), (95, .aload_n 0, 1, 0, 0, .null), (96, .getfield 105, 3, 10, 40, .null), (99, .iload_n 1, 1, 1, 0, .null), (100, .iaload, 1, 0, 0, .null), (101, .ireturn, 1, 0, 0, .null), (102, .iconst (-1), 1, 0, 0, .int (-1)), (103, .ireturn, 1, 0, 0, .null)]
def mz_m162 : mz_D := (⟨"TinyFrontModel", "node", "(II)I"⟩, prog_12_method_45_code, 3, (some (.int)), 0, 0, mz_t162)
/-- 163: TinyFrontModel.emit(II)I -/
def mz_t163 : List mz_E := [(0, .aload_n 0, 1, 0, 0, .null), (1, .getfield 115, 3, 10, 45, .null), (4, .aload_n 0, 1, 0, 0, .null), (5, .getfield 313, 3, 10, 47, .null), (8, .iload_n 1, 1, 1, 0, .null), (9, .iastore, 1, 0, 0, .null), (10, .aload_n 0, 1, 0, 0, .null), (11, .getfield 118, 3, 10, 46, .null), (14, .aload_n 0, 1, 0, 0, .null), (15, .getfield 313, 3, 10, 47, .null), (18, .iload_n 2, 1, 2, 0, .null), (19, .iastore, 1, 0, 0, .null), (20, .aload_n 0, 1, 0, 0, .null), (21, .dup, 1, 0, 0, .null), (22, .getfield 313, 3, 10, 47, .null), (25, .iconst 1, 1, 0, 0, .int 1), (26, .iadd, 1, 0, 0, .null), (27, .putfield 313, 3, 10, 47, .null), (30, .aload_n 0, 1, 0, 0, .null), (31, .getfield 313, 3, 10, 47, .null), (34, .iconst 1, 1, 0, 0, .int 1), (35, .isub, 1, 0, 0, .null), (36, .ireturn, 1, 0, 0, .null)]
def mz_m163 : mz_D := (⟨"TinyFrontModel", "emit", "(II)I"⟩, prog_12_method_46_code, 3, (some (.int)), 0, 0, mz_t163)
/-- 164: TinyFrontModel.before(II)V -/
def mz_t164 : List mz_E := [(0, .aload_n 0, 1, 0, 0, .null), (1, .getfield 90, 3, 10, 35, .null), (4, .iload_n 1, 1, 1, 0, .null), (5, .iaload, 1, 0, 0, .null), (6, .istore_n 3, 1, 3, 0, .null), (7, .iload_n 3, 1, 3, 0, .null), (8, .iconst 4, 1, 0, 0, .int 4), (9, .if_icmp .ne 24, 3, 33, 0, .null), (12, .iload_n 2, 1, 2, 0, .null), (13, .ifCond .ne 20, 3, 33, 0, .null), (16, .aload_n 0, 1, 0, 0, .null), (17, .getfield 130, 3, 10, 51, .null), (20, .iload_n 1, 1, 1, 0, .null), (21, .aload_n 0, 1, 0, 0, .null), (22, .getfield 313, 3, 10, 47, .null), (25, .iastore, 1, 0, 0, .null), (26, .aload_n 0, 1, 0, 0, .null), (27, .getfield 124, 3, 10, 49, .null), (30, .iload_n 1, 1, 1, 0, .null), (31, .iconst (-1), 1, 0, 0, .int (-1)), (32, .iastore, 1, 0, 0, .null), (33, .iload_n 2, 1, 2, 0, .null), (34, .iconst 1, 1, 0, 0, .int 1), (35, .if_icmp .ne 32, 3, 67, 0, .null), (38, .iload_n 3, 1, 3, 0, .null), (39, .bipush 8, 2, 0, 0, .int 8), (41, .if_icmp .eq 13, 3, 54, 0, .null), (44, .iload_n 3, 1, 3, 0, .null), (45, .iconst 3, 1, 0, 0, .int 3), (46, .if_icmp .eq 8, 3, 54, 0, .null), (49, .iload_n 3, 1, 3, 0, .null), (50, .iconst 4, 1, 0, 0, .int 4), (51, .if_icmp .ne 16, 3, 67, 0, .null), (54, .aload_n 0, 1, 0, 0, .null), (55, .getfield 127, 3, 10, 50, .null), (58, .iload_n 1, 1, 1, 0, .null), (59, .aload_n 0, 1, 0, 0, .null), (60, .bipush 14, 2, 0, 0, .int 14), (62, .iconst 0, 1, 0, 0, .int 0), (63, .invokevirtual 316, 3, 163, 3, .ref 10), (66, .iastore, 1, 0, 0, .null), (67, .iload_n 2, 1, 2, 0, .null), (68, .iconst 1, 1, 0, 0, .int 1), (69, .if_icmp .ne 50, 3, 119, 0, .null), (72, .iload_n 3, 1, 3, 0, .null), (73, .bipush 7, 2, 0, 0, .int 7), (75, .if_icmp .ne 44, 3, 119, 0, .null), (78, .aload_n 0, 1, 0, 0, .null), (79, .bipush 14, 2, 0, 0, .int 14), (81, .iconst 0, 1, 0, 0, .int 0), (82, .invokevirtual 316, 3, 163, 3, .ref 10), (85, .istore 4, 2, 4, 0, .null), (87, .aload_n 0, 1, 0, 0, .null), (88, .iconst 0, 1, 0, 0, .int 0), (89, .iconst 1, 1, 0, 0, .int 1), (90, .invokevirtual 316, 3, 163, 3, .ref 10), (93, .istore 5, 2, 5, 0, .null), (95, .aload_n 0, 1, 0, 0, .null), (96, .getfield 127, 3, 10, 50, .null), (99, .iload_n 1, 1, 1, 0, .null), (100, .aload_n 0, 1, 0, 0, .null), (101, .bipush 13, 2, 0, 0, .int 13), (103, .iconst 0, 1, 0, 0, .int 0), (104, .invokevirtual 316, 3, 163, 3, .ref 10), (107, .iastore, 1, 0, 0, .null), (108, .aload_n 0, 1, 0, 0, .null), (109, .getfield 118, 3, 10, 46, .null), (112, .iload 4, 2, 4, 0, .null), (114, .aload_n 0, 1, 0, 0, .null), (115, .getfield 313, 3, 10, 47, .null), (118, .iastore, 1, 0, 0, .null), (119, .iload_n 2, 1, 2, 0, .null), (120, .iconst 2, 1, 0, 0, .int 2), (121, .if_icmp .ne 36, 3, 157, 0, .null), (124, .iload_n 3, 1, 3, 0, .null), (125, .iconst 3, 1, 0, 0, .int 3), (126, .if_icmp .ne 31, 3, 157, 0, .null), (129, .aload_n 0, 1, 0, 0, .null), (130, .getfield 130, 3, 10, 51, .null), (133, .iload_n 1, 1, 1, 0, .null), (134, .aload_n 0, 1, 0, 0, .null), (135, .bipush 13, 2, 0, 0, .int 13), (137, .iconst 0, 1, 0, 0, .int 0), (138, .invokevirtual 316, 3, 163, 3, .ref 10), (141, .iastore, 1, 0, 0, .null), (142, .aload_n 0, 1, 0, 0, .null), (143, .getfield 118, 3, 10, 46, .null), (146, .aload_n 0, 1, 0, 0, .null), (147, .getfield 127, 3, 10, 50, .null), (150, .iload_n 1, 1, 1, 0, .null), (151, .iaload, 1, 0, 0, .null), (152, .aload_n 0, 1, 0, 0, .null), (153, .getfield 313, 3, 10, 47, .null), (156, .iastore, 1, 0, 0, .null), (157, .return_, 1, 0, 0, .null)]
def mz_m164 : mz_D := (⟨"TinyFrontModel", "before", "(II)V"⟩, prog_12_method_47_code, 6, none, 1, 22, mz_t164)
/-- 165: TinyFrontModel.behindWhile(I)V -/
def mz_t165 : List mz_E := [(0, .aload_n 0, 1, 0, 0, .null), (1, .bipush 13, 2, 0, 0, .int 13), (3, .aload_n 0, 1, 0, 0, .null), (4, .getfield 130, 3, 10, 51, .null), (7, .iload_n 1, 1, 1, 0, .null), (8, .iaload, 1, 0, 0, .null), (9, .invokevirtual 316, 3, 163, 3, .ref 10), (12, .istore_n 2, 1, 2, 0, .null), (13, .aload_n 0, 1, 0, 0, .null), (14, .getfield 118, 3, 10, 46, .null), (17, .aload_n 0, 1, 0, 0, .null), (18, .getfield 127, 3, 10, 50, .null), (21, .iload_n 1, 1, 1, 0, .null), (22, .iaload, 1, 0, 0, .null), (23, .aload_n 0, 1, 0, 0, .null), (24, .getfield 313, 3, 10, 47, .null), (27, .iastore, 1, 0, 0, .null), (28, .aload_n 0, 1, 0, 0, .null), (29, .getfield 124, 3, 10, 49, .null), (32, .iload_n 1, 1, 1, 0, .null), (33, .iaload, 1, 0, 0, .null), (34, .istore_n 3, 1, 3, 0, .null), (35, .iload_n 3, 1, 3, 0, .null), (36, .ifCond .lt 27, 3, 63, 0, .null), (39, .aload_n 0, 1, 0, 0, .null), (40, .getfield 118, 3, 10, 46, .null), (43, .iload_n 3, 1, 3, 0, .null), (44, .iaload, 1, 0, 0, .null), (45, .istore 4, 2, 4, 0, .null), (47, .aload_n 0, 1, 0, 0, .null), (48, .getfield 118, 3, 10, 46, .null), (51, .iload_n 3, 1, 3, 0, .null), (52, .aload_n 0, 1, 0, 0, .null), (53, .getfield 313, 3, 10, 47, .null), (56, .iastore, 1, 0, 0, .null), (57, .iload 4, 2, 4, 0, .null), (59, .istore_n 3, 1, 3, 0, .null), (60, .goto (-25), 3, 35, 0, .null), (63, .return_, 1, 0, 0, .null)]
def mz_m165 : mz_D := (⟨"TinyFrontModel", "behindWhile", "(I)V"⟩, prog_12_method_48_code, 5, none, 1, 22, mz_t165)
/-- 166: TinyFrontModel.behindAnd(I)V -/
def mz_t166 : List mz_E := [(0, .aload_n 0, 1, 0, 0, .null), (1, .bipush 12, 2, 0, 0, .int 12), (3, .iconst 0, 1, 0, 0, .int 0), (4, .invokevirtual 316, 3, 163, 3, .ref 10), (7, .istore_n 2, 1, 2, 0, .null), (8, .aload_n 0, 1, 0, 0, .null), (9, .bipush 13, 2, 0, 0, .int 13), (11, .iconst 0, 1, 0, 0, .int 0), (12, .invokevirtual 316, 3, 163, 3, .ref 10), (15, .istore_n 3, 1, 3, 0, .null), (16, .aload_n 0, 1, 0, 0, .null), (17, .getfield 118, 3, 10, 46, .null), (20, .aload_n 0, 1, 0, 0, .null), (21, .getfield 127, 3, 10, 50, .null), (24, .iload_n 1, 1, 1, 0, .null), (25, .iaload, 1, 0, 0, .null), (26, .aload_n 0, 1, 0, 0, .null), (27, .getfield 313, 3, 10, 47, .null), (30, .iastore, 1, 0, 0, .null), (31, .aload_n 0, 1, 0, 0, .null), (32, .iconst 0, 1, 0, 0, .int 0), (33, .iconst 0, 1, 0, 0, .int 0), (34, .invokevirtual 316, 3, 163, 3, .ref 10), (37, .istore 4, 2, 4, 0, .null), (39, .aload_n 0, 1, 0, 0, .null), (40, .getfield 118, 3, 10, 46, .null), (43, .iload_n 3, 1, 3, 0, .null), (44, .aload_n 0, 1, 0, 0, .null), (45, .getfield 313, 3, 10, 47, .null), (48, .iastore, 1, 0, 0, .null), (49, .return_, 1, 0, 0, .null)]
def mz_m166 : mz_D := (⟨"TinyFrontModel", "behindAnd", "(I)V"⟩, prog_12_method_49_code, 5, none, 1, 22, mz_t166)
/-- 167: TinyFrontModel.leave(I)V -/
def mz_t167 : List mz_E := [(0, .aload_n 0, 1, 0, 0, .null), (1, .getfield 90, 3, 10, 35, .null), (4, .iload_n 1, 1, 1, 0, .null), (5, .iaload, 1, 0, 0, .null), (6, .iconst 5, 1, 0, 0, .int 5), (7, .if_icmp .eq 14, 3, 21, 0, .null), (10, .aload_n 0, 1, 0, 0, .null), (11, .getfield 90, 3, 10, 35, .null), (14, .iload_n 1, 1, 1, 0, .null), (15, .iaload, 1, 0, 0, .null), (16, .bipush 6, 2, 0, 0, .int 6), (18, .if_icmp .ne 11, 3, 29, 0, .null), (21, .aload_n 0, 1, 0, 0, .null), (22, .iload_n 1, 1, 1, 0, .null), (23, .invokevirtual 297, 3, 158, 2, .ref 10), (26, .goto 4, 3, 30, 0, .null), (29, .iconst (-1), 1, 0, 0, .int (-1)), (30, .istore_n 2, 1, 2, 0, .null), (31, .aload_n 0, 1, 0, 0, .null), (32, .getfield 90, 3, 10, 35, .null), (35, .iload_n 1, 1, 1, 0, .null), (36, .iaload, 1, 0, 0, .null), (37, .tableswitch 290 0 19 #[95, 98, 118, 130, 167, 175, 196, 213, 240, 290, 290, 290, 290, 290, 290, 290, 290, 290, 248, 269], 95, 0, 0, .null), (132, .goto 211, 3, 343, 0, .null), (135, .aload_n 0, 1, 0, 0, .null), (136, .iconst 2, 1, 0, 0, .int 2), (137, .aload_n 0, 1, 0, 0, .null), (138, .getfield 53, 3, 10, 17, .null), (141, .aload_n 0, 1, 0, 0, .null), (142, .getfield 93, 3, 10, 36, .null), (145, .iload_n 1, 1, 1, 0, .null), (146, .iaload, 1, 0, 0, .null), (147, .iaload, 1, 0, 0, .null), (148, .invokevirtual 316, 3, 163, 3, .ref 10), (151, .istore_n 3, 1, 3, 0, .null), (152, .goto 191, 3, 343, 0, .null), (155, .aload_n 0, 1, 0, 0, .null), (156, .bipush 15, 2, 0, 0, .int 15), (158, .iconst 0, 1, 0, 0, .int 0), (159, .invokevirtual 316, 3, 163, 3, .ref 10), (162, .istore 4, 2, 4, 0, .null), (164, .goto 179, 3, 343, 0, .null), (167, .aload_n 0, 1, 0, 0, .null), (168, .getfield 118, 3, 10, 46, .null), (171, .aload_n 0, 1, 0, 0, .null), (172, .getfield 96, 3, 10, 37, .null), (175, .iload_n 1, 1, 1, 0, .null), (176, .iaload, 1, 0, 0, .null), (177, .iconst 3, 1, 0, 0, .int 3), (178, .if_icmp .ne 12, 3, 190, 0, .null), (181, .aload_n 0, 1, 0, 0, .null), (182, .getfield 130, 3, 10, 51, .null), (185, .iload_n 1, 1, 1, 0, .null), (186, .iaload, 1, 0, 0, .null), (187, .goto 9, 3, 196, 0, .null), (190, .aload_n 0, 1, 0, 0, .null), (191, .getfield 127, 3, 10, 50, .null), (194, .iload_n 1, 1, 1, 0, .null), (195, .iaload, 1, 0, 0, .null), (196, .aload_n 0, 1, 0, 0, .null), (197, .getfield 313, 3, 10, 47, .null), (200, .iastore, 1, 0, 0, .null), (201, .goto 142, 3, 343, 0, .null), (204, .aload_n 0, 1, 0, 0, .null), (205, .iload_n 1, 1, 1, 0, .null), (206, .invokevirtual 319, 3, 165, 2, .ref 10), (209, .goto 134, 3, 343, 0, .null), (212, .aload_n 0, 1, 0, 0, .null), (213, .getfield 124, 3, 10, 49, .null), (216, .iload_n 2, 1, 2, 0, .null), (217, .aload_n 0, 1, 0, 0, .null), (218, .bipush 13, 2, 0, 0, .int 13), (220, .aload_n 0, 1, 0, 0, .null), (221, .getfield 124, 3, 10, 49, .null), (224, .iload_n 2, 1, 2, 0, .null), (225, .iaload, 1, 0, 0, .null), (226, .invokevirtual 316, 3, 163, 3, .ref 10), (229, .iastore, 1, 0, 0, .null), (230, .goto 113, 3, 343, 0, .null), (233, .aload_n 0, 1, 0, 0, .null), (234, .bipush 13, 2, 0, 0, .int 13), (236, .aload_n 0, 1, 0, 0, .null), (237, .getfield 130, 3, 10, 51, .null), (240, .iload_n 2, 1, 2, 0, .null), (241, .iaload, 1, 0, 0, .null), (242, .invokevirtual 316, 3, 163, 3, .ref 10), (245, .istore 5, 2, 5, 0, .null), (247, .goto 96, 3, 343, 0, .null), (250, .aload_n 0, 1, 0, 0, .null), (251, .bipush 12, 2, 0, 0, .int 12), (253, .iconst 0, 1, 0, 0, .int 0), (254, .invokevirtual 316, 3, 163, 3, .ref 10), (257, .istore 6, 2, 6, 0, .null), (259, .aload_n 0, 1, 0, 0, .null), (260, .getfield 118, 3, 10, 46, .null), (263, .aload_n 0, 1, 0, 0, .null), (264, .getfield 127, 3, 10, 50, .null), (267, .iload_n 1, 1, 1, 0, .null), (268, .iaload, 1, 0, 0, .null), (269, .aload_n 0, 1, 0, 0, .null), (270, .getfield 313, 3, 10, 47, .null), (273, .iastore, 1, 0, 0, .null), (274, .goto 69, 3, 343, 0, .null), (277, .aload_n 0, 1, 0, 0, .null), (278, .iload_n 1, 1, 1, 0, .null), (279, .invokevirtual 322, 3, 166, 2, .ref 10), (282, .goto 61, 3, 343, 0, .null), (285, .aload_n 0, 1, 0, 0, .null), (286, .iconst 1, 1, 0, 0, .int 1), (287, .aload_n 0, 1, 0, 0, .null), (288, .getfield 53, 3, 10, 17, .null), (291, .aload_n 0, 1, 0, 0, .null), (292, .getfield 93, 3, 10, 36, .null), (295, .iload_n 1, 1, 1, 0, .null), (296, .iaload, 1, 0, 0, .null), (297, .iaload, 1, 0, 0, .null), (298, .invokevirtual 316, 3, 163, 3, .ref 10), (301, .istore 7, 2, 7, 0, .null), (303, .goto 40, 3, 343, 0, .null), (306, .aload_n 0, 1, 0, 0, .null), (307, .iconst 0, 1, 0, 0, .int 0), (308, .aload_n 0, 1, 0, 0, .null), (309, .getfield 53, 3, 10, 17, .null), (312, .aload_n 0, 1, 0, 0, .null), (313, .getfield 93, 3, 10, 36, .null), (316, .iload_n 1, 1, 1, 0, .null), (317, .iaload, 1, 0, 0, .null), (318, .iaload, 1, 0, 0, .null), (319, .invokevirtual 316, 3, 163, 3, .ref 10), (322, .istore 8, 2, 8, 0, .null), (324, .goto 19, 3, 343, 0, .null), (327, .aload_n 0, 1, 0, 0, .null), (328, .aload_n 0, 1, 0, 0, .null), (329, .getfield 90, 3, 10, 35, .null), (332, .iload_n 1, 1, 1, 0, .null), (333, .iaload, 1, 0, 0, .null), (334, .invokestatic 325, 3, 168, 1, .null), (337, .iconst 0, 1, 0, 0, .int 0), (338, .invokevirtual 316, 3, 163, 3, .ref 10), (341, .istore 9, 2, 9, 0, .null), (343, .return_, 1, 0, 0, .null)]
def mz_m167 : mz_D := (⟨"TinyFrontModel", "leave", "(I)V"⟩, prog_12_method_50_code, 10, none, 2, 46, mz_t167)
/-- 168: TinyFrontModel.wordFor(I)I -/
def mz_t168 : List mz_E := [(0, .iload_n 0, 1, 0, 0, .null), (1, .tableswitch 68 9 16 #[47, 50, 53, 55, 57, 59, 62, 65], 47, 0, 0, .null), (48, .bipush 8, 2, 0, 0, .int 8), (50, .ireturn, 1, 0, 0, .null), (51, .bipush 9, 2, 0, 0, .int 9), (53, .ireturn, 1, 0, 0, .null), (54, .iconst 3, 1, 0, 0, .int 3), (55, .ireturn, 1, 0, 0, .null), (56, .iconst 4, 1, 0, 0, .int 4), (57, .ireturn, 1, 0, 0, .null), (58, .iconst 5, 1, 0, 0, .int 5), (59, .ireturn, 1, 0, 0, .null), (60, .bipush 6, 2, 0, 0, .int 6), (62, .ireturn, 1, 0, 0, .null), (63, .bipush 7, 2, 0, 0, .int 7), (65, .ireturn, 1, 0, 0, .null), (66, .bipush 10, 2, 0, 0, .int 10), (68, .ireturn, 1, 0, 0, .null), (69, .bipush 11, 2, 0, 0, .int 11), (71, .ireturn, 1, 0, 0, .null)]
def mz_m168 : mz_D := (⟨"TinyFrontModel", "wordFor", "(I)I"⟩, prog_12_method_51_code, 1, (some (.int)), 0, 0, mz_t168)
/-- 169: TinyFrontModel.compile()I -/
def mz_t169 : List mz_E := [(0, .aload_n 0, 1, 0, 0, .null), (1, .getfield 194, 3, 10, 34, .null), (4, .ifCond .ne 6, 3, 10, 0, .null), (7, .bipush (-3), 2, 0, 0, .int (-3)), (9, .ireturn, 1, 0, 0, .null), (10, .aload_n 0, 1, 0, 0, .null), (11, .iconst 0, 1, 0, 0, .int 0), (12, .putfield 313, 3, 10, 47, .null), (15, .iconst 0, 1, 0, 0, .int 0), (16, .istore_n 1, 1, 1, 0, .null), (17, .aload_n 0, 1, 0, 0, .null), (18, .getfield 121, 3, 10, 48, .null), (21, .iconst 0, 1, 0, 0, .int 0), (22, .iconst 0, 1, 0, 0, .int 0), (23, .iastore, 1, 0, 0, .null), (24, .aload_n 0, 1, 0, 0, .null), (25, .getfield 102, 3, 10, 39, .null), (28, .iconst 0, 1, 0, 0, .int 0), (29, .iaload, 1, 0, 0, .null), (30, .istore_n 2, 1, 2, 0, .null), (31, .iload_n 1, 1, 1, 0, .null), (32, .ifCond .lt 69, 3, 101, 0, .null), (35, .iload_n 2, 1, 2, 0, .null), (36, .ifCond .lt 43, 3, 79, 0, .null), (39, .aload_n 0, 1, 0, 0, .null), (40, .iload_n 1, 1, 1, 0, .null), (41, .aload_n 0, 1, 0, 0, .null), (42, .getfield 121, 3, 10, 48, .null), (45, .iload_n 1, 1, 1, 0, .null), (46, .iaload, 1, 0, 0, .null), (47, .invokevirtual 328, 3, 164, 3, .ref 10), (50, .aload_n 0, 1, 0, 0, .null), (51, .getfield 121, 3, 10, 48, .null), (54, .iload_n 1, 1, 1, 0, .null), (55, .dup2, 1, 0, 0, .null), (56, .iaload, 1, 0, 0, .null), (57, .iconst 1, 1, 0, 0, .int 1), (58, .iadd, 1, 0, 0, .null), (59, .iastore, 1, 0, 0, .null), (60, .iload_n 2, 1, 2, 0, .null), (61, .istore_n 1, 1, 1, 0, .null), (62, .aload_n 0, 1, 0, 0, .null), (63, .getfield 121, 3, 10, 48, .null), (66, .iload_n 1, 1, 1, 0, .null), (67, .iconst 0, 1, 0, 0, .int 0), (68, .iastore, 1, 0, 0, .null), (69, .aload_n 0, 1, 0, 0, .null), (70, .getfield 102, 3, 10, 39, .null), (73, .iload_n 1, 1, 1, 0, .null), (74, .iaload, 1, 0, 0, .null), (75, .istore_n 2, 1, 2, 0, .null), (76, .goto (-45), 3, 31, 0, .null), (79, .aload_n 0, 1, 0, 0, .null), (80, .iload_n 1, 1, 1, 0, .null), (81, .invokevirtual 331, 3, 167, 2, .ref 10), (84, .aload_n 0, 1, 0, 0, .null), (85, .getfield 108, 3, 10, 41, .null), (88, .iload_n 1, 1, 1, 0, .null), (89, .iaload, 1, 0, 0, .null), (90, .istore_n 2, 1, 2, 0, .null), (91, .aload_n 0, 1, 0, 0, .null), (92, .getfield 111, 3, 10, 42, .null), (95, .iload_n 1, 1, 1, 0, .null), (96, .iaload, 1, 0, 0, .null), (97, .istore_n 1, 1, 1, 0, .null), (98, .goto (-67), 3, 31, 0, .null), (101, .aload_n 0, 1, 0, 0, .null), (102, .bipush 16, 2, 0, 0, .int 16), (104, .iconst 0, 1, 0, 0, .int 0), (105, .invokevirtual 316, 3, 163, 3, .ref 10), (108, .istore_n 3, 1, 3, 0, .null), (109, .aload_n 0, 1, 0, 0, .null), (110, .iconst 1, 1, 0, 0, .int 1), (111, .putfield 197, 3, 10, 44, .int 1), (114, .aload_n 0, 1, 0, 0, .null), (115, .getfield 313, 3, 10, 47, .null), (118, .ireturn, 1, 0, 0, .null)]
def mz_m169 : mz_D := (⟨"TinyFrontModel", "compile", "()I"⟩, prog_12_method_52_code, 4, (some (.int)), 3, 75, mz_t169)
/-- 170: TinyFrontModel.code(II)I -/
def mz_t170 : List mz_E := [(0, .aload_n 0, 1, 0, 0, .null), (1, .getfield 197, 3, 10, 44, .null), (4, .ifCond .eq 24, 3, 28, 0, .null), (7, .iload_n 1, 1, 1, 0, .null), (8, .ifCond .lt 20, 3, 28, 0, .null), (11, .iload_n 1, 1, 1, 0, .null), (12, .aload_n 0, 1, 0, 0, .null), (13, .getfield 313, 3, 10, 47, .null), (16, .if_icmp .ge 12, 3, 28, 0, .null), (19, .iload_n 2, 1, 2, 0, .null), (20, .ifCond .lt 8, 3, 28, 0, .null), (23, .iload_n 2, 1, 2, 0, .null), (24, .iconst 1, 1, 0, 0, .int 1), (25, .if_icmp .le 5, 3, 30, 0, .null), (28, .iconst (-1), 1, 0, 0, .int (-1)), (29, .ireturn, 1, 0, 0, .null), (30, .iload_n 2, 1, 2, 0, .null), (31, .ifCond .ne 12, 3, 43, 0, .null), (34, .aload_n 0, 1, 0, 0, .null), (35, .getfield 115, 3, 10, 45, .null), (38, .iload_n 1, 1, 1, 0, .null), (39, .iaload, 1, 0, 0, .null), (40, .goto 9, 3, 49, 0, .null), (43, .aload_n 0, 1, 0, 0, .null), (44, .getfield 118, 3, 10, 46, .null), (47, .iload_n 1, 1, 1, 0, .null), (48, .iaload, 1, 0, 0, .null), (49, .ireturn, 1, 0, 0, .null)]
def mz_m170 : mz_D := (⟨"TinyFrontModel", "code", "(II)I"⟩, prog_12_method_53_code, 3, (some (.int)), 0, 0, mz_t170)
/-- 171: TinyFrontModel.input(II)I -/
def mz_t171 : List mz_E := [(0, .iload_n 1, 1, 1, 0, .null), (1, .ifCond .lt 9, 3, 10, 0, .null), (4, .iload_n 1, 1, 1, 0, .null), (5, .bipush 32, 2, 0, 0, .int 32), (7, .if_icmp .lt 5, 3, 12, 0, .null), (10, .iconst 0, 1, 0, 0, .int 0), (11, .ireturn, 1, 0, 0, .null), (12, .aload_n 0, 1, 0, 0, .null), (13, .getfield 133, 3, 10, 52, .null), (16, .iload_n 1, 1, 1, 0, .null), (17, .iaload, 1, 0, 0, .null), (18, .istore_n 3, 1, 3, 0, .null), (19, .aload_n 0, 1, 0, 0, .null), (20, .getfield 133, 3, 10, 52, .null), (23, .iload_n 1, 1, 1, 0, .null), (24, .iload_n 2, 1, 2, 0, .null), (25, .iastore, 1, 0, 0, .null), (26, .iload_n 3, 1, 3, 0, .null), (27, .ireturn, 1, 0, 0, .null)]
def mz_m171 : mz_D := (⟨"TinyFrontModel", "input", "(II)I"⟩, prog_12_method_54_code, 4, (some (.int)), 0, 0, mz_t171)
/-- 172: TinyFrontModel.begin(I)V -/
def mz_t172 : List mz_E := [(0, .aload_n 0, 1, 0, 0, .null), (1, .iconst 1, 1, 0, 0, .int 1), (2, .putfield 206, 3, 10, 56, .int 1), (5, .aload_n 0, 1, 0, 0, .null), (6, .iload_n 1, 1, 1, 0, .null), (7, .putfield 334, 3, 10, 58, .null), (10, .aload_n 0, 1, 0, 0, .null), (11, .iconst 0, 1, 0, 0, .int 0), (12, .putfield 337, 3, 10, 59, .null), (15, .aload_n 0, 1, 0, 0, .null), (16, .iconst (-1), 1, 0, 0, .int (-1)), (17, .putfield 340, 3, 10, 60, .null), (20, .aload_n 0, 1, 0, 0, .null), (21, .iconst 0, 1, 0, 0, .int 0), (22, .putfield 343, 3, 10, 61, .null), (25, .aload_n 0, 1, 0, 0, .null), (26, .iconst 0, 1, 0, 0, .int 0), (27, .putfield 346, 3, 10, 55, .null), (30, .iconst 0, 1, 0, 0, .int 0), (31, .istore_n 2, 1, 2, 0, .null), (32, .iload_n 2, 1, 2, 0, .null), (33, .bipush 32, 2, 0, 0, .int 32), (35, .if_icmp .ge 21, 3, 56, 0, .null), (38, .aload_n 0, 1, 0, 0, .null), (39, .getfield 136, 3, 10, 53, .null), (42, .iload_n 2, 1, 2, 0, .null), (43, .aload_n 0, 1, 0, 0, .null), (44, .getfield 133, 3, 10, 52, .null), (47, .iload_n 2, 1, 2, 0, .null), (48, .iaload, 1, 0, 0, .null), (49, .iastore, 1, 0, 0, .null), (50, .iinc 2 1, 3, 2, 0, .int 1), (53, .goto (-21), 3, 32, 0, .null), (56, .return_, 1, 0, 0, .null)]
def mz_m172 : mz_D := (⟨"TinyFrontModel", "begin", "(I)V"⟩, prog_12_method_55_code, 3, none, 0, 0, mz_t172)
/-- 173: TinyFrontModel.burn(I)Z -/
def mz_t173 : List mz_E := [(0, .aload_n 0, 1, 0, 0, .null), (1, .getfield 337, 3, 10, 59, .null), (4, .aload_n 0, 1, 0, 0, .null), (5, .getfield 334, 3, 10, 58, .null), (8, .if_icmp .ne 5, 3, 13, 0, .null), (11, .iconst 0, 1, 0, 0, .int 0), (12, .ireturn, 1, 0, 0, .null), (13, .aload_n 0, 1, 0, 0, .null), (14, .dup, 1, 0, 0, .null), (15, .getfield 337, 3, 10, 59, .null), (18, .iconst 1, 1, 0, 0, .int 1), (19, .iadd, 1, 0, 0, .null), (20, .putfield 337, 3, 10, 59, .null), (23, .aload_n 0, 1, 0, 0, .null), (24, .iload_n 1, 1, 1, 0, .null), (25, .putfield 340, 3, 10, 60, .null), (28, .iconst 1, 1, 0, 0, .int 1), (29, .ireturn, 1, 0, 0, .null)]
def mz_m173 : mz_D := (⟨"TinyFrontModel", "burn", "(I)Z"⟩, prog_12_method_56_code, 2, (some (.boolean)), 0, 0, mz_t173)
/-- 174: TinyFrontModel.push(I)V -/
def mz_t174 : List mz_E := [(0, .aload_n 0, 1, 0, 0, .null), (1, .getfield 139, 3, 10, 54, .null), (4, .aload_n 0, 1, 0, 0, .null), (5, .getfield 346, 3, 10, 55, .null), (8, .iload_n 1, 1, 1, 0, .null), (9, .iastore, 1, 0, 0, .null), (10, .aload_n 0, 1, 0, 0, .null), (11, .dup, 1, 0, 0, .null), (12, .getfield 346, 3, 10, 55, .null), (15, .iconst 1, 1, 0, 0, .int 1), (16, .iadd, 1, 0, 0, .null), (17, .putfield 346, 3, 10, 55, .null), (20, .return_, 1, 0, 0, .null)]
def mz_m174 : mz_D := (⟨"TinyFrontModel", "push", "(I)V"⟩, prog_12_method_57_code, 2, none, 0, 0, mz_t174)
/-- 175: TinyFrontModel.pop()I -/
def mz_t175 : List mz_E := [(0, .aload_n 0, 1, 0, 0, .null), (1, .dup, 1, 0, 0, .null), (2, .getfield 346, 3, 10, 55, .null), (5, .iconst 1, 1, 0, 0, .int 1), (6, .isub, 1, 0, 0, .null), (7, .putfield 346, 3, 10, 55, .null), (10, .aload_n 0, 1, 0, 0, .null), (11, .getfield 139, 3, 10, 54, .null), (14, .aload_n 0, 1, 0, 0, .null), (15, .getfield 346, 3, 10, 55, .null), (18, .iaload, 1, 0, 0, .null), (19, .ireturn, 1, 0, 0, .null)]
def mz_m175 : mz_D := (⟨"TinyFrontModel", "pop", "()I"⟩, prog_12_method_58_code, 1, (some (.int)), 0, 0, mz_t175)
/-- 176: TinyFrontModel.print(I)V -/
def mz_t176 : List mz_E := [(0, .aload_n 0, 1, 0, 0, .null), (1, .getfield 343, 3, 10, 61, .null), (4, .sipush 1000, 3, 0, 0, .int 1000), (7, .if_icmp .ge 13, 3, 20, 0, .null), (10, .aload_n 0, 1, 0, 0, .null), (11, .getfield 142, 3, 10, 62, .null), (14, .aload_n 0, 1, 0, 0, .null), (15, .getfield 343, 3, 10, 61, .null), (18, .iload_n 1, 1, 1, 0, .null), (19, .iastore, 1, 0, 0, .null), (20, .aload_n 0, 1, 0, 0, .null), (21, .dup, 1, 0, 0, .null), (22, .getfield 343, 3, 10, 61, .null), (25, .iconst 1, 1, 0, 0, .int 1), (26, .iadd, 1, 0, 0, .null), (27, .putfield 343, 3, 10, 61, .null), (30, .return_, 1, 0, 0, .null)]
def mz_m176 : mz_D := (⟨"TinyFrontModel", "print", "(I)V"⟩, prog_12_method_59_code, 2, none, 0, 0, mz_t176)
/-- 177: TinyFrontModel.truth(Z)I -/
def mz_t177 : List mz_E := [(0, .iload_n 0, 1, 0, 0, .null), (1, .ifCond .eq 7, 3, 8, 0, .null), (4, .iconst 1, 1, 0, 0, .int 1), (5, .goto 4, 3, 9, 0, .null), (8, .iconst 0, 1, 0, 0, .int 0), (9, .ireturn, 1, 0, 0, .null)]
def mz_m177 : mz_D := (⟨"TinyFrontModel", "truth", "(Z)I"⟩, prog_12_method_60_code, 1, (some (.int)), 0, 0, mz_t177)
/-- 178: TinyFrontModel.join(III)I -/
def mz_t178 : List mz_E := [(0, .iload_n 0, 1, 0, 0, .null), (1, .tableswitch 83 9 14 #[39, 53, 67, 71, 75, 79], 39, 0, 0, .null), (40, .iload_n 1, 1, 1, 0, .null), (41, .iload_n 2, 1, 2, 0, .null), (42, .if_icmp .ne 7, 3, 49, 0, .null), (45, .iconst 1, 1, 0, 0, .int 1), (46, .goto 4, 3, 50, 0, .null), (49, .iconst 0, 1, 0, 0, .int 0), (50, .invokestatic 349, 3, 177, 1, .null), (53, .ireturn, 1, 0, 0, .null), (54, .iload_n 1, 1, 1, 0, .null), (55, .iload_n 2, 1, 2, 0, .null), (56, .if_icmp .ge 7, 3, 63, 0, .null), (59, .iconst 1, 1, 0, 0, .int 1), (60, .goto 4, 3, 64, 0, .null), (63, .iconst 0, 1, 0, 0, .int 0), (64, .invokestatic 349, 3, 177, 1, .null), (67, .ireturn, 1, 0, 0, .null), (68, .iload_n 1, 1, 1, 0, .null), (69, .iload_n 2, 1, 2, 0, .null), (70, .iadd, 1, 0, 0, .null), (71, .ireturn, 1, 0, 0, .null), (72, .iload_n 1, 1, 1, 0, .null), (73, .iload_n 2, 1, 2, 0, .null), (74, .isub, 1, 0, 0, .null), (75, .ireturn, 1, 0, 0, .null), (76, .iload_n 1, 1, 1, 0, .null), (77, .iload_n 2, 1, 2, 0, .null), (78, .imul, 1, 0, 0, .null), (79, .ireturn, 1, 0, 0, .null), (80, .iload_n 1, 1, 1, 0, .null), (81, .iload_n 2, 1, 2, 0, .null), (82, .idiv, 1, 0, 0, .null), (83, .ireturn, 1, 0, 0, .null), (84, .iload_n 1, 1, 1, 0, .null), (85, .iload_n 2, 1, 2, 0, .null), (86, .irem, 1, 0, 0, .null), (87, .ireturn, 1, 0, 0, .null)]
def mz_m178 : mz_D := (⟨"TinyFrontModel", "join", "(III)I"⟩, prog_12_method_61_code, 3, (some (.int)), 1, 20, mz_t178)
/-- 179: TinyFrontModel.joinTwo(I)I -/
def mz_t179 : List mz_E := [(0, .aload_n 0, 1, 0, 0, .null), (1, .invokevirtual 353, 3, 175, 1, .ref 10), (4, .istore_n 2, 1, 2, 0, .null), (5, .aload_n 0, 1, 0, 0, .null), (6, .invokevirtual 353, 3, 175, 1, .ref 10), (9, .istore_n 3, 1, 3, 0, .null), (10, .iload_n 1, 1, 1, 0, .null), (11, .bipush 14, 2, 0, 0, .int 14), (13, .if_icmp .eq 9, 3, 22, 0, .null), (16, .iload_n 1, 1, 1, 0, .null), (17, .bipush 15, 2, 0, 0, .int 15), (19, .if_icmp .ne 10, 3, 29, 0, .null), (22, .iload_n 2, 1, 2, 0, .null), (23, .ifCond .ne 6, 3, 29, 0, .null), (26, .bipush (-3), 2, 0, 0, .int (-3)), (28, .ireturn, 1, 0, 0, .null), (29, .aload_n 0, 1, 0, 0, .null), (30, .iload_n 1, 1, 1, 0, .null), (31, .iload_n 3, 1, 3, 0, .null), (32, .iload_n 2, 1, 2, 0, .null), (33, .invokestatic 356, 3, 178, 3, .null), (36, .invokevirtual 359, 3, 174, 2, .ref 10), (39, .iconst (-1), 1, 0, 0, .int (-1)), (40, .ireturn, 1, 0, 0, .null)]
def mz_m179 : mz_D := (⟨"TinyFrontModel", "joinTwo", "(I)I"⟩, prog_12_method_62_code, 4, (some (.int)), 2, 42, mz_t179)
/-- 180: TinyFrontModel.logic(I)I -/
def mz_t180 : List mz_E := [(0, .aload_n 0, 1, 0, 0, .null), (1, .getfield 121, 3, 10, 48, .null), (4, .iload_n 1, 1, 1, 0, .null), (5, .iaload, 1, 0, 0, .null), (6, .istore_n 2, 1, 2, 0, .null), (7, .iload_n 2, 1, 2, 0, .null), (8, .ifCond .ne 10, 3, 18, 0, .null), (11, .aload_n 0, 1, 0, 0, .null), (12, .getfield 102, 3, 10, 39, .null), (15, .iload_n 1, 1, 1, 0, .null), (16, .iaload, 1, 0, 0, .null), (17, .ireturn, 1, 0, 0, .null), (18, .aload_n 0, 1, 0, 0, .null), (19, .invokevirtual 353, 3, 175, 1, .ref 10), (22, .istore_n 3, 1, 3, 0, .null), (23, .iload_n 2, 1, 2, 0, .null), (24, .iconst 1, 1, 0, 0, .int 1), (25, .if_icmp .ne 38, 3, 63, 0, .null), (28, .iload_n 3, 1, 3, 0, .null), (29, .ifCond .eq 7, 3, 36, 0, .null), (32, .iconst 1, 1, 0, 0, .int 1), (33, .goto 4, 3, 37, 0, .null), (36, .iconst 0, 1, 0, 0, .int 0), (37, .aload_n 0, 1, 0, 0, .null), (38, .getfield 90, 3, 10, 35, .null), (41, .iload_n 1, 1, 1, 0, .null), (42, .iaload, 1, 0, 0, .null), (43, .bipush 8, 2, 0, 0, .int 8), (45, .if_icmp .ne 7, 3, 52, 0, .null), (48, .iconst 1, 1, 0, 0, .int 1), (49, .goto 4, 3, 53, 0, .null), (52, .iconst 0, 1, 0, 0, .int 0), (53, .if_icmp .ne 10, 3, 63, 0, .null), (56, .aload_n 0, 1, 0, 0, .null), (57, .getfield 105, 3, 10, 40, .null), (60, .iload_n 1, 1, 1, 0, .null), (61, .iaload, 1, 0, 0, .null), (62, .ireturn, 1, 0, 0, .null), (63, .aload_n 0, 1, 0, 0, .null), (64, .iload_n 3, 1, 3, 0, .null), (65, .ifCond .eq 7, 3, 72, 0, .null), (68, .iconst 1, 1, 0, 0, .int 1), (69, .goto 4, 3, 73, 0, .null), (72, .iconst 0, 1, 0, 0, .int 0), (73, .invokestatic 349, 3, 177, 1, .null), (76, .invokevirtual 359, 3, 174, 2, .ref 10), (79, .iconst (-1), 1, 0, 0, .int (-1)), (80, .ireturn, 1, 0, 0, .null)]
def mz_m180 : mz_D := (⟨"TinyFrontModel", "logic", "(I)I"⟩, prog_12_method_63_code, 4, (some (.int)), 1, 21, mz_t180)
/-- 181: TinyFrontModel.choose(I)I -/
def mz_t181 : List mz_E := [(0, .aload_n 0, 1, 0, 0, .null), (1, .getfield 121, 3, 10, 48, .null), (4, .iload_n 1, 1, 1, 0, .null), (5, .iaload, 1, 0, 0, .null), (6, .ifCond .ne 10, 3, 16, 0, .null), (9, .aload_n 0, 1, 0, 0, .null), (10, .getfield 102, 3, 10, 39, .null), (13, .iload_n 1, 1, 1, 0, .null), (14, .iaload, 1, 0, 0, .null), (15, .ireturn, 1, 0, 0, .null), (16, .aload_n 0, 1, 0, 0, .null), (17, .getfield 121, 3, 10, 48, .null), (20, .iload_n 1, 1, 1, 0, .null), (21, .iaload, 1, 0, 0, .null), (22, .iconst 2, 1, 0, 0, .int 2), (23, .if_icmp .ne 5, 3, 28, 0, .null), (26, .iconst (-1), 1, 0, 0, .int (-1)), (27, .ireturn, 1, 0, 0, .null), (28, .aload_n 0, 1, 0, 0, .null), (29, .getfield 108, 3, 10, 41, .null), (32, .aload_n 0, 1, 0, 0, .null), (33, .getfield 102, 3, 10, 39, .null), (36, .iload_n 1, 1, 1, 0, .null), (37, .iaload, 1, 0, 0, .null), (38, .iaload, 1, 0, 0, .null), (39, .istore_n 2, 1, 2, 0, .null), (40, .aload_n 0, 1, 0, 0, .null), (41, .invokevirtual 353, 3, 175, 1, .ref 10), (44, .ifCond .eq 7, 3, 51, 0, .null), (47, .iload_n 2, 1, 2, 0, .null), (48, .goto 23, 3, 71, 0, .null), (51, .aload_n 0, 1, 0, 0, .null), (52, .getfield 96, 3, 10, 37, .null), (55, .iload_n 1, 1, 1, 0, .null), (56, .iaload, 1, 0, 0, .null), (57, .iconst 3, 1, 0, 0, .int 3), (58, .if_icmp .ne 12, 3, 70, 0, .null), (61, .aload_n 0, 1, 0, 0, .null), (62, .getfield 105, 3, 10, 40, .null), (65, .iload_n 1, 1, 1, 0, .null), (66, .iaload, 1, 0, 0, .null), (67, .goto 4, 3, 71, 0, .null), (70, .iconst (-1), 1, 0, 0, .int (-1)), (71, .ireturn, 1, 0, 0, .null)]
def mz_m181 : mz_D := (⟨"TinyFrontModel", "choose", "(I)I"⟩, prog_12_method_64_code, 3, (some (.int)), 1, 20, mz_t181)
/-- 182: TinyFrontModel.round(I)I -/
def mz_t182 : List mz_E := [(0, .aload_n 0, 1, 0, 0, .null), (1, .getfield 121, 3, 10, 48, .null), (4, .iload_n 1, 1, 1, 0, .null), (5, .iaload, 1, 0, 0, .null), (6, .iconst 1, 1, 0, 0, .int 1), (7, .if_icmp .ne 21, 3, 28, 0, .null), (10, .aload_n 0, 1, 0, 0, .null), (11, .invokevirtual 353, 3, 175, 1, .ref 10), (14, .ifCond .eq 12, 3, 26, 0, .null), (17, .aload_n 0, 1, 0, 0, .null), (18, .getfield 105, 3, 10, 40, .null), (21, .iload_n 1, 1, 1, 0, .null), (22, .iaload, 1, 0, 0, .null), (23, .goto 4, 3, 27, 0, .null), (26, .iconst (-1), 1, 0, 0, .int (-1)), (27, .ireturn, 1, 0, 0, .null), (28, .aload_n 0, 1, 0, 0, .null), (29, .getfield 121, 3, 10, 48, .null), (32, .iload_n 1, 1, 1, 0, .null), (33, .iconst 0, 1, 0, 0, .int 0), (34, .iastore, 1, 0, 0, .null), (35, .aload_n 0, 1, 0, 0, .null), (36, .iload_n 1, 1, 1, 0, .null), (37, .invokevirtual 362, 3, 173, 2, .ref 10), (40, .ifCond .eq 12, 3, 52, 0, .null), (43, .aload_n 0, 1, 0, 0, .null), (44, .getfield 102, 3, 10, 39, .null), (47, .iload_n 1, 1, 1, 0, .null), (48, .iaload, 1, 0, 0, .null), (49, .goto 5, 3, 54, 0, .null), (52, .bipush (-2), 2, 0, 0, .int (-2)), (54, .ireturn, 1, 0, 0, .null)]
def mz_m182 : mz_D := (⟨"TinyFrontModel", "round", "(I)I"⟩, prog_12_method_65_code, 2, (some (.int)), 1, 21, mz_t182)
/-- 183: TinyFrontModel.advance(I)I -/
def mz_t183 : List mz_E := [(0, .aload_n 0, 1, 0, 0, .null), (1, .getfield 90, 3, 10, 35, .null), (4, .iload_n 1, 1, 1, 0, .null), (5, .iaload, 1, 0, 0, .null), (6, .istore_n 2, 1, 2, 0, .null), (7, .iload_n 2, 1, 2, 0, .null), (8, .tableswitch 288 0 19 #[96, 126, 126, 180, 186, 288, 288, 192, 192, 288, 288, 288, 288, 288, 288, 288, 198, 198, 249, 271], 96, 0, 0, .null), (104, .aload_n 0, 1, 0, 0, .null), (105, .getfield 121, 3, 10, 48, .null), (108, .iload_n 1, 1, 1, 0, .null), (109, .iaload, 1, 0, 0, .null), (110, .ifCond .ne 12, 3, 122, 0, .null), (113, .aload_n 0, 1, 0, 0, .null), (114, .getfield 102, 3, 10, 39, .null), (117, .iload_n 1, 1, 1, 0, .null), (118, .iaload, 1, 0, 0, .null), (119, .goto 14, 3, 133, 0, .null), (122, .aload_n 0, 1, 0, 0, .null), (123, .getfield 108, 3, 10, 41, .null), (126, .aload_n 0, 1, 0, 0, .null), (127, .getfield 124, 3, 10, 49, .null), (130, .iload_n 1, 1, 1, 0, .null), (131, .iaload, 1, 0, 0, .null), (132, .iaload, 1, 0, 0, .null), (133, .ireturn, 1, 0, 0, .null), (134, .aload_n 0, 1, 0, 0, .null), (135, .getfield 121, 3, 10, 48, .null), (138, .iload_n 1, 1, 1, 0, .null), (139, .iaload, 1, 0, 0, .null), (140, .ifCond .ne 10, 3, 150, 0, .null), (143, .aload_n 0, 1, 0, 0, .null), (144, .getfield 102, 3, 10, 39, .null), (147, .iload_n 1, 1, 1, 0, .null), (148, .iaload, 1, 0, 0, .null), (149, .ireturn, 1, 0, 0, .null), (150, .iload_n 2, 1, 2, 0, .null), (151, .iconst 1, 1, 0, 0, .int 1), (152, .if_icmp .ne 26, 3, 178, 0, .null), (155, .aload_n 0, 1, 0, 0, .null), (156, .getfield 136, 3, 10, 53, .null), (159, .aload_n 0, 1, 0, 0, .null), (160, .getfield 53, 3, 10, 17, .null), (163, .aload_n 0, 1, 0, 0, .null), (164, .getfield 93, 3, 10, 36, .null), (167, .iload_n 1, 1, 1, 0, .null), (168, .iaload, 1, 0, 0, .null), (169, .iaload, 1, 0, 0, .null), (170, .aload_n 0, 1, 0, 0, .null), (171, .invokevirtual 353, 3, 175, 1, .ref 10), (174, .iastore, 1, 0, 0, .null), (175, .goto 11, 3, 186, 0, .null), (178, .aload_n 0, 1, 0, 0, .null), (179, .aload_n 0, 1, 0, 0, .null), (180, .invokevirtual 353, 3, 175, 1, .ref 10), (183, .invokevirtual 365, 3, 176, 2, .ref 10), (186, .iconst (-1), 1, 0, 0, .int (-1)), (187, .ireturn, 1, 0, 0, .null), (188, .aload_n 0, 1, 0, 0, .null), (189, .iload_n 1, 1, 1, 0, .null), (190, .invokevirtual 368, 3, 181, 2, .ref 10), (193, .ireturn, 1, 0, 0, .null), (194, .aload_n 0, 1, 0, 0, .null), (195, .iload_n 1, 1, 1, 0, .null), (196, .invokevirtual 371, 3, 182, 2, .ref 10), (199, .ireturn, 1, 0, 0, .null), (200, .aload_n 0, 1, 0, 0, .null), (201, .iload_n 1, 1, 1, 0, .null), (202, .invokevirtual 374, 3, 180, 2, .ref 10), (205, .ireturn, 1, 0, 0, .null), (206, .aload_n 0, 1, 0, 0, .null), (207, .getfield 121, 3, 10, 48, .null), (210, .iload_n 1, 1, 1, 0, .null), (211, .iaload, 1, 0, 0, .null), (212, .ifCond .ne 10, 3, 222, 0, .null), (215, .aload_n 0, 1, 0, 0, .null), (216, .getfield 102, 3, 10, 39, .null), (219, .iload_n 1, 1, 1, 0, .null), (220, .iaload, 1, 0, 0, .null), (221, .ireturn, 1, 0, 0, .null), (222, .aload_n 0, 1, 0, 0, .null), (223, .iload_n 2, 1, 2, 0, .null), (224, .bipush 17, 2, 0, 0, .int 17), (226, .if_icmp .ne 21, 3, 247, 0, .null), (229, .aload_n 0, 1, 0, 0, .null), (230, .invokevirtual 353, 3, 175, 1, .ref 10), (233, .ifCond .ne 7, 3, 240, 0, .null), (236, .iconst 1, 1, 0, 0, .int 1), (237, .goto 4, 3, 241, 0, .null), (240, .iconst 0, 1, 0, 0, .int 0), (241, .invokestatic 349, 3, 177, 1, .null), (244, .goto 8, 3, 252, 0, .null), (247, .aload_n 0, 1, 0, 0, .null), (248, .invokevirtual 353, 3, 175, 1, .ref 10), (251, .ineg, 1, 0, 0, .null), (252, .invokevirtual 359, 3, 174, 2, .ref 10), (255, .iconst (-1), 1, 0, 0, .int (-1)), (256, .ireturn, 1, 0, 0, .null), (257, .aload_n 0, 1, 0, 0, .null), (258, .aload_n 0, 1, 0, 0, .null), (259, .getfield 136, 3, 10, 53, .null), (262, .aload_n 0, 1, 0, 0, .null), (263, .getfield 53, 3, 10, 17, .null), (266, .aload_n 0, 1, 0, 0, .null), (267, .getfield 93, 3, 10, 36, .null), (270, .iload_n 1, 1, 1, 0, .null), (271, .iaload, 1, 0, 0, .null), (272, .iaload, 1, 0, 0, .null), (273, .iaload, 1, 0, 0, .null), (274, .invokevirtual 359, 3, 174, 2, .ref 10), (277, .iconst (-1), 1, 0, 0, .int (-1)), (278, .ireturn, 1, 0, 0, .null), (279, .aload_n 0, 1, 0, 0, .null), (280, .aload_n 0, 1, 0, 0, .null), (281, .getfield 53, 3, 10, 17, .null), (284, .aload_n 0, 1, 0, 0, .null), (285, .getfield 93, 3, 10, 36, .null), (288, .iload_n 1, 1, 1, 0, .null), (289, .iaload, 1, 0, 0, .null), (290, .iaload, 1, 0, 0, .null), (291, .invokevirtual 359, 3, 174, 2, .ref 10), (294, .iconst (-1), 1, 0, 0, .int (-1)), (295, .ireturn, 1, 0, 0, .null), (296, .aload_n 0, 1, 0, 0, .null), (297, .getfield 121, 3, 10, 48, .null), (300, .iload_n 1, 1, 1, 0, .null), (301, .iaload, 1, 0, 0, .null), (302, .ifCond .ne 12, 3, 314, 0, .null), (305, .aload_n 0, 1, 0, 0, .null), (306, .getfield 102, 3, 10, 39, .null), (309, .iload_n 1, 1, 1, 0, .null), (310, .iaload, 1, 0, 0, .null), (311, .goto 27, 3, 338, 0, .null), (314, .aload_n 0, 1, 0, 0, .null), (315, .getfield 121, 3, 10, 48, .null), (318, .iload_n 1, 1, 1, 0, .null), (319, .iaload, 1, 0, 0, .null), (320, .iconst 1, 1, 0, 0, .int 1), (321, .if_icmp .ne 12, 3, 333, 0, .null), (324, .aload_n 0, 1, 0, 0, .null), (325, .getfield 105, 3, 10, 40, .null), (328, .iload_n 1, 1, 1, 0, .null), (329, .iaload, 1, 0, 0, .null), (330, .goto 8, 3, 338, 0, .null), (333, .aload_n 0, 1, 0, 0, .null), (334, .iload_n 2, 1, 2, 0, .null), (335, .invokevirtual 377, 3, 179, 2, .ref 10), (338, .ireturn, 1, 0, 0, .null)]
def mz_m183 : mz_D := (⟨"TinyFrontModel", "advance", "(I)I"⟩, prog_12_method_66_code, 3, (some (.int)), 3, 65, mz_t183)
/-- 184: TinyFrontModel.goTree()I -/
def mz_t184 : List mz_E := [(0, .iconst 0, 1, 0, 0, .int 0), (1, .istore_n 1, 1, 1, 0, .null), (2, .aload_n 0, 1, 0, 0, .null), (3, .getfield 121, 3, 10, 48, .null), (6, .iconst 0, 1, 0, 0, .int 0), (7, .iconst 0, 1, 0, 0, .int 0), (8, .iastore, 1, 0, 0, .null), (9, .iload_n 1, 1, 1, 0, .null), (10, .ifCond .lt 145, 3, 155, 0, .null), (13, .aload_n 0, 1, 0, 0, .null), (14, .getfield 90, 3, 10, 35, .null), (17, .iload_n 1, 1, 1, 0, .null), (18, .iaload, 1, 0, 0, .null), (19, .iconst 5, 1, 0, 0, .int 5), (20, .if_icmp .ne 14, 3, 34, 0, .null), (23, .aload_n 0, 1, 0, 0, .null), (24, .iload_n 1, 1, 1, 0, .null), (25, .invokevirtual 297, 3, 158, 2, .ref 10), (28, .istore_n 1, 1, 1, 0, .null), (29, .iconst (-1), 1, 0, 0, .int (-1)), (30, .istore_n 2, 1, 2, 0, .null), (31, .goto 42, 3, 73, 0, .null), (34, .aload_n 0, 1, 0, 0, .null), (35, .getfield 90, 3, 10, 35, .null), (38, .iload_n 1, 1, 1, 0, .null), (39, .iaload, 1, 0, 0, .null), (40, .bipush 6, 2, 0, 0, .int 6), (42, .if_icmp .ne 25, 3, 67, 0, .null), (45, .aload_n 0, 1, 0, 0, .null), (46, .iload_n 1, 1, 1, 0, .null), (47, .invokevirtual 297, 3, 158, 2, .ref 10), (50, .istore_n 1, 1, 1, 0, .null), (51, .aload_n 0, 1, 0, 0, .null), (52, .getfield 121, 3, 10, 48, .null), (55, .iload_n 1, 1, 1, 0, .null), (56, .iconst 2, 1, 0, 0, .int 2), (57, .iastore, 1, 0, 0, .null), (58, .aload_n 0, 1, 0, 0, .null), (59, .iload_n 1, 1, 1, 0, .null), (60, .invokevirtual 380, 3, 183, 2, .ref 10), (63, .istore_n 2, 1, 2, 0, .null), (64, .goto 9, 3, 73, 0, .null), (67, .aload_n 0, 1, 0, 0, .null), (68, .iload_n 1, 1, 1, 0, .null), (69, .invokevirtual 380, 3, 183, 2, .ref 10), (72, .istore_n 2, 1, 2, 0, .null), (73, .iload_n 2, 1, 2, 0, .null), (74, .bipush (-2), 2, 0, 0, .int (-2)), (76, .if_icmp .ne 5, 3, 81, 0, .null), (79, .iconst 1, 1, 0, 0, .int 1), (80, .ireturn, 1, 0, 0, .null), (81, .iload_n 2, 1, 2, 0, .null), (82, .bipush (-3), 2, 0, 0, .int (-3)), (84, .if_icmp .ne 5, 3, 89, 0, .null), (87, .iconst 2, 1, 0, 0, .int 2), (88, .ireturn, 1, 0, 0, .null), (89, .iload_n 2, 1, 2, 0, .null), (90, .ifCond .lt 41, 3, 131, 0, .null), (93, .aload_n 0, 1, 0, 0, .null), (94, .getfield 90, 3, 10, 35, .null), (97, .iload_n 2, 1, 2, 0, .null), (98, .iaload, 1, 0, 0, .null), (99, .ifCond .eq 13, 3, 112, 0, .null), (102, .aload_n 0, 1, 0, 0, .null), (103, .iload_n 2, 1, 2, 0, .null), (104, .invokevirtual 362, 3, 173, 2, .ref 10), (107, .ifCond .ne 5, 3, 112, 0, .null), (110, .iconst 1, 1, 0, 0, .int 1), (111, .ireturn, 1, 0, 0, .null), (112, .aload_n 0, 1, 0, 0, .null), (113, .getfield 124, 3, 10, 49, .null), (116, .iload_n 1, 1, 1, 0, .null), (117, .iload_n 2, 1, 2, 0, .null), (118, .iastore, 1, 0, 0, .null), (119, .aload_n 0, 1, 0, 0, .null), (120, .getfield 121, 3, 10, 48, .null), (123, .iload_n 2, 1, 2, 0, .null), (124, .iconst 0, 1, 0, 0, .int 0), (125, .iastore, 1, 0, 0, .null), (126, .iload_n 2, 1, 2, 0, .null), (127, .istore_n 1, 1, 1, 0, .null), (128, .goto 24, 3, 152, 0, .null), (131, .aload_n 0, 1, 0, 0, .null), (132, .getfield 111, 3, 10, 42, .null), (135, .iload_n 1, 1, 1, 0, .null), (136, .iaload, 1, 0, 0, .null), (137, .istore_n 1, 1, 1, 0, .null), (138, .iload_n 1, 1, 1, 0, .null), (139, .ifCond .lt 13, 3, 152, 0, .null), (142, .aload_n 0, 1, 0, 0, .null), (143, .getfield 121, 3, 10, 48, .null), (146, .iload_n 1, 1, 1, 0, .null), (147, .dup2, 1, 0, 0, .null), (148, .iaload, 1, 0, 0, .null), (149, .iconst 1, 1, 0, 0, .int 1), (150, .iadd, 1, 0, 0, .null), (151, .iastore, 1, 0, 0, .null), (152, .goto (-143), 3, 9, 0, .null), (155, .iconst 0, 1, 0, 0, .int 0), (156, .ireturn, 1, 0, 0, .null)]
def mz_m184 : mz_D := (⟨"TinyFrontModel", "goTree", "()I"⟩, prog_12_method_67_code, 3, (some (.int)), 4, 87, mz_t184)
/-- 185: TinyFrontModel.runTree(I)I -/
def mz_t185 : List mz_E := [(0, .iload_n 1, 1, 1, 0, .null), (1, .ifCond .lt 10, 3, 11, 0, .null), (4, .iload_n 1, 1, 1, 0, .null), (5, .ldc_w 383, 3, 0, 0, .int 100000), (8, .if_icmp .le 5, 3, 13, 0, .null), (11, .iconst (-1), 1, 0, 0, .int (-1)), (12, .ireturn, 1, 0, 0, .null), (13, .aload_n 0, 1, 0, 0, .null), (14, .getfield 194, 3, 10, 34, .null), (17, .ifCond .ne 6, 3, 23, 0, .null), (20, .bipush (-3), 2, 0, 0, .int (-3)), (22, .ireturn, 1, 0, 0, .null), (23, .aload_n 0, 1, 0, 0, .null), (24, .iload_n 1, 1, 1, 0, .null), (25, .invokevirtual 384, 3, 172, 2, .ref 10), (28, .aload_n 0, 1, 0, 0, .null), (29, .aload_n 0, 1, 0, 0, .null), (30, .invokevirtual 387, 3, 184, 1, .ref 10), (33, .putfield 390, 3, 10, 57, .null), (36, .aload_n 0, 1, 0, 0, .null), (37, .getfield 390, 3, 10, 57, .null), (40, .ireturn, 1, 0, 0, .null)]
def mz_m185 : mz_D := (⟨"TinyFrontModel", "runTree", "(I)I"⟩, prog_12_method_68_code, 2, (some (.int)), 5, 109, mz_t185)
/-- 186: TinyFrontModel.word(I)I -/
def mz_t186 : List mz_E := [(0, .aload_n 0, 1, 0, 0, .null), (1, .getfield 115, 3, 10, 45, .null), (4, .iload_n 1, 1, 1, 0, .null), (5, .iaload, 1, 0, 0, .null), (6, .istore_n 2, 1, 2, 0, .null), (7, .aload_n 0, 1, 0, 0, .null), (8, .getfield 118, 3, 10, 46, .null), (11, .iload_n 1, 1, 1, 0, .null), (12, .iaload, 1, 0, 0, .null), (13, .istore_n 3, 1, 3, 0, .null), (14, .iload_n 2, 1, 2, 0, .null), (15, .iconst 3, 1, 0, 0, .int 3), (16, .if_icmp .lt 47, 3, 63, 0, .null), (19, .iload_n 2, 1, 2, 0, .null), (20, .bipush 9, 2, 0, 0, .int 9), (22, .if_icmp .gt 41, 3, 63, 0, .null), (25, .iload_n 2, 1, 2, 0, .null), (26, .bipush 8, 2, 0, 0, .int 8), (28, .if_icmp .lt 9, 3, 37, 0, .null), (31, .iload_n 2, 1, 2, 0, .null), (32, .iconst 1, 1, 0, 0, .int 1), (33, .iadd, 1, 0, 0, .null), (34, .goto 7, 3, 41, 0, .null), (37, .iload_n 2, 1, 2, 0, .null), (38, .bipush 8, 2, 0, 0, .int 8), (40, .iadd, 1, 0, 0, .null), (41, .istore 4, 2, 4, 0, .null), (43, .aload_n 0, 1, 0, 0, .null), (44, .iload 4, 2, 4, 0, .null), (46, .invokevirtual 377, 3, 179, 2, .ref 10), (49, .bipush (-3), 2, 0, 0, .int (-3)), (51, .if_icmp .ne 8, 3, 59, 0, .null), (54, .bipush (-3), 2, 0, 0, .int (-3)), (56, .goto 6, 3, 62, 0, .null), (59, .iload_n 1, 1, 1, 0, .null), (60, .iconst 1, 1, 0, 0, .int 1), (61, .iadd, 1, 0, 0, .null), (62, .ireturn, 1, 0, 0, .null), (63, .iload_n 2, 1, 2, 0, .null), (64, .tableswitch 205 0 15 #[80, 89, 103, 205, 205, 205, 205, 205, 205, 205, 117, 130, 153, 176, 178, 193], 80, 0, 0, .null), (144, .aload_n 0, 1, 0, 0, .null), (145, .iload_n 3, 1, 3, 0, .null), (146, .invokevirtual 359, 3, 174, 2, .ref 10), (149, .iload_n 1, 1, 1, 0, .null), (150, .iconst 1, 1, 0, 0, .int 1), (151, .iadd, 1, 0, 0, .null), (152, .ireturn, 1, 0, 0, .null), (153, .aload_n 0, 1, 0, 0, .null), (154, .aload_n 0, 1, 0, 0, .null), (155, .getfield 136, 3, 10, 53, .null), (158, .iload_n 3, 1, 3, 0, .null), (159, .iaload, 1, 0, 0, .null), (160, .invokevirtual 359, 3, 174, 2, .ref 10), (163, .iload_n 1, 1, 1, 0, .null), (164, .iconst 1, 1, 0, 0, .int 1), (165, .iadd, 1, 0, 0, .null), (166, .ireturn, 1, 0, 0, .null), (167, .aload_n 0, 1, 0, 0, .null), (168, .getfield 136, 3, 10, 53, .null), (171, .iload_n 3, 1, 3, 0, .null), (172, .aload_n 0, 1, 0, 0, .null), (173, .invokevirtual 353, 3, 175, 1, .ref 10), (176, .iastore, 1, 0, 0, .null), (177, .iload_n 1, 1, 1, 0, .null), (178, .iconst 1, 1, 0, 0, .int 1), (179, .iadd, 1, 0, 0, .null), (180, .ireturn, 1, 0, 0, .null), (181, .aload_n 0, 1, 0, 0, .null), (182, .aload_n 0, 1, 0, 0, .null), (183, .invokevirtual 353, 3, 175, 1, .ref 10), (186, .ineg, 1, 0, 0, .null), (187, .invokevirtual 359, 3, 174, 2, .ref 10), (190, .iload_n 1, 1, 1, 0, .null), (191, .iconst 1, 1, 0, 0, .int 1), (192, .iadd, 1, 0, 0, .null), (193, .ireturn, 1, 0, 0, .null), (194, .aload_n 0, 1, 0, 0, .null), (195, .aload_n 0, 1, 0, 0, .null), (196, .invokevirtual 353, 3, 175, 1, .ref 10), (199, .ifCond .ne 7, 3, 206, 0, .null), (202, .iconst 1, 1, 0, 0, .int 1), (203, .goto 4, 3, 207, 0, .null), (206, .iconst 0, 1, 0, 0, .int 0), (207, .invokestatic 349, 3, 177, 1, .null), (210, .invokevirtual 359, 3, 174, 2, .ref 10), (213, .iload_n 1, 1, 1, 0, .null), (214, .iconst 1, 1, 0, 0, .int 1), (215, .iadd, 1, 0, 0, .null), (216, .ireturn, 1, 0, 0, .null), (217, .aload_n 0, 1, 0, 0, .null), (218, .aload_n 0, 1, 0, 0, .null), (219, .invokevirtual 353, 3, 175, 1, .ref 10), (222, .ifCond .eq 7, 3, 229, 0, .null), (225, .iconst 1, 1, 0, 0, .int 1), (226, .goto 4, 3, 230, 0, .null), (229, .iconst 0, 1, 0, 0, .int 0), (230, .invokestatic 349, 3, 177, 1, .null), (233, .invokevirtual 359, 3, 174, 2, .ref 10), (236, .iload_n 1, 1, 1, 0, .null), (237, .iconst 1, 1, 0, 0, .int 1), (238, .iadd, 1, 0, 0, .null), (239, .ireturn, 1, 0, 0, .null), (240, .iload_n 3, 1, 3, 0, .null), (241, .ireturn, 1, 0, 0, .null), (242, .aload_n 0, 1, 0, 0, .null), (243, .invokevirtual 353, 3, 175, 1, .ref 10), (246, .ifCond .eq 9, 3, 255, 0, .null), (249, .iload_n 1, 1, 1, 0, .null), (250, .iconst 1, 1, 0, 0, .int 1), (251, .iadd, 1, 0, 0, .null), (252, .goto 4, 3, 256, 0, .null), (255, .iload_n 3, 1, 3, 0, .null), (256, .ireturn, 1, 0, 0, .null), (257, .aload_n 0, 1, 0, 0, .null), (258, .aload_n 0, 1, 0, 0, .null), (259, .invokevirtual 353, 3, 175, 1, .ref 10), (262, .invokevirtual 365, 3, 176, 2, .ref 10), (265, .iload_n 1, 1, 1, 0, .null), (266, .iconst 1, 1, 0, 0, .int 1), (267, .iadd, 1, 0, 0, .null), (268, .ireturn, 1, 0, 0, .null), (269, .iconst (-1), 1, 0, 0, .int (-1)), (270, .ireturn, 1, 0, 0, .null)]
def mz_m186 : mz_D := (⟨"TinyFrontModel", "word", "(I)I"⟩, prog_12_method_69_code, 5, (some (.int)), 3, 65, mz_t186)
/-- 187: TinyFrontModel.goCode()I -/
def mz_t187 : List mz_E := [(0, .iconst 0, 1, 0, 0, .int 0), (1, .istore_n 1, 1, 1, 0, .null), (2, .iload_n 1, 1, 1, 0, .null), (3, .ifCond .lt 22, 3, 25, 0, .null), (6, .aload_n 0, 1, 0, 0, .null), (7, .iload_n 1, 1, 1, 0, .null), (8, .invokevirtual 362, 3, 173, 2, .ref 10), (11, .ifCond .ne 5, 3, 16, 0, .null), (14, .iconst 1, 1, 0, 0, .int 1), (15, .ireturn, 1, 0, 0, .null), (16, .aload_n 0, 1, 0, 0, .null), (17, .iload_n 1, 1, 1, 0, .null), (18, .invokevirtual 393, 3, 186, 2, .ref 10), (21, .istore_n 1, 1, 1, 0, .null), (22, .goto (-20), 3, 2, 0, .null), (25, .iload_n 1, 1, 1, 0, .null), (26, .bipush (-3), 2, 0, 0, .int (-3)), (28, .if_icmp .ne 7, 3, 35, 0, .null), (31, .iconst 2, 1, 0, 0, .int 2), (32, .goto 4, 3, 36, 0, .null), (35, .iconst 0, 1, 0, 0, .int 0), (36, .ireturn, 1, 0, 0, .null)]
def mz_m187 : mz_D := (⟨"TinyFrontModel", "goCode", "()I"⟩, prog_12_method_70_code, 2, (some (.int)), 4, 89, mz_t187)
/-- 188: TinyFrontModel.runCode(I)I -/
def mz_t188 : List mz_E := [(0, .iload_n 1, 1, 1, 0, .null), (1, .ifCond .lt 10, 3, 11, 0, .null), (4, .iload_n 1, 1, 1, 0, .null), (5, .ldc_w 383, 3, 0, 0, .int 100000), (8, .if_icmp .le 5, 3, 13, 0, .null), (11, .iconst (-1), 1, 0, 0, .int (-1)), (12, .ireturn, 1, 0, 0, .null), (13, .aload_n 0, 1, 0, 0, .null), (14, .getfield 197, 3, 10, 44, .null), (17, .ifCond .ne 6, 3, 23, 0, .null), (20, .bipush (-3), 2, 0, 0, .int (-3)), (22, .ireturn, 1, 0, 0, .null), (23, .aload_n 0, 1, 0, 0, .null), (24, .iload_n 1, 1, 1, 0, .null), (25, .invokevirtual 384, 3, 172, 2, .ref 10), (28, .aload_n 0, 1, 0, 0, .null), (29, .aload_n 0, 1, 0, 0, .null), (30, .invokevirtual 396, 3, 187, 1, .ref 10), (33, .putfield 390, 3, 10, 57, .null), (36, .aload_n 0, 1, 0, 0, .null), (37, .getfield 390, 3, 10, 57, .null), (40, .ireturn, 1, 0, 0, .null)]
def mz_m188 : mz_D := (⟨"TinyFrontModel", "runCode", "(I)I"⟩, prog_12_method_71_code, 2, (some (.int)), 5, 110, mz_t188)
/-- 189: TinyFrontModel.ran(I)I -/
def mz_t189 : List mz_E := [(0, .aload_n 0, 1, 0, 0, .null), (1, .getfield 206, 3, 10, 56, .null), (4, .ifCond .ne 5, 3, 9, 0, .null), (7, .iconst (-1), 1, 0, 0, .int (-1)), (8, .ireturn, 1, 0, 0, .null), (9, .iload_n 1, 1, 1, 0, .null), (10, .tableswitch 50 0 3 #[30, 35, 40, 45], 30, 0, 0, .null), (40, .aload_n 0, 1, 0, 0, .null), (41, .getfield 390, 3, 10, 57, .null), (44, .ireturn, 1, 0, 0, .null), (45, .aload_n 0, 1, 0, 0, .null), (46, .getfield 337, 3, 10, 59, .null), (49, .ireturn, 1, 0, 0, .null), (50, .aload_n 0, 1, 0, 0, .null), (51, .getfield 343, 3, 10, 61, .null), (54, .ireturn, 1, 0, 0, .null), (55, .aload_n 0, 1, 0, 0, .null), (56, .getfield 340, 3, 10, 60, .null), (59, .ireturn, 1, 0, 0, .null), (60, .iconst (-1), 1, 0, 0, .int (-1)), (61, .ireturn, 1, 0, 0, .null)]
def mz_m189 : mz_D := (⟨"TinyFrontModel", "ran", "(I)I"⟩, prog_12_method_72_code, 2, (some (.int)), 0, 0, mz_t189)
/-- 190: TinyFrontModel.out(I)I -/
def mz_t190 : List mz_E := [(0, .aload_n 0, 1, 0, 0, .null), (1, .getfield 206, 3, 10, 56, .null), (4, .ifCond .eq 22, 3, 26, 0, .null), (7, .iload_n 1, 1, 1, 0, .null), (8, .ifCond .lt 18, 3, 26, 0, .null), (11, .iload_n 1, 1, 1, 0, .null), (12, .aload_n 0, 1, 0, 0, .null), (13, .getfield 343, 3, 10, 61, .null), (16, .if_icmp .ge 10, 3, 26, 0, .null), (19, .iload_n 1, 1, 1, 0, .null), (20, .sipush 1000, 3, 0, 0, .int 1000), (23, .if_icmp .lt 7, 3, 30, 0, .null), (26, .iconst 0, 1, 0, 0, .int 0), (27, .goto 9, 3, 36, 0, .null), (30, .aload_n 0, 1, 0, 0, .null), (31, .getfield 142, 3, 10, 62, .null), (34, .iload_n 1, 1, 1, 0, .null), (35, .iaload, 1, 0, 0, .null), (36, .ireturn, 1, 0, 0, .null)]
def mz_m190 : mz_D := (⟨"TinyFrontModel", "out", "(I)I"⟩, prog_12_method_73_code, 2, (some (.int)), 0, 0, mz_t190)
/-- 191: TinyFrontModel.value(I)I -/
def mz_t191 : List mz_E := [(0, .aload_n 0, 1, 0, 0, .null), (1, .getfield 206, 3, 10, 56, .null), (4, .ifCond .eq 13, 3, 17, 0, .null), (7, .iload_n 1, 1, 1, 0, .null), (8, .ifCond .lt 9, 3, 17, 0, .null), (11, .iload_n 1, 1, 1, 0, .null), (12, .bipush 32, 2, 0, 0, .int 32), (14, .if_icmp .lt 7, 3, 21, 0, .null), (17, .iconst 0, 1, 0, 0, .int 0), (18, .goto 9, 3, 27, 0, .null), (21, .aload_n 0, 1, 0, 0, .null), (22, .getfield 136, 3, 10, 53, .null), (25, .iload_n 1, 1, 1, 0, .null), (26, .iaload, 1, 0, 0, .null), (27, .ireturn, 1, 0, 0, .null)]
def mz_m191 : mz_D := (⟨"TinyFrontModel", "value", "(I)I"⟩, prog_12_method_74_code, 2, (some (.int)), 0, 0, mz_t191)
/-- 192: java/lang/String.length()I -/
def mz_t192 : List mz_E := [(0, .aload_n 0, 1, 0, 0, .null), (1, .getfield 9, 3, 100, 0, .null), (4, .arraylength, 1, 0, 0, .null), (5, .aload_n 0, 1, 0, 0, .null), (6, .invokevirtual 335, 3, 196, 1, .null), (9, .ishr, 1, 0, 0, .null), (10, .ireturn, 1, 0, 0, .null)]
def mz_m192 : mz_D := (⟨"java/lang/String", "length", "()I"⟩, prog_15_method_54_code, 1, (some (.int)), 1, 20, mz_t192)
/-- 193: java/lang/String.charAt(I)C -/
def mz_t193 : List mz_E := [(0, .aload_n 0, 1, 0, 0, .null), (1, .invokevirtual 492, 3, 197, 1, .null), (4, .ifCond .eq 12, 3, 16, 0, .null), (7, .aload_n 0, 1, 0, 0, .null), (8, .getfield 9, 3, 100, 0, .null), (11, .iload_n 1, 1, 1, 0, .null), (12, .invokestatic 495, 3, 199, 2, .null), (15, .ireturn, 1, 0, 0, .null), (16, .aload_n 0, 1, 0, 0, .null), (17, .getfield 9, 3, 100, 0, .null), (20, .iload_n 1, 1, 1, 0, .null), (24, .ireturn, 1, 0, 0, .null)]
def mz_m193 : mz_D := (⟨"java/lang/String", "charAt", "(I)C"⟩, prog_15_method_56_code, 2, (some (.char)), 3, 64, mz_t193)
/-- 194: java/lang/String.indexOf(I)I -/
def mz_t194 : List mz_E := [(0, .aload_n 0, 1, 0, 0, .null), (1, .iload_n 1, 1, 1, 0, .null), (2, .iconst 0, 1, 0, 0, .int 0), (3, .invokevirtual 633, 3, 195, 3, .null), (6, .ireturn, 1, 0, 0, .null)]
def mz_m194 : mz_D := (⟨"java/lang/String", "indexOf", "(I)I"⟩, prog_15_method_79_code, 2, (some (.int)), 3, 70, mz_t194)
/-- 195: java/lang/String.indexOf(II)I -/
def mz_t195 : List mz_E := [(0, .aload_n 0, 1, 0, 0, .null), (1, .invokevirtual 492, 3, 197, 1, .null), (4, .ifCond .eq 19, 3, 23, 0, .null), (7, .aload_n 0, 1, 0, 0, .null), (8, .getfield 9, 3, 100, 0, .null), (11, .iload_n 1, 1, 1, 0, .null), (12, .iload_n 2, 1, 2, 0, .null), (13, .aload_n 0, 1, 0, 0, .null), (14, .invokevirtual 505, 3, 192, 1, .null), (17, .invokestatic 637, 3, 201, 4, .null), (20, .goto 16, 3, 36, 0, .null), (23, .aload_n 0, 1, 0, 0, .null), (24, .getfield 9, 3, 100, 0, .null), (27, .iload_n 1, 1, 1, 0, .null), (28, .iload_n 2, 1, 2, 0, .null), (29, .aload_n 0, 1, 0, 0, .null), (30, .invokevirtual 505, 3, 192, 1, .null), (36, .ireturn, 1, 0, 0, .null)]
def mz_m195 : mz_D := (⟨"java/lang/String", "indexOf", "(II)I"⟩, prog_15_method_80_code, 3, (some (.int)), 2, 48, mz_t195)
/-- 196: java/lang/String.coder()B -/
def mz_t196 : List mz_E := [(0, .getstatic 38, 3, 8, 0, .int 1), (3, .ifCond .eq 10, 3, 13, 0, .null), (6, .aload_n 0, 1, 0, 0, .null), (7, .getfield 15, 3, 100, 1, .null), (10, .goto 4, 3, 14, 0, .null), (13, .iconst 1, 1, 0, 0, .int 1), (14, .ireturn, 1, 0, 0, .null)]
def mz_m196 : mz_D := (⟨"java/lang/String", "coder", "()B"⟩, prog_15_method_152_code, 1, (some (.byte)), 0, 0, mz_t196)
/-- 197: java/lang/String.isLatin1()Z -/
def mz_t197 : List mz_E := [(0, .getstatic 38, 3, 8, 0, .int 1), (3, .ifCond .eq 14, 3, 17, 0, .null), (6, .aload_n 0, 1, 0, 0, .null), (7, .getfield 15, 3, 100, 1, .null), (10, .ifCond .ne 7, 3, 17, 0, .null), (13, .iconst 1, 1, 0, 0, .int 1), (14, .goto 4, 3, 18, 0, .null), (17, .iconst 0, 1, 0, 0, .int 0), (18, .ireturn, 1, 0, 0, .null)]
def mz_m197 : mz_D := (⟨"java/lang/String", "isLatin1", "()Z"⟩, prog_15_method_154_code, 1, (some (.boolean)), 0, 0, mz_t197)
/-- 198: java/lang/String.checkIndex(II)V -/
def mz_t198 : List mz_E := [(0, .iload_n 0, 1, 0, 0, .null), (1, .iload_n 1, 1, 1, 0, .null), (2, .getstatic 1053, 3, 12, 0, .ref 399), (5, .invokestatic 1059, 3, 204, 3, .null), (8, .pop, 1, 0, 0, .null), (9, .return_, 1, 0, 0, .null)]
def mz_m198 : mz_D := (⟨"java/lang/String", "checkIndex", "(II)V"⟩, prog_15_method_155_code, 2, none, 1, 22, mz_t198)
/-- 199: java/lang/StringLatin1.charAt([BI)C -/
def mz_t199 : List mz_E := [(0, .iload_n 1, 1, 1, 0, .null), (1, .aload_n 0, 1, 0, 0, .null), (2, .arraylength, 1, 0, 0, .null), (3, .invokestatic 9, 3, 198, 2, .null), (6, .aload_n 0, 1, 0, 0, .null), (7, .iload_n 1, 1, 1, 0, .null), (8, .baload, 1, 0, 0, .null), (9, .sipush 255, 3, 0, 0, .int 255), (12, .iand, 1, 0, 0, .null), (13, .i2c, 1, 0, 0, .null), (14, .ireturn, 1, 0, 0, .null)]
def mz_m199 : mz_D := (⟨"java/lang/StringLatin1", "charAt", "([BI)C"⟩, prog_16_method_2_code, 2, (some (.char)), 2, 43, mz_t199)
/-- 200: java/lang/StringLatin1.canEncode(I)Z -/
def mz_t200 : List mz_E := [(0, .iload_n 0, 1, 0, 0, .null), (1, .ifCond .lt 14, 3, 15, 0, .null), (4, .iload_n 0, 1, 0, 0, .null), (5, .sipush 255, 3, 0, 0, .int 255), (8, .if_icmp .gt 7, 3, 15, 0, .null), (11, .iconst 1, 1, 0, 0, .int 1), (12, .goto 4, 3, 16, 0, .null), (15, .iconst 0, 1, 0, 0, .int 0), (16, .ireturn, 1, 0, 0, .null)]
def mz_m200 : mz_D := (⟨"java/lang/StringLatin1", "canEncode", "(I)Z"⟩, prog_16_method_4_code, 1, (some (.boolean)), 0, 0, mz_t200)
/-- 201: java/lang/StringLatin1.indexOf([BIII)I -/
def mz_t201 : List mz_E := [(0, .iload_n 1, 1, 1, 0, .null), (1, .invokestatic 88, 3, 200, 1, .null), (4, .ifCond .ne 5, 3, 9, 0, .null), (7, .iconst (-1), 1, 0, 0, .int (-1)), (8, .ireturn, 1, 0, 0, .null), (9, .iload_n 2, 1, 2, 0, .null), (10, .iconst 0, 1, 0, 0, .int 0), (11, .invokestatic 92, 3, 9997, 0, .null), (14, .istore_n 2, 1, 2, 0, .null), (15, .iload_n 3, 1, 3, 0, .null), (16, .aload_n 0, 1, 0, 0, .null), (17, .arraylength, 1, 0, 0, .null), (18, .invokestatic 38, 3, 9996, 0, .null), (21, .istore_n 3, 1, 3, 0, .null), (22, .iload_n 2, 1, 2, 0, .null), (23, .iload_n 3, 1, 3, 0, .null), (24, .if_icmp .lt 5, 3, 29, 0, .null), (27, .iconst (-1), 1, 0, 0, .int (-1)), (28, .ireturn, 1, 0, 0, .null), (29, .aload_n 0, 1, 0, 0, .null), (30, .iload_n 1, 1, 1, 0, .null), (31, .iload_n 2, 1, 2, 0, .null), (32, .iload_n 3, 1, 3, 0, .null), (33, .invokestatic 95, 3, 202, 4, .null), (36, .ireturn, 1, 0, 0, .null)]
def mz_m201 : mz_D := (⟨"java/lang/StringLatin1", "indexOf", "([BIII)I"⟩, prog_16_method_22_code, 4, (some (.int)), 1, 25, mz_t201)
/-- 202: java/lang/StringLatin1.indexOfChar([BIII)I -/
def mz_t202 : List mz_E := [(0, .iload_n 1, 1, 1, 0, .null), (1, .i2b, 1, 0, 0, .null), (2, .istore 4, 2, 4, 0, .null), (4, .iload_n 2, 1, 2, 0, .null), (5, .istore 5, 2, 5, 0, .null), (7, .iload 5, 2, 5, 0, .null), (9, .iload_n 3, 1, 3, 0, .null), (10, .if_icmp .ge 21, 3, 31, 0, .null), (13, .aload_n 0, 1, 0, 0, .null), (14, .iload 5, 2, 5, 0, .null), (16, .baload, 1, 0, 0, .null), (17, .iload 4, 2, 4, 0, .null), (19, .if_icmp .ne 6, 3, 25, 0, .null), (22, .iload 5, 2, 5, 0, .null), (24, .ireturn, 1, 0, 0, .null), (25, .iinc 5 1, 3, 5, 0, .int 1), (28, .goto (-21), 3, 7, 0, .null), (31, .iconst (-1), 1, 0, 0, .int (-1)), (32, .ireturn, 1, 0, 0, .null)]
def mz_m202 : mz_D := (⟨"java/lang/StringLatin1", "indexOfChar", "([BIII)I"⟩, prog_16_method_23_code, 6, (some (.int)), 0, 0, mz_t202)
/-- 203: java/util/Arrays.fill([II)V -/
def mz_t203 : List mz_E := [(0, .iconst 0, 1, 0, 0, .int 0), (1, .istore_n 2, 1, 2, 0, .null), (2, .aload_n 0, 1, 0, 0, .null), (3, .arraylength, 1, 0, 0, .null), (4, .istore_n 3, 1, 3, 0, .null), (5, .iload_n 2, 1, 2, 0, .null), (6, .iload_n 3, 1, 3, 0, .null), (7, .if_icmp .ge 13, 3, 20, 0, .null), (10, .aload_n 0, 1, 0, 0, .null), (11, .iload_n 2, 1, 2, 0, .null), (12, .iload_n 1, 1, 1, 0, .null), (13, .iastore, 1, 0, 0, .null), (14, .iinc 2 1, 3, 2, 0, .int 1), (17, .goto (-12), 3, 5, 0, .null), (20, .return_, 1, 0, 0, .null)]
def mz_m203 : mz_D := (⟨"java/util/Arrays", "fill", "([II)V"⟩, prog_19_method_103_code, 4, none, 0, 0, mz_t203)
/-- 204: jdk/internal/util/Preconditions.checkIndex(IILjava/util/function/BiFunction;)I -/
def mz_t204 : List mz_E := [(0, .iload_n 0, 1, 0, 0, .null), (1, .ifCond .lt 8, 3, 9, 0, .null), (4, .iload_n 0, 1, 0, 0, .null), (5, .iload_n 1, 1, 1, 0, .null), (6, .if_icmp .lt 10, 3, 16, 0, .null), (9, .aload_n 2, 1, 2, 0, .null), (10, .iload_n 0, 1, 0, 0, .null), (11, .iload_n 1, 1, 1, 0, .null), (15, .athrow, 1, 0, 0, .null), (16, .iload_n 0, 1, 0, 0, .null), (17, .ireturn, 1, 0, 0, .null)]
def mz_m204 : mz_D := (⟨"jdk/internal/util/Preconditions", "checkIndex", "(IILjava/util/function/BiFunction;)I"⟩, prog_20_method_11_code, 3, (some (.int)), 0, 0, mz_t204)
def mz_md : List mz_D := [mz_m0, mz_m1, mz_m2, mz_m3, mz_m4, mz_m5, mz_m6, mz_m7, mz_m8, mz_m9, mz_m10, mz_m11, mz_m12, mz_m13, mz_m14, mz_m15, mz_m16, mz_m17, mz_m18, mz_m19, mz_m20, mz_m21, mz_m22, mz_m23, mz_m24, mz_m25, mz_m26, mz_m27, mz_m28, mz_m29, mz_m30, mz_m31, mz_m32, mz_m33, mz_m34, mz_m35, mz_m36, mz_m37, mz_m38, mz_m39, mz_m40, mz_m41, mz_m42, mz_m43, mz_m44, mz_m45, mz_m46, mz_m47, mz_m48, mz_m49, mz_m50, mz_m51, mz_m52, mz_m53, mz_m54, mz_m55, mz_m56, mz_m57, mz_m58, mz_m59, mz_m60, mz_m61, mz_m62, mz_m63, mz_m64, mz_m65, mz_m66, mz_m67, mz_m68, mz_m69, mz_m70, mz_m71, mz_m72, mz_m73, mz_m74, mz_m75, mz_m76, mz_m77, mz_m78, mz_m79, mz_m80, mz_m81, mz_m82, mz_m83, mz_m84, mz_m85, mz_m86, mz_m87, mz_m88, mz_m89, mz_m90, mz_m91, mz_m92, mz_m93, mz_m94, mz_m95, mz_m96, mz_m97, mz_m98, mz_m99, mz_m100, mz_m101, mz_m102, mz_m103, mz_m104, mz_m105, mz_m106, mz_m107, mz_m108, mz_m109, mz_m110, mz_m111, mz_m112, mz_m113, mz_m114, mz_m115, mz_m116, mz_m117, mz_m118, mz_m119, mz_m120, mz_m121, mz_m122, mz_m123, mz_m124, mz_m125, mz_m126, mz_m127, mz_m128, mz_m129, mz_m130, mz_m131, mz_m132, mz_m133, mz_m134, mz_m135, mz_m136, mz_m137, mz_m138, mz_m139, mz_m140, mz_m141, mz_m142, mz_m143, mz_m144, mz_m145, mz_m146, mz_m147, mz_m148, mz_m149, mz_m150, mz_m151, mz_m152, mz_m153, mz_m154, mz_m155, mz_m156, mz_m157, mz_m158, mz_m159, mz_m160, mz_m161, mz_m162, mz_m163, mz_m164, mz_m165, mz_m166, mz_m167, mz_m168, mz_m169, mz_m170, mz_m171, mz_m172, mz_m173, mz_m174, mz_m175, mz_m176, mz_m177, mz_m178, mz_m179, mz_m180, mz_m181, mz_m182, mz_m183, mz_m184, mz_m185, mz_m186, mz_m187, mz_m188, mz_m189, mz_m190, mz_m191, mz_m192, mz_m193, mz_m194, mz_m195, mz_m196, mz_m197, mz_m198, mz_m199, mz_m200, mz_m201, mz_m202, mz_m203, mz_m204]
end
section
/-! THE SMALL MACHINE: cells are numbered by the order in which they were made; references are these numbers (from mz_B on: old cells); a shape says what a cell is, the contents (ints alone) stand in a function of cell and place. -/
abbrev mz_K : Type := (FieldType × Nat) ⊕ (Nat × List (Option (Option Nat)))
abbrev mz_M : Type := Nat → Nat → Int32
abbrev mz_L : Type := List (Option Value)
abbrev mz_S : Type := Nat × mz_L × List Value × List mz_K × mz_M
abbrev mz_X : Type := Nat × (Nat → Int32)
def mz_at : List mz_E → Nat → Option (Instr × Nat × Nat × Nat × Value)
  | [], _ => none
  | e :: t, pc => bif Nat.beq e.1 pc then some e.2 else mz_at t pc
def mz_up (m : mz_M) (k i : Nat) (v : Int32) : mz_M := fun q => if q = k then upd (m k) i v else m q
def mz_z (m : mz_M) (k : Nat) : mz_M := fun q => if q = k then (fun _ => 0) else m q
def mz_cp (m : mz_M) (a b : Nat) (sp dp n : Nat) : mz_M := fun q => if q = b then va_cpy (m a) (m b) sp dp n else m q
def mz_inb (i : Int32) (n : Nat) : Bool := decide (0 ≤ i) && decide (i.toNatClampNeg < n)
def mz_oal (j : Nat) : List (Nat × FieldType × List Int32) → Option (FieldType × Nat × (Nat → Int32))
  | [] => none
  | e :: t => bif Nat.beq e.1 j then some (e.2.1, e.2.2.length, fun i => e.2.2.getD i 0) else mz_oal j t
/-- an old array: the script is number 50 -/
def mz_oa (X : mz_X) (j : Nat) : Option (FieldType × Nat × (Nat → Int32)) := bif Nat.beq j 50 then some (.int, X.1, X.2) else mz_oal j mz_arrs
def mz_sok (L : mz_L) : Nat → Bool
  | 0 => true
  | j + 1 => match L[j]? with
    | some (some (.long _)) => false
    | some (some (.double _)) => false
    | _ => true
def mz_put (L : mz_L) (i : Nat) (v : Value) : Option mz_L := bif Nat.blt i L.length && mz_sok L i then some (L.set i (some v)) else none
def mz_put2 (L : mz_L) (i : Nat) (v : Value) : Option mz_L := bif Nat.blt (i + 1) L.length && mz_sok L i then some ((L.set i (some v)).set (i + 1) none) else none
def mz_wv (n : Nat) : Value → Bool
  | .ref k => Nat.blt k n || Nat.ble mz_B k
  | _ => true
def mz_wL (n : Nat) : mz_L → Bool
  | [] => true
  | none :: t => mz_wL n t
  | some v :: t => mz_wv n v && mz_wL n t
def mz_wS (n : Nat) : List Value → Bool
  | [] => true
  | v :: t => mz_wv n v && mz_wS n t
def mz_tsw (pc : Nat) (d lo hi : Int) (offs : Array Int) (x : Int32) : Nat :=
  if x.toInt < lo then ((pc : Int) + d).toNat else if hi < x.toInt then ((pc : Int) + d).toNat else match offs[(x.toInt - lo).toNat]? with
    | some o => ((pc : Int) + o).toNat
    | none => 0
/-- one instruction that is no call and no return: whether it is well done, and what is then -/
def mz_ex (X : mz_X) (ins : Instr) (r1 r2 : Nat) (val : Value) (pc : Nat) (L : mz_L) (S : List Value) (sh : List mz_K) (m : mz_M) : Option (Bool × mz_S) :=
  match ins with
  | .aload_n _ => match L[r1]? with | some (some (.ref k)) => some (true, pc + 1, L, .ref k :: S, sh, m) | _ => none
  | .aload _ => match L[r1]? with | some (some (.ref k)) => some (true, pc + 2, L, .ref k :: S, sh, m) | _ => none
  | .iload_n _ => match L[r1]? with | some (some (.int x)) => some (true, pc + 1, L, .int x :: S, sh, m) | _ => none
  | .iload _ => match L[r1]? with | some (some (.int x)) => some (true, pc + 2, L, .int x :: S, sh, m) | _ => none
  | .lload_n _ => match L[r1]? with | some (some (.long x)) => some (true, pc + 1, L, .long x :: S, sh, m) | _ => none
  | .istore_n _ => match S with | .int x :: S => (match mz_put L r1 (.int x) with | some L' => some (true, pc + 1, L', S, sh, m) | none => none) | _ => none
  | .istore _ => match S with | .int x :: S => (match mz_put L r1 (.int x) with | some L' => some (true, pc + 2, L', S, sh, m) | none => none) | _ => none
  | .astore_n _ => match S with | .ref x :: S => (match mz_put L r1 (.ref x) with | some L' => some (true, pc + 1, L', S, sh, m) | none => none) | _ => none
  | .lstore_n _ => match S with | .long x :: S => (match mz_put2 L r1 (.long x) with | some L' => some (true, pc + 1, L', S, sh, m) | none => none) | _ => none
  | .iinc _ _ => match L[r1]?, val with | some (some (.int x)), .int d => (match mz_put L r1 (.int (x + d)) with | some L' => some (true, pc + 3, L', S, sh, m) | none => none) | _, _ => none
  | .iconst _ => match val with | .int v => some (true, pc + 1, L, .int v :: S, sh, m) | _ => none
  | .bipush _ => match val with | .int v => some (true, pc + 2, L, .int v :: S, sh, m) | _ => none
  | .sipush _ => match val with | .int v => some (true, pc + 3, L, .int v :: S, sh, m) | _ => none
  | .lconst _ => match val with | .long v => some (true, pc + 1, L, .long v :: S, sh, m) | _ => none
  | .ldc _ => match val with | .int v => some (true, pc + 2, L, .int v :: S, sh, m) | .ref k => some (true, pc + 2, L, .ref k :: S, sh, m) | _ => none
  | .ldc_w _ => match val with | .int v => some (true, pc + 3, L, .int v :: S, sh, m) | _ => none
  | .ldc2_w _ => match val with | .long v => some (true, pc + 3, L, .long v :: S, sh, m) | _ => none
  | .getstatic _ => some (true, pc + 3, L, val :: S, sh, m)
  | .iadd => match S with | .int y :: .int x :: S => some (true, pc + 1, L, .int (x + y) :: S, sh, m) | _ => none
  | .isub => match S with | .int y :: .int x :: S => some (true, pc + 1, L, .int (x - y) :: S, sh, m) | _ => none
  | .imul => match S with | .int y :: .int x :: S => some (true, pc + 1, L, .int (x * y) :: S, sh, m) | _ => none
  | .idiv => match S with | .int y :: .int x :: S => some (!decide (y = 0), pc + 1, L, .int (x / y) :: S, sh, m) | _ => none
  | .irem => match S with | .int y :: .int x :: S => some (!decide (y = 0), pc + 1, L, .int (x - x / y * y) :: S, sh, m) | _ => none
  | .ineg => match S with | .int x :: S => some (true, pc + 1, L, .int (-x) :: S, sh, m) | _ => none
  | .iand => match S with | .int y :: .int x :: S => some (true, pc + 1, L, .int (x &&& y) :: S, sh, m) | _ => none
  | .ior => match S with | .int y :: .int x :: S => some (true, pc + 1, L, .int (x ||| y) :: S, sh, m) | _ => none
  | .ishl => match S with | .int y :: .int x :: S => some (true, pc + 1, L, .int (x <<< (y &&& 31)) :: S, sh, m) | _ => none
  | .ishr => match S with | .int y :: .int x :: S => some (true, pc + 1, L, .int (x >>> (y &&& 31)) :: S, sh, m) | _ => none
  | .i2b => match S with | .int x :: S => some (true, pc + 1, L, .int x.toInt8.toInt32 :: S, sh, m) | _ => none
  | .i2c => match S with | .int x :: S => some (true, pc + 1, L, .int (x.toUInt32 % 65536).toInt32 :: S, sh, m) | _ => none
  | .i2l => match S with | .int x :: S => some (true, pc + 1, L, .long x.toInt64 :: S, sh, m) | _ => none
  | .l2i => match S with | .long x :: S => some (true, pc + 1, L, .int x.toInt32 :: S, sh, m) | _ => none
  | .land => match S with | .long y :: .long x :: S => some (true, pc + 1, L, .long (x &&& y) :: S, sh, m) | _ => none
  | .lor => match S with | .long y :: .long x :: S => some (true, pc + 1, L, .long (x ||| y) :: S, sh, m) | _ => none
  | .lshl => match S with | .int y :: .long x :: S => some (true, pc + 1, L, .long (x <<< (y.toInt64 &&& 63)) :: S, sh, m) | _ => none
  | .lushr => match S with | .int y :: .long x :: S => some (true, pc + 1, L, .long (x.toUInt64 >>> (y.toInt64.toUInt64 &&& Int64.toUInt64 63)).toInt64 :: S, sh, m) | _ => none
  | .lcmp => match S with | .long y :: .long x :: S => some (true, pc + 1, L, .int (lg_cmp x y) :: S, sh, m) | _ => none
  | .dup => match S with | .int x :: S => some (true, pc + 1, L, .int x :: .int x :: S, sh, m) | .ref x :: S => some (true, pc + 1, L, .ref x :: .ref x :: S, sh, m) | _ => none
  | .dup2 => match S with | .int x :: .ref y :: S => some (true, pc + 1, L, .int x :: .ref y :: .int x :: .ref y :: S, sh, m) | _ => none
  | .pop => match S with | .int _ :: S => some (true, pc + 1, L, S, sh, m) | .ref _ :: S => some (true, pc + 1, L, S, sh, m) | _ => none
  | .goto _ => some (true, r1, L, S, sh, m)
  | .ifCond c _ => match S with
    | .int x :: S => (match c with
      | .eq => some (true, (if x = 0 then r1 else pc + 3), L, S, sh, m)
      | .ne => some (true, (if x = 0 then pc + 3 else r1), L, S, sh, m)
      | .lt => some (true, (if x < 0 then r1 else pc + 3), L, S, sh, m)
      | .ge => some (true, (if 0 ≤ x then r1 else pc + 3), L, S, sh, m)
      | .gt => some (true, (if 0 < x then r1 else pc + 3), L, S, sh, m)
      | .le => some (true, (if x ≤ 0 then r1 else pc + 3), L, S, sh, m))
    | _ => none
  | .if_icmp c _ => match S with
    | .int y :: .int x :: S => (match c with
      | .eq => some (true, (if x = y then r1 else pc + 3), L, S, sh, m)
      | .ne => some (true, (if x = y then pc + 3 else r1), L, S, sh, m)
      | .lt => some (true, (if x < y then r1 else pc + 3), L, S, sh, m)
      | .ge => some (true, (if y ≤ x then r1 else pc + 3), L, S, sh, m)
      | .gt => some (true, (if y < x then r1 else pc + 3), L, S, sh, m)
      | .le => some (true, (if x ≤ y then r1 else pc + 3), L, S, sh, m))
    | _ => none
  | .tableswitch d lo hi offs => match S with | .int x :: S => some (true, mz_tsw pc d lo hi offs x, L, S, sh, m) | _ => none
  | .lookupswitch d ps => match S with | .int x :: S => some (true, ((pc : Int) + Op.lookupswitch.offset ps.toList d x.toInt).toNat, L, S, sh, m) | _ => none
  | .getfield _ => match S with
    | .ref a :: S => bif Nat.beq r1 100 then (match mz_txs[a - (mz_B + 10)]? with
        | some _ => bif Nat.ble (mz_B + 10) a then (bif Nat.beq r2 0 then some (true, pc + 3, L, .ref (a + 20) :: S, sh, m) else some (true, pc + 3, L, .int 0 :: S, sh, m)) else none
        | none => none)
      else (match sh[a]? with
        | some (.inr (ci, fs)) => bif Nat.beq ci r1 && Nat.blt a mz_B then (match fs[r2]? with
          | some none => some (true, pc + 3, L, .int (m a r2) :: S, sh, m)
          | some (some (some j)) => some (true, pc + 3, L, .ref j :: S, sh, m)
          | _ => none) else none
        | _ => none)
    | _ => none
  | .putfield _ => match S with
    | .int x :: .ref a :: S => (match sh[a]? with
        | some (.inr (ci, fs)) => bif Nat.beq ci r1 && Nat.blt a mz_B then (match fs[r2]?, val with
          | some none, .null => some (true, pc + 3, L, S, sh, mz_up m a r2 x)
          | some none, .int _ => some (decide (x = 0) || decide (x = 1), pc + 3, L, S, sh, mz_up m a r2 x)
          | _, _ => none) else none
        | _ => none)
    | .ref j :: .ref a :: S => (match sh[a]? with
        | some (.inr (ci, fs)) => bif Nat.beq ci r1 && (Nat.blt a mz_B && (Nat.blt j sh.length && Nat.blt j mz_B)) then (match fs[r2]?, val with
          | some (some _), .ref _ => some (true, pc + 3, L, S, sh.set a (.inr (ci, fs.set r2 (some (some j)))), m)
          | _, _ => none) else none
        | _ => none)
    | _ => none
  | .iaload => match S with
    | .int i :: .ref a :: S => bif Nat.blt a mz_B then (match sh[a]? with
        | some (.inl (.int, n)) => some (mz_inb i n, pc + 1, L, .int (m a i.toNatClampNeg) :: S, sh, m)
        | _ => none)
      else (match mz_oa X (a - mz_B) with
        | some (.int, n, f) => some (mz_inb i n, pc + 1, L, .int (f i.toNatClampNeg) :: S, sh, m)
        | _ => none)
    | _ => none
  | .baload => match S with
    | .int i :: .ref a :: S => bif Nat.blt a mz_B then (match sh[a]? with
        | some (.inl (.boolean, n)) => some (mz_inb i n, pc + 1, L, .int (m a i.toNatClampNeg) :: S, sh, m)
        | _ => none)
      else (match mz_oa X (a - mz_B) with
        | some (.byte, n, f) => some (mz_inb i n, pc + 1, L, .int (f i.toNatClampNeg) :: S, sh, m)
        | _ => none)
    | _ => none
  | .iastore => match S with
    | .int x :: .int i :: .ref a :: S => bif Nat.blt a mz_B then (match sh[a]? with
        | some (.inl (.int, n)) => some (mz_inb i n, pc + 1, L, S, sh, mz_up m a i.toNatClampNeg x)
        | _ => none) else none
    | _ => none
  | .bastore => match S with
    | .int x :: .int i :: .ref a :: S => bif Nat.blt a mz_B then (match sh[a]? with
        | some (.inl (.boolean, n)) => some (mz_inb i n, pc + 1, L, S, sh, mz_up m a i.toNatClampNeg (vp_nar .boolean x))
        | _ => none) else none
    | _ => none
  | .arraylength => match S with
    | .ref a :: S => bif Nat.blt a mz_B then (match sh[a]? with
        | some (.inl (.int, n)) => some (true, pc + 1, L, .int (Int32.ofNat n) :: S, sh, m)
        | _ => none)
      else (match mz_oa X (a - mz_B) with
        | some (_, n, _) => some (true, pc + 1, L, .int (Int32.ofNat n) :: S, sh, m)
        | _ => none)
    | _ => none
  | .newarray aty => match S with
    | .int n :: S => bif Nat.blt sh.length mz_B && (mz_wL sh.length L && mz_wS sh.length S) then (match aty with
        | .int => some (decide (0 ≤ n) && decide (n.toNatClampNeg ≤ 100000), pc + 2, L, .ref sh.length :: S, sh ++ [.inl (.int, n.toNatClampNeg)], mz_z m sh.length)
        | .boolean => some (decide (0 ≤ n) && decide (n.toNatClampNeg ≤ 100000), pc + 2, L, .ref sh.length :: S, sh ++ [.inl (.boolean, n.toNatClampNeg)], mz_z m sh.length)
        | _ => none) else none
    | _ => none
  | .new _ => bif Nat.blt sh.length mz_B && (mz_wL sh.length L && mz_wS sh.length S) then some (true, pc + 3, L, .ref sh.length :: S, sh ++ [.inr (r1, mz_n0 r1)], mz_z m sh.length) else none
  | .invokespecial _ => match S with | .ref a :: S => bif Nat.beq r1 9999 && (Nat.blt a mz_B && Nat.ble ((S.map fun v => v.category).sum) 8) then some (true, pc + 3, L, S, sh, m) else none | _ => none
  | .invokestatic _ => bif Nat.beq r1 9997 then (match S with
      | .int y :: .int x :: S => bif Nat.ble ((S.map fun v => v.category).sum) 8 then some (true, pc + 3, L, .int (if x < y then y else x) :: S, sh, m) else none
      | _ => none)
    else bif Nat.beq r1 9996 then (match S with
      | .int y :: .int x :: S => bif Nat.ble ((S.map fun v => v.category).sum) 8 then some (true, pc + 3, L, .int (if y < x then y else x) :: S, sh, m) else none
      | _ => none)
    else (match S with
      | .int n :: .int dp :: .ref b :: .int sp :: .ref a :: S => bif Nat.beq r1 9998 && (Nat.blt a mz_B && (Nat.blt b mz_B && Nat.ble ((S.map fun v => v.category).sum) 8)) then (match sh[a]?, sh[b]? with
          | some (.inl (.int, n0)), some (.inl (.int, n1)) => some (decide (0 ≤ sp) && (decide (0 ≤ dp) && (decide (0 ≤ n) && (decide (sp.toNatClampNeg + n.toNatClampNeg ≤ n0) && decide (dp.toNatClampNeg + n.toNatClampNeg ≤ n1)))), pc + 3, L, S, sh, mz_cp m a b sp.toNatClampNeg dp.toNatClampNeg n.toNatClampNeg)
          | _, _ => none) else none
      | _ => none)
  | _ => none
/-- the class of a receiver -/
def mz_rc (sh : List mz_K) (val : Value) (a : Nat) : Bool := match val with
  | .ref c => (match sh[a]? with | some (.inr (ci, _)) => Nat.beq ci c && Nat.blt a mz_B | _ => false)
  | .null => Nat.ble (mz_B + 10) a && Nat.blt (a - (mz_B + 10)) 8
  | _ => false
/-- a method's locals at its entry -/
def mz_en : List Value → mz_L
  | [] => []
  | .long x :: t => some (.long x) :: none :: mz_en t
  | .double x :: t => some (.double x) :: none :: mz_en t
  | v :: t => some v :: mz_en t
def mz_L0 (n : Nat) (vs : List Value) : mz_L := mz_en vs ++ List.replicate (n - (mz_en vs).length) none
/-- whether a call is well made: what stands below is small, the references are known, the receiver is there -/
def mz_cok (ins : Instr) (r2 : Nat) (val : Value) (L : mz_L) (S : List Value) (sh : List mz_K) : Bool :=
  Nat.ble r2 S.length && (Nat.ble (((S.drop r2).map fun v => v.category).sum) 8 && (mz_wL sh.length L && (mz_wS sh.length S && (match ins with
    | .invokevirtual _ => (match (S.take r2).reverse with | .ref a :: _ => mz_rc sh val a | _ => false)
    | .invokespecial _ => (match (S.take r2).reverse with | .ref a :: _ => Nat.blt a mz_B | _ => false)
    | .invokestatic _ => true
    | _ => false))))
def mz_isc : Instr → Nat → Bool
  | .invokevirtual _, r => Nat.blt 0 r && Nat.blt r 9000
  | .invokespecial _, r => Nat.blt 0 r && Nat.blt r 9000
  | .invokestatic _, r => Nat.blt 0 r && Nat.blt r 9000
  | _, _ => false
/-- what a return gives: none it is no return, some none it is a wrong one -/
def mz_rt (ret : Option FieldType) (ins : Instr) (S : List Value) : Option (Option (Option Value)) := match ins with
  | .ireturn => (match ret, S with
    | some .int, [.int v] => some (some (some (.int v)))
    | some .boolean, [.int v] => bif decide (v = 0) || decide (v = 1) then some (some (some (.int v))) else some none
    | some .char, [.int v] => bif decide (narrow .char (.int v) = .int v) then some (some (some (.int v))) else some none
    | some .byte, [.int v] => bif decide (narrow .byte (.int v) = .int v) then some (some (some (.int v))) else some none
    | _, _ => some none)
  | .return_ => (match ret, S with | none, [] => some (some none) | _, _ => some none)
  | .areturn => (match ret, S with | some (.object _), [.ref k] => some (some (some (.ref k))) | _, _ => some none)
  | _ => none
def mz_run (X : mz_X) : Nat → Nat → Nat → mz_L → List Value → List mz_K → mz_M → Option (Option Value × List mz_K × mz_M)
  | 0, _, _, _, _, _, _ => none
  | n + 1, i, pc, L, S, sh, m => match mz_md[i]? with
    | none => none
    | some M => match mz_at M.2.2.2.2.2.2 pc with
      | none => none
      | some (ins, _, r1, r2, val) => match mz_rt M.2.2.2.1 ins S with
        | some (some v) => some (v, sh, m)
        | some none => none
        | none => bif mz_isc ins r1 then (bif mz_cok ins r2 val L S sh then (match mz_md[r1]? with
              | none => none
              | some N => bif Nat.ble (mz_en (S.take r2).reverse).length N.2.2.1 then (match mz_run X n r1 0 (mz_L0 N.2.2.1 (S.take r2).reverse) [] sh m with
                | none => none
                | some (v, sh', m') => mz_run X n i (pc + 3) L (v.toList ++ S.drop r2) sh' m') else none) else none)
          else (match mz_ex X ins r1 r2 val pc L S sh m with
            | some (true, pc', L', S', sh', m') => mz_run X n i pc' L' S' sh' m'
            | _ => none)
end
section
/-! FROM THE SMALL MACHINE'S STATES TO HEAPS -/
def mz_v (ad : Nat → Nat) (ov : Nat → Value) : Value → Value
  | .ref k => bif Nat.blt k mz_B then .ref (ad k) else ov (k - mz_B)
  | v => v
def mz_lv (f : Value → Value) : Nat → mz_L → List (Nat × Value)
  | _, [] => []
  | i, none :: t => mz_lv f (i + 1) t
  | i, some v :: t => (i, f v) :: mz_lv f (i + 1) t
def mz_fs (ad : Nat → Nat) (g : Nat → Int32) : Nat → List (Option (Option Nat)) → List Value
  | _, [] => []
  | i, none :: t => .int (g i) :: mz_fs ad g (i + 1) t
  | i, some none :: t => .null :: mz_fs ad g (i + 1) t
  | i, some (some j) :: t => .ref (ad j) :: mz_fs ad g (i + 1) t
def mz_f1 (ad : Nat → Nat) (g : Nat → Int32) (i : Nat) : Option (Option Nat) → Value
  | none => .int (g i)
  | some none => .null
  | some (some j) => .ref (ad j)
def mz_c (cy : FieldType → ClassId) (ad : Nat → Nat) (g : Nat → Int32) : mz_K → va_E
  | .inl (ty, n) => .inl (cy ty, n, .inl g)
  | .inr (ci, fs) => .inr (ci, mz_fs ad g 0 fs)
def mz_W (cy : FieldType → ClassId) (ad : Nat → Nat) (m : mz_M) : Nat → List mz_K → va_W
  | _, [] => []
  | k, c :: t => (ad k, mz_c cy ad (m k) c) :: mz_W cy ad m (k + 1) t
theorem mz_fs_get (ad : Nat → Nat) (g : Nat → Int32) (fs : List (Option (Option Nat))) : ∀ i k : Nat, (mz_fs ad g i fs)[k]? = (fs[k]?).map (mz_f1 ad g (i + k)) := by
  induction fs with
  | nil => intro i k; simp [mz_fs]
  | cons x t ih =>
    intro i k
    cases k with
    | zero => rcases x with _ | _ | j <;> rfl
    | succ n =>
      have e : (mz_fs ad g i (x :: t))[n + 1]? = (mz_fs ad g (i + 1) t)[n]? := by rcases x with _ | _ | j <;> rfl
      rw [e, ih, show i + 1 + n = i + (n + 1) by omega]
      rfl
theorem mz_fs_len (ad : Nat → Nat) (g : Nat → Int32) (fs : List (Option (Option Nat))) : ∀ i : Nat, (mz_fs ad g i fs).length = fs.length := by
  induction fs with
  | nil => intro i; rfl
  | cons x t ih => intro i; rcases x with _ | _ | j <;> simp [mz_fs, ih]
theorem mz_W_get (cy : FieldType → ClassId) (ad : Nat → Nat) (m : mz_M) (sh : List mz_K) : ∀ k q : Nat, (mz_W cy ad m k sh)[q]? = (sh[q]?).map (fun c => (ad (k + q), mz_c cy ad (m (k + q)) c)) := by
  induction sh with
  | nil => intro k q; simp [mz_W]
  | cons c t ih =>
    intro k q
    cases q with
    | zero => rfl
    | succ n =>
      show (mz_W cy ad m (k + 1) t)[n]? = _
      rw [ih, show k + 1 + n = k + (n + 1) by omega]
      rfl
theorem mz_W_at {cy : FieldType → ClassId} {ad : Nat → Nat} {m : mz_M} {sh : List mz_K} {a : Nat} {c : mz_K} (h : sh[a]? = some c) : (mz_W cy ad m 0 sh)[a]? = some (ad a, mz_c cy ad (m a) c) := by
  rw [mz_W_get, h]; simp
theorem mz_fs_up {ad : Nat → Nat} {g : Nat → Int32} {fs : List (Option (Option Nat))} {k : Nat} {v : Int32} (h : fs[k]? = some none) : mz_fs ad (upd g k v) 0 fs = (mz_fs ad g 0 fs).set k (.int v) := by
  apply List.ext_getElem?
  intro q
  rw [List.getElem?_set, mz_fs_get, mz_fs_get, mz_fs_len]
  have hk : k < fs.length := (List.getElem?_eq_some_iff.mp h).1
  by_cases hq : k = q
  · subst hq
    rw [if_pos rfl, if_pos hk, h]
    simp [mz_f1, upd]
  · rw [if_neg hq]
    cases hf : fs[q]? with
    | none => rfl
    | some x =>
      rcases x with _ | _ | j <;> simp [mz_f1, upd, Ne.symm hq]
theorem mz_fs_set {ad : Nat → Nat} {g : Nat → Int32} {fs : List (Option (Option Nat))} {k j : Nat} (hk : k < fs.length) : mz_fs ad g 0 (fs.set k (some (some j))) = (mz_fs ad g 0 fs).set k (.ref (ad j)) := by
  apply List.ext_getElem?
  intro q
  rw [List.getElem?_set, mz_fs_get, mz_fs_get, mz_fs_len, List.getElem?_set]
  by_cases hq : k = q
  · subst hq
    simp [mz_f1, hk]
  · rw [if_neg hq, if_neg hq]
theorem mz_W_up {cy : FieldType → ClassId} {ad : Nat → Nat} {m : mz_M} {sh : List mz_K} {a : Nat} {c : mz_K} {g : Nat → Int32} {m' : mz_M} (h : sh[a]? = some c) (h1 : m' a = g) (h2 : ∀ q, q ≠ a → m' q = m q) : mz_W cy ad m' 0 sh = (mz_W cy ad m 0 sh).set a (ad a, mz_c cy ad g c) := by
  have hlen : ∀ k, (mz_W cy ad m k sh).length = sh.length := by
    intro k
    induction sh generalizing k a with
    | nil => rfl
    | cons x t ih =>
      simp only [mz_W, List.length_cons]
      have : ∀ (t : List mz_K) (k : Nat), (mz_W cy ad m k t).length = t.length := by
        intro t
        induction t with
        | nil => intro k; rfl
        | cons y u ih2 => intro k; simp [mz_W, ih2]
      rw [this]
  apply List.ext_getElem?
  intro q
  rw [List.getElem?_set, mz_W_get, mz_W_get, hlen]
  have ha : a < sh.length := (List.getElem?_eq_some_iff.mp h).1
  by_cases hq : a = q
  · subst hq
    rw [if_pos rfl, if_pos ha, h]
    simp [h1]
  · rw [if_neg hq]
    simp [h2 q (Ne.symm hq)]
theorem mz_W_len (cy : FieldType → ClassId) (ad : Nat → Nat) (m : mz_M) : ∀ (sh : List mz_K) (k : Nat), (mz_W cy ad m k sh).length = sh.length := by
  intro t
  induction t with
  | nil => intro k; rfl
  | cons y u ih2 => intro k; simp [mz_W, ih2]
theorem mz_W_set {cy : FieldType → ClassId} {ad : Nat → Nat} {m : mz_M} {sh : List mz_K} {a : Nat} {c : mz_K} (h : a < sh.length) : mz_W cy ad m 0 (sh.set a c) = (mz_W cy ad m 0 sh).set a (ad a, mz_c cy ad (m a) c) := by
  apply List.ext_getElem?
  intro q
  rw [List.getElem?_set, mz_W_get, mz_W_get, mz_W_len, List.getElem?_set]
  by_cases hq : a = q
  · subst hq
    simp [h]
  · rw [if_neg hq, if_neg hq]
/-- every reference in a field is of a cell that is there -/
def mz_wf (sh : List mz_K) : Prop := ∀ (a ci : Nat) (fs : List (Option (Option Nat))) (k j : Nat), sh[a]? = some (.inr (ci, fs)) → fs[k]? = some (some (some j)) → j < sh.length ∧ j < mz_B
theorem mz_W_ad {cy : FieldType → ClassId} {ad ad' : Nat → Nat} {m : mz_M} {sh : List mz_K} (hw : mz_wf sh) (h : ∀ k, k < sh.length → ad' k = ad k) : mz_W cy ad' m 0 sh = mz_W cy ad m 0 sh := by
  apply List.ext_getElem?
  intro q
  rw [mz_W_get, mz_W_get]
  cases hq : sh[q]? with
  | none => rfl
  | some c =>
    have hlt : q < sh.length := (List.getElem?_eq_some_iff.mp hq).1
    simp only [Option.map_some, Nat.zero_add, h q hlt]
    rcases c with ⟨ty, n⟩ | ⟨ci, fs⟩
    · rfl
    · simp only [mz_c]
      congr 4
      apply List.ext_getElem?
      intro k
      rw [mz_fs_get, mz_fs_get]
      cases hk : fs[k]? with
      | none => rfl
      | some x =>
        rcases x with _ | _ | j
        · rfl
        · rfl
        · simp [mz_f1, h j (hw q ci fs k j hq hk).1]
theorem mz_W_push {cy : FieldType → ClassId} {ad : Nat → Nat} {m : mz_M} {sh : List mz_K} {c : mz_K} {q : Nat} {e : va_E} {m' : mz_M} (hw : mz_wf sh) (hm : ∀ k, k < sh.length → m' k = m k) (he : mz_c cy (fun k => if k = sh.length then q else ad k) (m' sh.length) c = e) :
    mz_W cy (fun k => if k = sh.length then q else ad k) m' 0 (sh ++ [c]) = mz_W cy ad m 0 sh ++ [(q, e)] := by
  have h1 : mz_W cy (fun k => if k = sh.length then q else ad k) m 0 sh = mz_W cy ad m 0 sh := mz_W_ad hw (fun k hk => if_neg (Nat.ne_of_lt hk))
  rw [← h1]
  apply List.ext_getElem?
  intro x
  rw [mz_W_get]
  by_cases hx : x < sh.length
  · rw [List.getElem?_append_left hx, List.getElem?_append_left (by rw [mz_W_len]; exact hx), mz_W_get]
    simp [hm x hx]
  · rw [List.getElem?_append_right (Nat.not_lt.mp hx), List.getElem?_append_right (by rw [mz_W_len]; exact Nat.not_lt.mp hx), mz_W_len]
    by_cases h0 : x = sh.length
    · subst h0
      simp only [Nat.sub_self, List.getElem?_cons_zero, Option.map_some, Nat.zero_add, he, if_true]
    · have : x - sh.length ≠ 0 := by omega
      obtain ⟨z, hz⟩ := Nat.exists_eq_succ_of_ne_zero this
      simp [hz]
theorem mz_lv_mem {f : Value → Value} : ∀ (L : mz_L) (i r : Nat) (v : Value), L[r]? = some (some v) → (i + r, f v) ∈ mz_lv f i L := by
  intro L
  induction L with
  | nil => intro i r v h; simp at h
  | cons x t ih =>
    intro i r v h
    cases r with
    | zero =>
      simp only [List.getElem?_cons_zero, Option.some.injEq] at h
      subst h
      simp [mz_lv]
    | succ r =>
      simp only [List.getElem?_cons_succ] at h
      have h2 := ih (i + 1) r v h
      rw [show i + 1 + r = i + (r + 1) by omega] at h2
      cases x with
      | none => exact h2
      | some w => exact List.mem_cons_of_mem _ h2
theorem mz_lv_of {f : Value → Value} : ∀ (L : mz_L) (i : Nat) (q : Nat × Value), q ∈ mz_lv f i L → ∃ (r : Nat) (v : Value), q = (i + r, f v) ∧ L[r]? = some (some v) := by
  intro L
  induction L with
  | nil => intro i q h; cases h
  | cons x t ih =>
    intro i q h
    cases x with
    | none =>
      obtain ⟨r, v, h1, h2⟩ := ih (i + 1) q h
      exact ⟨r + 1, v, by rw [h1]; congr 1; omega, h2⟩
    | some w =>
      rcases List.mem_cons.mp h with h | h
      · exact ⟨0, w, h, rfl⟩
      · obtain ⟨r, v, h1, h2⟩ := ih (i + 1) q h
        exact ⟨r + 1, v, by rw [h1]; congr 1; omega, h2⟩
theorem mz_lv_at {f : Value → Value} {ls : Array Slot} {nL : Nat} {L : mz_L} {r : Nat} {v : Value} (h : lv_has ls nL (mz_lv f 0 L)) (hr : L[r]? = some (some v)) : ls[r]? = some (.val (f v)) := by
  have h1 := h.2.2 _ (mz_lv_mem (f := f) L 0 r v hr)
  simpa using h1
theorem mz_v_cat (ad : Nat → Nat) {ov : Nat → Value} (ho : ∀ j, ov j = .null ∨ ∃ t, ov j = .ref t) (v : Value) : (mz_v ad ov v).category = v.category := by
  cases v with
  | ref k =>
    simp only [mz_v]
    cases Nat.blt k mz_B with
    | true => rfl
    | false =>
      rcases ho (k - mz_B) with h | ⟨t, h⟩ <;> (simp only [cond_false, h]; rfl)
  | _ => rfl
theorem mz_lv_put {ad : Nat → Nat} {ov : Nat → Value} {ls' : Array Slot} {nL i : Nat} {L L' : mz_L} {v : Value} (ho : ∀ j, ov j = .null ∨ ∃ t, ov j = .ref t) (hp : mz_put L i v = some L') (h : lv_has ls' nL ((i, mz_v ad ov v) :: (mz_lv (mz_v ad ov) 0 L).filter (fun q => !(q.1 == i) && !(q.1 + 1 == i && q.2.category == 2)))) : lv_has ls' nL (mz_lv (mz_v ad ov) 0 L') := by
  refine ⟨h.1, h.2.1, fun q hq => ?_⟩
  unfold mz_put at hp
  cases hb : (Nat.blt i L.length && mz_sok L i) with
  | false => rw [hb] at hp; cases hp
  | true =>
    rw [hb] at hp
    cases hp
    rw [Bool.and_eq_true] at hb
    obtain ⟨r, w, h1, h2⟩ := mz_lv_of _ _ _ hq
    rw [Nat.zero_add] at h1
    subst h1
    rw [List.getElem?_set] at h2
    by_cases hr : i = r
    · subst hr
      rw [if_pos rfl] at h2
      split at h2
      · cases h2
        exact h.2.2 _ List.mem_cons_self
      · cases h2
    · rw [if_neg hr] at h2
      refine h.2.2 _ (List.mem_cons_of_mem _ (List.mem_filter.mpr ⟨by simpa using mz_lv_mem (f := mz_v ad ov) L 0 r w h2, ?_⟩))
      have e1 : (r == i) = false := by simpa using Ne.symm hr
      simp only [e1, Bool.not_false, Bool.true_and, mz_v_cat ad ho]
      by_cases h3 : r + 1 = i
      · subst h3
        have h4 := hb.2
        simp only [mz_sok, h2] at h4
        cases w <;> simp_all [Value.category]
      · simp [h3]
theorem mz_lv_put2 {ad : Nat → Nat} {ov : Nat → Value} {ls' : Array Slot} {nL i : Nat} {L L' : mz_L} {v : Value} (ho : ∀ j, ov j = .null ∨ ∃ t, ov j = .ref t) (hp : mz_put2 L i v = some L') (h : lv_has ls' nL ((i, mz_v ad ov v) :: (mz_lv (mz_v ad ov) 0 L).filter (fun q => !(q.1 == i) && (!(q.1 == i + 1) && !(q.1 + 1 == i && q.2.category == 2))))) : lv_has ls' nL (mz_lv (mz_v ad ov) 0 L') := by
  refine ⟨h.1, h.2.1, fun q hq => ?_⟩
  unfold mz_put2 at hp
  cases hb : (Nat.blt (i + 1) L.length && mz_sok L i) with
  | false => rw [hb] at hp; cases hp
  | true =>
    rw [hb] at hp
    cases hp
    rw [Bool.and_eq_true] at hb
    obtain ⟨r, w, h1, h2⟩ := mz_lv_of _ _ _ hq
    rw [Nat.zero_add] at h1
    subst h1
    rw [List.getElem?_set] at h2
    by_cases hr : i + 1 = r
    · rw [if_pos hr] at h2
      split at h2 <;> cases h2
    · rw [if_neg hr, List.getElem?_set] at h2
      by_cases hr2 : i = r
      · subst hr2
        rw [if_pos rfl] at h2
        split at h2
        · cases h2
          exact h.2.2 _ List.mem_cons_self
        · cases h2
      · rw [if_neg hr2] at h2
        refine h.2.2 _ (List.mem_cons_of_mem _ (List.mem_filter.mpr ⟨by simpa using mz_lv_mem (f := mz_v ad ov) L 0 r w h2, ?_⟩))
        have e1 : (r == i) = false := by simpa using Ne.symm hr2
        have e2 : (r == i + 1) = false := by simpa using Ne.symm hr
        simp only [e1, e2, Bool.not_false, Bool.true_and, mz_v_cat ad ho]
        by_cases h3 : r + 1 = i
        · subst h3
          have h4 := hb.2
          simp only [mz_sok, h2] at h4
          cases w <;> simp_all [Value.category]
        · simp [h3]
theorem mz_wv_v {ad ad' : Nat → Nat} {ov : Nat → Value} {n : Nat} {v : Value} (hn : n ≤ mz_B) (h : ∀ k, k < n → ad' k = ad k) (hv : mz_wv n v = true) : mz_v ad' ov v = mz_v ad ov v := by
  cases v with
  | ref k =>
    simp only [mz_wv, Bool.or_eq_true, Nat.blt_eq, Nat.ble_eq] at hv
    simp only [mz_v]
    rcases hv with hv | hv
    · rw [h k hv]
    · have : Nat.blt k mz_B = false := by
        rw [Bool.eq_false_iff]; intro q; rw [Nat.blt_eq] at q; omega
      rw [this]; rfl
  | _ => rfl
theorem mz_wL_v {ad ad' : Nat → Nat} {ov : Nat → Value} {n : Nat} (hn : n ≤ mz_B) (h : ∀ k, k < n → ad' k = ad k) : ∀ (L : mz_L) (i : Nat), mz_wL n L = true → mz_lv (mz_v ad' ov) i L = mz_lv (mz_v ad ov) i L := by
  intro L
  induction L with
  | nil => intro i _; rfl
  | cons x t ih =>
    intro i hL
    cases x with
    | none => exact ih (i + 1) hL
    | some v =>
      simp only [mz_wL, Bool.and_eq_true] at hL
      simp only [mz_lv, ih (i + 1) hL.2, mz_wv_v hn h hL.1]
theorem mz_wS_v {ad ad' : Nat → Nat} {ov : Nat → Value} {n : Nat} (hn : n ≤ mz_B) (h : ∀ k, k < n → ad' k = ad k) : ∀ (S : List Value), mz_wS n S = true → S.map (mz_v ad' ov) = S.map (mz_v ad ov) := by
  intro S
  induction S with
  | nil => intro _; rfl
  | cons v t ih =>
    intro hS
    simp only [mz_wS, Bool.and_eq_true] at hS
    simp only [List.map_cons, ih hS.2, mz_wv_v hn h hS.1]
theorem mz_inb_in {i : Int32} {n : Nat} (h : mz_inb i n = true) : vp_in i n := by
  simp only [mz_inb, Bool.and_eq_true, decide_eq_true_eq] at h
  intro q
  rcases q with q | q
  · exact absurd q (Int32.not_lt.mpr h.1)
  · omega
/-- the old cells: static fields, static arrays and the script, texts -/
def mz_Old (X : mz_X) (ov : Nat → Value) (A : Nat → Prop) (U : State) (H : Heap) : Prop :=
  (∀ (k : Nat) (q : String × String × String × Value), mz_sts[k]? = some q → va_Z q.1 q.2.1 q.2.2.1 (mz_v (fun _ => 0) ov q.2.2.2) A U H) ∧
  (∀ (j : Nat) (q : FieldType × Nat × (Nat → Int32)), mz_oa X j = some q → ∃ t, ov j = .ref t ∧ va_T q.1 t q.2.1 (fun i => .int (q.2.2 i)) A U H) ∧
  (∀ (j : Nat) (q : String × Nat × String × List Int32), mz_txs[j]? = some q → ∃ t, ov (10 + j) = .ref t ∧ vk_R q.1 q.2.1 q.2.2.1 t U ∧ va_O "java/lang/String" t A U H ∧ va_OF "java/lang/String" "coder" "B" (.int 0) t A U H ∧ va_OF "java/lang/String" "value" "[B" (ov (30 + j)) t A U H) ∧
  (∀ j, ov j = .null ∨ ∃ t, ov j = .ref t) ∧ ∀ q ∈ mz_nst, va_Nw (.methodLinkNest q.1 q.2.1 q.2.2 "TinyFront") U
theorem mz_Old.warm {X : mz_X} {ov : Nat → Value} {A : Nat → Prop} {s U : State} {H : Heap} (hW : s.WarmedH U.vm) (h : mz_Old X ov A s H) : mz_Old X ov A U H := by
  refine ⟨fun k q hk => (h.1 k q hk).moved hW.alike, fun j q hq => ?_, fun j q hq => ?_, h.2.2.2.1, fun q hq => (h.2.2.2.2 q hq).warmM hW⟩
  · obtain ⟨t, h1, h2⟩ := h.2.1 j q hq
    exact ⟨t, h1, h2.moved hW.alike⟩
  · obtain ⟨t, h1, h2, h3, h4, h5⟩ := h.2.2.1 j q hq
    exact ⟨t, h1, h2.warm hW, h3.moved hW.alike, h4.moved hW.alike, h5.moved hW.alike⟩
theorem mz_Old.same {X : mz_X} {ov : Nat → Value} {A : Nat → Prop} {s U : State} {H : Heap} (hW : U.vm = s.vm) (h : mz_Old X ov A s H) : mz_Old X ov A U H := by
  have ha : s.vm.Alike U.vm := by rw [hW]; exact Vm.Alike.refl s.vm
  refine ⟨fun k q hk => (h.1 k q hk).moved ha, fun j q hq => ?_, fun j q hq => ?_, h.2.2.2.1, fun q hq => va_Nw.same rfl hW.symm (h.2.2.2.2 q hq)⟩
  · obtain ⟨t, h1, h2⟩ := h.2.1 j q hq
    exact ⟨t, h1, h2.moved ha⟩
  · obtain ⟨t, h1, h2, h3, h4, h5⟩ := h.2.2.1 j q hq
    exact ⟨t, h1, h2.same hW, h3.moved ha, h4.moved ha, h5.moved ha⟩
theorem mz_Old.kept {X : mz_X} {ov : Nat → Value} {A : Nat → Prop} {U : State} {H H1 : Heap} (h : mz_Old X ov A U H) (hq : ∀ a : Nat, a < H.size → ¬ A a → H1[a]? = H[a]?) : mz_Old X ov A U H1 := by
  refine ⟨fun k q hk => (h.1 k q hk).kept hq, fun j q hj => ?_, fun j q hj => ?_, h.2.2.2⟩
  · obtain ⟨t, h1, h2⟩ := h.2.1 j q hj
    exact ⟨t, h1, h2.kept hq⟩
  · obtain ⟨t, h1, h2, h3, h4, h5⟩ := h.2.2.1 j q hj
    exact ⟨t, h1, h2, h3.kept hq, h4.kept hq, h5.kept hq⟩
theorem mz_Old.narrow {X : mz_X} {ov : Nat → Value} {A B : Nat → Prop} {U : State} {H : Heap} (h : mz_Old X ov A U H) (hAB : ∀ q, B q → A q) : mz_Old X ov B U H := by
  refine ⟨fun k q hk => (h.1 k q hk).narrow hAB, fun j q hj => ?_, fun j q hj => ?_, h.2.2.2⟩
  · obtain ⟨t, h1, h2⟩ := h.2.1 j q hj
    exact ⟨t, h1, h2.narrow hAB⟩
  · obtain ⟨t, h1, h2, h3, h4, h5⟩ := h.2.2.1 j q hj
    exact ⟨t, h1, h2, h3.narrow hAB, h4.narrow hAB, h5.narrow hAB⟩
end
section
/-! ONE INSTRUCTION OF THE SMALL MACHINE IS ONE OF THE MACHINE -/
def mz_fw (own : String) (idx r1 r2 : Nat) : List Cond := bif Nat.beq r1 100 then (bif Nat.beq r2 0 then [.fieldLink own idx "java/lang/String" "value" "[B"] else [.fieldLink own idx "java/lang/String" "coder" "B"]) else match vwCl[r1]? with
  | some q => [.fieldLink own idx (q.2.1 r2).1 (q.2.1 r2).2.1 (q.2.1 r2).2.2.1]
  | none => []
/-- the tables' words that an instruction needs -/
def mz_wd (own : String) (ins : Instr) (r1 r2 : Nat) (val : Value) : List Cond := match ins with
  | .getfield idx => mz_fw own idx r1 r2
  | .putfield idx => mz_fw own idx r1 r2
  | .getstatic idx => (match mz_sts[r1]? with | some q => [.fieldLink own idx q.1 q.2.1 q.2.2.1] | none => [])
  | .ldc idx => (match val with | .int v => [.constant own idx v] | _ => [])
  | .ldc_w idx => (match val with | .int v => [.constant own idx v] | _ => [])
  | .ldc2_w idx => (match val with | .long v => [.constantLong own idx v] | _ => [])
  | .new idx => (match vwCl[r1]? with | some q => [.classLink own idx q.1, .instantiable q.1 q.2.2, .initialized q.1] | none => [])
  | .newarray ty => [.arrayClass (newarray.typeOf ty)]
  | .invokespecial idx => bif Nat.beq r1 9999 then [.methodLink own idx objectInit, .instanceMethod objectInit] else (match mz_md[r1]? with
    | some N => (match val with | .int _ => [.instanceMethod N.1, .initialized N.1.cls] | _ => [.methodLink own idx N.1, .instanceMethod N.1, .initialized N.1.cls])
    | none => [])
  | .invokevirtual idx => (match mz_md[r1]? with | some N => [.methodLink own idx N.1, .instanceMethod N.1, .selects N.1.cls N.1 N.1, .initialized N.1.cls] | none => [])
  | .invokestatic idx => bif Nat.beq r1 9997 then [.methodLink own idx Lib.Math.max.name, .static Lib.Math.max.name, .initialized "java/lang/Math"] else bif Nat.beq r1 9996 then [.methodLink own idx Lib.Math.min.name, .static Lib.Math.min.name, .initialized "java/lang/Math"] else bif Nat.beq r1 9998 then [.methodLink own idx arraycopyName, .native arraycopyName, .static arraycopyName, .initialized "java/lang/System"] else (match mz_md[r1]? with | some N => [.methodLink own idx N.1, .static N.1, .initialized N.1.cls] | none => [])
  | _ => []
def mz_tyc (ci k : Nat) : FieldType := match ci with
  | 0 => tyX0 k
  | 1 => tyX1 k
  | 2 => tyX2 k
  | 3 => tyX3 k
  | 4 => tyX4 k
  | 5 => tyX5 k
  | 6 => tyX6 k
  | 7 => tyX7 k
  | 8 => tyX8 k
  | 9 => tyX9 k
  | _ => tyX10 k
def mz_kd : FieldType → Value → Bool
  | .int, .null => true
  | .boolean, .int _ => true
  | .object _, .ref _ => true
  | .array _, .ref _ => true
  | _, _ => false
def mz_d0 : FieldType → Option (Option Nat) → Bool
  | .int, none => true
  | .boolean, none => true
  | .object _, some none => true
  | .array _, some none => true
  | _, _ => false
def mz_cal (M N : mz_D) (n : Nat) : Bool := decide ((parseMethodDescriptor N.1.desc).map (fun d => d.parameters.length) = some n) && (Nat.ble (N.2.2.2.2.1 + 1) M.2.2.2.2.1 && (Nat.ble (8 + (N.2.2.1 + 11) + N.2.2.2.2.2.1) M.2.2.2.2.2.1 && (decide (N.1.cls ≠ "java/lang/invoke/MethodHandle") && decide (N.1.cls ≠ "java/lang/invoke/VarHandle"))))
/-- what else is to be looked at, by program -/
def mz_ck (M : mz_D) (pc : Nat) (ins : Instr) (r1 r2 : Nat) (val : Value) : Bool := match ins with
  | .aload_n k => Nat.beq k.val r1
  | .iload_n k => Nat.beq k.val r1
  | .lload_n k => Nat.beq k.val r1
  | .istore_n k => Nat.beq k.val r1 && Nat.blt r1 M.2.2.1
  | .astore_n k => Nat.beq k.val r1 && Nat.blt r1 M.2.2.1
  | .lstore_n k => Nat.beq k.val r1 && Nat.blt (r1 + 1) M.2.2.1
  | .aload k => Nat.beq k r1
  | .iload k => Nat.beq k r1
  | .istore k => Nat.beq k r1 && Nat.blt r1 M.2.2.1
  | .iinc k n => Nat.beq k r1 && (Nat.blt r1 M.2.2.1 && decide (val = .int (Int32.ofInt n)))
  | .iconst n => decide (val = .int (Int32.ofInt n))
  | .bipush n => decide (val = .int (Int8.ofInt n).toInt32)
  | .sipush n => decide (val = .int (Int16.ofInt n).toInt32)
  | .lconst n => decide (val = .long (Int64.ofNat n.val))
  | .goto off => decide ((pc : Int) + off = (r1 : Int))
  | .ifCond _ off => decide ((pc : Int) + off = (r1 : Int))
  | .if_icmp _ off => decide ((pc : Int) + off = (r1 : Int))
  | .tableswitch d lo hi offs => decide (0 ≤ (pc : Int) + d) && (offs.toList.all (fun o => decide (0 ≤ (pc : Int) + o)) && decide ((offs.size : Int) = hi - lo + 1))
  | .lookupswitch d ps => (ps.toList.zip (ps.toList.drop 1)).all (fun (a, next) => a.1 < next.1) && (decide (0 ≤ (pc : Int) + d) && ps.toList.all (fun q => decide (0 ≤ (pc : Int) + q.2)))
  | .getstatic _ => (match mz_sts[r1]? with | some q => decide (q.2.2.2 = val) && (match val with | .int _ => true | .ref k => Nat.ble mz_B k | _ => false) | none => false)
  | .ldc idx => (match val with | .int _ => true | .ref k => (match mz_txs[r1]? with | some q => decide (q.1 = M.1.cls) && (Nat.beq q.2.1 idx && Nat.beq k (mz_B + 10 + r1)) | none => false) | _ => false)
  | .getfield _ => Nat.beq r1 100 || (match vwCl[r1]? with | some q => Nat.blt r2 q.2.2 | none => false)
  | .putfield _ => (match vwCl[r1]? with | some q => Nat.blt r2 q.2.2 && ((!(q.2.1 r2).2.2.2 || (decide (M.1.name = "<init>") && decide ((q.2.1 r2).1 = M.1.cls))) && mz_kd (mz_tyc r1 r2) val) | none => false)
  | .new _ => (match vwCl[r1]? with | some q => Nat.beq (mz_n0 r1).length q.2.2 && (List.range q.2.2).all (fun j => match (mz_n0 r1)[j]? with | some x => mz_d0 (mz_tyc r1 j) x | none => false) | none => false)
  | .invokespecial idx => bif Nat.beq r1 9999 then Nat.ble 1 M.2.2.2.2.1 && Nat.ble 20 M.2.2.2.2.2.1 else (match mz_md[r1]? with | some N => mz_cal M N (r2 - 1) && (Nat.ble 1 r2 && (decide (N.1.name = "<init>") && (decide (N.2.2.2.1 = none) && (match val with | .int _ => decide ((M.1.cls, idx, N.1) ∈ mz_nst) | _ => true)))) | none => false)
  | .invokevirtual _ => (match mz_md[r1]? with | some N => mz_cal M N (r2 - 1) && (Nat.ble 1 r2 && (match val with | .ref ci => (match vwCl[ci]? with | some q => decide (q.1 = N.1.cls) | none => false) | .null => decide (N.1.cls = "java/lang/String") | _ => false)) | none => false)
  | .invokestatic _ => bif Nat.beq r1 9997 || Nat.beq r1 9996 then Nat.ble 1 M.2.2.2.2.1 && Nat.ble 21 M.2.2.2.2.2.1 else bif Nat.beq r1 9998 then Nat.ble 1 M.2.2.2.2.1 && Nat.ble (8 + (nativeFrameWords "java/lang/System" "arraycopy" 5 + 11)) M.2.2.2.2.2.1 else (match mz_md[r1]? with | some N => mz_cal M N r2 | none => false)
  | _ => true
/-- the tables' words that hold in every method -/
def mz_lw : List Cond := lw_tbl.filter goodWord
def mz_k1 : mz_K → Nat
  | .inl (_, n) => n
  | .inr (_, fs) => fs.length
def mz_sl (sh : List mz_K) : Nat := (sh.map mz_k1).sum
theorem mz_sl_push (sh : List mz_K) (c : mz_K) : mz_sl (sh ++ [c]) = mz_sl sh + mz_k1 c := by simp [mz_sl]
def mz_tys (cy : FieldType → ClassId) : List (ClassId × FieldType) := [(cy .int, .int), (cy .boolean, .boolean)]
def mz_Cx (X : mz_X) (M : mz_D) (p : Program) (R : Room) (s : State) (m : MethodId) (args : Array Value) (meth : Method) (c : Code) (D : va_G) (cy : FieldType → ClassId) (A : Nat → Prop) (ov : Nat → Value) : Prop :=
  p.tables.exec = Jvm.exec ∧ c.code = M.2.1 ∧ c.maxLocals = M.2.2.1 ∧ s.vm.findClass M.1.cls = some m.cls ∧ (∀ w ∈ mz_lw, w.before args s = true) ∧ (M.1.name = "<init>" → meth.name = "<init>") ∧ va_K D vwCl (mz_tys cy) s ∧ mz_Old X ov A s s.heap ∧ (∀ q, s.heap.size ≤ q → A q) ∧ M.2.2.2.2.1 ≤ R.frames ∧ M.2.2.2.2.2.1 ≤ R.locals
def mz_Rl (D : va_G) (cy : FieldType → ClassId) (A : Nat → Prop) (s : State) (H : Heap) (locs : List Loc) (ad : Nat → Nat) (sh : List mz_K) (mm : mz_M) : Prop :=
  va_P D vwCl (mz_W cy ad mm 0 sh) H ∧ va_D A (mz_W cy ad mm 0 sh) ∧ va_S A s.heap H locs ∧ mz_wf sh ∧ sh.length ≤ mz_B
theorem mz_v_ref (ad : Nat → Nat) {ov : Nat → Value} (ho : ∀ j, ov j = .null ∨ ∃ t, ov j = .ref t) (k : Nat) : mz_v ad ov (.ref k) = .null ∨ ∃ a, mz_v ad ov (.ref k) = .ref a := by
  simp only [mz_v]
  cases Nat.blt k mz_B with
  | true => exact Or.inr ⟨_, rfl⟩
  | false => exact ho (k - mz_B)
theorem mz_v_lo {ad : Nat → Nat} {ov : Nat → Value} {k : Nat} (h : Nat.blt k mz_B = true) : mz_v ad ov (.ref k) = .ref (ad k) := by simp [mz_v, h]
theorem mz_v_hi {ad : Nat → Nat} {ov : Nat → Value} {k : Nat} (h : Nat.blt k mz_B = false) : mz_v ad ov (.ref k) = ov (k - mz_B) := by simp [mz_v, h]
theorem mz_cls (ci : Nat) (q : vw_C) (h : vwCl[ci]? = some q) : (∀ k, k < q.2.2 → parseFieldDescriptor (q.2.1 k).2.2.1 = some (mz_tyc ci k)) ∧ (∀ a, a < q.2.2 → ∀ b, b < q.2.2 → a ≠ b → (q.2.1 a).2.1 ≠ (q.2.1 b).2.1) := by
  match ci, h with
  | 0, h => cases h; exact ⟨tyX0_ok, nmX0⟩
  | 1, h => cases h; exact ⟨tyX1_ok, nmX1⟩
  | 2, h => cases h; exact ⟨tyX2_ok, nmX2⟩
  | 3, h => cases h; exact ⟨tyX3_ok, nmX3⟩
  | 4, h => cases h; exact ⟨tyX4_ok, nmX4⟩
  | 5, h => cases h; exact ⟨tyX5_ok, nmX5⟩
  | 6, h => cases h; exact ⟨tyX6_ok, nmX6⟩
  | 7, h => cases h; exact ⟨tyX7_ok, nmX7⟩
  | 8, h => cases h; exact ⟨tyX8_ok, nmX8⟩
  | 9, h => cases h; exact ⟨tyX9_ok, nmX9⟩
  | 10, h => cases h; exact ⟨tyX10_ok, nmX10⟩
  | k + 11, h => simp [vwCl] at h
theorem mz_lw_of {w : Cond} (h : w ∈ lw_tbl) (hg : goodWord w = true) : w ∈ mz_lw := List.mem_filter.mpr ⟨h, hg⟩
set_option maxRecDepth 100000 in
theorem mz_wst0 : (vwCl.flatMap (fun q => u_ws q.1 q.2.1 q.2.2)).all (fun w => decide (w ∈ lw_tbl) && goodWord w) = true := by decide +kernel
theorem mz_wst (ci : Nat) (q : vw_C) (h : vwCl[ci]? = some q) : ∀ w ∈ u_ws q.1 q.2.1 q.2.2, w ∈ mz_lw := by
  intro w hw
  have h1 := List.all_eq_true.mp mz_wst0 w (List.mem_flatMap.mpr ⟨q, List.mem_of_getElem? h, hw⟩)
  rw [Bool.and_eq_true, decide_eq_true_eq] at h1
  exact mz_lw_of h1.1 h1.2
set_option maxRecDepth 100000 in
theorem mz_w_obj : Cond.code objectInit ⟨#[0xb1]⟩ 1 none ∈ mz_lw := mz_lw_of (List.mem_of_getElem? (i := 133) rfl) rfl
set_option maxRecDepth 100000 in
theorem mz_w_max : Cond.code Lib.Math.max.name Lib.Math.max.code 2 (some .int) ∈ mz_lw := mz_lw_of (List.mem_of_getElem? (i := 709) (by decide +kernel)) rfl
set_option maxRecDepth 100000 in
theorem mz_w_min : Cond.code Lib.Math.min.name Lib.Math.min.code 2 (some .int) ∈ mz_lw := mz_lw_of (List.mem_of_getElem? (i := 712) (by decide +kernel)) rfl
end
section
/-- how long an instruction is (0: a switch) -/
def mz_ln : Instr → Nat
  | .aload _ => 2
  | .iload _ => 2
  | .istore _ => 2
  | .bipush _ => 2
  | .ldc _ => 2
  | .newarray _ => 2
  | .iinc _ _ => 3
  | .sipush _ => 3
  | .ldc_w _ => 3
  | .ldc2_w _ => 3
  | .getstatic _ => 3
  | .getfield _ => 3
  | .putfield _ => 3
  | .goto _ => 3
  | .ifCond _ _ => 3
  | .if_icmp _ _ => 3
  | .new _ => 3
  | .invokespecial _ => 3
  | .invokevirtual _ => 3
  | .invokestatic _ => 3
  | .tableswitch _ _ _ _ => 0
  | .lookupswitch _ _ => 0
  | _ => 1
section
variable {p : Program} {l : Launch} {e : Env} {R : Room} {s : State} {m : MethodId} {args : Array Value} {below : List Frame} {meth : Method} {c : Code} {Q : State → Prop} {H : Heap} {locs : List Loc} {cells slots : Nat}
variable {X : mz_X} {M : mz_D} {D : va_G} {cy : FieldType → ClassId} {A : Nat → Prop} {ov : Nat → Value} {ad : Nat → Nat}
variable {pc : Nat} {ls : Array Slot} {L : mz_L} {S : List Value} {sh : List mz_K} {mm : mz_M}
/-- the goal behind one instruction -/
def mz_K1 (p : Program) (l : Launch) (e : Env) (R : Room) (s : State) (m : MethodId) (args : Array Value) (below : List Frame) (meth : Method) (c : Code) (Q : State → Prop) (M : mz_D) (D : va_G) (cy : FieldType → ClassId) (A : Nat → Prop) (ov : Nat → Value) (ad : Nat → Nat) (sh : List mz_K) (cells slots : Nat) (st : mz_S) : Prop :=
  ∀ (ad' : Nat → Nat) (H' : Heap) (locs' : List Loc) (ls' : Array Slot), (∀ k, k < sh.length → ad' k = ad k) → mz_Rl D cy A s H' locs' ad' st.2.2.2.1 st.2.2.2.2 → lv_has ls' M.2.2.1 (mz_lv (mz_v ad' ov) 0 st.2.1) → W p l e R s m args below meth c H' locs' (cells + (st.2.2.2.1.length - sh.length)) (slots + (mz_sl st.2.2.2.1 - mz_sl sh)) Q (F0 m st.1 ls' (st.2.2.1.map (mz_v ad' ov)))
theorem mz_K1.same {H : Heap} {locs : List Loc} {cells slots pc : Nat} {ls : Array Slot} {L : mz_L} {S : List Value} {sh : List mz_K} {mm : mz_M} {ad : Nat → Nat}
    (kk : mz_K1 p l e R s m args below meth c Q M D cy A ov ad sh cells slots (pc, L, S, sh, mm)) (hR : mz_Rl D cy A s H locs ad sh mm) (hl : lv_has ls M.2.2.1 (mz_lv (mz_v ad ov) 0 L)) : W p l e R s m args below meth c H locs cells slots Q (F0 m pc ls (S.map (mz_v ad ov))) := by
  have h := kk ad H locs ls (fun _ _ => rfl) hR hl
  simpa using h
theorem mz_K1.mem {H : Heap} {locs : List Loc} {cells slots pc : Nat} {ls : Array Slot} {L : mz_L} {S : List Value} {sh sh' : List mz_K} {mm : mz_M} {ad : Nat → Nat} (h1 : sh'.length = sh.length) (h2 : mz_sl sh' = mz_sl sh)
    (kk : mz_K1 p l e R s m args below meth c Q M D cy A ov ad sh cells slots (pc, L, S, sh', mm)) (hR : mz_Rl D cy A s H locs ad sh' mm) (hl : lv_has ls M.2.2.1 (mz_lv (mz_v ad ov) 0 L)) : W p l e R s m args below meth c H locs cells slots Q (F0 m pc ls (S.map (mz_v ad ov))) := by
  have h := kk ad H locs ls (fun _ _ => rfl) hR hl
  simpa [h1, h2] using h
theorem mz_put_lt {L L' : mz_L} {i : Nat} {v : Value} (h : mz_put L i v = some L') : i < L.length := by
  unfold mz_put at h
  cases hb : (Nat.blt i L.length && mz_sok L i) with
  | false => rw [hb] at h; cases h
  | true => rw [Bool.and_eq_true, Nat.blt_eq] at hb; exact hb.1
theorem mz_put2_lt {L L' : mz_L} {i : Nat} {v : Value} (h : mz_put2 L i v = some L') : i + 1 < L.length := by
  unfold mz_put2 at h
  cases hb : (Nat.blt (i + 1) L.length && mz_sok L i) with
  | false => rw [hb] at h; cases h
  | true => rw [Bool.and_eq_true, Nat.blt_eq] at hb; exact hb.1
set_option maxHeartbeats 4000000 in
/-- loads, stores, constants -/
theorem mz_s_loc (hx : p.tables.exec = Jvm.exec) (hb : c.code = M.2.1) (hml : c.maxLocals = M.2.2.1) (hown : s.vm.findClass M.1.cls = some m.cls) (hO : mz_Old X ov A s s.heap) {ins : Instr} {len r1 r2 : Nat} {val : Value} (hwd : ∀ w ∈ mz_wd M.1.cls ins r1 r2 val, w.before args s = true) (hd : decode M.2.1 pc = .ok (ins, len)) (hln : mz_ln ins = 0 ∨ len = mz_ln ins) (hck : mz_ck M pc ins r1 r2 val = true) (hR : mz_Rl D cy A s H locs ad sh mm) (hl : lv_has ls M.2.2.1 (mz_lv (mz_v ad ov) 0 L)) {st : mz_S} (he : mz_ex X ins r1 r2 val pc L S sh mm = some (true, st))
    (hg : match ins with | .aload_n _ | .aload _ | .iload_n _ | .iload _ | .lload_n _ | .istore_n _ | .istore _ | .astore_n _ | .lstore_n _ | .iinc _ _ | .iconst _ | .bipush _ | .sipush _ | .lconst _ | .ldc _ | .ldc_w _ | .ldc2_w _ | .getstatic _ => True | _ => False)
    (kk : mz_K1 p l e R s m args below meth c Q M D cy A ov ad sh cells slots st) : W p l e R s m args below meth c H locs cells slots Q (F0 m pc ls (S.map (mz_v ad ov))) := by
  have ho := hO.2.2.2.1
  cases ins with
  | aload_n k =>
    simp only [mz_ex] at he
    split at he
    · rename_i q hq
      cases he
      have e1 : len = 1 := by simpa [mz_ln] using hln
      subst e1
      have hk : k.val = r1 := Nat.eq_of_beq_eq_true hck
      have hr := mz_lv_at hl hq
      have g := mz_K1.same kk hR hl
      rcases mz_v_ref ad ho q with h | ⟨a, h⟩
      · rw [List.map_cons, h] at g
        rw [h] at hr
        exact lv_aload_nN hx hb hd hk hr g
      · rw [List.map_cons, h] at g
        rw [h] at hr
        exact lv_aload_n hx hb hd hk hr g
    · cases he
  | aload k =>
    simp only [mz_ex] at he
    split at he
    · rename_i q hq
      cases he
      have e1 : len = 2 := by simpa [mz_ln] using hln
      subst e1
      have hk : k = r1 := Nat.eq_of_beq_eq_true hck
      subst hk
      have hr := mz_lv_at hl hq
      have g := mz_K1.same kk hR hl
      rcases mz_v_ref ad ho q with h | ⟨a, h⟩
      · rw [List.map_cons, h] at g
        rw [h] at hr
        exact lv_aloadN hx hb hd hr g
      · rw [List.map_cons, h] at g
        rw [h] at hr
        exact lv_aload hx hb hd hr g
    · cases he
  | iload_n k =>
    simp only [mz_ex] at he
    split at he
    · rename_i q hq
      cases he
      have e1 : len = 1 := by simpa [mz_ln] using hln
      subst e1
      exact lv_iload_n hx hb hd (Nat.eq_of_beq_eq_true hck) (mz_lv_at hl hq) (mz_K1.same kk hR hl)
    · cases he
  | iload k =>
    simp only [mz_ex] at he
    split at he
    · rename_i q hq
      cases he
      have e1 : len = 2 := by simpa [mz_ln] using hln
      subst e1
      have hk : k = r1 := Nat.eq_of_beq_eq_true hck
      subst hk
      exact lv_iload hx hb hd (mz_lv_at hl hq) (mz_K1.same kk hR hl)
    · cases he
  | lload_n k =>
    simp only [mz_ex] at he
    split at he
    · rename_i q hq
      cases he
      have e1 : len = 1 := by simpa [mz_ln] using hln
      subst e1
      exact lv_lload_n hx hb hd (Nat.eq_of_beq_eq_true hck) (mz_lv_at hl hq) (mz_K1.same kk hR hl)
    · cases he
  | istore_n k =>
    cases S with
    | nil => cases he
    | cons v S' =>
      cases v with
      | int q =>
        simp only [mz_ex] at he
        cases hL' : mz_put L r1 (.int q) with
        | none => rw [hL'] at he; cases he
        | some L' =>
          rw [hL'] at he
          cases he
          have e1 : len = 1 := by simpa [mz_ln] using hln
          subst e1
          simp only [mz_ck, Bool.and_eq_true, Nat.blt_eq] at hck
          have hn : r1 < M.2.2.1 := hck.2
          exact lv_istore_n hx hb hd (Nat.eq_of_beq_eq_true hck.1) hl hn rfl (fun ls' hl' => mz_K1.same kk hR (mz_lv_put (v := .int q) ho hL' hl'))
      | _ => cases he
  | istore k =>
    cases S with
    | nil => cases he
    | cons v S' =>
      cases v with
      | int q =>
        simp only [mz_ex] at he
        cases hL' : mz_put L r1 (.int q) with
        | none => rw [hL'] at he; cases he
        | some L' =>
          rw [hL'] at he
          cases he
          have e1 : len = 2 := by simpa [mz_ln] using hln
          subst e1
          simp only [mz_ck, Bool.and_eq_true, Nat.blt_eq] at hck
          have hk : k = r1 := Nat.eq_of_beq_eq_true hck.1
          subst hk
          have hn : k < M.2.2.1 := hck.2
          exact lv_istore hx hb hd hl hn rfl (fun ls' hl' => mz_K1.same kk hR (mz_lv_put (v := .int q) ho hL' hl'))
      | _ => cases he
  | astore_n k =>
    cases S with
    | nil => cases he
    | cons v S' =>
      cases v with
      | ref q =>
        simp only [mz_ex] at he
        cases hL' : mz_put L r1 (.ref q) with
        | none => rw [hL'] at he; cases he
        | some L' =>
          rw [hL'] at he
          cases he
          have e1 : len = 1 := by simpa [mz_ln] using hln
          subst e1
          simp only [mz_ck, Bool.and_eq_true, Nat.blt_eq] at hck
          have hn : r1 < M.2.2.1 := hck.2
          have hp : ∀ ls', lv_has ls' M.2.2.1 ((r1, mz_v ad ov (.ref q)) :: (mz_lv (mz_v ad ov) 0 L).filter (fun q => !(q.1 == r1) && !(q.1 + 1 == r1 && q.2.category == 2))) → lv_has ls' M.2.2.1 (mz_lv (mz_v ad ov) 0 L') := fun ls' hl' => mz_lv_put (v := .ref q) ho hL' hl'
          rcases mz_v_ref ad ho q with h | ⟨a, h⟩
          · rw [h] at hp
            rw [List.map_cons, h]
            exact lv_astore_nN hx hb hd (Nat.eq_of_beq_eq_true hck.1) hl hn rfl (fun ls' hl' => mz_K1.same kk hR (hp ls' hl'))
          · rw [h] at hp
            rw [List.map_cons, h]
            exact lv_astore_n hx hb hd (Nat.eq_of_beq_eq_true hck.1) hl hn rfl (fun ls' hl' => mz_K1.same kk hR (hp ls' hl'))
      | _ => cases he
  | lstore_n k =>
    cases S with
    | nil => cases he
    | cons v S' =>
      cases v with
      | long q =>
        simp only [mz_ex] at he
        cases hL' : mz_put2 L r1 (.long q) with
        | none => rw [hL'] at he; cases he
        | some L' =>
          rw [hL'] at he
          cases he
          have e1 : len = 1 := by simpa [mz_ln] using hln
          subst e1
          simp only [mz_ck, Bool.and_eq_true, Nat.blt_eq] at hck
          have hn : r1 + 1 < M.2.2.1 := hck.2
          exact lv_lstore_n hx hb hd (Nat.eq_of_beq_eq_true hck.1) hl hn rfl (fun ls' hl' => mz_K1.same kk hR (mz_lv_put2 (v := .long q) ho hL' hl'))
      | _ => cases he
  | iinc k n =>
    simp only [mz_ex] at he
    split at he
    · rename_i x d hq hv
      split at he
      · rename_i L' hL'
        cases he
        have e1 : len = 3 := by simpa [mz_ln] using hln
        subst e1
        simp only [mz_ck, Bool.and_eq_true, decide_eq_true_eq, Nat.blt_eq] at hck
        have hk : k = r1 := Nat.eq_of_beq_eq_true hck.1
        subst hk
        have hd' : d = Int32.ofInt n := by have := hck.2.2; cases this; rfl
        have hn : k < M.2.2.1 := hck.2.1
        obtain ⟨j, hj⟩ := List.mem_iff_getElem?.mp (mz_lv_mem (f := mz_v ad ov) L 0 k (.int x) hq)
        rw [Nat.zero_add] at hj
        exact lv_iinc (v := x + d) hx hb hd hl hj (by rw [hd']) hn rfl (fun ls' hl' => mz_K1.same kk hR (mz_lv_put (v := .int (x + d)) ho hL' hl'))
      · cases he
    · cases he
  | iconst n =>
    simp only [mz_ex] at he
    split at he
    · cases he
      have e1 : len = 1 := by simpa [mz_ln] using hln
      subst e1
      simp only [mz_ck, decide_eq_true_eq, Value.int.injEq] at hck
      exact lv_iconst hx hb hd hck.symm (mz_K1.same kk hR hl)
    · cases he
  | bipush n =>
    simp only [mz_ex] at he
    split at he
    · cases he
      have e1 : len = 2 := by simpa [mz_ln] using hln
      subst e1
      simp only [mz_ck, decide_eq_true_eq, Value.int.injEq] at hck
      exact lv_bipush hx hb hd hck.symm (mz_K1.same kk hR hl)
    · cases he
  | sipush n =>
    simp only [mz_ex] at he
    split at he
    · cases he
      have e1 : len = 3 := by simpa [mz_ln] using hln
      subst e1
      simp only [mz_ck, decide_eq_true_eq, Value.int.injEq] at hck
      exact lv_sipush hx hb hd hck.symm (mz_K1.same kk hR hl)
    · cases he
  | lconst n =>
    simp only [mz_ex] at he
    split at he
    · cases he
      have e1 : len = 1 := by simpa [mz_ln] using hln
      subst e1
      simp only [mz_ck, decide_eq_true_eq, Value.long.injEq] at hck
      exact lv_lconst hx hb hd hck.symm (mz_K1.same kk hR hl)
    · cases he
  | ldc idx =>
    simp only [mz_ex] at he
    split at he
    · cases he
      have e1 : len = 2 := by simpa [mz_ln] using hln
      subst e1
      exact lv_ldc hx hb hown (hwd _ (by simp [mz_wd])) hd (mz_K1.same kk hR hl)
    · rename_i k
      cases he
      have e1 : len = 2 := by simpa [mz_ln] using hln
      subst e1
      simp only [mz_ck] at hck
      split at hck
      · rename_i q hq
        simp only [Bool.and_eq_true, decide_eq_true_eq] at hck
        obtain ⟨h1, h2, h3⟩ := hck
        have h2 := Nat.eq_of_beq_eq_true h2
        have h3 := Nat.eq_of_beq_eq_true h3
        subst h2; subst h3
        obtain ⟨t, t1, t2, -⟩ := hO.2.2.1 r1 q hq
        rw [h1] at t2
        have g := mz_K1.same kk hR hl
        rw [List.map_cons, mz_v_hi (by rw [Bool.eq_false_iff]; intro z; rw [Nat.blt_eq] at z; omega), show mz_B + 10 + r1 - mz_B = 10 + r1 by omega, t1] at g
        exact va_ldcS hx hb hown t2 hd g
      · cases hck
    · cases he
  | ldc_w idx =>
    simp only [mz_ex] at he
    split at he
    · cases he
      have e1 : len = 3 := by simpa [mz_ln] using hln
      subst e1
      exact lv_ldcw hx hb hown (hwd _ (by simp [mz_wd])) hd (mz_K1.same kk hR hl)
    · cases he
  | ldc2_w idx =>
    simp only [mz_ex] at he
    split at he
    · cases he
      have e1 : len = 3 := by simpa [mz_ln] using hln
      subst e1
      exact lv_ldc2 hx hb hown (hwd _ (by simp [mz_wd])) hd (mz_K1.same kk hR hl)
    · cases he
  | getstatic idx =>
    simp only [mz_ex] at he
    cases he
    have e1 : len = 3 := by simpa [mz_ln] using hln
    subst e1
    simp only [mz_ck] at hck
    split at hck
    · rename_i q hq
      simp only [Bool.and_eq_true, decide_eq_true_eq] at hck
      have hZ := hO.1 r1 q hq
      rw [hck.1] at hZ
      have hvv : mz_v ad ov val = mz_v (fun _ => 0) ov val := by
        cases val with
        | ref k =>
          have h2 := hck.2
          simp only [Nat.ble_eq] at h2
          rw [mz_v_hi (by rw [Bool.eq_false_iff]; intro z; rw [Nat.blt_eq] at z; omega), mz_v_hi (by rw [Bool.eq_false_iff]; intro z; rw [Nat.blt_eq] at z; omega)]
        | _ => rfl
      have g := mz_K1.same kk hR hl
      rw [List.map_cons, hvv] at g
      exact va_gets hx hb hZ hR.2.2.1 hown (hwd _ (by simp [mz_wd, hq])) (fun _ z => z) hd g
    · cases hck
  | _ => exact absurd hg (by simp)
end
end
section
theorem mz_lko (pc : Nat) (d x : Int) (ps : List (Int × Int)) (h2 : 0 ≤ (pc : Int) + d) (h3 : ps.all (fun q => decide (0 ≤ (pc : Int) + q.2)) = true) : 0 ≤ (pc : Int) + Op.lookupswitch.offset ps d x := by
  induction ps with
  | nil => simpa [Op.lookupswitch.offset] using h2
  | cons q t ih =>
    simp only [List.all_cons, Bool.and_eq_true, decide_eq_true_eq] at h3
    simp only [Op.lookupswitch.offset]
    split <;> first | exact h3.1 | exact ih h3.2 | (split <;> first | exact h3.1 | exact ih h3.2 | exact h2) | exact h2
section
variable {p : Program} {l : Launch} {e : Env} {R : Room} {s : State} {m : MethodId} {args : Array Value} {below : List Frame} {meth : Method} {c : Code} {Q : State → Prop} {H : Heap} {locs : List Loc} {cells slots : Nat}
variable {X : mz_X} {M : mz_D} {D : va_G} {cy : FieldType → ClassId} {A : Nat → Prop} {ov : Nat → Value} {ad : Nat → Nat}
variable {pc : Nat} {ls : Array Slot} {L : mz_L} {S : List Value} {sh : List mz_K} {mm : mz_M}
set_option maxHeartbeats 4000000 in
/-- numbers, the stack, branches -/
theorem mz_s_num (hx : p.tables.exec = Jvm.exec) (hb : c.code = M.2.1) (ho : ∀ j, ov j = .null ∨ ∃ t, ov j = .ref t) {ins : Instr} {len r1 r2 : Nat} {val : Value} (hd : decode M.2.1 pc = .ok (ins, len)) (hln : mz_ln ins = 0 ∨ len = mz_ln ins) (hck : mz_ck M pc ins r1 r2 val = true) (hR : mz_Rl D cy A s H locs ad sh mm) (hl : lv_has ls M.2.2.1 (mz_lv (mz_v ad ov) 0 L)) {st : mz_S} (he : mz_ex X ins r1 r2 val pc L S sh mm = some (true, st))
    (hg : match ins with | .iadd | .isub | .imul | .idiv | .irem | .ineg | .iand | .ior | .ishl | .ishr | .i2b | .i2c | .i2l | .l2i | .land | .lor | .lshl | .lushr | .lcmp | .dup | .dup2 | .pop | .goto _ | .ifCond _ _ | .if_icmp _ _ | .tableswitch _ _ _ _ | .lookupswitch _ _ => True | _ => False)
    (kk : mz_K1 p l e R s m args below meth c Q M D cy A ov ad sh cells slots st) : W p l e R s m args below meth c H locs cells slots Q (F0 m pc ls (S.map (mz_v ad ov))) := by
  cases ins with
  | iadd =>
    cases S with
    | nil => cases he
    | cons v2 S =>
      cases v2 with
      | int x2 =>
        cases S with
        | nil => cases he
        | cons v1 S =>
          cases v1 with
          | int x1 =>
            cases he
            have e1 : len = 1 := by simpa [mz_ln] using hln
            subst e1
            exact lv_iadd hx hb hd (mz_K1.same kk hR hl)
          | _ => cases he
      | _ => cases he
  | isub =>
    cases S with
    | nil => cases he
    | cons v2 S =>
      cases v2 with
      | int x2 =>
        cases S with
        | nil => cases he
        | cons v1 S =>
          cases v1 with
          | int x1 =>
            cases he
            have e1 : len = 1 := by simpa [mz_ln] using hln
            subst e1
            exact lv_isub hx hb hd (mz_K1.same kk hR hl)
          | _ => cases he
      | _ => cases he
  | imul =>
    cases S with
    | nil => cases he
    | cons v2 S =>
      cases v2 with
      | int x2 =>
        cases S with
        | nil => cases he
        | cons v1 S =>
          cases v1 with
          | int x1 =>
            cases he
            have e1 : len = 1 := by simpa [mz_ln] using hln
            subst e1
            exact lv_imul hx hb hd (mz_K1.same kk hR hl)
          | _ => cases he
      | _ => cases he
  | iand =>
    cases S with
    | nil => cases he
    | cons v2 S =>
      cases v2 with
      | int x2 =>
        cases S with
        | nil => cases he
        | cons v1 S =>
          cases v1 with
          | int x1 =>
            cases he
            have e1 : len = 1 := by simpa [mz_ln] using hln
            subst e1
            exact lv_iand hx hb hd (mz_K1.same kk hR hl)
          | _ => cases he
      | _ => cases he
  | ior =>
    cases S with
    | nil => cases he
    | cons v2 S =>
      cases v2 with
      | int x2 =>
        cases S with
        | nil => cases he
        | cons v1 S =>
          cases v1 with
          | int x1 =>
            cases he
            have e1 : len = 1 := by simpa [mz_ln] using hln
            subst e1
            exact lv_ior hx hb hd (mz_K1.same kk hR hl)
          | _ => cases he
      | _ => cases he
  | ishl =>
    cases S with
    | nil => cases he
    | cons v2 S =>
      cases v2 with
      | int x2 =>
        cases S with
        | nil => cases he
        | cons v1 S =>
          cases v1 with
          | int x1 =>
            cases he
            have e1 : len = 1 := by simpa [mz_ln] using hln
            subst e1
            exact lv_ishl hx hb hd (mz_K1.same kk hR hl)
          | _ => cases he
      | _ => cases he
  | ishr =>
    cases S with
    | nil => cases he
    | cons v2 S =>
      cases v2 with
      | int x2 =>
        cases S with
        | nil => cases he
        | cons v1 S =>
          cases v1 with
          | int x1 =>
            cases he
            have e1 : len = 1 := by simpa [mz_ln] using hln
            subst e1
            exact lv_ishr hx hb hd (mz_K1.same kk hR hl)
          | _ => cases he
      | _ => cases he
  | idiv =>
    cases S with
    | nil => cases he
    | cons v2 S =>
      cases v2 with
      | int x2 =>
        cases S with
        | nil => cases he
        | cons v1 S =>
          cases v1 with
          | int x1 =>
            have hz : ¬ x2 = 0 := by
              simp only [mz_ex, Option.some.injEq, Prod.mk.injEq, Bool.not_eq_true', decide_eq_false_iff_not] at he
              exact he.1
            simp only [mz_ex, hz, decide_false, Bool.not_false] at he
            cases he
            have e1 : len = 1 := by simpa [mz_ln] using hln
            subst e1
            exact lv_idiv hx hb hd hz (mz_K1.same kk hR hl)
          | _ => cases he
      | _ => cases he
  | irem =>
    cases S with
    | nil => cases he
    | cons v2 S =>
      cases v2 with
      | int x2 =>
        cases S with
        | nil => cases he
        | cons v1 S =>
          cases v1 with
          | int x1 =>
            have hz : ¬ x2 = 0 := by
              simp only [mz_ex, Option.some.injEq, Prod.mk.injEq, Bool.not_eq_true', decide_eq_false_iff_not] at he
              exact he.1
            simp only [mz_ex, hz, decide_false, Bool.not_false] at he
            cases he
            have e1 : len = 1 := by simpa [mz_ln] using hln
            subst e1
            exact lv_irem hx hb hd hz (mz_K1.same kk hR hl)
          | _ => cases he
      | _ => cases he
  | ineg =>
    cases S with
    | nil => cases he
    | cons v1 S =>
      cases v1 with
      | int x1 =>
        cases he
        have e1 : len = 1 := by simpa [mz_ln] using hln
        subst e1
        exact lv_ineg hx hb hd (mz_K1.same kk hR hl)
      | _ => cases he
  | i2b =>
    cases S with
    | nil => cases he
    | cons v1 S =>
      cases v1 with
      | int x1 =>
        cases he
        have e1 : len = 1 := by simpa [mz_ln] using hln
        subst e1
        exact lv_i2b hx hb hd rfl (mz_K1.same kk hR hl)
      | _ => cases he
  | i2c =>
    cases S with
    | nil => cases he
    | cons v1 S =>
      cases v1 with
      | int x1 =>
        cases he
        have e1 : len = 1 := by simpa [mz_ln] using hln
        subst e1
        exact lv_i2c hx hb hd rfl (mz_K1.same kk hR hl)
      | _ => cases he
  | i2l =>
    cases S with
    | nil => cases he
    | cons v1 S =>
      cases v1 with
      | int x1 =>
        cases he
        have e1 : len = 1 := by simpa [mz_ln] using hln
        subst e1
        exact lv_i2l hx hb hd rfl (mz_K1.same kk hR hl)
      | _ => cases he
  | l2i =>
    cases S with
    | nil => cases he
    | cons v1 S =>
      cases v1 with
      | long x1 =>
        cases he
        have e1 : len = 1 := by simpa [mz_ln] using hln
        subst e1
        exact lv_l2i hx hb hd rfl (mz_K1.same kk hR hl)
      | _ => cases he
  | land =>
    cases S with
    | nil => cases he
    | cons v2 S =>
      cases v2 with
      | long x2 =>
        cases S with
        | nil => cases he
        | cons v1 S =>
          cases v1 with
          | long x1 =>
            cases he
            have e1 : len = 1 := by simpa [mz_ln] using hln
            subst e1
            exact lv_land hx hb hd (mz_K1.same kk hR hl)
          | _ => cases he
      | _ => cases he
  | lor =>
    cases S with
    | nil => cases he
    | cons v2 S =>
      cases v2 with
      | long x2 =>
        cases S with
        | nil => cases he
        | cons v1 S =>
          cases v1 with
          | long x1 =>
            cases he
            have e1 : len = 1 := by simpa [mz_ln] using hln
            subst e1
            exact lv_lor hx hb hd (mz_K1.same kk hR hl)
          | _ => cases he
      | _ => cases he
  | lshl =>
    cases S with
    | nil => cases he
    | cons v2 S =>
      cases v2 with
      | int x2 =>
        cases S with
        | nil => cases he
        | cons v1 S =>
          cases v1 with
          | long x1 =>
            cases he
            have e1 : len = 1 := by simpa [mz_ln] using hln
            subst e1
            exact lv_lshl hx hb hd rfl (mz_K1.same kk hR hl)
          | _ => cases he
      | _ => cases he
  | lushr =>
    cases S with
    | nil => cases he
    | cons v2 S =>
      cases v2 with
      | int x2 =>
        cases S with
        | nil => cases he
        | cons v1 S =>
          cases v1 with
          | long x1 =>
            cases he
            have e1 : len = 1 := by simpa [mz_ln] using hln
            subst e1
            exact lv_lushr hx hb hd rfl (mz_K1.same kk hR hl)
          | _ => cases he
      | _ => cases he
  | lcmp =>
    cases S with
    | nil => cases he
    | cons v2 S =>
      cases v2 with
      | long x2 =>
        cases S with
        | nil => cases he
        | cons v1 S =>
          cases v1 with
          | long x1 =>
            cases he
            have e1 : len = 1 := by simpa [mz_ln] using hln
            subst e1
            exact W.lcmp hx hb hd (mz_K1.same kk hR hl)
          | _ => cases he
      | _ => cases he
  | dup =>
    cases S with
    | nil => cases he
    | cons v S =>
      cases v with
      | int x =>
        cases he
        have e1 : len = 1 := by simpa [mz_ln] using hln
        subst e1
        exact lv_dup hx hb hd (by rw [mz_v_cat ad ho]; rfl) (mz_K1.same kk hR hl)
      | ref x =>
        cases he
        have e1 : len = 1 := by simpa [mz_ln] using hln
        subst e1
        exact lv_dup hx hb hd (by rw [mz_v_cat ad ho]; rfl) (mz_K1.same kk hR hl)
      | _ => cases he
  | pop =>
    cases S with
    | nil => cases he
    | cons v S =>
      cases v with
      | int x =>
        cases he
        have e1 : len = 1 := by simpa [mz_ln] using hln
        subst e1
        exact lv_pop hx hb hd (by rw [mz_v_cat ad ho]; rfl) (mz_K1.same kk hR hl)
      | ref x =>
        cases he
        have e1 : len = 1 := by simpa [mz_ln] using hln
        subst e1
        exact lv_pop hx hb hd (by rw [mz_v_cat ad ho]; rfl) (mz_K1.same kk hR hl)
      | _ => cases he
  | dup2 =>
    cases S with
    | nil => cases he
    | cons v2 S =>
      cases v2 with
      | int x2 =>
        cases S with
        | nil => cases he
        | cons v1 S =>
          cases v1 with
          | ref x1 =>
            cases he
            have e1 : len = 1 := by simpa [mz_ln] using hln
            subst e1
            exact lv_dup2_11 hx hb hd (by rw [mz_v_cat ad ho]; rfl) (by rw [mz_v_cat ad ho]; rfl) (mz_K1.same kk hR hl)
          | _ => cases he
      | _ => cases he
  | goto off =>
    cases he
    have e1 : len = 3 := by simpa [mz_ln] using hln
    subst e1
    simp only [mz_ck, decide_eq_true_eq] at hck
    exact lv_goto hx hb hd hck (mz_K1.same kk hR hl)
  | ifCond cnd off =>
    cases S with
    | nil => cases he
    | cons v1 S =>
      cases v1 with
      | int x1 =>
        have hck2 : (pc : Int) + off = (r1 : Int) := of_decide_eq_true hck
        have e1 : len = 3 := by simpa [mz_ln] using hln
        subst e1
        cases cnd with
        | eq =>
          cases he
          refine lv_if_eq hx hb hd hck2 (fun h => ?_) (fun h => ?_)
          · have g := mz_K1.same kk hR hl
            rw [if_pos h] at g
            exact g
          · have g := mz_K1.same kk hR hl
            rw [if_neg h] at g
            exact g
        | ne =>
          cases he
          refine lv_if_ne hx hb hd hck2 (fun h => ?_) (fun h => ?_)
          · have g := mz_K1.same kk hR hl
            rw [if_neg h] at g
            exact g
          · have g := mz_K1.same kk hR hl
            rw [if_pos h] at g
            exact g
        | lt =>
          cases he
          refine lv_if_lt hx hb hd hck2 (fun h => ?_) (fun h => ?_)
          · have g := mz_K1.same kk hR hl
            rw [if_pos h] at g
            exact g
          · have g := mz_K1.same kk hR hl
            rw [if_neg h] at g
            exact g
        | ge =>
          cases he
          refine lv_if_ge hx hb hd hck2 (fun h => ?_) (fun h => ?_)
          · have g := mz_K1.same kk hR hl
            rw [if_pos h] at g
            exact g
          · have g := mz_K1.same kk hR hl
            rw [if_neg h] at g
            exact g
        | gt =>
          cases he
          refine lv_if_gt hx hb hd hck2 (fun h => ?_) (fun h => ?_)
          · have g := mz_K1.same kk hR hl
            rw [if_pos h] at g
            exact g
          · have g := mz_K1.same kk hR hl
            rw [if_neg h] at g
            exact g
        | le =>
          cases he
          refine lv_if_le hx hb hd hck2 (fun h => ?_) (fun h => ?_)
          · have g := mz_K1.same kk hR hl
            rw [if_pos h] at g
            exact g
          · have g := mz_K1.same kk hR hl
            rw [if_neg h] at g
            exact g
      | _ => cases he
  | if_icmp cnd off =>
    cases S with
    | nil => cases he
    | cons v2 S =>
      cases v2 with
      | int x2 =>
        cases S with
        | nil => cases he
        | cons v1 S =>
          cases v1 with
          | int x1 =>
            have hck2 : (pc : Int) + off = (r1 : Int) := of_decide_eq_true hck
            have e1 : len = 3 := by simpa [mz_ln] using hln
            subst e1
            cases cnd with
            | eq =>
              cases he
              refine lv_icmp_eq hx hb hd hck2 (fun h => ?_) (fun h => ?_)
              · have g := mz_K1.same kk hR hl
                rw [if_pos h] at g
                exact g
              · have g := mz_K1.same kk hR hl
                rw [if_neg h] at g
                exact g
            | ne =>
              cases he
              refine lv_icmp_ne hx hb hd hck2 (fun h => ?_) (fun h => ?_)
              · have g := mz_K1.same kk hR hl
                rw [if_neg h] at g
                exact g
              · have g := mz_K1.same kk hR hl
                rw [if_pos h] at g
                exact g
            | lt =>
              cases he
              refine lv_icmp_lt hx hb hd hck2 (fun h => ?_) (fun h => ?_)
              · have g := mz_K1.same kk hR hl
                rw [if_pos h] at g
                exact g
              · have g := mz_K1.same kk hR hl
                rw [if_neg h] at g
                exact g
            | ge =>
              cases he
              refine lv_icmp_ge hx hb hd hck2 (fun h => ?_) (fun h => ?_)
              · have g := mz_K1.same kk hR hl
                rw [if_pos h] at g
                exact g
              · have g := mz_K1.same kk hR hl
                rw [if_neg h] at g
                exact g
            | gt =>
              cases he
              refine lv_icmp_gt hx hb hd hck2 (fun h => ?_) (fun h => ?_)
              · have g := mz_K1.same kk hR hl
                rw [if_pos h] at g
                exact g
              · have g := mz_K1.same kk hR hl
                rw [if_neg h] at g
                exact g
            | le =>
              cases he
              refine lv_icmp_le hx hb hd hck2 (fun h => ?_) (fun h => ?_)
              · have g := mz_K1.same kk hR hl
                rw [if_pos h] at g
                exact g
              · have g := mz_K1.same kk hR hl
                rw [if_neg h] at g
                exact g
          | _ => cases he
      | _ => cases he
  | tableswitch d lo hi offs =>
    cases S with
    | nil => cases he
    | cons v1 S =>
      cases v1 with
      | int x1 =>
        cases he
        simp only [mz_ck, Bool.and_eq_true, decide_eq_true_eq] at hck
        obtain ⟨h1, h2, h3⟩ := hck
        have g := mz_K1.same kk hR hl
        by_cases q1 : x1.toInt < lo
        · simp only [mz_tsw, if_pos q1] at g
          exact lv_tableOut hx hb hd (Or.inl q1) (by omega) g
        · by_cases q2 : hi < x1.toInt
          · simp only [mz_tsw, if_neg q1, if_pos q2] at g
            exact lv_tableOut hx hb hd (Or.inr q2) (by omega) g
          · simp only [mz_tsw, if_neg q1, if_neg q2] at g
            have hlt : (x1.toInt - lo).toNat < offs.size := by omega
            have ho2 : offs[(x1.toInt - lo).toNat]? = some (offs[(x1.toInt - lo).toNat]'hlt) := Array.getElem?_eq_getElem hlt
            rw [ho2] at g
            have h4 := List.all_eq_true.mp h2 (offs[(x1.toInt - lo).toNat]'hlt) (Array.getElem_mem_toList hlt)
            simp only [decide_eq_true_eq] at h4
            exact lv_tableIn (tgt := ((pc : Int) + (offs[(x1.toInt - lo).toNat]'hlt)).toNat) hx hb hd q1 q2 ho2 (by omega) g
      | _ => cases he
  | lookupswitch d ps =>
    cases S with
    | nil => cases he
    | cons v1 S =>
      cases v1 with
      | int x1 =>
        cases he
        simp only [mz_ck, Bool.and_eq_true, decide_eq_true_eq] at hck
        obtain ⟨h1, h2, h3⟩ := hck
        have g := mz_K1.same kk hR hl
        have h5 : 0 ≤ (pc : Int) + Op.lookupswitch.offset ps.toList d x1.toInt := mz_lko _ _ _ _ h2 h3
        exact lv_lookup hx hb hd h1 rfl (by omega) g
      | _ => cases he
  | _ => exact absurd hg (by simp)
end
end
section
theorem mz_nblt {a b : Nat} (h : b ≤ a) : Nat.blt a b = false := by
  rw [Bool.eq_false_iff]; intro z; rw [Nat.blt_eq] at z; omega
theorem mz_ar1 {a b : Nat} (h : b + 10 ≤ a) : 10 + (a - (b + 10)) = a - b := by omega
theorem mz_ar2 {a b : Nat} (h : b + 10 ≤ a) : a + 20 - b = 30 + (a - (b + 10)) := by omega
theorem mz_ar3 {a b : Nat} (h : b + 10 ≤ a) : b ≤ a := by omega
theorem mz_ar4 {a b : Nat} (h : b + 10 ≤ a) : b ≤ a + 20 := by omega
theorem mz_wf_set {sh : List mz_K} {a ci r j : Nat} {fs : List (Option (Option Nat))} (hw : mz_wf sh) (h : sh[a]? = some (.inr (ci, fs))) (hj : j < sh.length ∧ j < mz_B) : mz_wf (sh.set a (.inr (ci, fs.set r (some (some j))))) := by
  intro a' ci' fs' k j' h1 h2
  rw [List.length_set]
  rw [List.getElem?_set] at h1
  by_cases e1 : a = a'
  · rw [if_pos e1] at h1
    split at h1
    · cases h1
      rw [List.getElem?_set] at h2
      by_cases e2 : r = k
      · rw [if_pos e2] at h2
        split at h2
        · cases h2; exact hj
        · cases h2
      · rw [if_neg e2] at h2
        exact hw a ci fs k j' h h2
    · cases h1
  · rw [if_neg e1] at h1
    exact hw a' ci' fs' k j' h1 h2
theorem mz_wf_push {sh : List mz_K} {c : mz_K} (hw : mz_wf sh) (hc : ∀ (ci : Nat) (fs : List (Option (Option Nat))) (k j : Nat), c = .inr (ci, fs) → fs[k]? = some (some (some j)) → False) : mz_wf (sh ++ [c]) := by
  intro a ci fs k j h1 h2
  rw [List.length_append, List.length_singleton]
  by_cases ha : a < sh.length
  · rw [List.getElem?_append_left ha] at h1
    have := hw a ci fs k j h1 h2
    omega
  · rw [List.getElem?_append_right (Nat.not_lt.mp ha)] at h1
    have hz : a - sh.length < 1 := (List.getElem?_eq_some_iff.mp h1).1
    rw [show a - sh.length = 0 by omega] at h1
    cases h1
    exact (hc ci fs k j rfl h2).elim
theorem mz_sl_set {sh : List mz_K} {a : Nat} {c c' : mz_K} (h : sh[a]? = some c) (h1 : mz_k1 c' = mz_k1 c) : mz_sl (sh.set a c') = mz_sl sh := by
  induction sh generalizing a with
  | nil => rfl
  | cons x t ih =>
    cases a with
    | zero =>
      simp only [List.getElem?_cons_zero, Option.some.injEq] at h
      subst h
      simp [mz_sl, h1]
    | succ a =>
      simp only [List.getElem?_cons_succ] at h
      have := ih h
      simp only [mz_sl, List.set_cons_succ, List.map_cons, List.sum_cons] at this ⊢
      rw [this]
theorem mz_n0_noref {ci k j : Nat} (h : (mz_n0 ci)[k]? = some (some (some j))) : False := by
  have hall : ∀ ci, (mz_n0 ci).all (fun x => match x with | some (some _) => false | _ => true) = true := by
    intro ci
    unfold mz_n0
    split <;> rfl
  have h1 := List.all_eq_true.mp (hall ci) _ (List.mem_of_getElem? h)
  cases h1
theorem mz_n0_ad (ad ad' : Nat → Nat) (g : Nat → Int32) (ci : Nat) : mz_fs ad' g 0 (mz_n0 ci) = mz_fs ad g 0 (mz_n0 ci) := by
  apply List.ext_getElem?
  intro k
  rw [mz_fs_get, mz_fs_get]
  cases hk : (mz_n0 ci)[k]? with
  | none => rfl
  | some x =>
    rcases x with _ | _ | j
    · rfl
    · rfl
    · exact (mz_n0_noref hk).elim
section
variable {p : Program} {l : Launch} {e : Env} {R : Room} {s : State} {m : MethodId} {args : Array Value} {below : List Frame} {meth : Method} {c : Code} {Q : State → Prop} {H : Heap} {locs : List Loc} {cells slots : Nat}
variable {X : mz_X} {M : mz_D} {D : va_G} {cy : FieldType → ClassId} {A : Nat → Prop} {ov : Nat → Value} {ad : Nat → Nat}
variable {pc : Nat} {ls : Array Slot} {L : mz_L} {S : List Value} {sh : List mz_K} {mm : mz_M}
set_option maxHeartbeats 4000000 in
theorem mz_s_get (C0 : mz_Cx X M p R s m args meth c D cy A ov) {idx len r1 r2 : Nat} {val : Value} (hd : decode M.2.1 pc = .ok (.getfield idx, len)) (hln : len = 3) (hwd : ∀ w ∈ mz_wd M.1.cls (.getfield idx) r1 r2 val, w.before args s = true) (hck : mz_ck M pc (.getfield idx) r1 r2 val = true) (hR : mz_Rl D cy A s H locs ad sh mm) (hl : lv_has ls M.2.2.1 (mz_lv (mz_v ad ov) 0 L)) {st : mz_S} (he : mz_ex X (.getfield idx) r1 r2 val pc L S sh mm = some (true, st))
    (kk : mz_K1 p l e R s m args below meth c Q M D cy A ov ad sh cells slots st) : W p l e R s m args below meth c H locs cells slots Q (F0 m pc ls (S.map (mz_v ad ov))) := by
  obtain ⟨hx, hb, hml, hown, hts, hin, hK, hO, hA, hRf, hRl⟩ := C0
  subst hln
  cases S with
  | nil => cases he
  | cons v S =>
    cases v with
    | ref a =>
      simp only [mz_ex] at he
      cases h100 : Nat.beq r1 100 with
      | true =>
        simp only [h100, cond_true] at he
        cases ht : mz_txs[a - (mz_B + 10)]? with
        | none => rw [ht] at he; cases he
        | some q =>
          rw [ht] at he
          cases hbl : Nat.ble (mz_B + 10) a with
          | false => simp only [hbl, cond_false] at he; cases he
          | true =>
            simp only [hbl, cond_true] at he
            have hle : mz_B + 10 ≤ a := Nat.le_of_ble_eq_true hbl
            obtain ⟨t, t1, t2, t3, t4, t5⟩ := hO.2.2.1 _ q ht
            rw [mz_ar1 hle] at t1
            have e0 : mz_v ad ov (.ref a) = .ref t := by rw [mz_v_hi (mz_nblt (mz_ar3 hle)), t1]
            cases hr2 : Nat.beq r2 0 with
            | true =>
              simp only [hr2, cond_true] at he
              cases he
              have g := mz_K1.same kk hR hl
              rw [List.map_cons, mz_v_hi (k := a + 20) (mz_nblt (mz_ar4 hle)), mz_ar2 hle] at g
              rw [List.map_cons, e0]
              exact vk_getf hx hb t5 hR.2.2.1 hown (hwd _ (by simp [mz_wd, mz_fw, h100, hr2])) (fun _ z => z) hd g
            | false =>
              simp only [hr2, cond_false] at he
              cases he
              have g := mz_K1.same kk hR hl
              rw [List.map_cons, e0]
              exact vk_getf hx hb t4 hR.2.2.1 hown (hwd _ (by simp [mz_wd, mz_fw, h100, hr2])) (fun _ z => z) hd g
      | false =>
        simp only [h100, cond_false] at he
        cases hs : sh[a]? with
        | none => rw [hs] at he; cases he
        | some k =>
          rw [hs] at he
          rcases k with ⟨ty, n⟩ | ⟨ci, fs⟩
          · cases he
          · simp only at he
            cases hcc : (Nat.beq ci r1 && Nat.blt a mz_B) with
            | false => simp only [hcc, cond_false] at he; cases he
            | true =>
              simp only [hcc, cond_true] at he
              rw [Bool.and_eq_true] at hcc
              have hci : ci = r1 := Nat.eq_of_beq_eq_true hcc.1
              subst hci
              simp only [mz_ck, h100, Bool.false_or] at hck
              cases hq : vwCl[ci]? with
              | none => rw [hq] at hck; cases hck
              | some q =>
                rw [hq] at hck
                have hk2 : r2 < q.2.2 := by simpa using hck
                have hlink : (Cond.fieldLink M.1.cls idx (q.2.1 r2).1 (q.2.1 r2).2.1 (q.2.1 r2).2.2.1).before args s = true := hwd _ (by simp [mz_wd, mz_fw, h100, hq])
                have hpos := mz_W_at (cy := cy) (ad := ad) (m := mm) hs
                cases hf : fs[r2]? with
                | none => rw [hf] at he; cases he
                | some x =>
                  rw [hf] at he
                  rcases x with _ | _ | j
                  · cases he
                    have g := mz_K1.same kk hR hl
                    rw [List.map_cons, mz_v_lo hcc.2]
                    exact va_get (D := D) (ci := ci) (v := .int (mm a r2)) (C := q.1) (T := q.2.1) (N := q.2.2) hx hb hts (mz_wst ci q hq) hown hK hR.1 a hpos hq r2 hk2 hlink (fun _ z => z) (by rw [mz_fs_get, hf]; simp [mz_f1]) hd g
                  · cases he
                  · cases he
                    have g := mz_K1.same kk hR hl
                    rw [List.map_cons, mz_v_lo (k := j) (by rw [Nat.blt_eq]; exact (hR.2.2.2.1 a ci fs r2 j hs hf).2)] at g
                    rw [List.map_cons, mz_v_lo hcc.2]
                    exact va_get (D := D) (ci := ci) (v := .ref (ad j)) (C := q.1) (T := q.2.1) (N := q.2.2) hx hb hts (mz_wst ci q hq) hown hK hR.1 a hpos hq r2 hk2 hlink (fun _ z => z) (by rw [mz_fs_get, hf]; simp [mz_f1]) hd g
    | _ => cases he
set_option maxHeartbeats 4000000 in
/-- a field of ints or of references is written -/
theorem mz_s_put0 (C0 : mz_Cx X M p R s m args meth c D cy A ov) {idx r1 r2 a : Nat} {val v v' : Value} {fs : List (Option (Option Nat))} (hd : decode M.2.1 pc = .ok (.putfield idx, 3)) (hwd : ∀ w ∈ mz_wd M.1.cls (.putfield idx) r1 r2 val, w.before args s = true) (hck : mz_ck M pc (.putfield idx) r1 r2 val = true) (hP : va_P D vwCl (mz_W cy ad mm 0 sh) H) (hD : va_D A (mz_W cy ad mm 0 sh)) (hS : va_S A s.heap H locs)
    (hs : sh[a]? = some (.inr (r1, fs))) (hr : r2 < fs.length) (h100 : Nat.beq r1 100 = false) (hv : ∀ ty, mz_kd ty val = true → narrow ty v' = v' ∧ fits ty v' = true) {rest : List Value}
    (kk : ∀ (H1 : Heap) (locs1 : List Loc), va_P D vwCl ((mz_W cy ad mm 0 sh).set a (ad a, .inr (r1, (mz_fs ad (mm a) 0 fs).set r2 v'))) H1 → va_D A ((mz_W cy ad mm 0 sh).set a (ad a, .inr (r1, (mz_fs ad (mm a) 0 fs).set r2 v'))) → va_S A s.heap H1 locs1 → W p l e R s m args below meth c H1 locs1 cells slots Q (F0 m (pc + 3) ls rest)) :
    W p l e R s m args below meth c H locs cells slots Q (F0 m pc ls (v' :: .ref (ad a) :: rest)) := by
  obtain ⟨hx, hb, hml, hown, hts, hin, hK, hO, hA, hRf, hRl⟩ := C0
  simp only [mz_ck] at hck
  cases hq : vwCl[r1]? with
  | none => rw [hq] at hck; cases hck
  | some q =>
    rw [hq] at hck
    simp only [Bool.and_eq_true, Bool.or_eq_true, decide_eq_true_eq, Bool.not_eq_true', Nat.blt_eq] at hck
    obtain ⟨hk2, hfi, hkd⟩ := hck
    obtain ⟨hn, hf⟩ := hv _ hkd
    have hlink : (Cond.fieldLink M.1.cls idx (q.2.1 r2).1 (q.2.1 r2).2.1 (q.2.1 r2).2.2.1).before args s = true := hwd _ (by simp [mz_wd, mz_fw, h100, hq])
    have hpos := mz_W_at (cy := cy) (ad := ad) (m := mm) hs
    obtain ⟨hty, hnm⟩ := mz_cls r1 q hq
    cases hfin : (q.2.1 r2).2.2.2 with
    | false =>
      exact va_put (D := D) (ci := r1) (v := v') (ty := mz_tyc r1 r2) (C := q.1) (T := q.2.1) (N := q.2.2) hx hb hts (mz_wst r1 q hq) (mz_tyc r1) hty hnm hown hK hP hD hS a hpos hq r2 hk2 hlink (fun _ z => z) hfin (hty r2 hk2) hn hf (by rw [mz_fs_len]; exact hr) hd kk
    | true =>
      rcases hfi with hfi | hfi
      · rw [hfin] at hfi; cases hfi
      · exact va_putF (D := D) (ci := r1) (v := v') (ty := mz_tyc r1 r2) (C := q.1) (T := q.2.1) (N := q.2.2) hx hb hts (mz_wst r1 q hq) (mz_tyc r1) hty hnm hown hK hP hD hS a hpos hq r2 hk2 hlink (fun _ z => z) hfin (hin hfi.1) hfi.2 (hty r2 hk2) hn hf (by rw [mz_fs_len]; exact hr) hd kk
set_option maxHeartbeats 4000000 in
theorem mz_s_put (C0 : mz_Cx X M p R s m args meth c D cy A ov) {idx len r1 r2 : Nat} {val : Value} (hd : decode M.2.1 pc = .ok (.putfield idx, len)) (hln : len = 3) (hwd : ∀ w ∈ mz_wd M.1.cls (.putfield idx) r1 r2 val, w.before args s = true) (hck : mz_ck M pc (.putfield idx) r1 r2 val = true) (hR : mz_Rl D cy A s H locs ad sh mm) (hl : lv_has ls M.2.2.1 (mz_lv (mz_v ad ov) 0 L)) {st : mz_S} (he : mz_ex X (.putfield idx) r1 r2 val pc L S sh mm = some (true, st))
    (kk : mz_K1 p l e R s m args below meth c Q M D cy A ov ad sh cells slots st) : W p l e R s m args below meth c H locs cells slots Q (F0 m pc ls (S.map (mz_v ad ov))) := by
  subst hln
  have h100 : Nat.beq r1 100 = false := by
    cases h : Nat.beq r1 100 with
    | false => rfl
    | true =>
      have := Nat.eq_of_beq_eq_true h
      subst this
      simp [mz_ck, vwCl] at hck
  cases S with
  | nil => cases he
  | cons v S =>
    cases v with
    | int x =>
      cases S with
      | nil => cases he
      | cons v S =>
        cases v with
        | ref a =>
          simp only [mz_ex] at he
          cases hs : sh[a]? with
          | none => rw [hs] at he; cases he
          | some k =>
            rw [hs] at he
            rcases k with ⟨ty, n⟩ | ⟨ci, fs⟩
            · cases he
            · simp only at he
              cases hcc : (Nat.beq ci r1 && Nat.blt a mz_B) with
              | false => simp only [hcc, cond_false] at he; cases he
              | true =>
                simp only [hcc, cond_true] at he
                rw [Bool.and_eq_true] at hcc
                have hci : ci = r1 := Nat.eq_of_beq_eq_true hcc.1
                subst hci
                have key : fs[r2]? = some none → (∀ ty, mz_kd ty val = true → narrow ty (.int x) = .int x ∧ fits ty (.int x) = true) → st = (pc + 3, L, S, sh, mz_up mm a r2 x) → W p l e R s m args below meth c H locs cells slots Q (F0 m pc ls ((Value.int x :: .ref a :: S).map (mz_v ad ov))) := by
                  intro hf hv hst
                  subst hst
                  rw [List.map_cons, List.map_cons, mz_v_lo hcc.2]
                  refine mz_s_put0 C0 hd hwd hck hR.1 hR.2.1 hR.2.2.1 hs (List.getElem?_eq_some_iff.mp hf).1 h100 (v := .null) hv (fun H1 locs1 g1 g2 g3 => ?_)
                  have e1 : mz_W cy ad (mz_up mm a r2 x) 0 sh = (mz_W cy ad mm 0 sh).set a (ad a, .inr (ci, (mz_fs ad (mm a) 0 fs).set r2 (.int x))) := by
                    rw [mz_W_up (m := mm) (g := upd (mm a) r2 x) hs (by simp [mz_up]) (fun q hq => by simp [mz_up, hq])]
                    simp only [mz_c, mz_fs_up hf]
                  rw [← e1] at g1 g2
                  exact mz_K1.same kk ⟨g1, g2, g3, hR.2.2.2⟩ hl
                cases hf : fs[r2]? with
                | none => rw [hf] at he; cases he
                | some z =>
                  rw [hf] at he
                  cases z with
                  | some z => cases val <;> cases he
                  | none =>
                    cases val with
                    | null =>
                      cases he
                      exact key hf (fun ty h => by cases ty <;> first | exact ⟨rfl, rfl⟩ | cases h) rfl
                    | int b =>
                      simp only [Option.some.injEq, Prod.mk.injEq, Bool.or_eq_true, decide_eq_true_eq] at he
                      refine key hf (fun ty h => ?_) he.2.symm
                      rcases he.1 with h0 | h0 <;> subst h0 <;> (cases ty <;> first | exact ⟨by decide, by decide⟩ | cases h)
                    | _ => cases he
        | _ => cases he
    | ref j =>
      cases S with
      | nil => cases he
      | cons v S =>
        cases v with
        | ref a =>
          simp only [mz_ex] at he
          cases hs : sh[a]? with
          | none => rw [hs] at he; cases he
          | some k =>
            rw [hs] at he
            rcases k with ⟨ty, n⟩ | ⟨ci, fs⟩
            · cases he
            · simp only at he
              cases hcc : (Nat.beq ci r1 && (Nat.blt a mz_B && (Nat.blt j sh.length && Nat.blt j mz_B))) with
              | false => simp only [hcc, cond_false] at he; cases he
              | true =>
                simp only [hcc, cond_true] at he
                rw [Bool.and_eq_true, Bool.and_eq_true, Bool.and_eq_true] at hcc
                obtain ⟨hc1, hc2, hc3, hc4⟩ := hcc
                have hci : ci = r1 := Nat.eq_of_beq_eq_true hc1
                subst hci
                cases hf : fs[r2]? with
                | none => rw [hf] at he; cases he
                | some z =>
                  rw [hf] at he
                  cases z with
                  | none => cases val <;> cases he
                  | some z =>
                    cases val with
                    | ref b =>
                      cases he
                      have hlt : r2 < fs.length := (List.getElem?_eq_some_iff.mp hf).1
                      rw [List.map_cons, List.map_cons, mz_v_lo hc2, mz_v_lo hc4]
                      refine mz_s_put0 C0 hd hwd hck hR.1 hR.2.1 hR.2.2.1 hs hlt h100 (v := .null) (fun ty h => by cases ty <;> first | exact ⟨rfl, rfl⟩ | cases h) (fun H1 locs1 g1 g2 g3 => ?_)
                      have ha : a < sh.length := (List.getElem?_eq_some_iff.mp hs).1
                      have e1 : mz_W cy ad mm 0 (sh.set a (.inr (ci, fs.set r2 (some (some j))))) = (mz_W cy ad mm 0 sh).set a (ad a, .inr (ci, (mz_fs ad (mm a) 0 fs).set r2 (.ref (ad j)))) := by
                        rw [mz_W_set ha]
                        simp only [mz_c, mz_fs_set hlt]
                      rw [← e1] at g1 g2
                      exact mz_K1.mem (by rw [List.length_set]) (mz_sl_set hs (by simp [mz_k1])) kk ⟨g1, g2, g3, mz_wf_set hR.2.2.2.1 hs ⟨by rwa [Nat.blt_eq] at hc3, by rwa [Nat.blt_eq] at hc4⟩, by rw [List.length_set]; exact hR.2.2.2.2⟩ hl
                    | _ => cases he
        | _ => cases he
    | _ => cases he
end
end
section
section
variable {p : Program} {l : Launch} {e : Env} {R : Room} {s : State} {m : MethodId} {args : Array Value} {below : List Frame} {meth : Method} {c : Code} {Q : State → Prop} {H : Heap} {locs : List Loc} {cells slots : Nat}
variable {X : mz_X} {M : mz_D} {D : va_G} {cy : FieldType → ClassId} {A : Nat → Prop} {ov : Nat → Value} {ad : Nat → Nat}
variable {pc : Nat} {ls : Array Slot} {L : mz_L} {S : List Value} {sh : List mz_K} {mm : mz_M}
theorem mz_W_upm {cy : FieldType → ClassId} {ad : Nat → Nat} {mm : mz_M} {sh : List mz_K} {a n : Nat} {ty : FieldType} {i : Nat} {x : Int32} (hs : sh[a]? = some (.inl (ty, n))) : mz_W cy ad (mz_up mm a i x) 0 sh = (mz_W cy ad mm 0 sh).set a (ad a, .inl (cy ty, n, .inl (upd (mm a) i x))) := by
  rw [mz_W_up (m := mm) (g := upd (mm a) i x) hs (by simp [mz_up]) (fun q hq => by simp [mz_up, hq])]
  rfl
set_option maxHeartbeats 4000000 in
theorem mz_s_ald (C0 : mz_Cx X M p R s m args meth c D cy A ov) {ins : Instr} {r1 r2 : Nat} {val : Value} (hi : ins = .iaload ∨ ins = .baload) (hd : decode M.2.1 pc = .ok (ins, 1)) (hR : mz_Rl D cy A s H locs ad sh mm) (hl : lv_has ls M.2.2.1 (mz_lv (mz_v ad ov) 0 L)) {st : mz_S} (he : mz_ex X ins r1 r2 val pc L S sh mm = some (true, st))
    (kk : mz_K1 p l e R s m args below meth c Q M D cy A ov ad sh cells slots st) : W p l e R s m args below meth c H locs cells slots Q (F0 m pc ls (S.map (mz_v ad ov))) := by
  obtain ⟨hx, hb, hml, hown, hts, hin, hK, hO, hA, hRf, hRl⟩ := C0
  have he0 := he
  rcases hi with rfl | rfl
  · cases S with
    | nil => cases he
    | cons v S =>
      cases v with
      | int i =>
        cases S with
        | nil => cases he
        | cons v S =>
          cases v with
          | ref a =>
            simp only [mz_ex] at he
            cases hlt : Nat.blt a mz_B with
            | true =>
              simp only [hlt, cond_true] at he
              cases hs : sh[a]? with
              | none => rw [hs] at he; cases he
              | some k =>
                rw [hs] at he
                rcases k with ⟨ty, n⟩ | ⟨ci, fs⟩
                · cases ty with
                  | int =>
                    simp only [Option.some.injEq, Prod.mk.injEq] at he
                    obtain ⟨h1, rfl⟩ := he
                    have hpos := mz_W_at (cy := cy) (ad := ad) (m := mm) hs
                    rw [List.map_cons, List.map_cons, mz_v_lo hlt]
                    exact va_iald hx hb hK hR.1 a 0 hpos rfl (mz_inb_in h1) hd (mz_K1.same kk hR hl)
                  | _ => cases he
                · cases he
            | false =>
              simp only [hlt, cond_false] at he
              cases hs : mz_oa X (a - mz_B) with
              | none => rw [hs] at he; cases he
              | some k =>
                rw [hs] at he
                obtain ⟨ty, n, f⟩ := k
                cases ty with
                | int =>
                  simp only [Option.some.injEq, Prod.mk.injEq] at he
                  obtain ⟨h1, rfl⟩ := he
                  obtain ⟨t, t1, t2⟩ := hO.2.1 _ _ hs
                  rw [List.map_cons, List.map_cons, mz_v_hi hlt, t1]
                  exact va_ti hx hb t2 hR.2.2.1 (mz_inb_in h1) rfl hd (mz_K1.same kk hR hl)
                | _ => cases he
          | _ => cases he
      | _ => cases he
  · cases S with
    | nil => cases he
    | cons v S =>
      cases v with
      | int i =>
        cases S with
        | nil => cases he
        | cons v S =>
          cases v with
          | ref a =>
            simp only [mz_ex] at he
            cases hlt : Nat.blt a mz_B with
            | true =>
              simp only [hlt, cond_true] at he
              cases hs : sh[a]? with
              | none => rw [hs] at he; cases he
              | some k =>
                rw [hs] at he
                rcases k with ⟨ty, n⟩ | ⟨ci, fs⟩
                · cases ty with
                  | boolean =>
                    simp only [Option.some.injEq, Prod.mk.injEq] at he
                    obtain ⟨h1, rfl⟩ := he
                    have hpos := mz_W_at (cy := cy) (ad := ad) (m := mm) hs
                    rw [List.map_cons, List.map_cons, mz_v_lo hlt]
                    exact va_zald hx hb hK hR.1 a 1 hpos rfl (mz_inb_in h1) hd (mz_K1.same kk hR hl)
                  | _ => cases he
                · cases he
            | false =>
              simp only [hlt, cond_false] at he
              cases hs : mz_oa X (a - mz_B) with
              | none => rw [hs] at he; cases he
              | some k =>
                rw [hs] at he
                obtain ⟨ty, n, f⟩ := k
                cases ty with
                | byte =>
                  simp only [Option.some.injEq, Prod.mk.injEq] at he
                  obtain ⟨h1, rfl⟩ := he
                  obtain ⟨t, t1, t2⟩ := hO.2.1 _ _ hs
                  rw [List.map_cons, List.map_cons, mz_v_hi hlt, t1]
                  exact va_tb hx hb t2 hR.2.2.1 (mz_inb_in h1) rfl hd (mz_K1.same kk hR hl)
                | _ => cases he
          | _ => cases he
      | _ => cases he
set_option maxHeartbeats 4000000 in
theorem mz_s_ast (C0 : mz_Cx X M p R s m args meth c D cy A ov) {ins : Instr} {r1 r2 : Nat} {val : Value} (hi : ins = .iastore ∨ ins = .bastore) (hd : decode M.2.1 pc = .ok (ins, 1)) (hR : mz_Rl D cy A s H locs ad sh mm) (hl : lv_has ls M.2.2.1 (mz_lv (mz_v ad ov) 0 L)) {st : mz_S} (he : mz_ex X ins r1 r2 val pc L S sh mm = some (true, st))
    (kk : mz_K1 p l e R s m args below meth c Q M D cy A ov ad sh cells slots st) : W p l e R s m args below meth c H locs cells slots Q (F0 m pc ls (S.map (mz_v ad ov))) := by
  obtain ⟨hx, hb, hml, hown, hts, hin, hK, hO, hA, hRf, hRl⟩ := C0
  rcases hi with rfl | rfl
  · cases S with
    | nil => cases he
    | cons v S =>
      cases v with
      | int x =>
        cases S with
        | nil => cases he
        | cons v S =>
          cases v with
          | int i =>
            cases S with
            | nil => cases he
            | cons v S =>
              cases v with
              | ref a =>
                simp only [mz_ex] at he
                cases hlt : Nat.blt a mz_B with
                | true =>
                  simp only [hlt, cond_true] at he
                  cases hs : sh[a]? with
                  | none => rw [hs] at he; cases he
                  | some k =>
                    rw [hs] at he
                    rcases k with ⟨ty, n⟩ | ⟨ci, fs⟩
                    · cases ty with
                      | int =>
                        simp only [Option.some.injEq, Prod.mk.injEq] at he
                        obtain ⟨h1, rfl⟩ := he
                        have hpos := mz_W_at (cy := cy) (ad := ad) (m := mm) hs
                        rw [List.map_cons, List.map_cons, List.map_cons, mz_v_lo hlt]
                        refine va_iast hx hb hK hR.1 hR.2.1 hR.2.2.1 a 0 hpos rfl (mz_inb_in h1) hd (fun H1 locs1 g1 g2 g3 => ?_)
                        rw [← mz_W_upm (i := i.toNatClampNeg) (x := x) hs] at g1 g2
                        exact mz_K1.same kk ⟨g1, g2, g3, hR.2.2.2⟩ hl
                      | _ => cases he
                    · cases he
                | false => simp only [hlt, cond_false] at he; cases he
              | _ => cases he
          | _ => cases he
      | _ => cases he
  · cases S with
    | nil => cases he
    | cons v S =>
      cases v with
      | int x =>
        cases S with
        | nil => cases he
        | cons v S =>
          cases v with
          | int i =>
            cases S with
            | nil => cases he
            | cons v S =>
              cases v with
              | ref a =>
                simp only [mz_ex] at he
                cases hlt : Nat.blt a mz_B with
                | true =>
                  simp only [hlt, cond_true] at he
                  cases hs : sh[a]? with
                  | none => rw [hs] at he; cases he
                  | some k =>
                    rw [hs] at he
                    rcases k with ⟨ty, n⟩ | ⟨ci, fs⟩
                    · cases ty with
                      | boolean =>
                        simp only [Option.some.injEq, Prod.mk.injEq] at he
                        obtain ⟨h1, rfl⟩ := he
                        have hpos := mz_W_at (cy := cy) (ad := ad) (m := mm) hs
                        rw [List.map_cons, List.map_cons, List.map_cons, mz_v_lo hlt]
                        refine va_zast hx hb hK hR.1 hR.2.1 hR.2.2.1 a 1 hpos rfl (mz_inb_in h1) hd (fun H1 locs1 g1 g2 g3 => ?_)
                        rw [← mz_W_upm (i := i.toNatClampNeg) (x := vp_nar .boolean x) hs] at g1 g2
                        exact mz_K1.same kk ⟨g1, g2, g3, hR.2.2.2⟩ hl
                      | _ => cases he
                    · cases he
                | false => simp only [hlt, cond_false] at he; cases he
              | _ => cases he
          | _ => cases he
      | _ => cases he
set_option maxHeartbeats 4000000 in
theorem mz_s_len (C0 : mz_Cx X M p R s m args meth c D cy A ov) {r1 r2 : Nat} {val : Value} (hd : decode M.2.1 pc = .ok (.arraylength, 1)) (hR : mz_Rl D cy A s H locs ad sh mm) (hl : lv_has ls M.2.2.1 (mz_lv (mz_v ad ov) 0 L)) {st : mz_S} (he : mz_ex X .arraylength r1 r2 val pc L S sh mm = some (true, st))
    (kk : mz_K1 p l e R s m args below meth c Q M D cy A ov ad sh cells slots st) : W p l e R s m args below meth c H locs cells slots Q (F0 m pc ls (S.map (mz_v ad ov))) := by
  obtain ⟨hx, hb, hml, hown, hts, hin, hK, hO, hA, hRf, hRl⟩ := C0
  cases S with
  | nil => cases he
  | cons v S =>
    cases v with
    | ref a =>
      simp only [mz_ex] at he
      cases hlt : Nat.blt a mz_B with
      | true =>
        simp only [hlt, cond_true] at he
        cases hs : sh[a]? with
        | none => rw [hs] at he; cases he
        | some k =>
          rw [hs] at he
          rcases k with ⟨ty, n⟩ | ⟨ci, fs⟩
          · cases ty with
            | int =>
              cases he
              have hpos := mz_W_at (cy := cy) (ad := ad) (m := mm) hs
              rw [List.map_cons, mz_v_lo hlt]
              exact va_alen (ty := .int) hx hb hK hR.1 a 0 hpos rfl rfl hd (mz_K1.same kk hR hl)
            | _ => cases he
          · cases he
      | false =>
        simp only [hlt, cond_false] at he
        cases hs : mz_oa X (a - mz_B) with
        | none => rw [hs] at he; cases he
        | some k =>
          rw [hs] at he
          obtain ⟨ty, n, f⟩ := k
          cases he
          obtain ⟨t, t1, t2⟩ := hO.2.1 _ _ hs
          rw [List.map_cons, mz_v_hi hlt, t1]
          exact va_tlen hx hb t2 hR.2.2.1 rfl hd (mz_K1.same kk hR hl)
    | _ => cases he
/-- behind a new cell -/
theorem mz_new_end {k : mz_K} {e0 : va_E} {q : Nat} {H1 : Heap} {v : Nat} (hwS : mz_wS sh.length S = true) (hwL : mz_wL sh.length L = true) (hlt : Nat.blt sh.length mz_B = true) (hR : mz_Rl D cy A s H locs ad sh mm) (hl : lv_has ls M.2.2.1 (mz_lv (mz_v ad ov) 0 L)) (hke : mz_c cy (fun j => if j = sh.length then q else ad j) (mz_z mm sh.length sh.length) k = e0) (hnr : ∀ (ci : Nat) (fs : List (Option (Option Nat))) (i j : Nat), k = .inr (ci, fs) → fs[i]? = some (some (some j)) → False)
    (hP : va_P D vwCl (mz_W cy ad mm 0 sh ++ [(q, e0)]) H1) (hD : va_D A (mz_W cy ad mm 0 sh ++ [(q, e0)])) (hS : va_S A s.heap H1 locs)
    (kk : mz_K1 p l e R s m args below meth c Q M D cy A ov ad sh cells slots (v, L, .ref sh.length :: S, sh ++ [k], mz_z mm sh.length)) : W p l e R s m args below meth c H1 locs (cells + 1) (slots + mz_k1 k) Q (F0 m v ls (.ref q :: S.map (mz_v ad ov))) := by
  rw [Nat.blt_eq] at hlt
  have hag : ∀ j, j < sh.length → (fun j => if j = sh.length then q else ad j) j = ad j := fun j hj => if_neg (Nat.ne_of_lt hj)
  have e1 := mz_W_push (cy := cy) (ad := ad) (m := mm) (m' := mz_z mm sh.length) (q := q) hR.2.2.2.1 (fun j hj => by simp [mz_z, Nat.ne_of_lt hj]) hke
  rw [← e1] at hP hD
  have g := kk _ H1 locs ls hag ⟨hP, hD, hS, mz_wf_push hR.2.2.2.1 hnr, by rw [List.length_append, List.length_singleton]; omega⟩ (by rw [mz_wL_v hR.2.2.2.2 hag L 0 hwL]; exact hl)
  simp only [List.length_append, List.length_singleton, Nat.add_sub_cancel_left, mz_sl_push] at g
  rw [List.map_cons, mz_wS_v hR.2.2.2.2 hag S hwS, mz_v_lo (by rw [Nat.blt_eq]; exact hlt), if_pos rfl] at g
  exact g
set_option maxHeartbeats 4000000 in
theorem mz_s_newa (C0 : mz_Cx X M p R s m args meth c D cy A ov) {aty : ArrayType} {r1 r2 : Nat} {val : Value} (hd : decode M.2.1 pc = .ok (.newarray aty, 2)) (hwd : ∀ w ∈ mz_wd M.1.cls (.newarray aty) r1 r2 val, w.before args s = true) (hR : mz_Rl D cy A s H locs ad sh mm) (hl : lv_has ls M.2.2.1 (mz_lv (mz_v ad ov) 0 L)) {st : mz_S} (he : mz_ex X (.newarray aty) r1 r2 val pc L S sh mm = some (true, st)) (hrc : cells + (st.2.2.2.1.length - sh.length) ≤ R.cells) (hrs : slots + (mz_sl st.2.2.2.1 - mz_sl sh) ≤ R.slots)
    (kk : mz_K1 p l e R s m args below meth c Q M D cy A ov ad sh cells slots st) : W p l e R s m args below meth c H locs cells slots Q (F0 m pc ls (S.map (mz_v ad ov))) := by
  obtain ⟨hx, hb, hml, hown, hts, hin, hK, hO, hA, hRf, hRl⟩ := C0
  cases S with
  | nil => cases he
  | cons v S =>
    cases v with
    | int n =>
      simp only [mz_ex] at he
      cases hcc : (Nat.blt sh.length mz_B && (mz_wL sh.length L && mz_wS sh.length S)) with
      | false => simp only [hcc, cond_false] at he; cases he
      | true =>
        simp only [hcc, cond_true] at he
        rw [Bool.and_eq_true, Bool.and_eq_true] at hcc
        obtain ⟨h1, h2, h3⟩ := hcc
        have hw : (Cond.arrayClass (newarray.typeOf aty)).before args s = true := hwd _ (by simp [mz_wd])
        cases aty with
        | int =>
          simp only [Option.some.injEq, Prod.mk.injEq, Bool.and_eq_true, decide_eq_true_eq] at he
          obtain ⟨⟨h4, h5⟩, rfl⟩ := he
          simp only [List.length_append, List.length_singleton, Nat.add_sub_cancel_left, mz_sl_push] at hrc hrs
          refine va_newa (atype := .int) (ty := .int) (a0 := (n.toNatClampNeg, .inl (fun _ => 0))) hx hb hw rfl hK hR.1 hR.2.1 hR.2.2.1 hA (fun cA => rfl) (Int32.not_lt.mpr h4) rfl (by show n.toNatClampNeg * 4 ≤ _; omega) hrc hrs hd (fun q cA H1 gK gP gD gS => ?_)
          have hcA : cA = cy .int := by
            have z1 : va_RA s cA .int := (gK.2 2 (cA, .int) rfl).2
            have z2 : va_RA s (cy .int) .int := (hK.2 0 (cy .int, .int) rfl).2
            exact Option.some.inj (z1.symm.trans z2)
          subst hcA
          exact mz_new_end (k := .inl (.int, n.toNatClampNeg)) h3 h2 h1 hR hl (by simp [mz_c, mz_z]) (fun _ _ _ _ z => by cases z) gP gD gS kk
        | boolean =>
          simp only [Option.some.injEq, Prod.mk.injEq, Bool.and_eq_true, decide_eq_true_eq] at he
          obtain ⟨⟨h4, h5⟩, rfl⟩ := he
          simp only [List.length_append, List.length_singleton, Nat.add_sub_cancel_left, mz_sl_push] at hrc hrs
          refine va_newa (atype := .boolean) (ty := .boolean) (a0 := (n.toNatClampNeg, .inl (fun _ => 0))) hx hb hw rfl hK hR.1 hR.2.1 hR.2.2.1 hA (fun cA => rfl) (Int32.not_lt.mpr h4) rfl (by show n.toNatClampNeg * 1 ≤ _; omega) hrc hrs hd (fun q cA H1 gK gP gD gS => ?_)
          have hcA : cA = cy .boolean := by
            have z1 : va_RA s cA .boolean := (gK.2 2 (cA, .boolean) rfl).2
            have z2 : va_RA s (cy .boolean) .boolean := (hK.2 1 (cy .boolean, .boolean) rfl).2
            exact Option.some.inj (z1.symm.trans z2)
          subst hcA
          exact mz_new_end (k := .inl (.boolean, n.toNatClampNeg)) h3 h2 h1 hR hl (by simp [mz_c, mz_z]) (fun _ _ _ _ z => by cases z) gP gD gS kk
        | _ => cases he
    | _ => cases he
set_option maxHeartbeats 4000000 in
theorem mz_s_new (C0 : mz_Cx X M p R s m args meth c D cy A ov) {idx r1 r2 : Nat} {val : Value} (hd : decode M.2.1 pc = .ok (.new idx, 3)) (hwd : ∀ w ∈ mz_wd M.1.cls (.new idx) r1 r2 val, w.before args s = true) (hck : mz_ck M pc (.new idx) r1 r2 val = true) (hR : mz_Rl D cy A s H locs ad sh mm) (hl : lv_has ls M.2.2.1 (mz_lv (mz_v ad ov) 0 L)) {st : mz_S} (he : mz_ex X (.new idx) r1 r2 val pc L S sh mm = some (true, st)) (hrc : cells + (st.2.2.2.1.length - sh.length) ≤ R.cells) (hrs : slots + (mz_sl st.2.2.2.1 - mz_sl sh) ≤ R.slots)
    (kk : mz_K1 p l e R s m args below meth c Q M D cy A ov ad sh cells slots st) : W p l e R s m args below meth c H locs cells slots Q (F0 m pc ls (S.map (mz_v ad ov))) := by
  obtain ⟨hx, hb, hml, hown, hts, hin, hK, hO, hA, hRf, hRl⟩ := C0
  simp only [mz_ex] at he
  cases hcc : (Nat.blt sh.length mz_B && (mz_wL sh.length L && mz_wS sh.length S)) with
  | false => simp only [hcc, cond_false] at he; cases he
  | true =>
    simp only [hcc, cond_true] at he
    cases he
    rw [Bool.and_eq_true, Bool.and_eq_true] at hcc
    obtain ⟨h1, h2, h3⟩ := hcc
    simp only [mz_ck] at hck
    cases hq : vwCl[r1]? with
    | none => rw [hq] at hck; cases hck
    | some q =>
      rw [hq] at hck
      simp only [Bool.and_eq_true] at hck
      have hN : (mz_n0 r1).length = q.2.2 := Nat.eq_of_beq_eq_true hck.1
      have hws : ∀ w ∈ ([.classLink M.1.cls idx q.1, .instantiable q.1 q.2.2, .initialized q.1] : List Cond), w.before args s = true := fun w hw => hwd w (by simp only [mz_wd, hq]; exact hw)
      simp only [List.length_append, List.length_singleton, Nat.add_sub_cancel_left, mz_sl_push, mz_k1, hN] at hrc hrs
      obtain ⟨hty, hnm⟩ := mz_cls r1 q hq
      refine va_new (ci := r1) (fs := mz_fs ad (fun _ => 0) 0 (mz_n0 r1)) (C := q.1) (T := q.2.1) (N := q.2.2) hx hb hts (mz_wst r1 q hq) (mz_tyc r1) hty hown (hws _ (by simp)) (hws _ (by simp)) (hws _ (by simp)) hK hR.1 hR.2.1 hR.2.2.1 hA hq (fun j hj => ?_) hrc hrs hd (fun qa H1 gP gD gS => ?_)
      · have hj2 := List.all_eq_true.mp hck.2 j (List.mem_range.mpr hj)
        have hjl : j < (mz_n0 r1).length := by rw [hN]; exact hj
        have e2 : (mz_n0 r1)[j]? = some ((mz_n0 r1)[j]'hjl) := List.getElem?_eq_getElem hjl
        rw [e2] at hj2
        simp only at hj2
        have e3 : vp_V (mz_fs ad (fun _ => 0) 0 (mz_n0 r1)) j = mz_f1 ad (fun _ => 0) j ((mz_n0 r1)[j]'hjl) := by
          unfold vp_V
          rw [List.getD_eq_getElem?_getD, mz_fs_get, e2]
          simp
        rw [e3]
        generalize (mz_n0 r1)[j]'hjl = z at hj2
        generalize mz_tyc r1 j = ty at hj2
        rcases z with _ | _ | z <;> cases ty <;> first | rfl | cases hj2
      · have g := mz_new_end (k := .inr (r1, mz_n0 r1)) (H1 := H1) (q := qa) h3 h2 h1 hR hl (by simp only [mz_c, mz_z, if_true]; rw [mz_n0_ad ad]) (fun ci fs i j z z2 => by cases z; exact mz_n0_noref z2) gP gD gS kk
        simp only [mz_k1, hN] at g
        exact g
theorem mz_cat_map (ho : ∀ j, ov j = .null ∨ ∃ t, ov j = .ref t) (S : List Value) : ((S.map (mz_v ad ov)).map fun v => v.category) = S.map fun v => v.category := by
  rw [List.map_map]
  exact List.map_congr_left (fun v _ => mz_v_cat ad ho v)
set_option maxHeartbeats 4000000 in
theorem mz_s_obj (C0 : mz_Cx X M p R s m args meth c D cy A ov) {idx r1 r2 : Nat} {val : Value} (hd : decode M.2.1 pc = .ok (.invokespecial idx, 3)) (hwd : ∀ w ∈ mz_wd M.1.cls (.invokespecial idx) r1 r2 val, w.before args s = true) (hck : mz_ck M pc (.invokespecial idx) r1 r2 val = true) (hR : mz_Rl D cy A s H locs ad sh mm) (hl : lv_has ls M.2.2.1 (mz_lv (mz_v ad ov) 0 L)) {st : mz_S} (he : mz_ex X (.invokespecial idx) r1 r2 val pc L S sh mm = some (true, st))
    (kk : mz_K1 p l e R s m args below meth c Q M D cy A ov ad sh cells slots st) : W p l e R s m args below meth c H locs cells slots Q (F0 m pc ls (S.map (mz_v ad ov))) := by
  obtain ⟨hx, hb, hml, hown, hts, hin, hK, hO, hA, hRf, hRl⟩ := C0
  cases S with
  | nil => cases he
  | cons v S =>
    cases v with
    | ref a =>
      simp only [mz_ex] at he
      cases hcc : (Nat.beq r1 9999 && (Nat.blt a mz_B && Nat.ble ((S.map fun v => v.category).sum) 8)) with
      | false => simp only [hcc, cond_false] at he; cases he
      | true =>
        simp only [hcc, cond_true] at he
        cases he
        rw [Bool.and_eq_true, Bool.and_eq_true, Nat.ble_eq] at hcc
        simp only [mz_ck, hcc.1, cond_true, Bool.and_eq_true, Nat.ble_eq] at hck
        have hws : ∀ w ∈ ([.methodLink M.1.cls idx objectInit, .instanceMethod objectInit] : List Cond), w.before args s = true := fun w hw => hwd w (by simp only [mz_wd, hcc.1, cond_true]; exact hw)
        rw [List.map_cons, mz_v_lo hcc.2.1]
        have g := mz_K1.same kk hR hl
        refine W.objInit hx hb hown (hws _ (by simp)) (hws _ (by simp)) (hts _ mz_w_obj) rfl (by rw [hml]; exact hl.1) rfl hd (by omega) ?_ g
        show 2 * 0 + ((S.map (mz_v ad ov)).map fun v => v.category).sum + 12 ≤ R.locals
        rw [mz_cat_map hO.2.2.2.1]
        omega
    | _ => cases he
set_option maxHeartbeats 4000000 in
theorem mz_s_max (C0 : mz_Cx X M p R s m args meth c D cy A ov) {idx r1 r2 : Nat} {val : Value} (hd : decode M.2.1 pc = .ok (.invokestatic idx, 3)) (hwd : ∀ w ∈ mz_wd M.1.cls (.invokestatic idx) r1 r2 val, w.before args s = true) (hck : mz_ck M pc (.invokestatic idx) r1 r2 val = true) (hR : mz_Rl D cy A s H locs ad sh mm) (hl : lv_has ls M.2.2.1 (mz_lv (mz_v ad ov) 0 L)) {st : mz_S} (he : mz_ex X (.invokestatic idx) r1 r2 val pc L S sh mm = some (true, st)) (hrc : cells + (st.2.2.2.1.length - sh.length) ≤ R.cells) (hrs : slots + (mz_sl st.2.2.2.1 - mz_sl sh) ≤ R.slots) (h9 : Nat.beq r1 9997 = true ∨ (Nat.beq r1 9997 = false ∧ Nat.beq r1 9996 = true))
    (kk : mz_K1 p l e R s m args below meth c Q M D cy A ov ad sh cells slots st) : W p l e R s m args below meth c H locs cells slots Q (F0 m pc ls (S.map (mz_v ad ov))) := by
  obtain ⟨hx, hb, hml, hown, hts, hin, hK, hO, hA, hRf, hRl⟩ := C0
  rcases h9 with h97 | ⟨h97, h96⟩
  · simp only [mz_ck, h97, Bool.true_or, cond_true, Bool.and_eq_true, Nat.ble_eq] at hck
    have hws : ∀ w ∈ ([.methodLink M.1.cls idx Lib.Math.max.name, .static Lib.Math.max.name, .initialized "java/lang/Math"] : List Cond), w.before args s = true := fun w hw => hwd w (by simp only [mz_wd, h97, cond_true]; exact hw)
    simp only [mz_ex, h97, cond_true] at he
    split at he
    · rename_i y x S
      cases hcc : Nat.ble ((S.map fun v => v.category).sum) 8 with
      | false => simp only [hcc, cond_false] at he; cases he
      | true =>
        simp only [hcc, cond_true] at he
        cases he
        rw [Nat.ble_eq] at hcc
        simp only [Nat.sub_self, Nat.add_zero] at hrc hrs
        refine va_mmax hx hb (by rw [hml]; exact hl.1.symm) hown (hws _ (by simp)) (hws _ (by simp)) (hws _ (by simp)) (hts _ mz_w_max) (by omega) ?_ hrc hrs hd (mz_K1.same kk hR hl)
        rw [mz_cat_map hO.2.2.2.1]
        omega
    · cases he
  · simp only [mz_ck, h97, h96, Bool.or_true, cond_true, Bool.and_eq_true, Nat.ble_eq] at hck
    have hws : ∀ w ∈ ([.methodLink M.1.cls idx Lib.Math.min.name, .static Lib.Math.min.name, .initialized "java/lang/Math"] : List Cond), w.before args s = true := fun w hw => hwd w (by simp only [mz_wd, h97, h96, cond_false, cond_true]; exact hw)
    simp only [mz_ex, h97, h96, cond_false, cond_true] at he
    split at he
    · rename_i y x S
      cases hcc : Nat.ble ((S.map fun v => v.category).sum) 8 with
      | false => simp only [hcc, cond_false] at he; cases he
      | true =>
        simp only [hcc, cond_true] at he
        cases he
        rw [Nat.ble_eq] at hcc
        simp only [Nat.sub_self, Nat.add_zero] at hrc hrs
        refine va_mmin hx hb (by rw [hml]; exact hl.1.symm) hown (hws _ (by simp)) (hws _ (by simp)) (hws _ (by simp)) (hts _ mz_w_min) (by omega) ?_ hrc hrs hd (mz_K1.same kk hR hl)
        rw [mz_cat_map hO.2.2.2.1]
        omega
    · cases he
set_option maxHeartbeats 4000000 in
theorem mz_s_cpy (C0 : mz_Cx X M p R s m args meth c D cy A ov) {idx r1 r2 : Nat} {val : Value} (hd : decode M.2.1 pc = .ok (.invokestatic idx, 3)) (hwd : ∀ w ∈ mz_wd M.1.cls (.invokestatic idx) r1 r2 val, w.before args s = true) (hck : mz_ck M pc (.invokestatic idx) r1 r2 val = true) (hR : mz_Rl D cy A s H locs ad sh mm) (hl : lv_has ls M.2.2.1 (mz_lv (mz_v ad ov) 0 L)) {st : mz_S} (he : mz_ex X (.invokestatic idx) r1 r2 val pc L S sh mm = some (true, st)) (h97 : Nat.beq r1 9997 = false) (h96 : Nat.beq r1 9996 = false)
    (kk : mz_K1 p l e R s m args below meth c Q M D cy A ov ad sh cells slots st) : W p l e R s m args below meth c H locs cells slots Q (F0 m pc ls (S.map (mz_v ad ov))) := by
  obtain ⟨hx, hb, hml, hown, hts, hin, hK, hO, hA, hRf, hRl⟩ := C0
  simp only [mz_ex, h97, h96, cond_false] at he
  split at he
  · rename_i n dp b sp a S
    cases hcc : (Nat.beq r1 9998 && (Nat.blt a mz_B && (Nat.blt b mz_B && Nat.ble ((S.map fun v => v.category).sum) 8))) with
    | false => simp only [hcc, cond_false] at he; cases he
    | true =>
      simp only [hcc, cond_true] at he
      rw [Bool.and_eq_true, Bool.and_eq_true, Bool.and_eq_true, Nat.ble_eq] at hcc
      obtain ⟨h98, hla, hlb, hcat⟩ := hcc
      simp only [mz_ck, h97, h96, Bool.or_self, cond_false, h98, cond_true, Bool.and_eq_true, Nat.ble_eq] at hck
      have hws : ∀ w ∈ ([.methodLink M.1.cls idx arraycopyName, .native arraycopyName, .static arraycopyName, .initialized "java/lang/System"] : List Cond), w.before args s = true := fun w hw => hwd w (by simp only [mz_wd, h97, h96, cond_false, h98, cond_true]; exact hw)
      cases hsa : sh[a]? with
      | none => rw [hsa] at he; cases he
      | some ka =>
        cases hsb : sh[b]? with
        | none => rw [hsa, hsb] at he; rcases ka with ⟨ta, n0⟩ | ka <;> (try cases ta) <;> cases he
        | some kb =>
          rw [hsa, hsb] at he
          rcases ka with ⟨ta, n0⟩ | ka
          · rcases kb with ⟨tb, n1⟩ | kb
            · cases ta with
              | int =>
                cases tb with
                | int =>
                  simp only [Option.some.injEq, Prod.mk.injEq, Bool.and_eq_true, decide_eq_true_eq] at he
                  obtain ⟨⟨g1, g2, g3, g4, g5⟩, rfl⟩ := he
                  simp only [List.map_cons]
                  rw [mz_v_lo hla, mz_v_lo hlb]
                  refine va_copyi (ty := .int) hx hb (by rw [hml]; exact hl.1.symm) hown (hws _ (by simp)) (hws _ (by simp)) (hws _ (by simp)) (hws _ (by simp)) hK hR.1 hR.2.1 hR.2.2.1 a b 0 0 (mz_W_at hsa) (mz_W_at hsb) rfl rfl rfl (Int32.not_lt.mpr g1) (Int32.not_lt.mpr g2) (Int32.not_lt.mpr g3) g4 g5 (fun _ _ => rfl) (by omega) ?_ hd (fun H1 locs1 q1 q2 q3 => ?_)
                  · rw [mz_cat_map hO.2.2.2.1]
                    omega
                  · have e1 : mz_W cy ad (mz_cp mm a b sp.toNatClampNeg dp.toNatClampNeg n.toNatClampNeg) 0 sh = (mz_W cy ad mm 0 sh).set b (ad b, .inl (cy .int, n1, .inl (va_cpy (mm a) (mm b) sp.toNatClampNeg dp.toNatClampNeg n.toNatClampNeg))) := by
                      rw [mz_W_up (m := mm) (g := va_cpy (mm a) (mm b) sp.toNatClampNeg dp.toNatClampNeg n.toNatClampNeg) hsb (by simp [mz_cp]) (fun q hq => by simp [mz_cp, hq])]
                      rfl
                    rw [← e1] at q1 q2
                    exact mz_K1.same kk ⟨q1, q2, q3, hR.2.2.2⟩ hl
                | _ => cases he
              | _ => cases he
            · cases ta <;> cases he
          · cases he
  · cases he
end
end
section
theorem mz_ex_mono (X : mz_X) (ins : Instr) (r1 r2 : Nat) (val : Value) (pc : Nat) (L : mz_L) (S : List Value) (sh : List mz_K) (m : mz_M) (g : Bool) (st : mz_S) (h : mz_ex X ins r1 r2 val pc L S sh m = some (g, st)) : sh.length ≤ st.2.2.2.1.length ∧ mz_sl sh ≤ mz_sl st.2.2.2.1 := by
  have hset : ∀ (a : Nat) (ci r j : Nat) (fs : List (Option (Option Nat))), sh[a]? = some (.inr (ci, fs)) → sh.length ≤ (sh.set a (.inr (ci, fs.set r (some (some j))))).length ∧ mz_sl sh ≤ mz_sl (sh.set a (.inr (ci, fs.set r (some (some j))))) := by
    intro a ci r j fs hs
    rw [List.length_set, mz_sl_set hs (by simp [mz_k1])]
    exact ⟨Nat.le_refl _, Nat.le_refl _⟩
  have hpush : ∀ c : mz_K, sh.length ≤ (sh ++ [c]).length ∧ mz_sl sh ≤ mz_sl (sh ++ [c]) := by
    intro c
    rw [List.length_append, mz_sl_push]
    exact ⟨Nat.le_add_right _ _, Nat.le_add_right _ _⟩
  have hsame : sh.length ≤ sh.length ∧ mz_sl sh ≤ mz_sl sh := ⟨Nat.le_refl _, Nat.le_refl _⟩
  unfold mz_ex at h
  cases ins <;> simp only [cond_eq_ite] at h <;> (repeat' split at h) <;> first | (cases h; done) | (cases h; exact hsame) | (cases h; exact hpush _) | (rename_i hs _ _ _ _ _; cases h; exact hset _ _ _ _ _ hs) | (cases h; exact hset _ _ _ _ _ (by assumption))
end
section
/-! THE SMALL MACHINE'S RUNS ARE RUNS OF THE MACHINE -/
def mz_Good (M : mz_D) : Prop := ∀ (pc : Nat) (ins : Instr) (len r1 r2 : Nat) (val : Value), mz_at M.2.2.2.2.2.2 pc = some (ins, len, r1, r2, val) → decode M.2.1 pc = .ok (ins, len) ∧ (mz_ln ins = 0 ∨ len = mz_ln ins) ∧ mz_ck M pc ins r1 r2 val = true ∧ ∀ w ∈ mz_wd M.1.cls ins r1 r2 val, w ∈ mz_lw
/-- what is asked of the tables -/
def mz_Tab : Prop := (∀ (i : Nat) (M : mz_D), mz_md[i]? = some M → mz_Good M) ∧ (∀ (i : Nat) (M : mz_D), 0 < i → mz_md[i]? = some M → Cond.code M.1 M.2.1 M.2.2.1 M.2.2.2.1 ∈ mz_lw ∧ plainName M.1.cls = true)
section
variable {p : Program} {l : Launch} {e : Env} {R : Room} {s : State} {m : MethodId} {args : Array Value} {below : List Frame} {meth : Method} {c : Code} {Q : State → Prop} {H : Heap} {locs : List Loc} {cells slots : Nat}
variable {X : mz_X} {M : mz_D} {D : va_G} {cy : FieldType → ClassId} {A : Nat → Prop} {ov : Nat → Value} {ad : Nat → Nat}
variable {pc : Nat} {ls : Array Slot} {L : mz_L} {S : List Value} {sh : List mz_K} {mm : mz_M}
set_option maxHeartbeats 4000000 in
theorem mz_sim1 (hG : mz_Good M) (C0 : mz_Cx X M p R s m args meth c D cy A ov) {ins : Instr} {len r1 r2 : Nat} {val : Value} (hat : mz_at M.2.2.2.2.2.2 pc = some (ins, len, r1, r2, val)) (hR : mz_Rl D cy A s H locs ad sh mm) (hl : lv_has ls M.2.2.1 (mz_lv (mz_v ad ov) 0 L)) {st : mz_S} (he : mz_ex X ins r1 r2 val pc L S sh mm = some (true, st)) (hrc : cells + (st.2.2.2.1.length - sh.length) ≤ R.cells) (hrs : slots + (mz_sl st.2.2.2.1 - mz_sl sh) ≤ R.slots)
    (kk : mz_K1 p l e R s m args below meth c Q M D cy A ov ad sh cells slots st) : W p l e R s m args below meth c H locs cells slots Q (F0 m pc ls (S.map (mz_v ad ov))) := by
  obtain ⟨hd, hln, hck, hw0⟩ := hG pc ins len r1 r2 val hat
  obtain ⟨hx, hb, hml, hown, hts, hin, hK, hO, hA, hRf, hRl⟩ := id C0
  have hwd : ∀ w ∈ mz_wd M.1.cls ins r1 r2 val, w.before args s = true := fun w hw => hts w (hw0 w hw)
  have h3 : mz_ln ins ≠ 0 → len = mz_ln ins := fun h => hln.resolve_left h
  cases ins with
  | getfield idx => exact mz_s_get C0 hd (h3 (by simp [mz_ln])) hwd hck hR hl he kk
  | putfield idx => exact mz_s_put C0 hd (h3 (by simp [mz_ln])) hwd hck hR hl he kk
  | iaload =>
    have e1 := h3 (by simp [mz_ln]); rw [e1] at hd
    exact mz_s_ald C0 (Or.inl rfl) hd hR hl he kk
  | baload =>
    have e1 := h3 (by simp [mz_ln]); rw [e1] at hd
    exact mz_s_ald C0 (Or.inr rfl) hd hR hl he kk
  | iastore =>
    have e1 := h3 (by simp [mz_ln]); rw [e1] at hd
    exact mz_s_ast C0 (Or.inl rfl) hd hR hl he kk
  | bastore =>
    have e1 := h3 (by simp [mz_ln]); rw [e1] at hd
    exact mz_s_ast C0 (Or.inr rfl) hd hR hl he kk
  | arraylength =>
    have e1 := h3 (by simp [mz_ln]); rw [e1] at hd
    exact mz_s_len C0 hd hR hl he kk
  | newarray aty =>
    have e1 := h3 (by simp [mz_ln]); rw [e1] at hd
    exact mz_s_newa C0 hd hwd hR hl he hrc hrs kk
  | new idx =>
    have e1 := h3 (by simp [mz_ln]); rw [e1] at hd
    exact mz_s_new C0 hd hwd hck hR hl he hrc hrs kk
  | invokespecial idx =>
    have e1 := h3 (by simp [mz_ln]); rw [e1] at hd
    exact mz_s_obj C0 hd hwd hck hR hl he kk
  | invokestatic idx =>
    have e1 := h3 (by simp [mz_ln]); rw [e1] at hd
    cases h97 : Nat.beq r1 9997 with
    | true => exact mz_s_max C0 hd hwd hck hR hl he hrc hrs (Or.inl h97) kk
    | false =>
      cases h96 : Nat.beq r1 9996 with
      | true => exact mz_s_max C0 hd hwd hck hR hl he hrc hrs (Or.inr ⟨h97, h96⟩) kk
      | false => exact mz_s_cpy C0 hd hwd hck hR hl he h97 h96 kk
  | _ => first | exact mz_s_loc hx hb hml hown hO hwd hd hln hck hR hl he trivial kk | exact mz_s_num hx hb hO.2.2.2.1 hd hln hck hR hl he trivial kk | (simp [mz_ex] at he; done)
theorem mz_run_mono (X : mz_X) : ∀ (n i pc : Nat) (L : mz_L) (S : List Value) (sh : List mz_K) (m : mz_M) (v : Option Value) (sh' : List mz_K) (m' : mz_M), mz_run X n i pc L S sh m = some (v, sh', m') → sh.length ≤ sh'.length ∧ mz_sl sh ≤ mz_sl sh' := by
  intro n
  induction n with
  | zero => intro i pc L S sh m v sh' m' h; cases h
  | succ n ih =>
    intro i pc L S sh m v sh' m' h
    simp only [mz_run] at h
    cases hM : mz_md[i]? with
    | none => rw [hM] at h; cases h
    | some M =>
      rw [hM] at h
      simp only at h
      cases hat : mz_at M.2.2.2.2.2.2 pc with
      | none => rw [hat] at h; cases h
      | some q =>
        obtain ⟨ins, len, r1, r2, val⟩ := q
        rw [hat] at h
        simp only at h
        cases hrt : mz_rt M.2.2.2.1 ins S with
        | some x =>
          rw [hrt] at h
          cases x with
          | none => cases h
          | some w => cases h; exact ⟨Nat.le_refl _, Nat.le_refl _⟩
        | none =>
          rw [hrt] at h
          simp only at h
          cases hc : mz_isc ins r1 with
          | true =>
            simp only [hc, cond_true] at h
            cases hk : mz_cok ins r2 val L S sh with
            | false => simp only [hk, cond_false] at h; cases h
            | true =>
              simp only [hk, cond_true] at h
              cases hN : mz_md[r1]? with
              | none => rw [hN] at h; cases h
              | some N =>
                rw [hN] at h
                simp only at h
                cases hle : Nat.ble (mz_en (S.take r2).reverse).length N.2.2.1 with
                | false => simp only [hle, cond_false] at h; cases h
                | true =>
                  simp only [hle, cond_true] at h
                  cases hr : mz_run X n r1 0 (mz_L0 N.2.2.1 (S.take r2).reverse) [] sh m with
                  | none => rw [hr] at h; cases h
                  | some q =>
                    obtain ⟨v1, sh1, m1⟩ := q
                    rw [hr] at h
                    have h1 := ih _ _ _ _ _ _ _ _ _ hr
                    have h2 := ih _ _ _ _ _ _ _ _ _ h
                    omega
          | false =>
            simp only [hc, cond_false] at h
            cases hx : mz_ex X ins r1 r2 val pc L S sh m with
            | none => rw [hx] at h; cases h
            | some q =>
              obtain ⟨g, pc1, L1, S1, sh1, m1⟩ := q
              rw [hx] at h
              cases g with
              | false => cases h
              | true =>
                have h1 := mz_ex_mono _ _ _ _ _ _ _ _ _ _ _ _ hx
                have h2 := ih _ _ _ _ _ _ _ _ _ h
                simp only at h1
                omega
theorem mz_en_len {f : Value → Value} (hf : ∀ v, (f v).category = v.category) : ∀ vs : List Value, (lg_sl (vs.map f)).length = (mz_en vs).length := by
  intro vs
  induction vs with
  | nil => rfl
  | cons v t ih =>
    have e1 : lg_sl ((v :: t).map f) = (if (f v).category = 2 then [Slot.val (f v), Slot.second] else [Slot.val (f v)]) ++ lg_sl (t.map f) := rfl
    rw [e1, List.length_append, ih, hf]
    cases v <;> simp [mz_en, Value.category] <;> omega
theorem mz_en_args {f : Value → Value} (hf : ∀ v, (f v).category = v.category) : ∀ (vs : List Value) (i k : Nat), mz_lv f i (mz_en vs ++ List.replicate k none) = lv_args i (vs.map f) := by
  intro vs
  induction vs with
  | nil =>
    intro i k
    simp only [mz_en, List.nil_append, List.map_nil, lv_args]
    induction k generalizing i with
    | zero => rfl
    | succ k ih => rw [List.replicate_succ]; exact ih (i + 1)
  | cons v t ih =>
    intro i k
    have e1 : lv_args i ((v :: t).map f) = (i, f v) :: lv_args (if (f v).category = 2 then i + 2 else i + 1) (t.map f) := rfl
    rw [e1, hf]
    cases v <;> simp [mz_en, mz_lv, Value.category, ih]
/-- the end of a method that is called -/
def mz_Qc (X : mz_X) (D : va_G) (cy : FieldType → ClassId) (ov : Nat → Value) (ad : Nat → Nat) (sh : List mz_K) (mm : mz_M) (sz : Nat) (v : Option Value) (sh' : List mz_K) (mm' : mz_M) : Array Value → State → Outcome → State → Prop := fun _ st o t =>
  ∃ ad' : Nat → Nat, o = .returned (v.map (mz_v ad' ov)) ∧ (∀ k, k < sh.length → ad' k = ad k) ∧ va_P D vwCl (mz_W cy ad' mm' 0 sh') t.heap ∧ va_D (va_A (mz_W cy ad mm 0 sh) sz) (mz_W cy ad' mm' 0 sh') ∧ va_F (va_A (mz_W cy ad mm 0 sh) sz) st t ∧ mz_wf sh' ∧ sh'.length ≤ mz_B
def mz_Pc (X : mz_X) (D : va_G) (cy : FieldType → ClassId) (ov : Nat → Value) (ad : Nat → Nat) (sh : List mz_K) (mm : mz_M) (sz : Nat) (vs : List Value) : Array Value → State → Prop :=
  va_Pc (vs.map (mz_v ad ov)) (fun U => U.heap.size = sz ∧ va_P D vwCl (mz_W cy ad mm 0 sh) U.heap ∧ va_K D vwCl (mz_tys cy) U ∧ va_D (fun _ => True) (mz_W cy ad mm 0 sh) ∧ mz_Old X ov (va_A (mz_W cy ad mm 0 sh) sz) U U.heap)
def mz_ws (N : mz_D) : List Cond := Cond.code N.1 N.2.1 N.2.2.1 N.2.2.2.1 :: mz_lw
/-- what the induction says -/
def mz_Sim (X : mz_X) (n : Nat) : Prop := ∀ (i pc : Nat) (L : mz_L) (S : List Value) (sh : List mz_K) (mm : mz_M) (v : Option Value) (sh' : List mz_K) (mm' : mz_M) (M : mz_D), mz_run X n i pc L S sh mm = some (v, sh', mm') → mz_md[i]? = some M →
  ∀ (p : Program) (l : Launch) (e : Env) (R : Room) (s : State) (m : MethodId) (args : Array Value) (below : List Frame) (meth : Method) (c : Code) (D : va_G) (cy : FieldType → ClassId) (A : Nat → Prop) (ov : Nat → Value) (ad : Nat → Nat) (Q : State → Prop) (H : Heap) (locs : List Loc) (ls : Array Slot) (cells slots : Nat),
    mz_Cx X M p R s m args meth c D cy A ov → mz_Rl D cy A s H locs ad sh mm → lv_has ls M.2.2.1 (mz_lv (mz_v ad ov) 0 L) → cells + (sh'.length - sh.length) ≤ R.cells → slots + (mz_sl sh' - mz_sl sh) ≤ R.slots →
    (∀ (ad' : Nat → Nat) (H' : Heap) (locs' : List Loc) (ls' : Array Slot) (pc' : Nat) (ins : Instr), (∀ k, k < sh.length → ad' k = ad k) → mz_Rl D cy A s H' locs' ad' sh' mm' → decode M.2.1 pc' = .ok (ins, 1) → mz_rt M.2.2.2.1 ins v.toList = some (some v) → W p l e R s m args below meth c H' locs' (cells + (sh'.length - sh.length)) (slots + (mz_sl sh' - mz_sl sh)) Q (F0 m pc' ls' (v.toList.map (mz_v ad' ov)))) →
    W p l e R s m args below meth c H locs cells slots Q (F0 m pc ls (S.map (mz_v ad ov)))
theorem mz_rt_S {ret : Option FieldType} {ins : Instr} {S : List Value} {v : Option Value} (h : mz_rt ret ins S = some (some v)) : S = v.toList ∧ mz_ln ins = 1 := by
  unfold mz_rt at h
  simp only [cond_eq_ite] at h
  (repeat' split at h) <;> first | (cases h; done) | (cases h; exact ⟨rfl, rfl⟩)
set_option maxHeartbeats 4000000 in
theorem mz_met {n : Nat} (hT : mz_Tab) (hS : mz_Sim X n) {j : Nat} {N : mz_D} (hj : 0 < j) (hN : mz_md[j]? = some N) {vs : List Value} (hvs : (mz_en vs).length ≤ N.2.2.1) {sh' : List mz_K} {mm' : mz_M} {v : Option Value} (hrun : mz_run X n j 0 (mz_L0 N.2.2.1 vs) [] sh mm = some (v, sh', mm')) (hwf : mz_wf sh) (hle : sh.length ≤ mz_B) (l : Launch) (D : va_G) (cy : FieldType → ClassId) (ov : Nat → Value) (ad : Nat → Nat) (sz : Nat) :
    Met l N.1 (mz_ws N) { frames := N.2.2.2.2.1, cells := sh'.length - sh.length, slots := mz_sl sh' - mz_sl sh, locals := N.2.2.2.2.2.1 } (mz_Pc X D cy ov ad sh mm sz vs) (mz_Qc X D cy ov ad sh mm sz v sh' mm') (sh'.length - sh.length) (mz_sl sh' - mz_sl sh) (va_A (mz_W cy ad mm 0 sh) sz) := by
  refine Met.ofW (cc := N.2.1) (maxL := N.2.2.1) (ret := N.2.2.2.1) (hT.2 j N hj hN).2 rfl ?_
  intro p e s m args below meth c s₁ B hml hv
  obtain ⟨rfl, hsz, hP, hK, hD0, hO⟩ := hv
  have ho := hO.2.2.2.1
  have hx := B.exec
  have hb := B.bytes
  have hr := B.returns
  have hts0 := atoms_spec (ws := mz_ws N) B.pre
  have hts : ∀ w ∈ mz_lw, w.before _ s = true := fun w hw => hts0 w (List.mem_cons_of_mem _ hw)
  have hown : s.vm.findClass N.1.cls = some m.cls := findClass_of_methodNamed B.named
  have hlocks := B.notSynchronized
  have hin : meth.name = N.1.name := (name_of_methodNamed B.named B.method).1
  subst hsz
  have hD := hD0.self (sz := s.heap.size)
  have hl := lv_entry (vs.map (mz_v ad ov)) (n := N.2.2.1) (by rw [mz_en_len (mz_v_cat ad ho)]; exact hvs)
  rw [lg_entry_eq]
  generalize (lg_sl (vs.map (mz_v ad ov)) ++ List.replicate (N.2.2.1 - (lg_sl (vs.map (mz_v ad ov))).length) Slot.unset).toArray = ls at hl ⊢
  rw [← mz_en_args (mz_v_cat ad ho) vs 0 (N.2.2.1 - (mz_en vs).length)] at hl
  have hS0 : va_S (va_A (mz_W cy ad mm 0 sh) s.heap.size) s.heap s.heap [] := va_S.rf
  refine hS j 0 (mz_L0 N.2.2.1 vs) [] sh mm v sh' mm' N hrun hN p l e _ s m _ below meth c D cy (va_A (mz_W cy ad mm 0 sh) s.heap.size) ov ad _ s.heap [] ls 0 0 ⟨hx, hb, hml, hown, hts, fun h => hin.trans h, hK, hO, fun q h => Or.inr h, Nat.le_refl _, Nat.le_refl _⟩ ⟨hP, hD, hS0, hwf, hle⟩ hl (Nat.le_of_eq (Nat.zero_add _)) (Nat.le_of_eq (Nat.zero_add _)) ?_
  intro ad' H' locs' ls' pc' ins hag hR' hd' hrt
  rw [Nat.zero_add, Nat.zero_add]
  have hq : ∀ t : State, t.heap = H' → s.WarmedH t.vm → mz_Qc X D cy ov ad sh mm s.heap.size v sh' mm' (vs.map (mz_v ad ov)).toArray s (.returned (v.map (mz_v ad' ov))) t := by
    intro t ht _
    refine ⟨ad', rfl, hag, by rw [ht]; exact hR'.1, hR'.2.1, ⟨by rw [ht]; exact hR'.2.2.1.1, fun q h1 h2 => by rw [ht]; exact hR'.2.2.1.2.1 q h1 h2⟩, hR'.2.2.2.1, hR'.2.2.2.2⟩
  cases ins with
  | ireturn =>
    cases hret : N.2.2.2.1 with
    | none => rw [hret] at hrt; cases v <;> cases hrt
    | some ty =>
      rw [hret] at hrt hr
      cases v with
      | none => cases ty <;> cases hrt
      | some v =>
        cases v with
        | int x =>
          have hn : narrow ty (.int x) = .int x := by
            cases ty with
            | int => rfl
            | boolean =>
              simp only [mz_rt, Option.toList, cond_eq_ite] at hrt
              split at hrt
              · rename_i h
                rw [Bool.or_eq_true, decide_eq_true_eq, decide_eq_true_eq] at h
                rcases h with h | h <;> subst h <;> decide
              · cases hrt
            | char =>
              simp only [mz_rt, Option.toList, cond_eq_ite] at hrt
              split at hrt
              · rename_i h
                rwa [decide_eq_true_eq] at h
              · cases hrt
            | byte =>
              simp only [mz_rt, Option.toList, cond_eq_ite] at hrt
              split at hrt
              · rename_i h
                rwa [decide_eq_true_eq] at h
              · cases hrt
            | _ => cases hrt
          exact W.zret hx hb hr hn hq hR'.2.2.1.2.2 hd'
        | _ => cases ty <;> cases hrt
  | return_ =>
    cases hret : N.2.2.2.1 with
    | some ty => rw [hret] at hrt; cases v <;> cases hrt
    | none =>
      rw [hret] at hrt hr
      cases v with
      | none => exact W.vret hx hb hr hq hR'.2.2.1.2.2 hd'
      | some v => cases hrt
  | areturn =>
    cases hret : N.2.2.2.1 with
    | none => rw [hret] at hrt; cases v <;> cases hrt
    | some ty =>
      rw [hret] at hrt hr
      cases v with
      | none => cases ty <;> cases hrt
      | some v =>
        cases v with
        | ref k =>
          cases ty with
          | object nm =>
            exact W.aret hx hb hr (Or.inl ⟨_, rfl⟩) (mz_v_ref ad' ho k) hq hR'.2.2.1.2.2 hd'
          | _ => cases hrt
        | _ => cases ty <;> cases hrt
  | _ => cases hrt
end
end
section
section
variable {p : Program} {l : Launch} {e : Env} {R : Room} {s : State} {m : MethodId} {args : Array Value} {below : List Frame} {meth : Method} {c : Code} {Q : State → Prop} {H : Heap} {locs : List Loc} {cells slots : Nat}
variable {X : mz_X} {M : mz_D} {D : va_G} {cy : FieldType → ClassId} {A : Nat → Prop} {ov : Nat → Value} {ad : Nat → Nat}
variable {pc : Nat} {ls : Array Slot} {L : mz_L} {S : List Value} {sh : List mz_K} {mm : mz_M}
theorem mz_blind {sz : Nat} {vs : List Value} : FrameBlind (mz_Pc X D cy ov ad sh mm sz vs) := by
  intro a U g mk q
  obtain ⟨q0, q1, qP, qK, qD, qO⟩ := q
  exact ⟨q0, q1, qP, va_K.moved (u := U) (U := U.calling g mk a) (Vm.Alike.refl U.vm) qK, qD, mz_Old.same (s := U) (U := U.calling g mk a) rfl qO⟩
theorem mz_sub (hR : mz_Rl D cy A s H locs ad sh mm) (hA : ∀ q, s.heap.size ≤ q → A q) : ∀ q, va_A (mz_W cy ad mm 0 sh) H.size q → A q := by
  intro q h
  rcases h with ⟨k, e, h⟩ | h
  · exact hR.2.1.2 k (q, e) h
  · exact hA q (Nat.le_trans hR.2.2.1.1 h)
theorem mz_pre (C0 : mz_Cx X M p R s m args meth c D cy A ov) (hR : mz_Rl D cy A s H locs ad sh mm) (vs : List Value) : ∀ U : State, U.heap = H → s.WarmedH U.vm → mz_Pc X D cy ov ad sh mm H.size vs (vs.map (mz_v ad ov)).toArray U := by
  obtain ⟨hx, hb, hml, hown, hts, hin, hK, hO, hA, hRf, hRl⟩ := C0
  intro U hU hW
  refine ⟨rfl, by rw [hU], by rw [hU]; exact hR.1, va_K.moved hW.alike hK, hR.2.1.weaken (fun _ _ _ _ => trivial), ?_⟩
  rw [hU]
  have h1 : mz_Old X ov A s H := hO.kept hR.2.2.1.2.1
  exact (h1.warm hW).narrow (mz_sub hR hA)
/-- behind a call -/
theorem mz_call_end (C0 : mz_Cx X M p R s m args meth c D cy A ov) (hR : mz_Rl D cy A s H locs ad sh mm) {sh1 : List mz_K} {mm1 : mz_M} {v : Option Value} {mc ms : Nat} {a : Array Value} {rest : List Value} {st0 : List Value}
    (hr : va_Run p l e R s m args below meth c H locs cells slots mc ms (F0 m pc ls st0) rest (mz_Qc X D cy ov ad sh mm H.size v sh1 mm1 a) (va_A (mz_W cy ad mm 0 sh) H.size))
    (kk : ∀ (ad' : Nat → Nat) (H' : Heap) (locs' : List Loc), (∀ k, k < sh.length → ad' k = ad k) → mz_Rl D cy A s H' locs' ad' sh1 mm1 → W p l e R s m args below meth c H' locs' (cells + mc) (slots + ms) Q (F0 m (pc + 3) ls ((v.map (mz_v ad' ov)).toList ++ rest))) :
    W p l e R s m args below meth c H locs cells slots Q (F0 m pc ls st0) := by
  intro T hT Xs
  obtain ⟨v1, st₀, t, T', L', h0, X', hL, e1, e2, ⟨ad', ho, hag, hP', hD', hF, hwf, hle⟩, st⟩ := hr T hT Xs
  cases ho
  have hA : ∀ q, s.heap.size ≤ q → A q := C0.2.2.2.2.2.2.2.2.1
  have hsub := mz_sub hR hA
  rw [va_F, h0] at hF
  have g := kk ad' t.heap (locs ++ L') hag ⟨hP', hD'.weaken (fun _ _ _ z => hsub _ z), ⟨Nat.le_trans hR.2.2.1.1 hF.1, fun q h1 h2 => (hF.2 q (Nat.lt_of_lt_of_le h1 hR.2.2.1.1) (fun z => h2 (hsub q z))).trans (hR.2.2.1.2.1 q h1 h2), fun z hz => by
    rcases List.mem_append.mp hz with hz | hz
    · exact hR.2.2.1.2.2 z hz
    · exact hsub _ (hL z hz)⟩, hwf, hle⟩
  obtain ⟨t2, a1, b1⟩ := g T' e1 X'
  exact ⟨t2, st t2 a1, b1⟩
theorem mz_goodIn (hT : mz_Tab) {j : Nat} {N : mz_D} (hj : 0 < j) (hN : mz_md[j]? = some N) : GoodIn mz_lw (mz_ws N) := by
  intro w hw
  rcases List.mem_cons.mp hw with h | h
  · subst h
    exact ⟨(hT.2 j N hj hN).1, Or.inl rfl⟩
  · exact ⟨h, good_of_word (List.mem_filter.mp h).2⟩
set_option maxHeartbeats 4000000 in
theorem mz_call {n : Nat} (hT : mz_Tab) (hS : mz_Sim X n) (hG : mz_Good M) (C0 : mz_Cx X M p R s m args meth c D cy A ov) {ins : Instr} {len r1 r2 : Nat} {val : Value} (hat : mz_at M.2.2.2.2.2.2 pc = some (ins, len, r1, r2, val)) (hc : mz_isc ins r1 = true) (hk : mz_cok ins r2 val L S sh = true) {N : mz_D} (hN : mz_md[r1]? = some N) (hle : Nat.ble (mz_en (S.take r2).reverse).length N.2.2.1 = true) {v : Option Value} {sh1 : List mz_K} {mm1 : mz_M} (hrun : mz_run X n r1 0 (mz_L0 N.2.2.1 (S.take r2).reverse) [] sh mm = some (v, sh1, mm1))
    (hR : mz_Rl D cy A s H locs ad sh mm) (hl : lv_has ls M.2.2.1 (mz_lv (mz_v ad ov) 0 L)) (hrc : cells + (sh1.length - sh.length) ≤ R.cells) (hrs : slots + (mz_sl sh1 - mz_sl sh) ≤ R.slots)
    (kk : ∀ (ad' : Nat → Nat) (H' : Heap) (locs' : List Loc), (∀ k, k < sh.length → ad' k = ad k) → mz_Rl D cy A s H' locs' ad' sh1 mm1 → W p l e R s m args below meth c H' locs' (cells + (sh1.length - sh.length)) (slots + (mz_sl sh1 - mz_sl sh)) Q (F0 m (pc + 3) ls ((v.toList ++ S.drop r2).map (mz_v ad' ov)))) :
    W p l e R s m args below meth c H locs cells slots Q (F0 m pc ls (S.map (mz_v ad ov))) := by
  obtain ⟨hd, hln, hck, hw0⟩ := hG pc ins len r1 r2 val hat
  obtain ⟨hx, hb, hml, hown, hts, hin, hK, hO, hA, hRf, hRl⟩ := id C0
  have ho := hO.2.2.2.1
  have hwd : ∀ w ∈ mz_wd M.1.cls ins r1 r2 val, w.before args s = true := fun w hw => hts w (hw0 w hw)
  have hj : 0 < r1 := by
    cases ins <;> first | (simp only [mz_isc, Bool.and_eq_true, Nat.blt_eq] at hc; exact hc.1) | cases hc
  have hj2 : r1 < 9000 := by
    cases ins <;> first | (simp only [mz_isc, Bool.and_eq_true, Nat.blt_eq] at hc; exact hc.2) | cases hc
  have hn98 : Nat.beq r1 9998 = false := by
    rw [Bool.eq_false_iff]; intro z; have := Nat.eq_of_beq_eq_true z; omega
  have hn97 : Nat.beq r1 9997 = false := by
    rw [Bool.eq_false_iff]; intro z; have := Nat.eq_of_beq_eq_true z; omega
  have hn96 : Nat.beq r1 9996 = false := by
    rw [Bool.eq_false_iff]; intro z; have := Nat.eq_of_beq_eq_true z; omega
  have hn99 : Nat.beq r1 9999 = false := by
    rw [Bool.eq_false_iff]; intro z; have := Nat.eq_of_beq_eq_true z; omega
  have hM := mz_met (mm := mm) hT hS hj hN (Nat.le_of_ble_eq_true hle) hrun hR.2.2.2.1 hR.2.2.2.2 l D cy ov ad H.size
  have hGi := mz_goodIn hT hj hN
  simp only [mz_cok, Bool.and_eq_true, Nat.ble_eq] at hk
  obtain ⟨k1, k2, k3, k4, k5⟩ := hk
  have hrest : (((S.drop r2).map (mz_v ad ov)).map fun v => v.category).sum ≤ 8 := by rw [mz_cat_map ho]; exact k2
  have hwS : mz_wS sh.length (S.drop r2) = true := by
    have aux : ∀ (k : Nat) (S : List Value), mz_wS sh.length S = true → mz_wS sh.length (S.drop k) = true := by
      intro k
      induction k with
      | zero => intro S h; exact h
      | succ k ih =>
        intro S h
        cases S with
        | nil => rfl
        | cons x t =>
          simp only [mz_wS, Bool.and_eq_true] at h
          exact ih t h.2
    exact aux r2 S k4
  have hend : ∀ {a : Array Value} (hr : va_Run p l e R s m args below meth c H locs cells slots (sh1.length - sh.length) (mz_sl sh1 - mz_sl sh) (F0 m pc ls (S.map (mz_v ad ov))) ((S.drop r2).map (mz_v ad ov)) (mz_Qc X D cy ov ad sh mm H.size v sh1 mm1 a) (va_A (mz_W cy ad mm 0 sh) H.size)), W p l e R s m args below meth c H locs cells slots Q (F0 m pc ls (S.map (mz_v ad ov))) := by
    intro a hr
    refine mz_call_end C0 hR hr (fun ad' H' locs' hag hR' => ?_)
    have g := kk ad' H' locs' hag hR'
    rw [List.map_append, mz_wS_v hR.2.2.2.2 hag _ hwS] at g
    rw [show (v.map (mz_v ad' ov)).toList = v.toList.map (mz_v ad' ov) by cases v <;> rfl]
    exact g
  have hsplit : S = (S.take r2).reverse.reverse ++ S.drop r2 := by rw [List.reverse_reverse, List.take_append_drop]
  have hlenT : (S.take r2).reverse.length = r2 := by rw [List.length_reverse, List.length_take]; omega
  cases ins with
  | invokestatic idx =>
    have e1 : len = 3 := hln.resolve_left (by simp [mz_ln])
    rw [e1] at hd
    simp only [mz_ck, hn97, hn96, Bool.or_self, hn98, cond_false, hN, mz_cal, Bool.and_eq_true, decide_eq_true_eq, Nat.ble_eq] at hck
    obtain ⟨q1, q2, q3, q4, q5⟩ := hck
    have hws : ∀ w ∈ ([.methodLink M.1.cls idx N.1, .static N.1, .initialized N.1.cls] : List Cond), w.before args s = true := fun w hw => hwd w (by simp only [mz_wd, hn97, hn96, hn98, cond_false, hN]; exact hw)
    refine hend (va_runS (As := (S.take r2).reverse.map (mz_v ad ov)) (rest := (S.drop r2).map (mz_v ad ov)) ⟨hx, hb, hml, hown, hts⟩ hM ⟨callB_of (ws' := mz_lw) r2 hts hGi rfl rfl rfl (hws _ (by simp)) (hws _ (by simp)) ⟨q4, q5, q1⟩ ⟨by show N.2.2.2.2.1 + 1 ≤ _; omega, by show 8 + (N.2.2.1 + 11) + N.2.2.2.2.2.1 ≤ _; omega⟩, hws _ (by simp)⟩ ⟨mz_blind, mz_pre C0 hR _⟩ rfl (by rw [List.length_map]; exact hlenT) hl.1 ?_ (lv_room hrest) hd ⟨hrc, hrs⟩)
    show S.map (mz_v ad ov) = _
    rw [← List.map_reverse, ← List.map_append]
    congr 1
  | invokevirtual idx =>
    have e1 : len = 3 := hln.resolve_left (by simp [mz_ln])
    rw [e1] at hd
    simp only [mz_ck, hN, mz_cal, Bool.and_eq_true, decide_eq_true_eq, Nat.ble_eq] at hck
    obtain ⟨⟨q1, q2, q3, q4, q5⟩, q6, q7⟩ := hck
    have hws : ∀ w ∈ ([.methodLink M.1.cls idx N.1, .instanceMethod N.1, .selects N.1.cls N.1 N.1, .initialized N.1.cls] : List Cond), w.before args s = true := fun w hw => hwd w (by simp only [mz_wd, hN]; exact hw)
    simp only at k5
    cases hrev : (S.take r2).reverse with
    | nil => rw [hrev] at k5; cases k5
    | cons v0 as =>
      rw [hrev] at k5
      cases v0 with
      | ref a =>
        simp only at k5
        have hcell : ∃ (b : Nat) (cellB : Cell), mz_v ad ov (.ref a) = .ref b ∧ H[b]? = some cellB ∧ cellB.vm.isStatics = false ∧ s.vm.findClass N.1.cls = some cellB.cls := by
          cases val with
          | ref ci =>
            simp only [mz_rc] at k5
            cases hs : sh[a]? with
            | none => rw [hs] at k5; cases k5
            | some kd =>
              rw [hs] at k5
              rcases kd with ⟨ty, z⟩ | ⟨ci', fs⟩
              · cases k5
              · simp only [Bool.and_eq_true] at k5
                have hci : ci' = ci := Nat.eq_of_beq_eq_true k5.1
                subst hci
                simp only at q7
                cases hq : vwCl[ci']? with
                | none => rw [hq] at q7; cases q7
                | some q =>
                  rw [hq] at q7
                  simp only [decide_eq_true_eq] at q7
                  obtain ⟨cell, g1, g2, g3⟩ := va_recv hK hR.1 (ci := ci') (q0 := a) hq (mz_W_at hs)
                  exact ⟨ad a, cell, mz_v_lo k5.2, g1, g2, by rw [← q7]; exact g3⟩
          | null =>
            simp only [mz_rc, Bool.and_eq_true, Nat.ble_eq, Nat.blt_eq] at k5
            simp only [decide_eq_true_eq] at q7
            have hlt : a - (mz_B + 10) < mz_txs.length := k5.2
            obtain ⟨t, t1, t2, t3, t4, t5⟩ := hO.2.2.1 _ _ (List.getElem?_eq_getElem hlt)
            rw [mz_ar1 k5.1] at t1
            obtain ⟨cell, g1, g2, g3, -⟩ := t3.kept hR.2.2.1.2.1
            exact ⟨t, cell, by rw [mz_v_hi (mz_nblt (mz_ar3 k5.1)), t1], g1, g2, by rw [q7]; exact g3⟩
          | _ => cases k5
        obtain ⟨b, cellB, hb0, hb1, hb2, hb3⟩ := hcell
        rw [hrev] at hM hlenT hsplit
        have hpre := mz_pre C0 hR (Value.ref a :: as)
        rw [List.map_cons, hb0] at hpre
        refine hend (va_runV (C := N.1.cls) (As := as.map (mz_v ad ov)) (b := b) (rest := (S.drop r2).map (mz_v ad ov)) ⟨hx, hb, hml, hown, hts⟩ hM ⟨callB_of (ws' := mz_lw) (r2 - 1) hts hGi rfl rfl rfl (hws _ (by simp)) (hws _ (by simp)) ⟨q4, q5, q1⟩ ⟨by show N.2.2.2.2.1 + 1 ≤ _; omega, by show 8 + (N.2.2.1 + 11) + N.2.2.2.2.2.1 ≤ _; omega⟩, hws _ (by simp), hws _ (by simp)⟩ ⟨mz_blind, ⟨cellB, hb1, hb2, hb3⟩, hpre⟩ rfl (by rw [List.length_map]; simp only [List.length_cons] at hlenT; omega) hl.1 ?_ (lv_room hrest) hd ⟨hrc, hrs⟩)
        show S.map (mz_v ad ov) = _
        have hsm := congrArg (List.map (mz_v ad ov)) hsplit
        rw [hsm]
        simp only [List.reverse_cons, List.append_assoc, List.map_append, List.map_cons, List.map_nil, List.singleton_append, hb0, List.map_reverse]
      | _ => cases k5
  | invokespecial idx =>
    have e1 : len = 3 := hln.resolve_left (by simp [mz_ln])
    rw [e1] at hd
    simp only [mz_ck, hn99, cond_false, hN, mz_cal, Bool.and_eq_true, decide_eq_true_eq, Nat.ble_eq] at hck
    obtain ⟨⟨q1, q2, q3, q4, q5⟩, q6, q7, q8, q9⟩ := hck
    simp only at k5
    cases hrev : (S.take r2).reverse with
    | nil => rw [hrev] at k5; cases k5
    | cons v0 as =>
      rw [hrev] at k5
      cases v0 with
      | ref a =>
        simp only at k5
        have hb0 : mz_v ad ov (.ref a) = .ref (ad a) := mz_v_lo k5
        rw [hrev] at hM hlenT hsplit
        have hpre := mz_pre C0 hR (Value.ref a :: as)
        rw [List.map_cons, hb0] at hpre
        have hst : S.map (mz_v ad ov) = (as.map (mz_v ad ov)).reverse ++ Value.ref (ad a) :: (S.drop r2).map (mz_v ad ov) := by
          have hsm := congrArg (List.map (mz_v ad ov)) hsplit
          rw [hsm]
          simp only [List.reverse_cons, List.append_assoc, List.map_append, List.map_cons, List.map_nil, List.singleton_append, hb0, List.map_reverse]
        have hnest : (∀ b, val ≠ .int b) ∨ ∃ b, val = .int b := by
          cases val <;> first | exact Or.inr ⟨_, rfl⟩ | exact Or.inl (fun b z => by cases z)
        rcases hnest with hv | ⟨b, hv⟩
        · have hws : ∀ w ∈ ([.methodLink M.1.cls idx N.1, .instanceMethod N.1, .initialized N.1.cls] : List Cond), w.before args s = true := fun w hw => hwd w (by
            simp only [mz_wd, hn99, cond_false, hN]
            cases val <;> first | exact hw | exact absurd rfl (hv _))
          refine hend (va_runI (n := r2 - 1) (bytes := N.2.1) (maxL := N.2.2.1) (As := as.map (mz_v ad ov)) (b := ad a) (rest := (S.drop r2).map (mz_v ad ov)) ⟨hx, hb, hml, hown, hts⟩ hM ⟨?_, q7, hws _ (by simp)⟩ ⟨mz_blind, hpre⟩ rfl (by rw [List.length_map]; simp only [List.length_cons] at hlenT; omega) hl.1 hst (lv_room hrest) hd ⟨hrc, hrs⟩)
          exact callB_of (ret := none) (ws' := mz_lw) (r2 - 1) hts hGi (by rw [mz_ws, q8]) rfl rfl (hws _ (by simp)) (hws _ (by simp)) ⟨q4, q5, q1⟩ ⟨by show N.2.2.2.2.1 + 1 ≤ _; omega, by show 8 + (N.2.2.1 + 11) + N.2.2.2.2.2.1 ≤ _; omega⟩
        · have hws : ∀ w ∈ ([.instanceMethod N.1, .initialized N.1.cls] : List Cond), w.before args s = true := fun w hw => hwd w (by
            simp only [mz_wd, hn99, cond_false, hN, hv]
            exact hw)
          have hnst : (M.1.cls, idx, N.1) ∈ mz_nst := by
            rw [hv] at q9
            simpa using q9
          refine hend (va_runIN (n := r2 - 1) (bytes := N.2.1) (maxL := N.2.2.1) (host := "TinyFront") (As := as.map (mz_v ad ov)) (b := ad a) (rest := (S.drop r2).map (mz_v ad ov)) ⟨hx, hb, hml, hown, hts⟩ hM ⟨?_, q7, hws _ (by simp)⟩ ⟨mz_blind, hpre⟩ rfl (by rw [List.length_map]; simp only [List.length_cons] at hlenT; omega) hl.1 hst (lv_room hrest) hd ⟨hrc, hrs⟩)
          exact va_cnB (ret := none) (ws' := mz_lw) (r2 - 1) hts hGi (by rw [mz_ws, q8]) rfl rfl (hO.2.2.2.2 _ hnst) (hws _ (by simp)) ⟨q4, q5, q1⟩ ⟨by show N.2.2.2.2.1 + 1 ≤ _; omega, by show 8 + (N.2.2.1 + 11) + N.2.2.2.2.2.1 ≤ _; omega⟩
      | _ => cases k5
  | _ => cases hc
set_option maxHeartbeats 4000000 in
theorem mz_sim (X : mz_X) (hT : mz_Tab) : ∀ n, mz_Sim X n := by
  intro n
  induction n with
  | zero => intro i pc L S sh mm v sh' mm' M h; cases h
  | succ n ih =>
    intro i pc L S sh mm v sh' mm' M h hM p l e R s m args below meth c D cy A ov ad Q H locs ls cells slots C0 hR hl hrc hrs kk
    have hG := hT.1 i M hM
    have hmono := mz_run_mono X (n + 1) i pc L S sh mm v sh' mm' h
    simp only [mz_run, hM] at h
    cases hat : mz_at M.2.2.2.2.2.2 pc with
    | none => rw [hat] at h; cases h
    | some q =>
      obtain ⟨ins, len, r1, r2, val⟩ := q
      rw [hat] at h
      simp only at h
      cases hrt : mz_rt M.2.2.2.1 ins S with
      | some x =>
        rw [hrt] at h
        cases x with
        | none => cases h
        | some w =>
          cases h
          obtain ⟨hS, hln1⟩ := mz_rt_S hrt
          obtain ⟨hd, hln, -, -⟩ := hG pc ins len r1 r2 val hat
          have e1 : len = 1 := by rw [hln.resolve_left (by rw [hln1]; decide), hln1]
          rw [e1] at hd
          have g := kk ad H locs ls pc ins (fun _ _ => rfl) hR hd (by rw [← hS]; exact hrt)
          rw [← hS] at g
          simpa using g
      | none =>
        rw [hrt] at h
        simp only at h
        cases hc : mz_isc ins r1 with
        | true =>
          simp only [hc, cond_true] at h
          cases hk : mz_cok ins r2 val L S sh with
          | false => simp only [hk, cond_false] at h; cases h
          | true =>
            simp only [hk, cond_true] at h
            cases hN : mz_md[r1]? with
            | none => rw [hN] at h; cases h
            | some N =>
              rw [hN] at h
              simp only at h
              cases hle : Nat.ble (mz_en (S.take r2).reverse).length N.2.2.1 with
              | false => simp only [hle, cond_false] at h; cases h
              | true =>
                simp only [hle, cond_true] at h
                cases hr : mz_run X n r1 0 (mz_L0 N.2.2.1 (S.take r2).reverse) [] sh mm with
                | none => rw [hr] at h; cases h
                | some q =>
                  obtain ⟨v1, sh1, m1⟩ := q
                  rw [hr] at h
                  simp only at h
                  have h1 := mz_run_mono X _ _ _ _ _ _ _ _ _ _ hr
                  have h2 := mz_run_mono X _ _ _ _ _ _ _ _ _ _ h
                  have hwL : mz_wL sh.length L = true := by
                    simp only [mz_cok, Bool.and_eq_true] at hk
                    exact hk.2.2.1
                  refine mz_call hT ih hG C0 hat hc hk hN hle hr hR hl (by omega) (by omega) (fun ad' H' locs' hag hR' => ?_)
                  refine ih i (pc + 3) L (v1.toList ++ S.drop r2) sh1 m1 v sh' mm' M h hM p l e R s m args below meth c D cy A ov ad' Q H' locs' ls _ _ C0 hR' (by rw [mz_wL_v hR.2.2.2.2 hag L 0 hwL]; exact hl) (by omega) (by omega) ?_
                  intro ad2 H2 locs2 ls2 pc2 ins2 hag2 hR2 hd2 hrt2
                  have g := kk ad2 H2 locs2 ls2 pc2 ins2 (fun k hk => (hag2 k (by omega)).trans (hag k hk)) hR2 hd2 hrt2
                  rw [show cells + (sh1.length - sh.length) + (sh'.length - sh1.length) = cells + (sh'.length - sh.length) by omega, show slots + (mz_sl sh1 - mz_sl sh) + (mz_sl sh' - mz_sl sh1) = slots + (mz_sl sh' - mz_sl sh) by omega]
                  exact g
        | false =>
          simp only [hc, cond_false] at h
          cases hx : mz_ex X ins r1 r2 val pc L S sh mm with
          | none => rw [hx] at h; cases h
          | some q =>
            obtain ⟨g, pc1, L1, S1, sh1, m1⟩ := q
            rw [hx] at h
            cases g with
            | false => cases h
            | true =>
              simp only at h
              have h1 := mz_ex_mono _ _ _ _ _ _ _ _ _ _ _ _ hx
              have h2 := mz_run_mono X _ _ _ _ _ _ _ _ _ _ h
              simp only at h1
              refine mz_sim1 hG C0 hat hR hl hx (by simp only; omega) (by simp only; omega) ?_
              intro ad' H' locs' ls' hag hR' hl'
              simp only at hR' hl' ⊢
              refine ih i pc1 L1 S1 sh1 m1 v sh' mm' M h hM p l e R s m args below meth c D cy A ov ad' Q H' locs' ls' _ _ C0 hR' hl' (by omega) (by omega) ?_
              intro ad2 H2 locs2 ls2 pc2 ins2 hag2 hR2 hd2 hrt2
              have g := kk ad2 H2 locs2 ls2 pc2 ins2 (fun k hk => (hag2 k (by omega)).trans (hag k hk)) hR2 hd2 hrt2
              rw [show cells + (sh1.length - sh.length) + (sh'.length - sh1.length) = cells + (sh'.length - sh.length) by omega, show slots + (mz_sl sh1 - mz_sl sh) + (mz_sl sh' - mz_sl sh1) = slots + (mz_sl sh' - mz_sl sh) by omega]
              exact g
end
end
section
/-! RUNS, WITHOUT THEIR LENGTH -/
theorem mz_run_le (X : mz_X) : ∀ (n n' i pc : Nat) (L : mz_L) (S : List Value) (sh : List mz_K) (m : mz_M) (r : Option Value × List mz_K × mz_M), n ≤ n' → mz_run X n i pc L S sh m = some r → mz_run X n' i pc L S sh m = some r := by
  intro n
  induction n with
  | zero => intro n' i pc L S sh m r _ h; cases h
  | succ n ih =>
    intro n' i pc L S sh m r hn h
    obtain ⟨k, rfl⟩ : ∃ k, n' = k + 1 := ⟨n' - 1, by omega⟩
    simp only [mz_run] at h ⊢
    cases hM : mz_md[i]? with
    | none => rw [hM] at h; cases h
    | some M =>
      rw [hM] at h
      simp only at h ⊢
      cases hat : mz_at M.2.2.2.2.2.2 pc with
      | none => rw [hat] at h; cases h
      | some q =>
        obtain ⟨ins, len, r1, r2, val⟩ := q
        rw [hat] at h
        simp only at h ⊢
        cases hrt : mz_rt M.2.2.2.1 ins S with
        | some x => rw [hrt] at h; cases x <;> exact h
        | none =>
          rw [hrt] at h
          simp only at h ⊢
          cases hc : mz_isc ins r1 with
          | true =>
            simp only [hc, cond_true] at h ⊢
            cases hk : mz_cok ins r2 val L S sh with
            | false => simp only [hk, cond_false] at h; cases h
            | true =>
              simp only [hk, cond_true] at h ⊢
              cases hN : mz_md[r1]? with
              | none => rw [hN] at h; cases h
              | some N =>
                rw [hN] at h
                simp only at h ⊢
                cases hle : Nat.ble (mz_en (S.take r2).reverse).length N.2.2.1 with
                | false => simp only [hle, cond_false] at h; cases h
                | true =>
                  simp only [hle, cond_true] at h ⊢
                  cases hr : mz_run X n r1 0 (mz_L0 N.2.2.1 (S.take r2).reverse) [] sh m with
                  | none => rw [hr] at h; cases h
                  | some q =>
                    obtain ⟨v1, sh1, m1⟩ := q
                    rw [hr] at h
                    rw [ih k _ _ _ _ _ _ _ (by omega) hr]
                    exact ih k _ _ _ _ _ _ _ (by omega) h
          | false =>
            simp only [hc, cond_false] at h ⊢
            cases hx : mz_ex X ins r1 r2 val pc L S sh m with
            | none => rw [hx] at h; cases h
            | some q =>
              obtain ⟨g, pc1, L1, S1, sh1, m1⟩ := q
              rw [hx] at h
              cases g with
              | false => cases h
              | true => exact ih k _ _ _ _ _ _ _ (by omega) h
def mz_go (X : mz_X) (i pc : Nat) (L : mz_L) (S : List Value) (sh : List mz_K) (m : mz_M) (Q : Option Value → List mz_K → mz_M → Prop) : Prop := ∃ (n : Nat) (v : Option Value) (sh' : List mz_K) (m' : mz_M), mz_run X n i pc L S sh m = some (v, sh', m') ∧ Q v sh' m'
theorem mz_go.mono {X : mz_X} {i pc : Nat} {L : mz_L} {S : List Value} {sh : List mz_K} {m : mz_M} {Q Q' : Option Value → List mz_K → mz_M → Prop} (h : mz_go X i pc L S sh m Q) (hq : ∀ v sh' m', Q v sh' m' → Q' v sh' m') : mz_go X i pc L S sh m Q' := by
  obtain ⟨n, v, sh', m', h1, h2⟩ := h
  exact ⟨n, v, sh', m', h1, hq _ _ _ h2⟩
/-- so many instructions that are no calls and no returns; what must be well for them -/
def mz_blk (X : mz_X) (t : List mz_E) : Nat → Bool × mz_S → Option (Bool × mz_S)
  | 0, st => some st
  | k + 1, (g, pc, L, S, sh, m) => match mz_at t pc with
    | none => none
    | some (ins, _, r1, r2, val) => match mz_ex X ins r1 r2 val pc L S sh m with
      | none => none
      | some (g', st) => mz_blk X t k (g' && g, st)
theorem mz_ex_plain {X : mz_X} {ins : Instr} {r1 r2 : Nat} {val : Value} {pc : Nat} {L : mz_L} {S : List Value} {sh : List mz_K} {m : mz_M} {q : Bool × mz_S} (h : mz_ex X ins r1 r2 val pc L S sh m = some q) (ret : Option FieldType) : mz_rt ret ins S = none ∧ mz_isc ins r1 = false := by
  cases ins with
  | ireturn => cases h
  | return_ => cases h
  | areturn => cases h
  | invokevirtual _ => cases h
  | invokespecial _ =>
    refine ⟨rfl, ?_⟩
    cases hb : Nat.beq r1 9999 with
    | true =>
      have := Nat.eq_of_beq_eq_true hb
      subst this
      rfl
    | false =>
      simp only [mz_ex, hb, Bool.false_and, cond_false] at h
      split at h <;> cases h
  | invokestatic _ =>
    refine ⟨rfl, ?_⟩
    cases h97 : Nat.beq r1 9997 with
    | true =>
      have := Nat.eq_of_beq_eq_true h97
      subst this
      rfl
    | false =>
      cases h96 : Nat.beq r1 9996 with
      | true =>
        have := Nat.eq_of_beq_eq_true h96
        subst this
        rfl
      | false =>
        cases hb : Nat.beq r1 9998 with
        | true =>
          have := Nat.eq_of_beq_eq_true hb
          subst this
          rfl
        | false =>
          simp only [mz_ex, h97, h96, hb, Bool.false_and, cond_false] at h
          split at h <;> cases h
  | _ => exact ⟨rfl, rfl⟩
theorem mz_blk_g {X : mz_X} {t : List mz_E} : ∀ (k : Nat) (g : Bool) (st st' : mz_S), mz_blk X t k (g, st) = some (true, st') → g = true := by
  intro k
  induction k with
  | zero => intro g st st' h; cases h; rfl
  | succ k ih =>
    intro g st st' h
    obtain ⟨pc, L, S, sh, m⟩ := st
    simp only [mz_blk] at h
    cases hat : mz_at t pc with
    | none => rw [hat] at h; cases h
    | some q =>
      obtain ⟨ins, len, r1, r2, val⟩ := q
      rw [hat] at h
      simp only at h
      cases hx : mz_ex X ins r1 r2 val pc L S sh m with
      | none => rw [hx] at h; cases h
      | some q =>
        obtain ⟨g', st1⟩ := q
        rw [hx] at h
        have h1 := ih _ _ _ h
        rw [Bool.and_eq_true] at h1
        exact h1.2
theorem mz_go_blk0 {X : mz_X} {i : Nat} {M : mz_D} (hM : mz_md[i]? = some M) {Q : Option Value → List mz_K → mz_M → Prop} : ∀ (k pc : Nat) (L : mz_L) (S : List Value) (sh : List mz_K) (m : mz_M) (pc' : Nat) (L' : mz_L) (S' : List Value) (sh' : List mz_K) (m' : mz_M), mz_blk X M.2.2.2.2.2.2 k (true, pc, L, S, sh, m) = some (true, pc', L', S', sh', m') → mz_go X i pc' L' S' sh' m' Q → mz_go X i pc L S sh m Q := by
  intro k
  induction k with
  | zero => intro pc L S sh m pc' L' S' sh' m' h hk; cases h; exact hk
  | succ k ih =>
    intro pc L S sh m pc' L' S' sh' m' h hk
    simp only [mz_blk] at h
    cases hat : mz_at M.2.2.2.2.2.2 pc with
    | none => rw [hat] at h; cases h
    | some q =>
      obtain ⟨ins, len, r1, r2, val⟩ := q
      rw [hat] at h
      simp only at h
      cases hx : mz_ex X ins r1 r2 val pc L S sh m with
      | none => rw [hx] at h; cases h
      | some q =>
        obtain ⟨g', pc1, L1, S1, sh1, m1⟩ := q
        rw [hx] at h
        simp only at h
        have hg := mz_blk_g _ _ _ _ h
        rw [Bool.and_true] at hg
        subst hg
        obtain ⟨n, v, sh2, m2, h1, h2⟩ := ih _ _ _ _ _ _ _ _ _ _ h hk
        obtain ⟨p1, p2⟩ := mz_ex_plain hx M.2.2.2.1
        refine ⟨n + 1, v, sh2, m2, ?_, h2⟩
        simp only [mz_run, hM, hat, p1, p2, cond_false, hx]
        exact h1
theorem mz_go_blk {X : mz_X} {i : Nat} (M : mz_D) (k : Nat) {pc : Nat} {L : mz_L} {S : List Value} {sh : List mz_K} {m : mz_M} {Q : Option Value → List mz_K → mz_M → Prop} {g : Bool} {pc' : Nat} {L' : mz_L} {S' : List Value} {sh' : List mz_K} {m' : mz_M} (hM : mz_md[i]? = some M) (h : mz_blk X M.2.2.2.2.2.2 k (true, pc, L, S, sh, m) = some (g, pc', L', S', sh', m')) (hg : g = true) (hk : mz_go X i pc' L' S' sh' m' Q) : mz_go X i pc L S sh m Q := by
  subst hg
  exact mz_go_blk0 hM k _ _ _ _ _ _ _ _ _ _ h hk
theorem mz_go_ret {X : mz_X} {i : Nat} (M : mz_D) {pc : Nat} {L : mz_L} {S : List Value} {sh : List mz_K} {m : mz_M} {Q : Option Value → List mz_K → mz_M → Prop} {q : Instr × Nat × Nat × Nat × Value} {v : Option Value} (hM : mz_md[i]? = some M) (hat : mz_at M.2.2.2.2.2.2 pc = some q) (hr : mz_rt M.2.2.2.1 q.1 S = some (some v)) (hq : Q v sh m) : mz_go X i pc L S sh m Q := by
  obtain ⟨ins, len, r1, r2, val⟩ := q
  refine ⟨1, v, sh, m, ?_, hq⟩
  simp only [mz_run, hM, hat]
  rw [hr]
theorem mz_go_call {X : mz_X} {i : Nat} (M N : mz_D) {pc : Nat} {L : mz_L} {S : List Value} {sh : List mz_K} {m : mz_M} {Q Q1 : Option Value → List mz_K → mz_M → Prop} {ins : Instr} {len r1 r2 : Nat} {val : Value} {L1 : mz_L} (hM : mz_md[i]? = some M) (hat : mz_at M.2.2.2.2.2.2 pc = some (ins, len, r1, r2, val)) (hc : mz_isc ins r1 = true) (hk : mz_cok ins r2 val L S sh = true) (hN : mz_md[r1]? = some N) (hle : Nat.ble (mz_en (S.take r2).reverse).length N.2.2.1 = true) (hL : mz_L0 N.2.2.1 (S.take r2).reverse = L1)
    (h1 : mz_go X r1 0 L1 [] sh m Q1) (h2 : ∀ v sh' m', Q1 v sh' m' → mz_go X i (pc + 3) L (v.toList ++ S.drop r2) sh' m' Q) : mz_go X i pc L S sh m Q := by
  subst hL
  obtain ⟨n1, v1, sh1, m1, g1, g2⟩ := h1
  obtain ⟨n2, v2, sh2, m2, g3, g4⟩ := h2 _ _ _ g2
  refine ⟨n1 + n2 + 1, v2, sh2, m2, ?_, g4⟩
  have hrt : mz_rt M.2.2.2.1 ins S = none := by
    cases ins <;> first | rfl | cases hc
  simp only [mz_run, hM, hat, hrt, hc, cond_true, hk, hN, hle]
  rw [mz_run_le X n1 (n1 + n2) _ _ _ _ _ _ _ (by omega) g1]
  exact mz_run_le X n2 (n1 + n2) _ _ _ _ _ _ _ (by omega) g3
theorem mz_go_if {X : mz_X} {i : Nat} {c : Prop} {hd : Decidable c} {a b : Nat} {L : mz_L} {S : List Value} {sh : List mz_K} {m : mz_M} {Q : Option Value → List mz_K → mz_M → Prop} (h1 : c → mz_go X i a L S sh m Q) (h2 : ¬ c → mz_go X i b L S sh m Q) : mz_go X i (@ite _ c hd a b) L S sh m Q := by
  by_cases h : c
  · rw [if_pos h]; exact h1 h
  · rw [if_neg h]; exact h2 h
/-- a local that isn't read again may be forgotten -/
def mz_le1 : Option Value → Option Value → Prop
  | none, none => True
  | none, some (.int _) => True
  | some v, some v' => v = v'
  | _, _ => False
def mz_lel (L L' : mz_L) : Prop := L.length = L'.length ∧ ∀ (r : Nat) (x y : Option Value), L[r]? = some x → L'[r]? = some y → mz_le1 x y
theorem mz_lel.get {L L' : mz_L} (h : mz_lel L L') {r : Nat} {v : Value} (hr : L[r]? = some (some v)) : L'[r]? = some (some v) := by
  have hlt : r < L'.length := by rw [← h.1]; exact (List.getElem?_eq_some_iff.mp hr).1
  have h2 := List.getElem?_eq_getElem hlt
  have h3 := h.2 r _ _ hr h2
  rw [h2]
  generalize L'[r] = y at h3
  cases y with
  | none => exact h3.elim
  | some w => rw [show v = w from h3]
theorem mz_lel.sok {L L' : mz_L} (h : mz_lel L L') {i : Nat} (hs : mz_sok L i = true) : mz_sok L' i = true := by
  cases i with
  | zero => rfl
  | succ j =>
    simp only [mz_sok] at hs ⊢
    cases hj : L'[j]? with
    | none => rfl
    | some y =>
      have hlt : j < L.length := by rw [h.1]; exact (List.getElem?_eq_some_iff.mp hj).1
      have h2 := List.getElem?_eq_getElem hlt
      have h3 := h.2 j _ _ h2 hj
      rw [h2] at hs
      generalize L[j] = x at h3 hs
      cases x with
      | none =>
        cases y with
        | none => rfl
        | some w => cases w <;> first | rfl | exact h3.elim
      | some v =>
        cases y with
        | none => exact h3.elim
        | some w =>
          have : v = w := h3
          subst this
          exact hs
theorem mz_lel.set {L L' : mz_L} (h : mz_lel L L') (i : Nat) (x : Option Value) (hx : mz_le1 x x) : mz_lel (L.set i x) (L'.set i x) := by
  refine ⟨by rw [List.length_set, List.length_set]; exact h.1, fun r a b ha hb => ?_⟩
  rw [List.getElem?_set] at ha hb
  by_cases hi : i = r
  · rw [if_pos hi] at ha hb
    split at ha
    · split at hb
      · cases ha; cases hb; exact hx
      · cases hb
    · cases ha
  · rw [if_neg hi] at ha hb
    exact h.2 r a b ha hb
theorem mz_lel.put {L L' L1 : mz_L} (h : mz_lel L L') {i : Nat} {v : Value} (hp : mz_put L i v = some L1) : ∃ L2, mz_put L' i v = some L2 ∧ mz_lel L1 L2 := by
  unfold mz_put at hp ⊢
  cases hb : (Nat.blt i L.length && mz_sok L i) with
  | false => rw [hb] at hp; cases hp
  | true =>
    rw [hb] at hp
    cases hp
    rw [Bool.and_eq_true] at hb
    refine ⟨L'.set i (some v), ?_, h.set i _ rfl⟩
    rw [← h.1, hb.1, h.sok hb.2]
    rfl
theorem mz_lel.put2 {L L' L1 : mz_L} (h : mz_lel L L') {i : Nat} {v : Value} (hp : mz_put2 L i v = some L1) : ∃ L2, mz_put2 L' i v = some L2 ∧ mz_lel L1 L2 := by
  unfold mz_put2 at hp ⊢
  cases hb : (Nat.blt (i + 1) L.length && mz_sok L i) with
  | false => rw [hb] at hp; cases hp
  | true =>
    rw [hb] at hp
    cases hp
    rw [Bool.and_eq_true] at hb
    refine ⟨(L'.set i (some v)).set (i + 1) none, ?_, (h.set i (some v) rfl).set (i + 1) none trivial⟩
    rw [← h.1, hb.1, h.sok hb.2]
    rfl
theorem mz_lel.wL {n : Nat} : ∀ {L L' : mz_L}, mz_lel L L' → mz_wL n L = true → mz_wL n L' = true := by
  intro L
  induction L with
  | nil =>
    intro L' h _
    cases L' with
    | nil => rfl
    | cons y t => cases h.1
  | cons x t ih =>
    intro L' h hw
    cases L' with
    | nil => cases h.1
    | cons y t' =>
      have ht : mz_lel t t' := ⟨Nat.succ.inj h.1, fun r a b ha hb => h.2 (r + 1) a b ha hb⟩
      have h0 := h.2 0 x y rfl rfl
      cases x with
      | none =>
        have h1 := ih ht hw
        cases y with
        | none => exact h1
        | some w => cases w <;> first | exact h1 | exact h0.elim
      | some v =>
        simp only [mz_wL, Bool.and_eq_true] at hw
        cases y with
        | none => exact h0.elim
        | some w =>
          have : v = w := h0
          subst this
          simp only [mz_wL, Bool.and_eq_true]
          exact ⟨hw.1, ih ht hw.2⟩
/-- instructions that look at the locals -/
def mz_loc : Instr → Bool
  | .aload_n _ => true
  | .aload _ => true
  | .iload_n _ => true
  | .iload _ => true
  | .lload_n _ => true
  | .istore_n _ => true
  | .istore _ => true
  | .astore_n _ => true
  | .lstore_n _ => true
  | .iinc _ _ => true
  | .newarray _ => true
  | .new _ => true
  | _ => false
theorem mz_cmap {α β : Type} (f : α → β) (b : Bool) (x y : Option α) : Option.map f (cond b x y) = cond b (x.map f) (y.map f) := by cases b <;> rfl
theorem mz_ccong {α : Type} {b : Bool} {x y x' y' : α} (h1 : x = x') (h2 : y = y') : cond b x y = cond b x' y' := by rw [h1, h2]
theorem mz_ex_L {X : mz_X} {ins : Instr} {r1 r2 : Nat} {val : Value} {pc : Nat} (L L' : mz_L) {S : List Value} {sh : List mz_K} {m : mz_M} (hi : mz_loc ins = false) : mz_ex X ins r1 r2 val pc L' S sh m = (mz_ex X ins r1 r2 val pc L S sh m).map (fun q => (q.1, q.2.1, L', q.2.2.2)) := by
  cases ins <;> first | (cases hi; done) | skip
  all_goals (try (simp only [mz_ex]; first | rfl | (split <;> first | rfl | (split <;> rfl))))
  all_goals (simp only [mz_ex]; (repeat' (first | (rw [mz_cmap]; refine mz_ccong ?_ ?_) | split)) <;> rfl)
theorem mz_ex_lel {X : mz_X} {ins : Instr} {r1 r2 : Nat} {val : Value} {pc : Nat} {L L' : mz_L} {S : List Value} {sh : List mz_K} {m : mz_M} {g : Bool} {pc1 : Nat} {L1 : mz_L} {S1 : List Value} {sh1 : List mz_K} {m1 : mz_M} (h : mz_lel L L') (he : mz_ex X ins r1 r2 val pc L S sh m = some (g, pc1, L1, S1, sh1, m1)) : ∃ L2, mz_ex X ins r1 r2 val pc L' S sh m = some (g, pc1, L2, S1, sh1, m1) ∧ mz_lel L1 L2 := by
  cases hi : mz_loc ins with
  | false =>
    have h1 := mz_ex_L (X := X) (r1 := r1) (r2 := r2) (val := val) (pc := pc) (S := S) (sh := sh) (m := m) L L hi
    rw [he] at h1
    simp only [Option.map_some, Option.some.injEq, Prod.mk.injEq] at h1
    rw [mz_ex_L L L' hi, he]
    refine ⟨L', rfl, ?_⟩
    rw [h1.2.2.1]
    exact h
  | true =>
    cases ins <;> first | (cases hi; done) | skip
    case newarray aty =>
      cases S with
      | nil => cases he
      | cons v S =>
        cases v with
        | int n =>
          simp only [mz_ex] at he ⊢
          cases hcc : (Nat.blt sh.length mz_B && (mz_wL sh.length L && mz_wS sh.length S)) with
          | false => simp only [hcc, cond_false] at he; cases he
          | true =>
            have hcc' : (Nat.blt sh.length mz_B && (mz_wL sh.length L' && mz_wS sh.length S)) = true := by
              simp only [Bool.and_eq_true] at hcc ⊢
              exact ⟨hcc.1, h.wL hcc.2.1, hcc.2.2⟩
            simp only [hcc, hcc', cond_true] at he ⊢
            cases aty <;> first | (cases he; done) | (cases he; exact ⟨L', rfl, h⟩)
        | _ => cases he
    case new idx =>
      simp only [mz_ex] at he ⊢
      cases hcc : (Nat.blt sh.length mz_B && (mz_wL sh.length L && mz_wS sh.length S)) with
      | false => simp only [hcc, cond_false] at he; cases he
      | true =>
        have hcc' : (Nat.blt sh.length mz_B && (mz_wL sh.length L' && mz_wS sh.length S)) = true := by
          simp only [Bool.and_eq_true] at hcc ⊢
          exact ⟨hcc.1, h.wL hcc.2.1, hcc.2.2⟩
        simp only [hcc, hcc', cond_true] at he ⊢
        cases he
        exact ⟨L', rfl, h⟩
    case iinc a b =>
      simp only [mz_ex] at he
      split at he
      · rename_i x d hx
        split at he
        · rename_i L2 hL2
          cases he
          obtain ⟨L3, h3, h4⟩ := h.put hL2
          refine ⟨L3, ?_, h4⟩
          simp only [mz_ex, h.get hx, h3]
        · cases he
      · cases he
    case istore_n a =>
      cases S with
      | nil => cases he
      | cons v S =>
        cases v with
        | int q =>
          simp only [mz_ex] at he ⊢
          cases hL : mz_put L r1 (.int q) with
          | none => rw [hL] at he; cases he
          | some L2 => rw [hL] at he; cases he; obtain ⟨L3, h3, h4⟩ := h.put hL; exact ⟨L3, by rw [h3], h4⟩
        | _ => cases he
    case istore a =>
      cases S with
      | nil => cases he
      | cons v S =>
        cases v with
        | int q =>
          simp only [mz_ex] at he ⊢
          cases hL : mz_put L r1 (.int q) with
          | none => rw [hL] at he; cases he
          | some L2 => rw [hL] at he; cases he; obtain ⟨L3, h3, h4⟩ := h.put hL; exact ⟨L3, by rw [h3], h4⟩
        | _ => cases he
    case astore_n a =>
      cases S with
      | nil => cases he
      | cons v S =>
        cases v with
        | ref q =>
          simp only [mz_ex] at he ⊢
          cases hL : mz_put L r1 (.ref q) with
          | none => rw [hL] at he; cases he
          | some L2 => rw [hL] at he; cases he; obtain ⟨L3, h3, h4⟩ := h.put hL; exact ⟨L3, by rw [h3], h4⟩
        | _ => cases he
    case lstore_n a =>
      cases S with
      | nil => cases he
      | cons v S =>
        cases v with
        | long q =>
          simp only [mz_ex] at he ⊢
          cases hL : mz_put2 L r1 (.long q) with
          | none => rw [hL] at he; cases he
          | some L2 => rw [hL] at he; cases he; obtain ⟨L3, h3, h4⟩ := h.put2 hL; exact ⟨L3, by rw [h3], h4⟩
        | _ => cases he
    all_goals
      simp only [mz_ex] at he
      split at he
      · rename_i q hq
        cases he
        exact ⟨L', by simp only [mz_ex, h.get hq], h⟩
      · cases he
theorem mz_run_lel (X : mz_X) : ∀ (n i pc : Nat) (L L' : mz_L) (S : List Value) (sh : List mz_K) (m : mz_M) (r : Option Value × List mz_K × mz_M), mz_lel L L' → mz_run X n i pc L S sh m = some r → mz_run X n i pc L' S sh m = some r := by
  intro n
  induction n with
  | zero => intro i pc L L' S sh m r _ h; cases h
  | succ n ih =>
    intro i pc L L' S sh m r hl h
    simp only [mz_run] at h ⊢
    cases hM : mz_md[i]? with
    | none => rw [hM] at h; cases h
    | some M =>
      rw [hM] at h
      simp only at h ⊢
      cases hat : mz_at M.2.2.2.2.2.2 pc with
      | none => rw [hat] at h; cases h
      | some q =>
        obtain ⟨ins, len, r1, r2, val⟩ := q
        rw [hat] at h
        simp only at h ⊢
        cases hrt : mz_rt M.2.2.2.1 ins S with
        | some x => rw [hrt] at h; cases x <;> exact h
        | none =>
          rw [hrt] at h
          simp only at h ⊢
          cases hc : mz_isc ins r1 with
          | true =>
            simp only [hc, cond_true] at h ⊢
            cases hk : mz_cok ins r2 val L S sh with
            | false => simp only [hk, cond_false] at h; cases h
            | true =>
              have hk' : mz_cok ins r2 val L' S sh = true := by
                simp only [mz_cok, Bool.and_eq_true] at hk ⊢
                exact ⟨hk.1, hk.2.1, hl.wL hk.2.2.1, hk.2.2.2⟩
              simp only [hk, hk', cond_true] at h ⊢
              cases hN : mz_md[r1]? with
              | none => rw [hN] at h; cases h
              | some N =>
                rw [hN] at h
                simp only at h ⊢
                cases hle : Nat.ble (mz_en (S.take r2).reverse).length N.2.2.1 with
                | false => simp only [hle, cond_false] at h; cases h
                | true =>
                  simp only [hle, cond_true] at h ⊢
                  cases hr : mz_run X n r1 0 (mz_L0 N.2.2.1 (S.take r2).reverse) [] sh m with
                  | none => rw [hr] at h; cases h
                  | some q =>
                    obtain ⟨v1, sh1, m1⟩ := q
                    rw [hr] at h
                    exact ih _ _ _ _ _ _ _ _ hl h
          | false =>
            simp only [hc, cond_false] at h ⊢
            cases hx : mz_ex X ins r1 r2 val pc L S sh m with
            | none => rw [hx] at h; cases h
            | some q =>
              obtain ⟨g, pc1, L1, S1, sh1, m1⟩ := q
              rw [hx] at h
              cases g with
              | false => cases h
              | true =>
                obtain ⟨L2, h2, h3⟩ := mz_ex_lel hl hx
                rw [h2]
                exact ih _ _ _ _ _ _ _ _ h3 h
theorem mz_go.forget {X : mz_X} {i pc : Nat} {L L' : mz_L} {S : List Value} {sh : List mz_K} {m : mz_M} {Q : Option Value → List mz_K → mz_M → Prop} (hl : mz_lel L L') (h : mz_go X i pc L S sh m Q) : mz_go X i pc L' S sh m Q := by
  obtain ⟨n, v, sh', m', h1, h2⟩ := h
  exact ⟨n, v, sh', m', mz_run_lel X n i pc L L' S sh m _ hl h1, h2⟩
theorem mz_lel_nil : mz_lel [] [] := ⟨rfl, fun r x y h => by simp at h⟩
theorem mz_lel_cons {x y : Option Value} {L L' : mz_L} (h0 : mz_le1 x y) (h : mz_lel L L') : mz_lel (x :: L) (y :: L') := by
  refine ⟨by rw [List.length_cons, List.length_cons, h.1], fun r a b ha hb => ?_⟩
  cases r with
  | zero => cases ha; cases hb; exact h0
  | succ r => exact h.2 r a b ha hb
end
