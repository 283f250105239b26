section
-- ===== PART A: goes FIRST, ahead of the names: the tables' words, and 'selects' of the private methods out of them =====
/-- a private method of a class that the tables say can be made, by its rows of tables_1 -/
def lw_okq (q : MethodName × Nat) : Prop := (q.1.cls ≠ "java/lang/invoke/MethodHandle" ∧ q.1.cls ≠ "java/lang/invoke/VarHandle") ∧ Cond.instantiable q.1.cls q.2 ∈ tables_1 ∧ Cond.privateMethod q.1 ∈ tables_1 ∧ Cond.instanceMethod q.1 ∈ tables_1
theorem lw_p0 : lw_okq (⟨"TermMachine", "takeCollected", "()LTermMachine$Signs;"⟩, 15) := ⟨⟨by decide +kernel, by decide +kernel⟩, List.mem_of_getElem? (i := 16) (by decide +kernel), List.mem_of_getElem? (i := 378) (by decide +kernel), List.mem_of_getElem? (i := 379) (by decide +kernel)⟩
theorem lw_p1 : lw_okq (⟨"TermMachine$Terms", "has", "(I)Z"⟩, 4) := ⟨⟨by decide +kernel, by decide +kernel⟩, List.mem_of_getElem? (i := 208) (by decide +kernel), List.mem_of_getElem? (i := 414) (by decide +kernel), List.mem_of_getElem? (i := 415) (by decide +kernel)⟩
theorem lw_p2 : lw_okq (⟨"TermMachine$Trie", "plant", "(LTermMachine$Terms;)V"⟩, 15) := ⟨⟨by decide +kernel, by decide +kernel⟩, List.mem_of_getElem? (i := 28) (by decide +kernel), List.mem_of_getElem? (i := 434) (by decide +kernel), List.mem_of_getElem? (i := 435) (by decide +kernel)⟩
theorem lw_p3 : lw_okq (⟨"TermMachine$Trie", "grow", "(IIJ)I"⟩, 15) := ⟨⟨by decide +kernel, by decide +kernel⟩, List.mem_of_getElem? (i := 28) (by decide +kernel), List.mem_of_getElem? (i := 439) (by decide +kernel), List.mem_of_getElem? (i := 440) (by decide +kernel)⟩
theorem lw_p4 : lw_okq (⟨"TermMachine$Trie", "countAlongPath", "(IJ)V"⟩, 15) := ⟨⟨by decide +kernel, by decide +kernel⟩, List.mem_of_getElem? (i := 28) (by decide +kernel), List.mem_of_getElem? (i := 457) (by decide +kernel), List.mem_of_getElem? (i := 458) (by decide +kernel)⟩
theorem lw_p5 : lw_okq (⟨"TermMachine$Trie", "findAlike", "()V"⟩, 15) := ⟨⟨by decide +kernel, by decide +kernel⟩, List.mem_of_getElem? (i := 28) (by decide +kernel), List.mem_of_getElem? (i := 464) (by decide +kernel), List.mem_of_getElem? (i := 465) (by decide +kernel)⟩
theorem lw_p6 : lw_okq (⟨"TermMachine$Trie", "mixed", "(I)I"⟩, 15) := ⟨⟨by decide +kernel, by decide +kernel⟩, List.mem_of_getElem? (i := 28) (by decide +kernel), List.mem_of_getElem? (i := 468) (by decide +kernel), List.mem_of_getElem? (i := 469) (by decide +kernel)⟩
theorem lw_p7 : lw_okq (⟨"TermMachine$Trie", "lastOutput", "(I)J"⟩, 15) := ⟨⟨by decide +kernel, by decide +kernel⟩, List.mem_of_getElem? (i := 28) (by decide +kernel), List.mem_of_getElem? (i := 472) (by decide +kernel), List.mem_of_getElem? (i := 473) (by decide +kernel)⟩
theorem lw_p8 : lw_okq (⟨"TermMachine$Trie", "output", "(II)J"⟩, 15) := ⟨⟨by decide +kernel, by decide +kernel⟩, List.mem_of_getElem? (i := 28) (by decide +kernel), List.mem_of_getElem? (i := 477) (by decide +kernel), List.mem_of_getElem? (i := 478) (by decide +kernel)⟩
theorem lw_p9 : lw_okq (⟨"TermMachine$Trie", "firstAlike", "(II)I"⟩, 15) := ⟨⟨by decide +kernel, by decide +kernel⟩, List.mem_of_getElem? (i := 28) (by decide +kernel), List.mem_of_getElem? (i := 481) (by decide +kernel), List.mem_of_getElem? (i := 482) (by decide +kernel)⟩
theorem lw_p10 : lw_okq (⟨"TermMachine$Trie", "haveSameRest", "(II)Z"⟩, 15) := ⟨⟨by decide +kernel, by decide +kernel⟩, List.mem_of_getElem? (i := 28) (by decide +kernel), List.mem_of_getElem? (i := 485) (by decide +kernel), List.mem_of_getElem? (i := 486) (by decide +kernel)⟩
theorem lw_p11 : lw_okq (⟨"TermMachine$Trie", "numberStates", "()V"⟩, 15) := ⟨⟨by decide +kernel, by decide +kernel⟩, List.mem_of_getElem? (i := 28) (by decide +kernel), List.mem_of_getElem? (i := 489) (by decide +kernel), List.mem_of_getElem? (i := 490) (by decide +kernel)⟩
theorem lw_p12 : lw_okq (⟨"TermMachine$Trie", "draw", "(LTermMachine$Machine;)V"⟩, 15) := ⟨⟨by decide +kernel, by decide +kernel⟩, List.mem_of_getElem? (i := 28) (by decide +kernel), List.mem_of_getElem? (i := 493) (by decide +kernel), List.mem_of_getElem? (i := 494) (by decide +kernel)⟩
theorem lw_p13 : lw_okq (⟨"TermMachine$Machine", "stateBehindSign", "(II)I"⟩, 11) := ⟨⟨by decide +kernel, by decide +kernel⟩, List.mem_of_getElem? (i := 229) (by decide +kernel), List.mem_of_getElem? (i := 528) (by decide +kernel), List.mem_of_getElem? (i := 529) (by decide +kernel)⟩
theorem lw_p14 : lw_okq (⟨"TermMachine$Machine", "has", "(I)Z"⟩, 11) := ⟨⟨by decide +kernel, by decide +kernel⟩, List.mem_of_getElem? (i := 229) (by decide +kernel), List.mem_of_getElem? (i := 536) (by decide +kernel), List.mem_of_getElem? (i := 537) (by decide +kernel)⟩
theorem lw_p15 : lw_okq (⟨"TermMachine", "putFound", "(I)V"⟩, 15) := ⟨⟨by decide +kernel, by decide +kernel⟩, List.mem_of_getElem? (i := 16) (by decide +kernel), List.mem_of_getElem? (i := 593) (by decide +kernel), List.mem_of_getElem? (i := 594) (by decide +kernel)⟩
def lw_privs_1 : List (MethodName × Nat) := [(⟨"TermMachine", "takeCollected", "()LTermMachine$Signs;"⟩, 15), (⟨"TermMachine$Terms", "has", "(I)Z"⟩, 4), (⟨"TermMachine$Trie", "plant", "(LTermMachine$Terms;)V"⟩, 15), (⟨"TermMachine$Trie", "grow", "(IIJ)I"⟩, 15), (⟨"TermMachine$Trie", "countAlongPath", "(IJ)V"⟩, 15), (⟨"TermMachine$Trie", "findAlike", "()V"⟩, 15), (⟨"TermMachine$Trie", "mixed", "(I)I"⟩, 15), (⟨"TermMachine$Trie", "lastOutput", "(I)J"⟩, 15), (⟨"TermMachine$Trie", "output", "(II)J"⟩, 15), (⟨"TermMachine$Trie", "firstAlike", "(II)I"⟩, 15), (⟨"TermMachine$Trie", "haveSameRest", "(II)Z"⟩, 15), (⟨"TermMachine$Trie", "numberStates", "()V"⟩, 15), (⟨"TermMachine$Trie", "draw", "(LTermMachine$Machine;)V"⟩, 15), (⟨"TermMachine$Machine", "stateBehindSign", "(II)I"⟩, 11), (⟨"TermMachine$Machine", "has", "(I)Z"⟩, 11), (⟨"TermMachine", "putFound", "(I)V"⟩, 15)]
theorem lw_r1 : ∀ q ∈ lw_privs_1, lw_okq q := List.forall_mem_cons.mpr ⟨lw_p0, List.forall_mem_cons.mpr ⟨lw_p1, List.forall_mem_cons.mpr ⟨lw_p2, List.forall_mem_cons.mpr ⟨lw_p3, List.forall_mem_cons.mpr ⟨lw_p4, List.forall_mem_cons.mpr ⟨lw_p5, List.forall_mem_cons.mpr ⟨lw_p6, List.forall_mem_cons.mpr ⟨lw_p7, List.forall_mem_cons.mpr ⟨lw_p8, List.forall_mem_cons.mpr ⟨lw_p9, List.forall_mem_cons.mpr ⟨lw_p10, List.forall_mem_cons.mpr ⟨lw_p11, List.forall_mem_cons.mpr ⟨lw_p12, List.forall_mem_cons.mpr ⟨lw_p13, List.forall_mem_cons.mpr ⟨lw_p14, List.forall_mem_cons.mpr ⟨lw_p15, fun _ h => absurd h List.not_mem_nil⟩⟩⟩⟩⟩⟩⟩⟩⟩⟩⟩⟩⟩⟩⟩⟩
theorem lw_p16 : lw_okq (⟨"TermMachine", "rankFound", "(LTermMachine$Terms;II)V"⟩, 15) := ⟨⟨by decide +kernel, by decide +kernel⟩, List.mem_of_getElem? (i := 16) (by decide +kernel), List.mem_of_getElem? (i := 601) (by decide +kernel), List.mem_of_getElem? (i := 602) (by decide +kernel)⟩
theorem lw_p17 : lw_okq (⟨"TermMachine$Pattern", "start", "()V"⟩, 10) := ⟨⟨by decide +kernel, by decide +kernel⟩, List.mem_of_getElem? (i := 104) (by decide +kernel), List.mem_of_getElem? (i := 613) (by decide +kernel), List.mem_of_getElem? (i := 614) (by decide +kernel)⟩
theorem lw_p18 : lw_okq (⟨"TermMachine$Pattern", "startLevel", "()V"⟩, 10) := ⟨⟨by decide +kernel, by decide +kernel⟩, List.mem_of_getElem? (i := 104) (by decide +kernel), List.mem_of_getElem? (i := 620) (by decide +kernel), List.mem_of_getElem? (i := 621) (by decide +kernel)⟩
theorem lw_p19 : lw_okq (⟨"TermMachine$Pattern", "readOne", "(LTermMachine$Signs;I)I"⟩, 10) := ⟨⟨by decide +kernel, by decide +kernel⟩, List.mem_of_getElem? (i := 104) (by decide +kernel), List.mem_of_getElem? (i := 628) (by decide +kernel), List.mem_of_getElem? (i := 629) (by decide +kernel)⟩
theorem lw_p20 : lw_okq (⟨"TermMachine$Pattern", "readRepeat", "(II)V"⟩, 10) := ⟨⟨by decide +kernel, by decide +kernel⟩, List.mem_of_getElem? (i := 104) (by decide +kernel), List.mem_of_getElem? (i := 633) (by decide +kernel), List.mem_of_getElem? (i := 634) (by decide +kernel)⟩
theorem lw_p21 : lw_okq (⟨"TermMachine$Pattern", "repeat", "(I)V"⟩, 10) := ⟨⟨by decide +kernel, by decide +kernel⟩, List.mem_of_getElem? (i := 104) (by decide +kernel), List.mem_of_getElem? (i := 637) (by decide +kernel), List.mem_of_getElem? (i := 638) (by decide +kernel)⟩
theorem lw_p22 : lw_okq (⟨"TermMachine$Pattern", "lead", "(II)V"⟩, 10) := ⟨⟨by decide +kernel, by decide +kernel⟩, List.mem_of_getElem? (i := 104) (by decide +kernel), List.mem_of_getElem? (i := 641) (by decide +kernel), List.mem_of_getElem? (i := 642) (by decide +kernel)⟩
theorem lw_p23 : lw_okq (⟨"TermMachine$Pattern", "settlePiece", "()V"⟩, 10) := ⟨⟨by decide +kernel, by decide +kernel⟩, List.mem_of_getElem? (i := 104) (by decide +kernel), List.mem_of_getElem? (i := 645) (by decide +kernel), List.mem_of_getElem? (i := 646) (by decide +kernel)⟩
theorem lw_p24 : lw_okq (⟨"TermMachine$Pattern", "settleSequence", "()V"⟩, 10) := ⟨⟨by decide +kernel, by decide +kernel⟩, List.mem_of_getElem? (i := 104) (by decide +kernel), List.mem_of_getElem? (i := 649) (by decide +kernel), List.mem_of_getElem? (i := 650) (by decide +kernel)⟩
theorem lw_p25 : lw_okq (⟨"TermMachine$Pattern", "openBracket", "(I)V"⟩, 10) := ⟨⟨by decide +kernel, by decide +kernel⟩, List.mem_of_getElem? (i := 104) (by decide +kernel), List.mem_of_getElem? (i := 653) (by decide +kernel), List.mem_of_getElem? (i := 654) (by decide +kernel)⟩
theorem lw_p26 : lw_okq (⟨"TermMachine$Pattern", "closeBracket", "(I)V"⟩, 10) := ⟨⟨by decide +kernel, by decide +kernel⟩, List.mem_of_getElem? (i := 104) (by decide +kernel), List.mem_of_getElem? (i := 657) (by decide +kernel), List.mem_of_getElem? (i := 658) (by decide +kernel)⟩
theorem lw_p27 : lw_okq (⟨"TermMachine$Pattern", "readSet", "(LTermMachine$Signs;I)I"⟩, 10) := ⟨⟨by decide +kernel, by decide +kernel⟩, List.mem_of_getElem? (i := 104) (by decide +kernel), List.mem_of_getElem? (i := 661) (by decide +kernel), List.mem_of_getElem? (i := 662) (by decide +kernel)⟩
theorem lw_p28 : lw_okq (⟨"TermMachine$Pattern", "putPlaceOfSet", "(I)V"⟩, 10) := ⟨⟨by decide +kernel, by decide +kernel⟩, List.mem_of_getElem? (i := 104) (by decide +kernel), List.mem_of_getElem? (i := 665) (by decide +kernel), List.mem_of_getElem? (i := 666) (by decide +kernel)⟩
theorem lw_p29 : lw_okq (⟨"TermMachine$Pattern", "newPlace", "()I"⟩, 10) := ⟨⟨by decide +kernel, by decide +kernel⟩, List.mem_of_getElem? (i := 104) (by decide +kernel), List.mem_of_getElem? (i := 669) (by decide +kernel), List.mem_of_getElem? (i := 670) (by decide +kernel)⟩
theorem lw_p30 : lw_okq (⟨"TermMachine$Pattern", "readItem", "(LTermMachine$Signs;I)I"⟩, 10) := ⟨⟨by decide +kernel, by decide +kernel⟩, List.mem_of_getElem? (i := 104) (by decide +kernel), List.mem_of_getElem? (i := 674) (by decide +kernel), List.mem_of_getElem? (i := 675) (by decide +kernel)⟩
theorem lw_p31 : lw_okq (⟨"TermMachine$Pattern", "putPlace", "(II)V"⟩, 10) := ⟨⟨by decide +kernel, by decide +kernel⟩, List.mem_of_getElem? (i := 104) (by decide +kernel), List.mem_of_getElem? (i := 682) (by decide +kernel), List.mem_of_getElem? (i := 683) (by decide +kernel)⟩
def lw_privs_2 : List (MethodName × Nat) := [(⟨"TermMachine", "rankFound", "(LTermMachine$Terms;II)V"⟩, 15), (⟨"TermMachine$Pattern", "start", "()V"⟩, 10), (⟨"TermMachine$Pattern", "startLevel", "()V"⟩, 10), (⟨"TermMachine$Pattern", "readOne", "(LTermMachine$Signs;I)I"⟩, 10), (⟨"TermMachine$Pattern", "readRepeat", "(II)V"⟩, 10), (⟨"TermMachine$Pattern", "repeat", "(I)V"⟩, 10), (⟨"TermMachine$Pattern", "lead", "(II)V"⟩, 10), (⟨"TermMachine$Pattern", "settlePiece", "()V"⟩, 10), (⟨"TermMachine$Pattern", "settleSequence", "()V"⟩, 10), (⟨"TermMachine$Pattern", "openBracket", "(I)V"⟩, 10), (⟨"TermMachine$Pattern", "closeBracket", "(I)V"⟩, 10), (⟨"TermMachine$Pattern", "readSet", "(LTermMachine$Signs;I)I"⟩, 10), (⟨"TermMachine$Pattern", "putPlaceOfSet", "(I)V"⟩, 10), (⟨"TermMachine$Pattern", "newPlace", "()I"⟩, 10), (⟨"TermMachine$Pattern", "readItem", "(LTermMachine$Signs;I)I"⟩, 10), (⟨"TermMachine$Pattern", "putPlace", "(II)V"⟩, 10)]
theorem lw_r2 : ∀ q ∈ lw_privs_2, lw_okq q := List.forall_mem_cons.mpr ⟨lw_p16, List.forall_mem_cons.mpr ⟨lw_p17, List.forall_mem_cons.mpr ⟨lw_p18, List.forall_mem_cons.mpr ⟨lw_p19, List.forall_mem_cons.mpr ⟨lw_p20, List.forall_mem_cons.mpr ⟨lw_p21, List.forall_mem_cons.mpr ⟨lw_p22, List.forall_mem_cons.mpr ⟨lw_p23, List.forall_mem_cons.mpr ⟨lw_p24, List.forall_mem_cons.mpr ⟨lw_p25, List.forall_mem_cons.mpr ⟨lw_p26, List.forall_mem_cons.mpr ⟨lw_p27, List.forall_mem_cons.mpr ⟨lw_p28, List.forall_mem_cons.mpr ⟨lw_p29, List.forall_mem_cons.mpr ⟨lw_p30, List.forall_mem_cons.mpr ⟨lw_p31, fun _ h => absurd h List.not_mem_nil⟩⟩⟩⟩⟩⟩⟩⟩⟩⟩⟩⟩⟩⟩⟩⟩
theorem lw_p32 : lw_okq (⟨"TermMachine$Pattern", "readPlain", "(LTermMachine$Signs;I)I"⟩, 10) := ⟨⟨by decide +kernel, by decide +kernel⟩, List.mem_of_getElem? (i := 104) (by decide +kernel), List.mem_of_getElem? (i := 686) (by decide +kernel), List.mem_of_getElem? (i := 687) (by decide +kernel)⟩
theorem lw_p33 : lw_okq (⟨"TermMachine", "keepAccepted", "(LTermMachine$Terms;Z)I"⟩, 15) := ⟨⟨by decide +kernel, by decide +kernel⟩, List.mem_of_getElem? (i := 16) (by decide +kernel), List.mem_of_getElem? (i := 698) (by decide +kernel), List.mem_of_getElem? (i := 699) (by decide +kernel)⟩
theorem lw_p34 : lw_okq (⟨"TermMachine$NearWord", "fewest", "(LTermMachine$Terms;III)I"⟩, 3) := ⟨⟨by decide +kernel, by decide +kernel⟩, List.mem_of_getElem? (i := 161) (by decide +kernel), List.mem_of_getElem? (i := 710) (by decide +kernel), List.mem_of_getElem? (i := 711) (by decide +kernel)⟩
theorem lw_p35 : lw_okq (⟨"TermMachine$Pattern", "takersOf", "(I)I"⟩, 10) := ⟨⟨by decide +kernel, by decide +kernel⟩, List.mem_of_getElem? (i := 104) (by decide +kernel), List.mem_of_getElem? (i := 723) (by decide +kernel), List.mem_of_getElem? (i := 724) (by decide +kernel)⟩
theorem lw_p36 : lw_okq (⟨"TermMachine$Pattern", "reachedFrom", "(I)I"⟩, 10) := ⟨⟨by decide +kernel, by decide +kernel⟩, List.mem_of_getElem? (i := 104) (by decide +kernel), List.mem_of_getElem? (i := 727) (by decide +kernel), List.mem_of_getElem? (i := 728) (by decide +kernel)⟩
theorem lw_p37 : lw_okq (⟨"TermMachine$Terms", "gatherBoth", "(LTermMachine$Terms;IJI)I"⟩, 4) := ⟨⟨by decide +kernel, by decide +kernel⟩, List.mem_of_getElem? (i := 208) (by decide +kernel), List.mem_of_getElem? (i := 752) (by decide +kernel), List.mem_of_getElem? (i := 753) (by decide +kernel)⟩
theorem lw_p38 : lw_okq (⟨"TermMachine$Terms", "gatherOne", "(LTermMachine$Terms;IJ)I"⟩, 4) := ⟨⟨by decide +kernel, by decide +kernel⟩, List.mem_of_getElem? (i := 208) (by decide +kernel), List.mem_of_getElem? (i := 757) (by decide +kernel), List.mem_of_getElem? (i := 758) (by decide +kernel)⟩
theorem lw_p39 : lw_okq (⟨"TermMachine", "putSpareAt", "(I)V"⟩, 15) := ⟨⟨by decide +kernel, by decide +kernel⟩, List.mem_of_getElem? (i := 16) (by decide +kernel), List.mem_of_getElem? (i := 763) (by decide +kernel), List.mem_of_getElem? (i := 764) (by decide +kernel)⟩
theorem lw_p40 : lw_okq (⟨"TermMachine$Packing", "writeState", "(LTermMachine$Machine;ILTermMachine$Signs;)V"⟩, 5) := ⟨⟨by decide +kernel, by decide +kernel⟩, List.mem_of_getElem? (i := 82) (by decide +kernel), List.mem_of_getElem? (i := 781) (by decide +kernel), List.mem_of_getElem? (i := 782) (by decide +kernel)⟩
theorem lw_p41 : lw_okq (⟨"TermMachine$Packing", "readMachine", "(LTermMachine$Signs;LTermMachine$Machine;)Z"⟩, 5) := ⟨⟨by decide +kernel, by decide +kernel⟩, List.mem_of_getElem? (i := 82) (by decide +kernel), List.mem_of_getElem? (i := 805) (by decide +kernel), List.mem_of_getElem? (i := 806) (by decide +kernel)⟩
theorem lw_p42 : lw_okq (⟨"TermMachine$Packing", "readSign", "(LTermMachine$Signs;)I"⟩, 5) := ⟨⟨by decide +kernel, by decide +kernel⟩, List.mem_of_getElem? (i := 82) (by decide +kernel), List.mem_of_getElem? (i := 809) (by decide +kernel), List.mem_of_getElem? (i := 810) (by decide +kernel)⟩
theorem lw_p43 : lw_okq (⟨"TermMachine$Packing", "readNumber", "(LTermMachine$Signs;)J"⟩, 5) := ⟨⟨by decide +kernel, by decide +kernel⟩, List.mem_of_getElem? (i := 82) (by decide +kernel), List.mem_of_getElem? (i := 814) (by decide +kernel), List.mem_of_getElem? (i := 815) (by decide +kernel)⟩
theorem lw_p44 : lw_okq (⟨"TermMachine$Packing", "readState", "(LTermMachine$Signs;LTermMachine$Machine;I)Z"⟩, 5) := ⟨⟨by decide +kernel, by decide +kernel⟩, List.mem_of_getElem? (i := 82) (by decide +kernel), List.mem_of_getElem? (i := 820) (by decide +kernel), List.mem_of_getElem? (i := 821) (by decide +kernel)⟩
theorem lw_p45 : lw_okq (⟨"TermMachine$Packing", "listTerms", "(LTermMachine$Machine;LTermMachine$Terms;)Z"⟩, 5) := ⟨⟨by decide +kernel, by decide +kernel⟩, List.mem_of_getElem? (i := 82) (by decide +kernel), List.mem_of_getElem? (i := 827) (by decide +kernel), List.mem_of_getElem? (i := 828) (by decide +kernel)⟩
theorem lw_p46 : lw_okq (⟨"TermMachine$Packing", "enter", "(LTermMachine$Machine;LTermMachine$Terms;IIJ)Z"⟩, 5) := ⟨⟨by decide +kernel, by decide +kernel⟩, List.mem_of_getElem? (i := 82) (by decide +kernel), List.mem_of_getElem? (i := 832) (by decide +kernel), List.mem_of_getElem? (i := 833) (by decide +kernel)⟩
theorem lw_p47 : lw_okq (⟨"TermMachine$Packing", "follow", "(LTermMachine$Machine;LTermMachine$Terms;I)Z"⟩, 5) := ⟨⟨by decide +kernel, by decide +kernel⟩, List.mem_of_getElem? (i := 82) (by decide +kernel), List.mem_of_getElem? (i := 839) (by decide +kernel), List.mem_of_getElem? (i := 840) (by decide +kernel)⟩
def lw_privs_3 : List (MethodName × Nat) := [(⟨"TermMachine$Pattern", "readPlain", "(LTermMachine$Signs;I)I"⟩, 10), (⟨"TermMachine", "keepAccepted", "(LTermMachine$Terms;Z)I"⟩, 15), (⟨"TermMachine$NearWord", "fewest", "(LTermMachine$Terms;III)I"⟩, 3), (⟨"TermMachine$Pattern", "takersOf", "(I)I"⟩, 10), (⟨"TermMachine$Pattern", "reachedFrom", "(I)I"⟩, 10), (⟨"TermMachine$Terms", "gatherBoth", "(LTermMachine$Terms;IJI)I"⟩, 4), (⟨"TermMachine$Terms", "gatherOne", "(LTermMachine$Terms;IJ)I"⟩, 4), (⟨"TermMachine", "putSpareAt", "(I)V"⟩, 15), (⟨"TermMachine$Packing", "writeState", "(LTermMachine$Machine;ILTermMachine$Signs;)V"⟩, 5), (⟨"TermMachine$Packing", "readMachine", "(LTermMachine$Signs;LTermMachine$Machine;)Z"⟩, 5), (⟨"TermMachine$Packing", "readSign", "(LTermMachine$Signs;)I"⟩, 5), (⟨"TermMachine$Packing", "readNumber", "(LTermMachine$Signs;)J"⟩, 5), (⟨"TermMachine$Packing", "readState", "(LTermMachine$Signs;LTermMachine$Machine;I)Z"⟩, 5), (⟨"TermMachine$Packing", "listTerms", "(LTermMachine$Machine;LTermMachine$Terms;)Z"⟩, 5), (⟨"TermMachine$Packing", "enter", "(LTermMachine$Machine;LTermMachine$Terms;IIJ)Z"⟩, 5), (⟨"TermMachine$Packing", "follow", "(LTermMachine$Machine;LTermMachine$Terms;I)Z"⟩, 5)]
theorem lw_r3 : ∀ q ∈ lw_privs_3, lw_okq q := List.forall_mem_cons.mpr ⟨lw_p32, List.forall_mem_cons.mpr ⟨lw_p33, List.forall_mem_cons.mpr ⟨lw_p34, List.forall_mem_cons.mpr ⟨lw_p35, List.forall_mem_cons.mpr ⟨lw_p36, List.forall_mem_cons.mpr ⟨lw_p37, List.forall_mem_cons.mpr ⟨lw_p38, List.forall_mem_cons.mpr ⟨lw_p39, List.forall_mem_cons.mpr ⟨lw_p40, List.forall_mem_cons.mpr ⟨lw_p41, List.forall_mem_cons.mpr ⟨lw_p42, List.forall_mem_cons.mpr ⟨lw_p43, List.forall_mem_cons.mpr ⟨lw_p44, List.forall_mem_cons.mpr ⟨lw_p45, List.forall_mem_cons.mpr ⟨lw_p46, List.forall_mem_cons.mpr ⟨lw_p47, fun _ h => absurd h List.not_mem_nil⟩⟩⟩⟩⟩⟩⟩⟩⟩⟩⟩⟩⟩⟩⟩⟩
theorem lw_p48 : lw_okq (⟨"TermMachineModel", "compare", "(III)I"⟩, 57) := ⟨⟨by decide +kernel, by decide +kernel⟩, List.mem_of_getElem? (i := 871) (by decide +kernel), List.mem_of_getElem? (i := 1078) (by decide +kernel), List.mem_of_getElem? (i := 1079) (by decide +kernel)⟩
theorem lw_p49 : lw_okq (⟨"TermMachineModel", "letter", "(III)I"⟩, 57) := ⟨⟨by decide +kernel, by decide +kernel⟩, List.mem_of_getElem? (i := 871) (by decide +kernel), List.mem_of_getElem? (i := 1082) (by decide +kernel), List.mem_of_getElem? (i := 1083) (by decide +kernel)⟩
theorem lw_p50 : lw_okq (⟨"TermMachineModel", "append", "(I[BIIJ)V"⟩, 57) := ⟨⟨by decide +kernel, by decide +kernel⟩, List.mem_of_getElem? (i := 871) (by decide +kernel), List.mem_of_getElem? (i := 1086) (by decide +kernel), List.mem_of_getElem? (i := 1087) (by decide +kernel)⟩
theorem lw_p51 : lw_okq (⟨"TermMachineModel", "build", "(I)V"⟩, 57) := ⟨⟨by decide +kernel, by decide +kernel⟩, List.mem_of_getElem? (i := 871) (by decide +kernel), List.mem_of_getElem? (i := 1094) (by decide +kernel), List.mem_of_getElem? (i := 1095) (by decide +kernel)⟩
theorem lw_p52 : lw_okq (⟨"TermMachineModel", "put", "(IIII)V"⟩, 57) := ⟨⟨by decide +kernel, by decide +kernel⟩, List.mem_of_getElem? (i := 871) (by decide +kernel), List.mem_of_getElem? (i := 1098) (by decide +kernel), List.mem_of_getElem? (i := 1099) (by decide +kernel)⟩
theorem lw_p53 : lw_okq (⟨"TermMachineModel", "isShared", "(IIII)Z"⟩, 57) := ⟨⟨by decide +kernel, by decide +kernel⟩, List.mem_of_getElem? (i := 871) (by decide +kernel), List.mem_of_getElem? (i := 1107) (by decide +kernel), List.mem_of_getElem? (i := 1108) (by decide +kernel)⟩
theorem lw_p54 : lw_okq (⟨"TermMachineModel", "isSame", "(III)Z"⟩, 57) := ⟨⟨by decide +kernel, by decide +kernel⟩, List.mem_of_getElem? (i := 871) (by decide +kernel), List.mem_of_getElem? (i := 1111) (by decide +kernel), List.mem_of_getElem? (i := 1112) (by decide +kernel)⟩
theorem lw_p55 : lw_okq (⟨"TermMachineModel", "place", "(II)I"⟩, 57) := ⟨⟨by decide +kernel, by decide +kernel⟩, List.mem_of_getElem? (i := 871) (by decide +kernel), List.mem_of_getElem? (i := 1121) (by decide +kernel), List.mem_of_getElem? (i := 1122) (by decide +kernel)⟩
theorem lw_p56 : lw_okq (⟨"TermMachineModel", "isBeginning", "(III)Z"⟩, 57) := ⟨⟨by decide +kernel, by decide +kernel⟩, List.mem_of_getElem? (i := 871) (by decide +kernel), List.mem_of_getElem? (i := 1130) (by decide +kernel), List.mem_of_getElem? (i := 1131) (by decide +kernel)⟩
theorem lw_p57 : lw_okq (⟨"TermMachineModel", "children", "(II)I"⟩, 57) := ⟨⟨by decide +kernel, by decide +kernel⟩, List.mem_of_getElem? (i := 871) (by decide +kernel), List.mem_of_getElem? (i := 1139) (by decide +kernel), List.mem_of_getElem? (i := 1140) (by decide +kernel)⟩
theorem lw_p58 : lw_okq (⟨"TermMachineModel", "child", "(III)I"⟩, 57) := ⟨⟨by decide +kernel, by decide +kernel⟩, List.mem_of_getElem? (i := 871) (by decide +kernel), List.mem_of_getElem? (i := 1143) (by decide +kernel), List.mem_of_getElem? (i := 1144) (by decide +kernel)⟩
theorem lw_p59 : lw_okq (⟨"TermMachineModel", "isFinal", "(II)Z"⟩, 57) := ⟨⟨by decide +kernel, by decide +kernel⟩, List.mem_of_getElem? (i := 871) (by decide +kernel), List.mem_of_getElem? (i := 1147) (by decide +kernel), List.mem_of_getElem? (i := 1148) (by decide +kernel)⟩
theorem lw_p60 : lw_okq (⟨"TermMachineModel", "beginningOf", "(III)I"⟩, 57) := ⟨⟨by decide +kernel, by decide +kernel⟩, List.mem_of_getElem? (i := 871) (by decide +kernel), List.mem_of_getElem? (i := 1151) (by decide +kernel), List.mem_of_getElem? (i := 1152) (by decide +kernel)⟩
theorem lw_p61 : lw_okq (⟨"TermMachineModel", "above", "(II)I"⟩, 57) := ⟨⟨by decide +kernel, by decide +kernel⟩, List.mem_of_getElem? (i := 871) (by decide +kernel), List.mem_of_getElem? (i := 1179) (by decide +kernel), List.mem_of_getElem? (i := 1180) (by decide +kernel)⟩
theorem lw_p62 : lw_okq (⟨"TermMachineModel", "gather", "(II)V"⟩, 57) := ⟨⟨by decide +kernel, by decide +kernel⟩, List.mem_of_getElem? (i := 871) (by decide +kernel), List.mem_of_getElem? (i := 1187) (by decide +kernel), List.mem_of_getElem? (i := 1188) (by decide +kernel)⟩
theorem lw_p63 : lw_okq (⟨"TermMachineModel", "parsePattern", "(I)V"⟩, 57) := ⟨⟨by decide +kernel, by decide +kernel⟩, List.mem_of_getElem? (i := 871) (by decide +kernel), List.mem_of_getElem? (i := 1205) (by decide +kernel), List.mem_of_getElem? (i := 1206) (by decide +kernel)⟩
def lw_privs_4 : List (MethodName × Nat) := [(⟨"TermMachineModel", "compare", "(III)I"⟩, 57), (⟨"TermMachineModel", "letter", "(III)I"⟩, 57), (⟨"TermMachineModel", "append", "(I[BIIJ)V"⟩, 57), (⟨"TermMachineModel", "build", "(I)V"⟩, 57), (⟨"TermMachineModel", "put", "(IIII)V"⟩, 57), (⟨"TermMachineModel", "isShared", "(IIII)Z"⟩, 57), (⟨"TermMachineModel", "isSame", "(III)Z"⟩, 57), (⟨"TermMachineModel", "place", "(II)I"⟩, 57), (⟨"TermMachineModel", "isBeginning", "(III)Z"⟩, 57), (⟨"TermMachineModel", "children", "(II)I"⟩, 57), (⟨"TermMachineModel", "child", "(III)I"⟩, 57), (⟨"TermMachineModel", "isFinal", "(II)Z"⟩, 57), (⟨"TermMachineModel", "beginningOf", "(III)I"⟩, 57), (⟨"TermMachineModel", "above", "(II)I"⟩, 57), (⟨"TermMachineModel", "gather", "(II)V"⟩, 57), (⟨"TermMachineModel", "parsePattern", "(I)V"⟩, 57)]
theorem lw_r4 : ∀ q ∈ lw_privs_4, lw_okq q := List.forall_mem_cons.mpr ⟨lw_p48, List.forall_mem_cons.mpr ⟨lw_p49, List.forall_mem_cons.mpr ⟨lw_p50, List.forall_mem_cons.mpr ⟨lw_p51, List.forall_mem_cons.mpr ⟨lw_p52, List.forall_mem_cons.mpr ⟨lw_p53, List.forall_mem_cons.mpr ⟨lw_p54, List.forall_mem_cons.mpr ⟨lw_p55, List.forall_mem_cons.mpr ⟨lw_p56, List.forall_mem_cons.mpr ⟨lw_p57, List.forall_mem_cons.mpr ⟨lw_p58, List.forall_mem_cons.mpr ⟨lw_p59, List.forall_mem_cons.mpr ⟨lw_p60, List.forall_mem_cons.mpr ⟨lw_p61, List.forall_mem_cons.mpr ⟨lw_p62, List.forall_mem_cons.mpr ⟨lw_p63, fun _ h => absurd h List.not_mem_nil⟩⟩⟩⟩⟩⟩⟩⟩⟩⟩⟩⟩⟩⟩⟩⟩
theorem lw_p64 : lw_okq (⟨"TermMachineModel", "parseAll", "()V"⟩, 57) := ⟨⟨by decide +kernel, by decide +kernel⟩, List.mem_of_getElem? (i := 871) (by decide +kernel), List.mem_of_getElem? (i := 1209) (by decide +kernel), List.mem_of_getElem? (i := 1210) (by decide +kernel)⟩
theorem lw_p65 : lw_okq (⟨"TermMachineModel", "spot", "()I"⟩, 57) := ⟨⟨by decide +kernel, by decide +kernel⟩, List.mem_of_getElem? (i := 871) (by decide +kernel), List.mem_of_getElem? (i := 1213) (by decide +kernel), List.mem_of_getElem? (i := 1214) (by decide +kernel)⟩
theorem lw_p66 : lw_okq (⟨"TermMachineModel", "openAlt", "(II)V"⟩, 57) := ⟨⟨by decide +kernel, by decide +kernel⟩, List.mem_of_getElem? (i := 871) (by decide +kernel), List.mem_of_getElem? (i := 1217) (by decide +kernel), List.mem_of_getElem? (i := 1218) (by decide +kernel)⟩
theorem lw_p67 : lw_okq (⟨"TermMachineModel", "openSequence", "(I)V"⟩, 57) := ⟨⟨by decide +kernel, by decide +kernel⟩, List.mem_of_getElem? (i := 871) (by decide +kernel), List.mem_of_getElem? (i := 1221) (by decide +kernel), List.mem_of_getElem? (i := 1222) (by decide +kernel)⟩
theorem lw_p68 : lw_okq (⟨"TermMachineModel", "step", "(III)V"⟩, 57) := ⟨⟨by decide +kernel, by decide +kernel⟩, List.mem_of_getElem? (i := 871) (by decide +kernel), List.mem_of_getElem? (i := 1225) (by decide +kernel), List.mem_of_getElem? (i := 1226) (by decide +kernel)⟩
theorem lw_p69 : lw_okq (⟨"TermMachineModel", "here", "()I"⟩, 57) := ⟨⟨by decide +kernel, by decide +kernel⟩, List.mem_of_getElem? (i := 871) (by decide +kernel), List.mem_of_getElem? (i := 1229) (by decide +kernel), List.mem_of_getElem? (i := 1230) (by decide +kernel)⟩
theorem lw_p70 : lw_okq (⟨"TermMachineModel", "fail", "(I)V"⟩, 57) := ⟨⟨by decide +kernel, by decide +kernel⟩, List.mem_of_getElem? (i := 871) (by decide +kernel), List.mem_of_getElem? (i := 1233) (by decide +kernel), List.mem_of_getElem? (i := 1234) (by decide +kernel)⟩
theorem lw_p71 : lw_okq (⟨"TermMachineModel", "closePiece", "(III)V"⟩, 57) := ⟨⟨by decide +kernel, by decide +kernel⟩, List.mem_of_getElem? (i := 871) (by decide +kernel), List.mem_of_getElem? (i := 1237) (by decide +kernel), List.mem_of_getElem? (i := 1238) (by decide +kernel)⟩
theorem lw_p72 : lw_okq (⟨"TermMachineModel", "parseAtom", "(I)I"⟩, 57) := ⟨⟨by decide +kernel, by decide +kernel⟩, List.mem_of_getElem? (i := 871) (by decide +kernel), List.mem_of_getElem? (i := 1241) (by decide +kernel), List.mem_of_getElem? (i := 1242) (by decide +kernel)⟩
theorem lw_p73 : lw_okq (⟨"TermMachineModel", "fill", "(II)V"⟩, 57) := ⟨⟨by decide +kernel, by decide +kernel⟩, List.mem_of_getElem? (i := 871) (by decide +kernel), List.mem_of_getElem? (i := 1245) (by decide +kernel), List.mem_of_getElem? (i := 1246) (by decide +kernel)⟩
theorem lw_p74 : lw_okq (⟨"TermMachineModel", "oneOf", "(I)I"⟩, 57) := ⟨⟨by decide +kernel, by decide +kernel⟩, List.mem_of_getElem? (i := 871) (by decide +kernel), List.mem_of_getElem? (i := 1249) (by decide +kernel), List.mem_of_getElem? (i := 1250) (by decide +kernel)⟩
theorem lw_p75 : lw_okq (⟨"TermMachineModel", "parseSet", "()V"⟩, 57) := ⟨⟨by decide +kernel, by decide +kernel⟩, List.mem_of_getElem? (i := 871) (by decide +kernel), List.mem_of_getElem? (i := 1253) (by decide +kernel), List.mem_of_getElem? (i := 1254) (by decide +kernel)⟩
theorem lw_p76 : lw_okq (⟨"TermMachineModel", "setSign", "()I"⟩, 57) := ⟨⟨by decide +kernel, by decide +kernel⟩, List.mem_of_getElem? (i := 871) (by decide +kernel), List.mem_of_getElem? (i := 1257) (by decide +kernel), List.mem_of_getElem? (i := 1258) (by decide +kernel)⟩
theorem lw_p77 : lw_okq (⟨"TermMachineModel", "isWild", "(III)Z"⟩, 57) := ⟨⟨by decide +kernel, by decide +kernel⟩, List.mem_of_getElem? (i := 871) (by decide +kernel), List.mem_of_getElem? (i := 1261) (by decide +kernel), List.mem_of_getElem? (i := 1262) (by decide +kernel)⟩
theorem lw_p78 : lw_okq (⟨"TermMachineModel", "isPattern", "(II)Z"⟩, 57) := ⟨⟨by decide +kernel, by decide +kernel⟩, List.mem_of_getElem? (i := 871) (by decide +kernel), List.mem_of_getElem? (i := 1265) (by decide +kernel), List.mem_of_getElem? (i := 1266) (by decide +kernel)⟩
theorem lw_p79 : lw_okq (⟨"TermMachineModel", "close", "([Z)V"⟩, 57) := ⟨⟨by decide +kernel, by decide +kernel⟩, List.mem_of_getElem? (i := 871) (by decide +kernel), List.mem_of_getElem? (i := 1269) (by decide +kernel), List.mem_of_getElem? (i := 1270) (by decide +kernel)⟩
def lw_privs_5 : List (MethodName × Nat) := [(⟨"TermMachineModel", "parseAll", "()V"⟩, 57), (⟨"TermMachineModel", "spot", "()I"⟩, 57), (⟨"TermMachineModel", "openAlt", "(II)V"⟩, 57), (⟨"TermMachineModel", "openSequence", "(I)V"⟩, 57), (⟨"TermMachineModel", "step", "(III)V"⟩, 57), (⟨"TermMachineModel", "here", "()I"⟩, 57), (⟨"TermMachineModel", "fail", "(I)V"⟩, 57), (⟨"TermMachineModel", "closePiece", "(III)V"⟩, 57), (⟨"TermMachineModel", "parseAtom", "(I)I"⟩, 57), (⟨"TermMachineModel", "fill", "(II)V"⟩, 57), (⟨"TermMachineModel", "oneOf", "(I)I"⟩, 57), (⟨"TermMachineModel", "parseSet", "()V"⟩, 57), (⟨"TermMachineModel", "setSign", "()I"⟩, 57), (⟨"TermMachineModel", "isWild", "(III)Z"⟩, 57), (⟨"TermMachineModel", "isPattern", "(II)Z"⟩, 57), (⟨"TermMachineModel", "close", "([Z)V"⟩, 57)]
theorem lw_r5 : ∀ q ∈ lw_privs_5, lw_okq q := List.forall_mem_cons.mpr ⟨lw_p64, List.forall_mem_cons.mpr ⟨lw_p65, List.forall_mem_cons.mpr ⟨lw_p66, List.forall_mem_cons.mpr ⟨lw_p67, List.forall_mem_cons.mpr ⟨lw_p68, List.forall_mem_cons.mpr ⟨lw_p69, List.forall_mem_cons.mpr ⟨lw_p70, List.forall_mem_cons.mpr ⟨lw_p71, List.forall_mem_cons.mpr ⟨lw_p72, List.forall_mem_cons.mpr ⟨lw_p73, List.forall_mem_cons.mpr ⟨lw_p74, List.forall_mem_cons.mpr ⟨lw_p75, List.forall_mem_cons.mpr ⟨lw_p76, List.forall_mem_cons.mpr ⟨lw_p77, List.forall_mem_cons.mpr ⟨lw_p78, List.forall_mem_cons.mpr ⟨lw_p79, fun _ h => absurd h List.not_mem_nil⟩⟩⟩⟩⟩⟩⟩⟩⟩⟩⟩⟩⟩⟩⟩⟩
theorem lw_p80 : lw_okq (⟨"TermMachineModel", "distance", "(III)I"⟩, 57) := ⟨⟨by decide +kernel, by decide +kernel⟩, List.mem_of_getElem? (i := 871) (by decide +kernel), List.mem_of_getElem? (i := 1273) (by decide +kernel), List.mem_of_getElem? (i := 1274) (by decide +kernel)⟩
theorem lw_p81 : lw_okq (⟨"TermMachineModel", "compareTerms", "(IIII)I"⟩, 57) := ⟨⟨by decide +kernel, by decide +kernel⟩, List.mem_of_getElem? (i := 871) (by decide +kernel), List.mem_of_getElem? (i := 1285) (by decide +kernel), List.mem_of_getElem? (i := 1286) (by decide +kernel)⟩
theorem lw_p82 : lw_okq (⟨"TermMachineModel", "come", "(I)V"⟩, 57) := ⟨⟨by decide +kernel, by decide +kernel⟩, List.mem_of_getElem? (i := 871) (by decide +kernel), List.mem_of_getElem? (i := 1289) (by decide +kernel), List.mem_of_getElem? (i := 1290) (by decide +kernel)⟩
theorem lw_p83 : lw_okq (⟨"TermMachineModel", "copy", "(II)V"⟩, 57) := ⟨⟨by decide +kernel, by decide +kernel⟩, List.mem_of_getElem? (i := 871) (by decide +kernel), List.mem_of_getElem? (i := 1293) (by decide +kernel), List.mem_of_getElem? (i := 1294) (by decide +kernel)⟩
theorem lw_p84 : lw_okq (⟨"TermMachineModel", "pack", "(I)I"⟩, 57) := ⟨⟨by decide +kernel, by decide +kernel⟩, List.mem_of_getElem? (i := 871) (by decide +kernel), List.mem_of_getElem? (i := 1301) (by decide +kernel), List.mem_of_getElem? (i := 1302) (by decide +kernel)⟩
theorem lw_p85 : lw_okq (⟨"TermMachineModel", "write", "([BIJ)I"⟩, 57) := ⟨⟨by decide +kernel, by decide +kernel⟩, List.mem_of_getElem? (i := 871) (by decide +kernel), List.mem_of_getElem? (i := 1305) (by decide +kernel), List.mem_of_getElem? (i := 1306) (by decide +kernel)⟩
theorem lw_p86 : lw_okq (⟨"TermMachineModel", "unpack", "(I)Z"⟩, 57) := ⟨⟨by decide +kernel, by decide +kernel⟩, List.mem_of_getElem? (i := 871) (by decide +kernel), List.mem_of_getElem? (i := 1319) (by decide +kernel), List.mem_of_getElem? (i := 1320) (by decide +kernel)⟩
theorem lw_p87 : lw_okq (⟨"TermMachineModel", "readByte", "()I"⟩, 57) := ⟨⟨by decide +kernel, by decide +kernel⟩, List.mem_of_getElem? (i := 871) (by decide +kernel), List.mem_of_getElem? (i := 1323) (by decide +kernel), List.mem_of_getElem? (i := 1324) (by decide +kernel)⟩
theorem lw_p88 : lw_okq (⟨"TermMachineModel", "readNumber", "()J"⟩, 57) := ⟨⟨by decide +kernel, by decide +kernel⟩, List.mem_of_getElem? (i := 871) (by decide +kernel), List.mem_of_getElem? (i := 1327) (by decide +kernel), List.mem_of_getElem? (i := 1328) (by decide +kernel)⟩
theorem lw_p89 : lw_okq (⟨"TermMachineModel", "spell", "(J)Z"⟩, 57) := ⟨⟨by decide +kernel, by decide +kernel⟩, List.mem_of_getElem? (i := 871) (by decide +kernel), List.mem_of_getElem? (i := 1332) (by decide +kernel), List.mem_of_getElem? (i := 1333) (by decide +kernel)⟩
theorem lw_p90 : lw_okq (⟨"TermMachineModel", "spellOne", "(I)Z"⟩, 57) := ⟨⟨by decide +kernel, by decide +kernel⟩, List.mem_of_getElem? (i := 871) (by decide +kernel), List.mem_of_getElem? (i := 1336) (by decide +kernel), List.mem_of_getElem? (i := 1337) (by decide +kernel)⟩
def lw_privs_6 : List (MethodName × Nat) := [(⟨"TermMachineModel", "distance", "(III)I"⟩, 57), (⟨"TermMachineModel", "compareTerms", "(IIII)I"⟩, 57), (⟨"TermMachineModel", "come", "(I)V"⟩, 57), (⟨"TermMachineModel", "copy", "(II)V"⟩, 57), (⟨"TermMachineModel", "pack", "(I)I"⟩, 57), (⟨"TermMachineModel", "write", "([BIJ)I"⟩, 57), (⟨"TermMachineModel", "unpack", "(I)Z"⟩, 57), (⟨"TermMachineModel", "readByte", "()I"⟩, 57), (⟨"TermMachineModel", "readNumber", "()J"⟩, 57), (⟨"TermMachineModel", "spell", "(J)Z"⟩, 57), (⟨"TermMachineModel", "spellOne", "(I)Z"⟩, 57)]
theorem lw_r6 : ∀ q ∈ lw_privs_6, lw_okq q := List.forall_mem_cons.mpr ⟨lw_p80, List.forall_mem_cons.mpr ⟨lw_p81, List.forall_mem_cons.mpr ⟨lw_p82, List.forall_mem_cons.mpr ⟨lw_p83, List.forall_mem_cons.mpr ⟨lw_p84, List.forall_mem_cons.mpr ⟨lw_p85, List.forall_mem_cons.mpr ⟨lw_p86, List.forall_mem_cons.mpr ⟨lw_p87, List.forall_mem_cons.mpr ⟨lw_p88, List.forall_mem_cons.mpr ⟨lw_p89, List.forall_mem_cons.mpr ⟨lw_p90, fun _ h => absurd h List.not_mem_nil⟩⟩⟩⟩⟩⟩⟩⟩⟩⟩⟩
def lw_privs : List (MethodName × Nat) := lw_privs_1 ++ (lw_privs_2 ++ (lw_privs_3 ++ (lw_privs_4 ++ (lw_privs_5 ++ (lw_privs_6)))))
def lw_tbl : List Cond := k2_sels lw_privs ++ tables_1
theorem lw_privs_ok : ∀ q ∈ lw_privs, lw_okq q := by
  show ∀ q ∈ lw_privs_1 ++ (lw_privs_2 ++ (lw_privs_3 ++ (lw_privs_4 ++ (lw_privs_5 ++ (lw_privs_6))))), lw_okq q
  exact List.forall_mem_append.mpr ⟨lw_r1, List.forall_mem_append.mpr ⟨lw_r2, List.forall_mem_append.mpr ⟨lw_r3, List.forall_mem_append.mpr ⟨lw_r4, List.forall_mem_append.mpr ⟨lw_r5, lw_r6⟩⟩⟩⟩⟩
end
section
def RX0 : String := "TermMachine$Dictionary"
def TX0 : u_T := fun k => match k with
  | 0 => ("TermMachine$Dictionary", "terms", "LTermMachine$Terms;", true)
  | 1 => ("TermMachine$Dictionary", "machine", "LTermMachine$Machine;", true)
  | _ => ("TermMachine$Dictionary", "open", "Z", false)
def tyX0 : Nat → FieldType := fun k => match k with
  | 0 => .object "TermMachine$Terms"
  | 1 => .object "TermMachine$Machine"
  | _ => .boolean
def RX1 : String := "TermMachine$Machine"
def TX1 : u_T := fun k => match k with
  | 0 => ("TermMachine$Machine", "firstArc", "[I", true)
  | 1 => ("TermMachine$Machine", "lastOutput", "[J", true)
  | 2 => ("TermMachine$Machine", "restRows", "[I", true)
  | 3 => ("TermMachine$Machine", "arcSign", "[I", true)
  | 4 => ("TermMachine$Machine", "arcState", "[I", true)
  | 5 => ("TermMachine$Machine", "arcOutput", "[J", true)
  | 6 => ("TermMachine$Machine", "least", "J", false)
  | 7 => ("TermMachine$Machine", "states", "I", false)
  | 8 => ("TermMachine$Machine", "arcs", "I", false)
  | 9 => ("TermMachine$Machine", "finals", "I", false)
  | _ => ("TermMachine$Machine", "beginnings", "I", false)
def tyX1 : Nat → FieldType := fun k => match k with
  | 0 => .array .int
  | 1 => .array .long
  | 2 => .array .int
  | 3 => .array .int
  | 4 => .array .int
  | 5 => .array .long
  | 6 => .long
  | 7 => .int
  | 8 => .int
  | 9 => .int
  | _ => .int
def RX2 : String := "TermMachine$NearWord"
def TX2 : u_T := fun k => match k with
  | 0 => ("TermMachine$NearWord", "steps", "[[I", true)
  | 1 => ("TermMachine$NearWord", "word", "LTermMachine$Signs;", false)
  | _ => ("TermMachine$NearWord", "most", "I", false)
def tyX2 : Nat → FieldType := fun k => match k with
  | 0 => .array (.array .int)
  | 1 => .object "TermMachine$Signs"
  | _ => .int
def RX3 : String := "TermMachine$Packing"
def TX3 : u_T := fun k => match k with
  | 0 => ("TermMachine$Packing", "path", "[I", true)
  | 1 => ("TermMachine$Packing", "stateAt", "[I", true)
  | 2 => ("TermMachine$Packing", "arcAt", "[I", true)
  | 3 => ("TermMachine$Packing", "sumAt", "[J", true)
  | _ => ("TermMachine$Packing", "place", "I", false)
def tyX3 : Nat → FieldType := fun k => match k with
  | 0 => .array .int
  | 1 => .array .int
  | 2 => .array .int
  | 3 => .array .long
  | _ => .int
def RX4 : String := "TermMachine$Part"
def TX4 : u_T := fun k => match k with
  | 0 => ("TermMachine$Part", "bare", "Z", false)
  | 1 => ("TermMachine$Part", "first", "I", false)
  | _ => ("TermMachine$Part", "last", "I", false)
def tyX4 : Nat → FieldType := fun k => match k with
  | 0 => .boolean
  | 1 => .int
  | _ => .int
def RX5 : String := "TermMachine$Pattern"
def TX5 : u_T := fun k => match k with
  | 0 => ("TermMachine$Pattern", "takers", "[I", true)
  | 1 => ("TermMachine$Pattern", "follow", "[I", true)
  | 2 => ("TermMachine$Pattern", "inSet", "[I", true)
  | 3 => ("TermMachine$Pattern", "choices", "[LTermMachine$Part;", true)
  | 4 => ("TermMachine$Pattern", "sequences", "[LTermMachine$Part;", true)
  | 5 => ("TermMachine$Pattern", "piece", "LTermMachine$Part;", true)
  | 6 => ("TermMachine$Pattern", "pieceWaits", "Z", false)
  | 7 => ("TermMachine$Pattern", "depth", "I", false)
  | 8 => ("TermMachine$Pattern", "places", "I", false)
  | _ => ("TermMachine$Pattern", "wrong", "I", false)
def tyX5 : Nat → FieldType := fun k => match k with
  | 0 => .array .int
  | 1 => .array .int
  | 2 => .array .int
  | 3 => .array (.object "TermMachine$Part")
  | 4 => .array (.object "TermMachine$Part")
  | 5 => .object "TermMachine$Part"
  | 6 => .boolean
  | 7 => .int
  | 8 => .int
  | _ => .int
def RX6 : String := "TermMachine$Signs"
def TX6 : u_T := fun k => match k with
  | 0 => ("TermMachine$Signs", "held", "[I", true)
  | _ => ("TermMachine$Signs", "size", "I", false)
def tyX6 : Nat → FieldType := fun k => match k with
  | 0 => .array .int
  | _ => .int
def RX7 : String := "TermMachine$Terms"
def TX7 : u_T := fun k => match k with
  | 0 => ("TermMachine$Terms", "lengths", "[I", true)
  | 1 => ("TermMachine$Terms", "signs", "[I", true)
  | 2 => ("TermMachine$Terms", "outs", "[J", true)
  | _ => ("TermMachine$Terms", "size", "I", false)
def tyX7 : Nat → FieldType := fun k => match k with
  | 0 => .array .int
  | 1 => .array .int
  | 2 => .array .long
  | _ => .int
def RX8 : String := "TermMachine$Trie"
def TX8 : u_T := fun k => match k with
  | 0 => ("TermMachine$Trie", "parent", "[I", true)
  | 1 => ("TermMachine$Trie", "sign", "[I", true)
  | 2 => ("TermMachine$Trie", "rows", "[I", true)
  | 3 => ("TermMachine$Trie", "least", "[J", true)
  | 4 => ("TermMachine$Trie", "ownOut", "[J", true)
  | 5 => ("TermMachine$Trie", "firstChild", "[I", true)
  | 6 => ("TermMachine$Trie", "nextChild", "[I", true)
  | 7 => ("TermMachine$Trie", "alike", "[I", true)
  | 8 => ("TermMachine$Trie", "chain", "[I", true)
  | 9 => ("TermMachine$Trie", "stateOf", "[I", true)
  | 10 => ("TermMachine$Trie", "shown", "[I", true)
  | 11 => ("TermMachine$Trie", "heads", "[I", true)
  | 12 => ("TermMachine$Trie", "path", "[I", true)
  | 13 => ("TermMachine$Trie", "size", "I", false)
  | _ => ("TermMachine$Trie", "states", "I", false)
def tyX8 : Nat → FieldType := fun k => match k with
  | 0 => .array .int
  | 1 => .array .int
  | 2 => .array .int
  | 3 => .array .long
  | 4 => .array .long
  | 5 => .array .int
  | 6 => .array .int
  | 7 => .array .int
  | 8 => .array .int
  | 9 => .array .int
  | 10 => .array .int
  | 11 => .array .int
  | 12 => .array .int
  | 13 => .int
  | _ => .int
def RX9 : String := "TermMachine$Walk"
def TX9 : u_T := fun k => match k with
  | 0 => ("TermMachine$Walk", "dictionary", "I", false)
  | 1 => ("TermMachine$Walk", "change", "I", false)
  | 2 => ("TermMachine$Walk", "number", "I", false)
  | _ => ("TermMachine$Walk", "stride", "I", false)
def tyX9 : Nat → FieldType := fun k => match k with
  | 0 => .int
  | 1 => .int
  | 2 => .int
  | _ => .int
def RX10 : String := "TermMachine"
def TX10 : u_T := fun k => match k with
  | 0 => ("TermMachine", "dictionaries", "[LTermMachine$Dictionary;", true)
  | 1 => ("TermMachine", "changes", "[I", true)
  | 2 => ("TermMachine", "walks", "[LTermMachine$Walk;", true)
  | 3 => ("TermMachine", "trie", "LTermMachine$Trie;", true)
  | 4 => ("TermMachine", "packing", "LTermMachine$Packing;", true)
  | 5 => ("TermMachine", "pattern", "LTermMachine$Pattern;", true)
  | 6 => ("TermMachine", "nearWord", "LTermMachine$NearWord;", true)
  | 7 => ("TermMachine", "told", "LTermMachine$Signs;", true)
  | 8 => ("TermMachine", "trial", "LTermMachine$Signs;", true)
  | 9 => ("TermMachine", "found", "[I", true)
  | 10 => ("TermMachine", "foundSize", "I", false)
  | 11 => ("TermMachine", "faultPlace", "I", false)
  | 12 => ("TermMachine", "collected", "LTermMachine$Signs;", false)
  | 13 => ("TermMachine", "usedUp", "LTermMachine$Signs;", false)
  | _ => ("TermMachine", "spare", "LTermMachine$Dictionary;", false)
def tyX10 : Nat → FieldType := fun k => match k with
  | 0 => .array (.object "TermMachine$Dictionary")
  | 1 => .array .int
  | 2 => .array (.object "TermMachine$Walk")
  | 3 => .object "TermMachine$Trie"
  | 4 => .object "TermMachine$Packing"
  | 5 => .object "TermMachine$Pattern"
  | 6 => .object "TermMachine$NearWord"
  | 7 => .object "TermMachine$Signs"
  | 8 => .object "TermMachine$Signs"
  | 9 => .array .int
  | 10 => .int
  | 11 => .int
  | 12 => .object "TermMachine$Signs"
  | 13 => .object "TermMachine$Signs"
  | _ => .object "TermMachine$Dictionary"
def RX11 : String := "TermMachineModel"
def TX11 : u_T := fun k => match k with
  | 0 => ("TermMachineModel", "row", "[B", true)
  | 1 => ("TermMachineModel", "collected", "I", false)
  | 2 => ("TermMachineModel", "signs", "[B", true)
  | 3 => ("TermMachineModel", "sizes", "[I", true)
  | 4 => ("TermMachineModel", "outs", "[J", true)
  | 5 => ("TermMachineModel", "many", "[I", true)
  | 6 => ("TermMachineModel", "isOpen", "[Z", true)
  | 7 => ("TermMachineModel", "ages", "[I", true)
  | 8 => ("TermMachineModel", "met", "[I", true)
  | 9 => ("TermMachineModel", "metMany", "I", false)
  | 10 => ("TermMachineModel", "faultPlace", "I", false)
  | 11 => ("TermMachineModel", "packed", "[B", true)
  | 12 => ("TermMachineModel", "packedSize", "I", false)
  | 13 => ("TermMachineModel", "walkOf", "[I", true)
  | 14 => ("TermMachineModel", "walkAge", "[I", true)
  | 15 => ("TermMachineModel", "walkAt", "[I", true)
  | 16 => ("TermMachineModel", "walkBack", "[Z", true)
  | 17 => ("TermMachineModel", "beginnings", "I", false)
  | 18 => ("TermMachineModel", "first", "[I", true)
  | 19 => ("TermMachineModel", "last", "[I", true)
  | 20 => ("TermMachineModel", "deep", "[I", true)
  | 21 => ("TermMachineModel", "least", "[J", true)
  | 22 => ("TermMachineModel", "sums", "[J", true)
  | 23 => ("TermMachineModel", "stateOf", "[I", true)
  | 24 => ("TermMachineModel", "stands", "[I", true)
  | 25 => ("TermMachineModel", "states", "I", false)
  | 26 => ("TermMachineModel", "stepFrom", "[I", true)
  | 27 => ("TermMachineModel", "stepTo", "[I", true)
  | 28 => ("TermMachineModel", "stepSet", "[I", true)
  | 29 => ("TermMachineModel", "steps", "I", false)
  | 30 => ("TermMachineModel", "spots", "I", false)
  | 31 => ("TermMachineModel", "sets", "[Z", true)
  | 32 => ("TermMachineModel", "setMany", "I", false)
  | 33 => ("TermMachineModel", "at", "I", false)
  | 34 => ("TermMachineModel", "size", "I", false)
  | 35 => ("TermMachineModel", "wrong", "I", false)
  | 36 => ("TermMachineModel", "end", "I", false)
  | 37 => ("TermMachineModel", "altFrom", "[I", true)
  | 38 => ("TermMachineModel", "altTo", "[I", true)
  | 39 => ("TermMachineModel", "sequence", "[I", true)
  | 40 => ("TermMachineModel", "pieceBegin", "[I", true)
  | 41 => ("TermMachineModel", "now", "[Z", true)
  | 42 => ("TermMachineModel", "then", "[Z", true)
  | 43 => ("TermMachineModel", "board", "[Z", true)
  | 44 => ("TermMachineModel", "cost", "[I", true)
  | 45 => ("TermMachineModel", "draft", "[B", true)
  | 46 => ("TermMachineModel", "readLast", "[J", true)
  | 47 => ("TermMachineModel", "readArc", "[I", true)
  | 48 => ("TermMachineModel", "arcSign", "[I", true)
  | 49 => ("TermMachineModel", "arcState", "[I", true)
  | 50 => ("TermMachineModel", "arcOut", "[J", true)
  | 51 => ("TermMachineModel", "arcs", "I", false)
  | 52 => ("TermMachineModel", "isWrong", "Z", false)
  | 53 => ("TermMachineModel", "pathState", "[I", true)
  | 54 => ("TermMachineModel", "pathArc", "[I", true)
  | 55 => ("TermMachineModel", "pathOut", "[J", true)
  | _ => ("TermMachineModel", "word", "[B", true)
def tyX11 : Nat → FieldType := fun k => match k with
  | 0 => .array .byte
  | 1 => .int
  | 2 => .array .byte
  | 3 => .array .int
  | 4 => .array .long
  | 5 => .array .int
  | 6 => .array .boolean
  | 7 => .array .int
  | 8 => .array .int
  | 9 => .int
  | 10 => .int
  | 11 => .array .byte
  | 12 => .int
  | 13 => .array .int
  | 14 => .array .int
  | 15 => .array .int
  | 16 => .array .boolean
  | 17 => .int
  | 18 => .array .int
  | 19 => .array .int
  | 20 => .array .int
  | 21 => .array .long
  | 22 => .array .long
  | 23 => .array .int
  | 24 => .array .int
  | 25 => .int
  | 26 => .array .int
  | 27 => .array .int
  | 28 => .array .int
  | 29 => .int
  | 30 => .int
  | 31 => .array .boolean
  | 32 => .int
  | 33 => .int
  | 34 => .int
  | 35 => .int
  | 36 => .int
  | 37 => .array .int
  | 38 => .array .int
  | 39 => .array .int
  | 40 => .array .int
  | 41 => .array .boolean
  | 42 => .array .boolean
  | 43 => .array .boolean
  | 44 => .array .int
  | 45 => .array .byte
  | 46 => .array .long
  | 47 => .array .int
  | 48 => .array .int
  | 49 => .array .int
  | 50 => .array .long
  | 51 => .int
  | 52 => .boolean
  | 53 => .array .int
  | 54 => .array .int
  | 55 => .array .long
  | _ => .array .byte
def RL : String := "TermMachineLaw"
def RJ9 : String := "java/lang/Math"
def RJ7 : String := "java/util/Arrays"
abbrev b_X8_init : ByteArray := prog_10_method_1_code
def y_X8_init : MethodName := ⟨RX8, "<init>", "()V"⟩
abbrev b_X3_init : ByteArray := prog_5_method_1_code
def y_X3_init : MethodName := ⟨RX3, "<init>", "()V"⟩
abbrev b_X4_init : ByteArray := prog_6_method_1_code
def y_X4_init : MethodName := ⟨RX4, "<init>", "()V"⟩
abbrev b_X5_init : ByteArray := prog_7_method_1_code
def y_X5_init : MethodName := ⟨RX5, "<init>", "()V"⟩
abbrev b_X2_init : ByteArray := prog_4_method_1_code
def y_X2_init : MethodName := ⟨RX2, "<init>", "()V"⟩
abbrev b_J_max : ByteArray := prog_14_method_65_code
def y_J_max : MethodName := ⟨RJ9, "max", "(II)I"⟩
abbrev b_X6_init : ByteArray := prog_8_method_1_code
def y_X6_init : MethodName := ⟨RX6, "<init>", "(I)V"⟩
abbrev b_X7_init : ByteArray := prog_9_method_1_code
def y_X7_init : MethodName := ⟨RX7, "<init>", "()V"⟩
abbrev b_X1_clear : ByteArray := prog_3_method_2_code
def y_X1_clear : MethodName := ⟨RX1, "clear", "(JI)V"⟩
abbrev b_X1_putState : ByteArray := prog_3_method_3_code
def y_X1_putState : MethodName := ⟨RX1, "putState", "(JI)Z"⟩
abbrev b_X1_init : ByteArray := prog_3_method_1_code
def y_X1_init : MethodName := ⟨RX1, "<init>", "()V"⟩
abbrev b_X0_init : ByteArray := prog_2_method_1_code
def y_X0_init : MethodName := ⟨RX0, "<init>", "()V"⟩
abbrev b_X9_init : ByteArray := prog_11_method_1_code
def y_X9_init : MethodName := ⟨RX9, "<init>", "()V"⟩
abbrev b_X10_init : ByteArray := prog_1_method_1_code
def y_X10_init : MethodName := ⟨RX10, "<init>", "()V"⟩
abbrev b_X11_init : ByteArray := prog_13_method_1_code
def y_X11_init : MethodName := ⟨RX11, "<init>", "()V"⟩
abbrev b_X6_put : ByteArray := prog_8_method_3_code
def y_X6_put : MethodName := ⟨RX6, "put", "(I)V"⟩
abbrev b_X10_collect : ByteArray := prog_1_method_2_code
def y_X10_collect : MethodName := ⟨RX10, "collect", "(JI)I"⟩
abbrev b_X11_isIn : ByteArray := prog_13_method_4_code
def y_X11_isIn : MethodName := ⟨RX11, "isIn", "(JJJ)Z"⟩
abbrev b_X11_collect : ByteArray := prog_13_method_5_code
def y_X11_collect : MethodName := ⟨RX11, "collect", "(JI)I"⟩
abbrev b_X6_clear : ByteArray := prog_8_method_2_code
def y_X6_clear : MethodName := ⟨RX6, "clear", "()V"⟩
abbrev b_X10_takeCollected : ByteArray := prog_1_method_28_code
def y_X10_takeCollected : MethodName := ⟨RX10, "takeCollected", "()LTermMachine$Signs;"⟩
abbrev b_X10_forget : ByteArray := prog_1_method_3_code
def y_X10_forget : MethodName := ⟨RX10, "forget", "()I"⟩
abbrev b_X11_forget : ByteArray := prog_13_method_6_code
def y_X11_forget : MethodName := ⟨RX11, "forget", "()I"⟩
abbrev b_X10_isDictionary : ByteArray := prog_1_method_26_code
def y_X10_isDictionary : MethodName := ⟨RX10, "isDictionary", "(I)Z"⟩
abbrev b_X7_clear : ByteArray := prog_9_method_2_code
def y_X7_clear : MethodName := ⟨RX7, "clear", "()V"⟩
abbrev b_X10_begin : ByteArray := prog_1_method_4_code
def y_X10_begin : MethodName := ⟨RX10, "begin", "(I)I"⟩
abbrev b_X11_isDictionary : ByteArray := prog_13_method_12_code
def y_X11_isDictionary : MethodName := ⟨RX11, "isDictionary", "(I)Z"⟩
abbrev b_X11_begin : ByteArray := prog_13_method_13_code
def y_X11_begin : MethodName := ⟨RX11, "begin", "(I)I"⟩
abbrev b_X7_has : ByteArray := prog_9_method_4_code
def y_X7_has : MethodName := ⟨RX7, "has", "(I)Z"⟩
abbrev b_X7_lengthAt : ByteArray := prog_9_method_5_code
def y_X7_lengthAt : MethodName := ⟨RX7, "lengthAt", "(I)I"⟩
abbrev b_X7_signAt : ByteArray := prog_9_method_6_code
def y_X7_signAt : MethodName := ⟨RX7, "signAt", "(II)I"⟩
abbrev b_X6_at : ByteArray := prog_8_method_4_code
def y_X6_at : MethodName := ⟨RX6, "at", "(I)I"⟩
abbrev b_X7_compareWith : ByteArray := prog_9_method_9_code
def y_X7_compareWith : MethodName := ⟨RX7, "compareWith", "(ILTermMachine$Signs;)I"⟩
abbrev b_X7_append : ByteArray := prog_9_method_3_code
def y_X7_append : MethodName := ⟨RX7, "append", "([IIIJ)Z"⟩
abbrev b_X10_add : ByteArray := prog_1_method_5_code
def y_X10_add : MethodName := ⟨RX10, "add", "(IJ)I"⟩
abbrev b_X11_letter : ByteArray := prog_13_method_7_code
def y_X11_letter : MethodName := ⟨RX11, "letter", "(III)I"⟩
abbrev b_X11_compare : ByteArray := prog_13_method_8_code
def y_X11_compare : MethodName := ⟨RX11, "compare", "(III)I"⟩
abbrev b_X11_append : ByteArray := prog_13_method_11_code
def y_X11_append : MethodName := ⟨RX11, "append", "(I[BIIJ)V"⟩
abbrev b_X11_add : ByteArray := prog_13_method_14_code
def y_X11_add : MethodName := ⟨RX11, "add", "(IJ)I"⟩
abbrev b_J_min : ByteArray := prog_14_method_69_code
def y_J_min : MethodName := ⟨RJ9, "min", "(II)I"⟩
abbrev b_X8_grow : ByteArray := prog_10_method_5_code
def y_X8_grow : MethodName := ⟨RX8, "grow", "(IIJ)I"⟩
abbrev b_X8_sharedWithLast : ByteArray := prog_10_method_4_code
def y_X8_sharedWithLast : MethodName := ⟨RX8, "sharedWithLast", "(LTermMachine$Terms;II)I"⟩
abbrev b_X7_outAt : ByteArray := prog_9_method_7_code
def y_X7_outAt : MethodName := ⟨RX7, "outAt", "(I)J"⟩
abbrev b_J_minl : ByteArray := prog_14_method_70_code
def y_J_minl : MethodName := ⟨RJ9, "min", "(JJ)J"⟩
abbrev b_X8_countAlongPath : ByteArray := prog_10_method_6_code
def y_X8_countAlongPath : MethodName := ⟨RX8, "countAlongPath", "(IJ)V"⟩
abbrev b_X8_plant : ByteArray := prog_10_method_3_code
def y_X8_plant : MethodName := ⟨RX8, "plant", "(LTermMachine$Terms;)V"⟩
abbrev b_X8_lastOutput : ByteArray := prog_10_method_11_code
def y_X8_lastOutput : MethodName := ⟨RX8, "lastOutput", "(I)J"⟩
abbrev b_X8_output : ByteArray := prog_10_method_12_code
def y_X8_output : MethodName := ⟨RX8, "output", "(II)J"⟩
abbrev b_X8_mixed : ByteArray := prog_10_method_10_code
def y_X8_mixed : MethodName := ⟨RX8, "mixed", "(I)I"⟩
abbrev b_X8_haveSameRest : ByteArray := prog_10_method_9_code
def y_X8_haveSameRest : MethodName := ⟨RX8, "haveSameRest", "(II)Z"⟩
abbrev b_X8_firstAlike : ByteArray := prog_10_method_8_code
def y_X8_firstAlike : MethodName := ⟨RX8, "firstAlike", "(II)I"⟩
abbrev b_X8_findAlike : ByteArray := prog_10_method_7_code
def y_X8_findAlike : MethodName := ⟨RX8, "findAlike", "()V"⟩
abbrev b_X8_numberStates : ByteArray := prog_10_method_13_code
def y_X8_numberStates : MethodName := ⟨RX8, "numberStates", "()V"⟩
abbrev b_X1_putArc : ByteArray := prog_3_method_4_code
def y_X1_putArc : MethodName := ⟨RX1, "putArc", "(IIJ)Z"⟩
abbrev b_X8_draw : ByteArray := prog_10_method_14_code
def y_X8_draw : MethodName := ⟨RX8, "draw", "(LTermMachine$Machine;)V"⟩
abbrev b_X8_build : ByteArray := prog_10_method_2_code
def y_X8_build : MethodName := ⟨RX8, "build", "(LTermMachine$Dictionary;)V"⟩
abbrev b_X10_done : ByteArray := prog_1_method_6_code
def y_X10_done : MethodName := ⟨RX10, "done", "(I)I"⟩
abbrev b_X11_lesser : ByteArray := prog_13_method_2_code
def y_X11_lesser : MethodName := ⟨RX11, "lesser", "(JJ)J"⟩
abbrev b_X11_put : ByteArray := prog_13_method_18_code
def y_X11_put : MethodName := ⟨RX11, "put", "(IIII)V"⟩
abbrev b_X11_isShared : ByteArray := prog_13_method_17_code
def y_X11_isShared : MethodName := ⟨RX11, "isShared", "(IIII)Z"⟩
abbrev b_X11_isSame : ByteArray := prog_13_method_19_code
def y_X11_isSame : MethodName := ⟨RX11, "isSame", "(III)Z"⟩
abbrev b_X11_build : ByteArray := prog_13_method_16_code
def y_X11_build : MethodName := ⟨RX11, "build", "(I)V"⟩
abbrev b_X11_done : ByteArray := prog_13_method_15_code
def y_X11_done : MethodName := ⟨RX11, "done", "(I)I"⟩
abbrev b_X7_leastNotBelow : ByteArray := prog_9_method_12_code
def y_X7_leastNotBelow : MethodName := ⟨RX7, "leastNotBelow", "(LTermMachine$Signs;)I"⟩
abbrev b_X7_numberOf : ByteArray := prog_9_method_14_code
def y_X7_numberOf : MethodName := ⟨RX7, "numberOf", "(LTermMachine$Signs;)I"⟩
abbrev b_X10_find : ByteArray := prog_1_method_7_code
def y_X10_find : MethodName := ⟨RX10, "find", "(I)J"⟩
abbrev b_X11_place : ByteArray := prog_13_method_24_code
def y_X11_place : MethodName := ⟨RX11, "place", "(II)I"⟩
abbrev b_X11_find : ByteArray := prog_13_method_25_code
def y_X11_find : MethodName := ⟨RX11, "find", "(I)J"⟩
abbrev b_X1_has : ByteArray := prog_3_method_5_code
def y_X1_has : MethodName := ⟨RX1, "has", "(I)Z"⟩
abbrev b_X1_arcsOf : ByteArray := prog_3_method_7_code
def y_X1_arcsOf : MethodName := ⟨RX1, "arcsOf", "(I)I"⟩
abbrev b_X1_placeOfArc : ByteArray := prog_3_method_8_code
def y_X1_placeOfArc : MethodName := ⟨RX1, "placeOfArc", "(II)I"⟩
abbrev b_X1_tellArc : ByteArray := prog_3_method_10_code
def y_X1_tellArc : MethodName := ⟨RX1, "tellArc", "(III)J"⟩
abbrev b_X1_stateBehindSign : ByteArray := prog_3_method_12_code
def y_X1_stateBehindSign : MethodName := ⟨RX1, "stateBehindSign", "(II)I"⟩
abbrev b_X1_stateBehind : ByteArray := prog_3_method_11_code
def y_X1_stateBehind : MethodName := ⟨RX1, "stateBehind", "(LTermMachine$Signs;)I"⟩
abbrev b_X10_state : ByteArray := prog_1_method_8_code
def y_X10_state : MethodName := ⟨RX10, "state", "(I)I"⟩
abbrev b_X11_isBeginning : ByteArray := prog_13_method_10_code
def y_X11_isBeginning : MethodName := ⟨RX11, "isBeginning", "(III)Z"⟩
abbrev b_X11_state : ByteArray := prog_13_method_26_code
def y_X11_state : MethodName := ⟨RX11, "state", "(I)I"⟩
abbrev b_X7_longest : ByteArray := prog_9_method_8_code
def y_X7_longest : MethodName := ⟨RX7, "longest", "()I"⟩
abbrev b_X10_count : ByteArray := prog_1_method_9_code
def y_X10_count : MethodName := ⟨RX10, "count", "(II)I"⟩
abbrev b_X11_isFinal : ByteArray := prog_13_method_20_code
def y_X11_isFinal : MethodName := ⟨RX11, "isFinal", "(II)Z"⟩
abbrev b_X11_beginningOf : ByteArray := prog_13_method_22_code
def y_X11_beginningOf : MethodName := ⟨RX11, "beginningOf", "(III)I"⟩
abbrev b_X11_child : ByteArray := prog_13_method_21_code
def y_X11_child : MethodName := ⟨RX11, "child", "(III)I"⟩
abbrev b_X11_children : ByteArray := prog_13_method_23_code
def y_X11_children : MethodName := ⟨RX11, "children", "(II)I"⟩
abbrev b_X11_greater : ByteArray := prog_13_method_3_code
def y_X11_greater : MethodName := ⟨RX11, "greater", "(JJ)J"⟩
abbrev b_X11_count : ByteArray := prog_13_method_27_code
def y_X11_count : MethodName := ⟨RX11, "count", "(II)I"⟩
abbrev b_X1_tellState : ByteArray := prog_3_method_9_code
def y_X1_tellState : MethodName := ⟨RX1, "tellState", "(II)J"⟩
abbrev b_X10_arc : ByteArray := prog_1_method_10_code
def y_X10_arc : MethodName := ⟨RX10, "arc", "(IIII)J"⟩
abbrev b_X11_arc : ByteArray := prog_13_method_28_code
def y_X11_arc : MethodName := ⟨RX11, "arc", "(IIII)J"⟩
abbrev b_X10_number : ByteArray := prog_1_method_11_code
def y_X10_number : MethodName := ⟨RX10, "number", "(I)I"⟩
abbrev b_X11_number : ByteArray := prog_13_method_29_code
def y_X11_number : MethodName := ⟨RX11, "number", "(I)I"⟩
abbrev b_X10_term : ByteArray := prog_1_method_12_code
def y_X10_term : MethodName := ⟨RX10, "term", "(III)I"⟩
abbrev b_X11_term : ByteArray := prog_13_method_30_code
def y_X11_term : MethodName := ⟨RX11, "term", "(III)I"⟩
abbrev b_X10_out : ByteArray := prog_1_method_13_code
def y_X10_out : MethodName := ⟨RX10, "out", "(II)J"⟩
abbrev b_X11_out : ByteArray := prog_13_method_31_code
def y_X11_out : MethodName := ⟨RX11, "out", "(II)J"⟩
abbrev b_X10_ceiling : ByteArray := prog_1_method_14_code
def y_X10_ceiling : MethodName := ⟨RX10, "ceiling", "(I)I"⟩
abbrev b_X11_above : ByteArray := prog_13_method_32_code
def y_X11_above : MethodName := ⟨RX11, "above", "(II)I"⟩
abbrev b_X11_ceiling : ByteArray := prog_13_method_33_code
def y_X11_ceiling : MethodName := ⟨RX11, "ceiling", "(I)I"⟩
abbrev b_X7_beginsWith : ByteArray := prog_9_method_11_code
def y_X7_beginsWith : MethodName := ⟨RX7, "beginsWith", "(ILTermMachine$Signs;)Z"⟩
abbrev b_X10_putFound : ByteArray := prog_1_method_29_code
def y_X10_putFound : MethodName := ⟨RX10, "putFound", "(I)V"⟩
abbrev b_X10_prefix : ByteArray := prog_1_method_15_code
def y_X10_prefix : MethodName := ⟨RX10, "prefix", "(I)I"⟩
abbrev b_X11_gather : ByteArray := prog_13_method_34_code
def y_X11_gather : MethodName := ⟨RX11, "gather", "(II)V"⟩
abbrev b_X11_prefix : ByteArray := prog_13_method_35_code
def y_X11_prefix : MethodName := ⟨RX11, "prefix", "(I)I"⟩
abbrev b_X10_rankFound : ByteArray := prog_1_method_30_code
def y_X10_rankFound : MethodName := ⟨RX10, "rankFound", "(LTermMachine$Terms;II)V"⟩
abbrev b_X10_cheapest : ByteArray := prog_1_method_16_code
def y_X10_cheapest : MethodName := ⟨RX10, "cheapest", "(II)I"⟩
abbrev b_X11_cheapest : ByteArray := prog_13_method_36_code
def y_X11_cheapest : MethodName := ⟨RX11, "cheapest", "(II)I"⟩
abbrev b_J_fill : ByteArray := prog_15_method_103_code
def y_J_fill : MethodName := ⟨RJ7, "fill", "([II)V"⟩
abbrev b_X4_become : ByteArray := prog_6_method_2_code
def y_X4_become : MethodName := ⟨RX4, "become", "(ZII)V"⟩
abbrev b_X5_startLevel : ByteArray := prog_7_method_5_code
def y_X5_startLevel : MethodName := ⟨RX5, "startLevel", "()V"⟩
abbrev b_X5_start : ByteArray := prog_7_method_4_code
def y_X5_start : MethodName := ⟨RX5, "start", "()V"⟩
abbrev b_X5_lead : ByteArray := prog_7_method_18_code
def y_X5_lead : MethodName := ⟨RX5, "lead", "(II)V"⟩
abbrev b_X5_repeat : ByteArray := prog_7_method_17_code
def y_X5_repeat : MethodName := ⟨RX5, "repeat", "(I)V"⟩
abbrev b_X5_settlePiece : ByteArray := prog_7_method_19_code
def y_X5_settlePiece : MethodName := ⟨RX5, "settlePiece", "()V"⟩
abbrev b_X5_readRepeat : ByteArray := prog_7_method_7_code
def y_X5_readRepeat : MethodName := ⟨RX5, "readRepeat", "(II)V"⟩
abbrev b_X5_settleSequence : ByteArray := prog_7_method_20_code
def y_X5_settleSequence : MethodName := ⟨RX5, "settleSequence", "()V"⟩
abbrev b_X5_openBracket : ByteArray := prog_7_method_10_code
def y_X5_openBracket : MethodName := ⟨RX5, "openBracket", "(I)V"⟩
abbrev b_X5_closeBracket : ByteArray := prog_7_method_11_code
def y_X5_closeBracket : MethodName := ⟨RX5, "closeBracket", "(I)V"⟩
abbrev b_X5_newPlace : ByteArray := prog_7_method_16_code
def y_X5_newPlace : MethodName := ⟨RX5, "newPlace", "()I"⟩
abbrev b_X5_putPlaceOfSet : ByteArray := prog_7_method_15_code
def y_X5_putPlaceOfSet : MethodName := ⟨RX5, "putPlaceOfSet", "(I)V"⟩
abbrev b_X5_pastEscape : ByteArray := prog_7_method_9_code
def y_X5_pastEscape : MethodName := ⟨RX5, "pastEscape", "(LTermMachine$Signs;I)I"⟩
abbrev b_X5_readItem : ByteArray := prog_7_method_13_code
def y_X5_readItem : MethodName := ⟨RX5, "readItem", "(LTermMachine$Signs;I)I"⟩
abbrev b_X5_readSet : ByteArray := prog_7_method_12_code
def y_X5_readSet : MethodName := ⟨RX5, "readSet", "(LTermMachine$Signs;I)I"⟩
abbrev b_X5_putPlace : ByteArray := prog_7_method_14_code
def y_X5_putPlace : MethodName := ⟨RX5, "putPlace", "(II)V"⟩
abbrev b_X5_readPlain : ByteArray := prog_7_method_8_code
def y_X5_readPlain : MethodName := ⟨RX5, "readPlain", "(LTermMachine$Signs;I)I"⟩
abbrev b_X5_readOne : ByteArray := prog_7_method_6_code
def y_X5_readOne : MethodName := ⟨RX5, "readOne", "(LTermMachine$Signs;I)I"⟩
abbrev b_X5_readPattern : ByteArray := prog_7_method_3_code
def y_X5_readPattern : MethodName := ⟨RX5, "readPattern", "(LTermMachine$Signs;)I"⟩
abbrev b_X5_readWild : ByteArray := prog_7_method_2_code
def y_X5_readWild : MethodName := ⟨RX5, "readWild", "(LTermMachine$Signs;)V"⟩
abbrev b_X2_read : ByteArray := prog_4_method_2_code
def y_X2_read : MethodName := ⟨RX2, "read", "(LTermMachine$Signs;I)V"⟩
abbrev b_J_abs : ByteArray := prog_14_method_59_code
def y_J_abs : MethodName := ⟨RJ9, "abs", "(I)I"⟩
abbrev b_X2_fewest : ByteArray := prog_4_method_4_code
def y_X2_fewest : MethodName := ⟨RX2, "fewest", "(LTermMachine$Terms;III)I"⟩
abbrev b_X2_accepts : ByteArray := prog_4_method_3_code
def y_X2_accepts : MethodName := ⟨RX2, "accepts", "(LTermMachine$Terms;I)Z"⟩
abbrev b_X5_takersOf : ByteArray := prog_7_method_22_code
def y_X5_takersOf : MethodName := ⟨RX5, "takersOf", "(I)I"⟩
abbrev b_X5_reachedFrom : ByteArray := prog_7_method_23_code
def y_X5_reachedFrom : MethodName := ⟨RX5, "reachedFrom", "(I)I"⟩
abbrev b_X5_accepts : ByteArray := prog_7_method_21_code
def y_X5_accepts : MethodName := ⟨RX5, "accepts", "(LTermMachine$Terms;I)Z"⟩
abbrev b_X10_keepAccepted : ByteArray := prog_1_method_31_code
def y_X10_keepAccepted : MethodName := ⟨RX10, "keepAccepted", "(LTermMachine$Terms;Z)I"⟩
abbrev b_X10_meet : ByteArray := prog_1_method_17_code
def y_X10_meet : MethodName := ⟨RX10, "meet", "(II)I"⟩
abbrev b_X11_spot : ByteArray := prog_13_method_39_code
def y_X11_spot : MethodName := ⟨RX11, "spot", "()I"⟩
abbrev b_X11_step : ByteArray := prog_13_method_38_code
def y_X11_step : MethodName := ⟨RX11, "step", "(III)V"⟩
abbrev b_X11_openSequence : ByteArray := prog_13_method_43_code
def y_X11_openSequence : MethodName := ⟨RX11, "openSequence", "(I)V"⟩
abbrev b_X11_openAlt : ByteArray := prog_13_method_42_code
def y_X11_openAlt : MethodName := ⟨RX11, "openAlt", "(II)V"⟩
abbrev b_X11_here : ByteArray := prog_13_method_40_code
def y_X11_here : MethodName := ⟨RX11, "here", "()I"⟩
abbrev b_X11_fail : ByteArray := prog_13_method_41_code
def y_X11_fail : MethodName := ⟨RX11, "fail", "(I)V"⟩
abbrev b_X11_closePiece : ByteArray := prog_13_method_44_code
def y_X11_closePiece : MethodName := ⟨RX11, "closePiece", "(III)V"⟩
abbrev b_X11_fill : ByteArray := prog_13_method_47_code
def y_X11_fill : MethodName := ⟨RX11, "fill", "(II)V"⟩
abbrev b_X11_oneOf : ByteArray := prog_13_method_46_code
def y_X11_oneOf : MethodName := ⟨RX11, "oneOf", "(I)I"⟩
abbrev b_X11_setSign : ByteArray := prog_13_method_49_code
def y_X11_setSign : MethodName := ⟨RX11, "setSign", "()I"⟩
abbrev b_X11_parseSet : ByteArray := prog_13_method_50_code
def y_X11_parseSet : MethodName := ⟨RX11, "parseSet", "()V"⟩
abbrev b_X11_parseAtom : ByteArray := prog_13_method_48_code
def y_X11_parseAtom : MethodName := ⟨RX11, "parseAtom", "(I)I"⟩
abbrev b_X11_parseAll : ByteArray := prog_13_method_45_code
def y_X11_parseAll : MethodName := ⟨RX11, "parseAll", "()V"⟩
abbrev b_X11_parsePattern : ByteArray := prog_13_method_51_code
def y_X11_parsePattern : MethodName := ⟨RX11, "parsePattern", "(I)V"⟩
abbrev b_X11_isWild : ByteArray := prog_13_method_54_code
def y_X11_isWild : MethodName := ⟨RX11, "isWild", "(III)Z"⟩
abbrev b_X11_close : ByteArray := prog_13_method_52_code
def y_X11_close : MethodName := ⟨RX11, "close", "([Z)V"⟩
abbrev b_X11_isPattern : ByteArray := prog_13_method_53_code
def y_X11_isPattern : MethodName := ⟨RX11, "isPattern", "(II)Z"⟩
abbrev b_X11_distance : ByteArray := prog_13_method_55_code
def y_X11_distance : MethodName := ⟨RX11, "distance", "(III)I"⟩
abbrev b_X11_meet : ByteArray := prog_13_method_56_code
def y_X11_meet : MethodName := ⟨RX11, "meet", "(II)I"⟩
abbrev b_X10_fault : ByteArray := prog_1_method_18_code
def y_X10_fault : MethodName := ⟨RX10, "fault", "()I"⟩
abbrev b_X11_fault : ByteArray := prog_13_method_57_code
def y_X11_fault : MethodName := ⟨RX11, "fault", "()I"⟩
abbrev b_X10_row : ByteArray := prog_1_method_19_code
def y_X10_row : MethodName := ⟨RX10, "row", "(I)I"⟩
abbrev b_X11_row : ByteArray := prog_13_method_37_code
def y_X11_row : MethodName := ⟨RX11, "row", "(I)I"⟩
abbrev b_X7_compareTerms : ByteArray := prog_9_method_10_code
def y_X7_compareTerms : MethodName := ⟨RX7, "compareTerms", "(LTermMachine$Terms;ILTermMachine$Terms;I)I"⟩
abbrev b_X7_gatherOne : ByteArray := prog_9_method_17_code
def y_X7_gatherOne : MethodName := ⟨RX7, "gatherOne", "(LTermMachine$Terms;IJ)I"⟩
abbrev b_X7_gatherBoth : ByteArray := prog_9_method_16_code
def y_X7_gatherBoth : MethodName := ⟨RX7, "gatherBoth", "(LTermMachine$Terms;IJI)I"⟩
abbrev b_X7_gather : ByteArray := prog_9_method_15_code
def y_X7_gather : MethodName := ⟨RX7, "gather", "(LTermMachine$Terms;LTermMachine$Terms;I)I"⟩
abbrev b_X10_putSpareAt : ByteArray := prog_1_method_32_code
def y_X10_putSpareAt : MethodName := ⟨RX10, "putSpareAt", "(I)V"⟩
abbrev b_X10_join : ByteArray := prog_1_method_20_code
def y_X10_join : MethodName := ⟨RX10, "join", "(IIII)I"⟩
abbrev b_X11_compareTerms : ByteArray := prog_13_method_9_code
def y_X11_compareTerms : MethodName := ⟨RX11, "compareTerms", "(IIII)I"⟩
abbrev b_X11_copy : ByteArray := prog_13_method_58_code
def y_X11_copy : MethodName := ⟨RX11, "copy", "(II)V"⟩
abbrev b_X11_come : ByteArray := prog_13_method_60_code
def y_X11_come : MethodName := ⟨RX11, "come", "(I)V"⟩
abbrev b_X11_join : ByteArray := prog_13_method_59_code
def y_X11_join : MethodName := ⟨RX11, "join", "(IIII)I"⟩
abbrev b_X3_writeNumber : ByteArray := prog_5_method_4_code
def y_X3_writeNumber : MethodName := ⟨RX3, "writeNumber", "(JLTermMachine$Signs;)V"⟩
abbrev b_X1_lastOf : ByteArray := prog_3_method_6_code
def y_X1_lastOf : MethodName := ⟨RX1, "lastOf", "(I)J"⟩
abbrev b_X3_writeState : ByteArray := prog_5_method_3_code
def y_X3_writeState : MethodName := ⟨RX3, "writeState", "(LTermMachine$Machine;ILTermMachine$Signs;)V"⟩
abbrev b_X3_write : ByteArray := prog_5_method_2_code
def y_X3_write : MethodName := ⟨RX3, "write", "(LTermMachine$Machine;LTermMachine$Signs;)V"⟩
abbrev b_X10_packed : ByteArray := prog_1_method_21_code
def y_X10_packed : MethodName := ⟨RX10, "packed", "(I)I"⟩
abbrev b_X11_write : ByteArray := prog_13_method_61_code
def y_X11_write : MethodName := ⟨RX11, "write", "([BIJ)I"⟩
abbrev b_X11_pack : ByteArray := prog_13_method_62_code
def y_X11_pack : MethodName := ⟨RX11, "pack", "(I)I"⟩
abbrev b_X11_packed : ByteArray := prog_13_method_63_code
def y_X11_packed : MethodName := ⟨RX11, "packed", "(I)I"⟩
abbrev b_X10_sign : ByteArray := prog_1_method_22_code
def y_X10_sign : MethodName := ⟨RX10, "sign", "(I)I"⟩
abbrev b_X11_sign : ByteArray := prog_13_method_64_code
def y_X11_sign : MethodName := ⟨RX11, "sign", "(I)I"⟩
abbrev b_X3_readSign : ByteArray := prog_5_method_8_code
def y_X3_readSign : MethodName := ⟨RX3, "readSign", "(LTermMachine$Signs;)I"⟩
abbrev b_X3_readNumber : ByteArray := prog_5_method_9_code
def y_X3_readNumber : MethodName := ⟨RX3, "readNumber", "(LTermMachine$Signs;)J"⟩
abbrev b_X3_readState : ByteArray := prog_5_method_7_code
def y_X3_readState : MethodName := ⟨RX3, "readState", "(LTermMachine$Signs;LTermMachine$Machine;I)Z"⟩
abbrev b_X3_readMachine : ByteArray := prog_5_method_6_code
def y_X3_readMachine : MethodName := ⟨RX3, "readMachine", "(LTermMachine$Signs;LTermMachine$Machine;)Z"⟩
abbrev b_X3_enter : ByteArray := prog_5_method_12_code
def y_X3_enter : MethodName := ⟨RX3, "enter", "(LTermMachine$Machine;LTermMachine$Terms;IIJ)Z"⟩
abbrev b_X3_follow : ByteArray := prog_5_method_11_code
def y_X3_follow : MethodName := ⟨RX3, "follow", "(LTermMachine$Machine;LTermMachine$Terms;I)Z"⟩
abbrev b_X3_listTerms : ByteArray := prog_5_method_10_code
def y_X3_listTerms : MethodName := ⟨RX3, "listTerms", "(LTermMachine$Machine;LTermMachine$Terms;)Z"⟩
abbrev b_X3_read : ByteArray := prog_5_method_5_code
def y_X3_read : MethodName := ⟨RX3, "read", "(LTermMachine$Signs;LTermMachine$Dictionary;)Z"⟩
abbrev b_X6_sameAs : ByteArray := prog_8_method_5_code
def y_X6_sameAs : MethodName := ⟨RX6, "sameAs", "(LTermMachine$Signs;)Z"⟩
abbrev b_X10_load : ByteArray := prog_1_method_23_code
def y_X10_load : MethodName := ⟨RX10, "load", "(I)I"⟩
abbrev b_X11_readByte : ByteArray := prog_13_method_66_code
def y_X11_readByte : MethodName := ⟨RX11, "readByte", "()I"⟩
abbrev b_X11_readNumber : ByteArray := prog_13_method_65_code
def y_X11_readNumber : MethodName := ⟨RX11, "readNumber", "()J"⟩
abbrev b_X11_spellOne : ByteArray := prog_13_method_69_code
def y_X11_spellOne : MethodName := ⟨RX11, "spellOne", "(I)Z"⟩
abbrev b_X11_spell : ByteArray := prog_13_method_68_code
def y_X11_spell : MethodName := ⟨RX11, "spell", "(J)Z"⟩
abbrev b_X11_unpack : ByteArray := prog_13_method_67_code
def y_X11_unpack : MethodName := ⟨RX11, "unpack", "(I)Z"⟩
abbrev b_X11_load : ByteArray := prog_13_method_70_code
def y_X11_load : MethodName := ⟨RX11, "load", "(I)I"⟩
abbrev b_X10_isWalk : ByteArray := prog_1_method_27_code
def y_X10_isWalk : MethodName := ⟨RX10, "isWalk", "(I)Z"⟩
abbrev b_X7_greatestNotAbove : ByteArray := prog_9_method_13_code
def y_X7_greatestNotAbove : MethodName := ⟨RX7, "greatestNotAbove", "(LTermMachine$Signs;)I"⟩
abbrev b_X9_start : ByteArray := prog_11_method_2_code
def y_X9_start : MethodName := ⟨RX9, "start", "(IIII)V"⟩
abbrev b_X10_walk : ByteArray := prog_1_method_24_code
def y_X10_walk : MethodName := ⟨RX10, "walk", "(IIZ)I"⟩
abbrev b_X11_walk : ByteArray := prog_13_method_71_code
def y_X11_walk : MethodName := ⟨RX11, "walk", "(IIZ)I"⟩
abbrev b_X9_step : ByteArray := prog_11_method_3_code
def y_X9_step : MethodName := ⟨RX9, "step", "(I)I"⟩
abbrev b_X10_next : ByteArray := prog_1_method_25_code
def y_X10_next : MethodName := ⟨RX10, "next", "(I)I"⟩
abbrev b_X11_next : ByteArray := prog_13_method_72_code
def y_X11_next : MethodName := ⟨RX11, "next", "(I)I"⟩
abbrev ab_cl : List vw_C := [(RX0, TX0, 3), (RX1, TX1, 11), (RX2, TX2, 3), (RX3, TX3, 5), (RX4, TX4, 3), (RX5, TX5, 10), (RX6, TX6, 2), (RX7, TX7, 4), (RX8, TX8, 15), (RX9, TX9, 4), (RX10, TX10, 15), (RX11, TX11, 57)]
def ab_ty : Nat → Nat → FieldType := fun c => match c with
  | 0 => tyX0
  | 1 => tyX1
  | 2 => tyX2
  | 3 => tyX3
  | 4 => tyX4
  | 5 => tyX5
  | 6 => tyX6
  | 7 => tyX7
  | 8 => tyX8
  | 9 => tyX9
  | 10 => tyX10
  | _ => tyX11
/-- the kinds of a class' fields: 0 int, 1 boolean, 2 long, 3 a reference -/
def ab_fk : Nat → List Nat := fun c => match c with
  | 0 => [3, 3, 1]
  | 1 => [3, 3, 3, 3, 3, 3, 2, 0, 0, 0, 0]
  | 2 => [3, 3, 0]
  | 3 => [3, 3, 3, 3, 0]
  | 4 => [1, 0, 0]
  | 5 => [3, 3, 3, 3, 3, 3, 1, 0, 0, 0]
  | 6 => [3, 0]
  | 7 => [3, 3, 3, 0]
  | 8 => [3, 3, 3, 3, 3, 3, 3, 3, 3, 3, 3, 3, 3, 0, 0]
  | 9 => [0, 0, 0, 0]
  | 10 => [3, 3, 3, 3, 3, 3, 3, 3, 3, 3, 0, 0, 3, 3, 3]
  | 11 => [3, 0, 3, 3, 3, 3, 3, 3, 3, 0, 0, 3, 0, 3, 3, 3, 3, 0, 3, 3, 3, 3, 3, 3, 3, 0, 3, 3, 3, 0, 0, 3, 0, 0, 0, 0, 0, 3, 3, 3, 3, 3, 3, 3, 3, 3, 3, 3, 3, 3, 3, 0, 1, 3, 3, 3, 3]
  | _ => []
def ab_nw : List Cond := [.fieldLinkNest RX5 110 RX4 "bare" "Z" "TermMachine",
  .fieldLinkNest RX5 113 RX4 "first" "I" "TermMachine",
  .fieldLinkNest RX5 116 RX4 "last" "I" "TermMachine",
  .fieldLinkNest RX10 119 RX6 "held" "[I" "TermMachine",
  .fieldLinkNest RX5 38 RX6 "size" "I" "TermMachine",
  .fieldLinkNest RX10 85 RX6 "size" "I" "TermMachine",
  .fieldLinkNest RX2 30 RX6 "size" "I" "TermMachine",
  .fieldLinkNest RX3 106 RX6 "size" "I" "TermMachine",
  .fieldLinkNest RX1 70 RX6 "size" "I" "TermMachine",
  .fieldLinkNest RX7 50 RX6 "size" "I" "TermMachine",
  .fieldLinkNest RX8 80 RX7 "size" "I" "TermMachine",
  .fieldLinkNest RX10 103 RX7 "size" "I" "TermMachine",
  .fieldLinkNest RX3 34 RX1 "least" "J" "TermMachine",
  .fieldLinkNest RX3 44 RX1 "states" "I" "TermMachine",
  .fieldLinkNest RX10 134 RX1 "states" "I" "TermMachine",
  .fieldLinkNest RX10 154 RX1 "arcs" "I" "TermMachine",
  .fieldLinkNest RX10 157 RX1 "finals" "I" "TermMachine",
  .fieldLinkNest RX10 164 RX1 "beginnings" "I" "TermMachine",
  .fieldLinkNest RX8 52 RX0 "terms" "LTermMachine$Terms;" "TermMachine",
  .fieldLinkNest RX10 99 RX0 "terms" "LTermMachine$Terms;" "TermMachine",
  .fieldLinkNest RX3 78 RX0 "terms" "LTermMachine$Terms;" "TermMachine",
  .fieldLinkNest RX8 68 RX0 "machine" "LTermMachine$Machine;" "TermMachine",
  .fieldLinkNest RX3 68 RX0 "machine" "LTermMachine$Machine;" "TermMachine",
  .fieldLinkNest RX10 130 RX0 "machine" "LTermMachine$Machine;" "TermMachine",
  .fieldLinkNest RX10 109 RX0 "open" "Z" "TermMachine",
  .fieldLinkNest RX10 246 RX9 "dictionary" "I" "TermMachine",
  .fieldLinkNest RX10 249 RX9 "change" "I" "TermMachine",
  .methodLinkNest RX10 27 y_X8_init "TermMachine",
  .methodLinkNest RX10 34 y_X3_init "TermMachine",
  .methodLinkNest RX5 30 y_X4_init "TermMachine",
  .methodLinkNest RX10 48 y_X2_init "TermMachine",
  .methodLinkNest RX10 79 y_X0_init "TermMachine",
  .methodLinkNest RX0 9 y_X7_init "TermMachine",
  .methodLinkNest RX10 84 y_X9_init "TermMachine"]
/-- the words that every method carries -/
def ab_ws : List Cond := lw_tbl.filter goodWord
theorem ab_ws_good : ∀ w ∈ ab_ws, (w.onTables && w.keeps) = true ∨ ∃ ty, w = .arrayClass ty := fun w h => good_of_word (List.mem_filter.mp h).2
theorem ab_ws_in : ∀ w ∈ ab_ws, w ∈ lw_tbl := fun w h => (List.mem_filter.mp h).1
theorem ab_good {y : MethodName} {bytes : ByteArray} {n : Nat} {ret : Option FieldType} (h : Cond.code y bytes n ret ∈ ab_ws) : GoodIn ab_ws (.code y bytes n ret :: ab_ws) := fun w hw => (List.mem_cons.mp hw).elim (fun e => e ▸ ⟨h, ab_ws_good _ h⟩) (fun h => ⟨h, ab_ws_good _ h⟩)
theorem ab_nw_in : ∀ w ∈ ab_nw, w ∈ lw_tbl := by decide +kernel
end
section
/-! THE ABSTRACT MACHINE. A state: ints, longs, references by object number and place; the shapes by object number.
Number 0 is null, 1 is the script, from 2 on the cells that the law has made, in their order.
A shape (0, c): an object of class number c; (1, n) int[n]; (2, n) long[n]; (3, n) byte[n]; (4, n) boolean[n]; (5, n) int[n][]; (7, n) the script; (8 + c, n) an array of n objects of class c. -/
abbrev ab_S : Type := (Nat → Nat → Int32) × (Nat → Nat → Int64) × (Nat → Nat → Nat) × List (Nat × Nat)
abbrev ab_R : Type := Option Value × ab_S
abbrev ab_L : Type := List (Nat × Value)
abbrev ab_K : Type := Nat → ab_L → List Value → ab_S → Option ab_R
abbrev ab_F : Type := Nat → List Value → List Value → ab_S → Option ab_R
/-- a callee: 0 static, 1 virtual, 2 special, 3 Object.<init>; how many values it takes from the stack; what it does, and what comes behind it -/
abbrev ab_G : Type := List Value → ab_S → (List Value → ab_S → Option ab_R) → Option ab_R
abbrev ab_C : Type := Nat × Nat × ab_G
def sI (st : ab_S) (o k : Nat) : Int32 := st.1 o k
def sJ (st : ab_S) (o k : Nat) : Int64 := st.2.1 o k
def sR (st : ab_S) (o k : Nat) : Nat := st.2.2.1 o k
def sH (st : ab_S) : List (Nat × Nat) := st.2.2.2
def uI (st : ab_S) (o k : Nat) (v : Int32) : ab_S := (fun a b => if a = o ∧ b = k then v else st.1 a b, st.2)
def uJ (st : ab_S) (o k : Nat) (v : Int64) : ab_S := (st.1, fun a b => if a = o ∧ b = k then v else st.2.1 a b, st.2.2)
def uR (st : ab_S) (o k : Nat) (v : Nat) : ab_S := (st.1, st.2.1, fun a b => if a = o ∧ b = k then v else st.2.2.1 a b, st.2.2.2)
/-- a new cell -/
def ab_mk (st : ab_S) (h : Nat × Nat) : ab_S := (fun a b => if a = st.2.2.2.length then 0 else st.1 a b, fun a b => if a = st.2.2.2.length then 0 else st.2.1 a b, fun a b => if a = st.2.2.2.length then 0 else st.2.2.1 a b, st.2.2.2 ++ [h])

def ab_look {α : Type} : List (Nat × α) → Nat → Option α
  | [], _ => none
  | q :: r, i => match Nat.beq q.1 i with
    | true => some q.2
    | false => ab_look r i
def ab_pick (ls : ab_L) : List Nat → Option (List Value)
  | [] => some []
  | i :: r => match ab_look ls i with
    | some v => match ab_pick ls r with
      | some vs => some (v :: vs)
      | none => none
    | none => none
def ab_st1 (ls : ab_L) (i : Nat) (v : Value) : ab_L := (i, v) :: ls.filter (fun q => !(q.1 == i) && !(q.1 + 1 == i && q.2.category == 2))
def ab_st2 (ls : ab_L) (i : Nat) (v : Value) : ab_L := (i, v) :: ls.filter (fun q => !(q.1 == i) && (!(q.1 == i + 1) && !(q.1 + 1 == i && q.2.category == 2)))
-- what can fail: fields, arrays
def ab_gI (st : ab_S) (o c k : Nat) : Option Int32 := if (sH st)[o]? = some (0, c) then some (sI st o k) else none
def ab_gJ (st : ab_S) (o c k : Nat) : Option Int64 := if (sH st)[o]? = some (0, c) then some (sJ st o k) else none
def ab_gR (st : ab_S) (o c k : Nat) : Option Nat := if (sH st)[o]? = some (0, c) then some (sR st o k) else none
def ab_pI (st : ab_S) (o c k : Nat) (v : Int32) : Option ab_S := if (sH st)[o]? = some (0, c) then some (uI st o k v) else none
def ab_pZ (st : ab_S) (o c k : Nat) (v : Int32) : Option ab_S := if (sH st)[o]? = some (0, c) ∧ (v = 0 ∨ v = 1) then some (uI st o k v) else none
def ab_pJ (st : ab_S) (o c k : Nat) (v : Int64) : Option ab_S := if (sH st)[o]? = some (0, c) then some (uJ st o k v) else none
def ab_pR (st : ab_S) (o c k : Nat) (v : Nat) : Option ab_S := if (sH st)[o]? = some (0, c) then some (uR st o k v) else none
def ab_in (i : Int32) (n : Nat) : Prop := ¬ (i < 0 ∨ n ≤ i.toNatClampNeg)
def ab_n (st : ab_S) (a : Nat) : Option Nat := match (sH st)[a]? with
  | some (k, n) => if k = 0 ∨ k = 6 then none else some n
  | none => none
def ab_rd (st : ab_S) (a : Nat) (i : Int32) (p : Nat → Bool) : Option Nat := match (sH st)[a]? with
  | some (k, n) => if p k = true ∧ ¬ (i < 0 ∨ n ≤ i.toNatClampNeg) then some k else none
  | none => none
def ab_rI (st : ab_S) (a : Nat) (i : Int32) : Option Int32 := (ab_rd st a i (fun k => k == 1 || k == 7)).map (fun _ => sI st a i.toNatClampNeg)
def ab_rB (st : ab_S) (a : Nat) (i : Int32) : Option Int32 := (ab_rd st a i (fun k => k == 3 || k == 4)).map (fun _ => sI st a i.toNatClampNeg)
def ab_rJ (st : ab_S) (a : Nat) (i : Int32) : Option Int64 := (ab_rd st a i (fun k => k == 2)).map (fun _ => sJ st a i.toNatClampNeg)
def ab_rR (st : ab_S) (a : Nat) (i : Int32) : Option Nat := (ab_rd st a i (fun k => k == 5 || Nat.ble 8 k)).map (fun _ => sR st a i.toNatClampNeg)
def ab_wI (st : ab_S) (a : Nat) (i : Int32) (v : Int32) : Option ab_S := (ab_rd st a i (fun k => k == 1)).map (fun _ => uI st a i.toNatClampNeg v)
def ab_wB (st : ab_S) (a : Nat) (i : Int32) (v : Int32) : Option ab_S := (ab_rd st a i (fun k => k == 3 || k == 4)).map (fun k => uI st a i.toNatClampNeg (if k = 3 then v.toInt8.toInt32 else v &&& 1))
def ab_wJ (st : ab_S) (a : Nat) (i : Int32) (v : Int64) : Option ab_S := (ab_rd st a i (fun k => k == 2)).map (fun _ => uJ st a i.toNatClampNeg v)
def ab_wR (st : ab_S) (a : Nat) (i : Int32) (v : Nat) : Option ab_S := (ab_rd st a i (fun k => Nat.ble 8 k)).bind (fun k => if (sH st)[v]? = some (0, k - 8) then some (uR st a i.toNatClampNeg v) else none)
def ab_z (v : Int32) (r : Option ab_R) : Option ab_R := if v = 0 ∨ v = 1 then r else none
/-- the receiver is an object of its class -/
def ab_rc (st : ab_S) (o c : Nat) (r : Option ab_R) : Option ab_R := if (sH st)[o]? = some (0, c) then r else none
-- what a callee answered
def ab_rv (r : Option ab_R) (k : ab_S → Option ab_R) : Option ab_R := r.bind (fun q => match q.1 with
  | none => k q.2
  | _ => none)
def ab_ri (r : Option ab_R) (k : Int32 → ab_S → Option ab_R) : Option ab_R := r.bind (fun q => match q.1 with
  | some (.int x) => k x q.2
  | _ => none)
def ab_rl (r : Option ab_R) (k : Int64 → ab_S → Option ab_R) : Option ab_R := r.bind (fun q => match q.1 with
  | some (.long x) => k x q.2
  | _ => none)
def ab_rr (r : Option ab_R) (k : Nat → ab_S → Option ab_R) : Option ab_R := r.bind (fun q => match q.1 with
  | some (.ref x) => k x q.2
  | _ => none)
/-- Object.<init> -/
def g_obj : ab_G := fun as st k => match as with
  | [.ref o] => if o = 0 then none else k [] st
  | _ => none
/-- Math.max, min, abs -/
def g_max : ab_G := fun as st k => match as with
  | [.int a, .int b] => k [.int (if a < b then b else a)] st
  | _ => none
def g_min : ab_G := fun as st k => match as with
  | [.int a, .int b] => k [.int (if b < a then b else a)] st
  | _ => none
def g_abs : ab_G := fun as st k => match as with
  | [.int a] => k [.int (if 0 ≤ a then a else 0 - a)] st
  | _ => none
def g_minl : ab_G := fun as st k => match as with
  | [.long a, .long b] => k [.long (if b < a then b else a)] st
  | _ => none
end
section
/-! ONE INSTRUCTION of the abstract machine, in front of what comes behind it (K). An entry of a method's table: the instruction, its length, the constant that it pushes (or adds), its target or its place among the locals. -/
abbrev ab_I : Type := Instr × Nat × Value × Nat
/-- a method: its instructions by pc; its labels, with the locals that live there; its fields by index: (class, place, kind), kind 0 int, 1 boolean, 2 long, 3 reference; its classes by index; its callees by index; its switches by pc: cases and default; how many locals; what it returns: 0 nothing, 1 int, 2 boolean, 3 long, 4 a reference -/
abbrev ab_M : Type := List (Nat × ab_I) × List (Nat × List Nat) × List (Nat × Nat × Nat × Nat) × List (Nat × Nat) × List (Nat × ab_C) × List (Nat × List (Int32 × Nat) × Nat) × Nat × Nat
def mC (M : ab_M) : List (Nat × ab_I) := M.1
def mL (M : ab_M) : List (Nat × List Nat) := M.2.1
def mF (M : ab_M) : List (Nat × Nat × Nat × Nat) := M.2.2.1
def mK (M : ab_M) : List (Nat × Nat) := M.2.2.2.1
def mG (M : ab_M) : List (Nat × ab_C) := M.2.2.2.2.1
def mS (M : ab_M) : List (Nat × List (Int32 × Nat) × Nat) := M.2.2.2.2.2.1
def mN (M : ab_M) : Nat := M.2.2.2.2.2.2.1
def mR (M : ab_M) : Nat := M.2.2.2.2.2.2.2

def tk_i (stk : List Value) (f : Int32 → List Value → Option ab_R) : Option ab_R := match stk with
  | .int x :: r => f x r
  | _ => none
def tk_l (stk : List Value) (f : Int64 → List Value → Option ab_R) : Option ab_R := match stk with
  | .long x :: r => f x r
  | _ => none
def tk_r (stk : List Value) (f : Nat → List Value → Option ab_R) : Option ab_R := match stk with
  | .ref x :: r => f x r
  | _ => none
def tk_ii (stk : List Value) (f : Int32 → Int32 → List Value → Option ab_R) : Option ab_R := match stk with
  | .int y :: .int x :: r => f x y r
  | _ => none
def tk_ll (stk : List Value) (f : Int64 → Int64 → List Value → Option ab_R) : Option ab_R := match stk with
  | .long y :: .long x :: r => f x y r
  | _ => none
def tk_li (stk : List Value) (f : Int64 → Int32 → List Value → Option ab_R) : Option ab_R := match stk with
  | .int y :: .long x :: r => f x y r
  | _ => none
def tk_ri (stk : List Value) (f : Nat → Int32 → List Value → Option ab_R) : Option ab_R := match stk with
  | .int i :: .ref a :: r => f a i r
  | _ => none
def tk_rii (stk : List Value) (f : Nat → Int32 → Int32 → List Value → Option ab_R) : Option ab_R := match stk with
  | .int v :: .int i :: .ref a :: r => f a i v r
  | _ => none
def tk_ril (stk : List Value) (f : Nat → Int32 → Int64 → List Value → Option ab_R) : Option ab_R := match stk with
  | .long v :: .int i :: .ref a :: r => f a i v r
  | _ => none
def tk_rir (stk : List Value) (f : Nat → Int32 → Nat → List Value → Option ab_R) : Option ab_R := match stk with
  | .ref v :: .int i :: .ref a :: r => f a i v r
  | _ => none
def tk_rl (stk : List Value) (f : Nat → Int64 → List Value → Option ab_R) : Option ab_R := match stk with
  | .long v :: .ref a :: r => f a v r
  | _ => none
def tk_rr (stk : List Value) (f : Nat → Nat → List Value → Option ab_R) : Option ab_R := match stk with
  | .ref v :: .ref a :: r => f a v r
  | _ => none
def ld_i (ls : ab_L) (i : Nat) (f : Int32 → Option ab_R) : Option ab_R := match ab_look ls i with
  | some (.int x) => f x
  | _ => none
def ld_l (ls : ab_L) (i : Nat) (f : Int64 → Option ab_R) : Option ab_R := match ab_look ls i with
  | some (.long x) => f x
  | _ => none
def ld_r (ls : ab_L) (i : Nat) (f : Nat → Option ab_R) : Option ab_R := match ab_look ls i with
  | some (.ref x) => f x
  | _ => none
/-- only a place among the locals -/
def ab_lt (i n : Nat) (r : Option ab_R) : Option ab_R := match Nat.blt i n with
  | true => r
  | false => none
def ab_sw (x : Int32) (G : Nat → Option ab_R) (d : Nat) : List (Int32 × Nat) → Option ab_R
  | [] => G d
  | q :: r => if x = q.1 then G q.2 else ab_sw x G d r
def ab_sum : List Value → Nat
  | [] => 0
  | v :: r => v.category + ab_sum r
/-- a call: n values from the stack, in their order; what stays below is small -/
def ab_call (C : Option ab_C) (kd : Nat) (stk : List Value) (st : ab_S) (k : List Value → List Value → ab_S → Option ab_R) : Option ab_R := match C with
  | some (kd', n, f) => match Nat.beq kd kd', Nat.ble n stk.length, Nat.ble (ab_sum (stk.drop n)) 8 with
    | true, true, true => f (stk.take n).reverse st (fun rs st' => k rs (stk.drop n) st')
    | _, _, _ => none
  | none => none
def ab_getf (F : Option (Nat × Nat × Nat)) (o : Nat) (st : ab_S) (k : Value → Option ab_R) : Option ab_R := match F with
  | some (c, p, 2) => (ab_gJ st o c p).bind (fun x => k (.long x))
  | some (c, p, 3) => (ab_gR st o c p).bind (fun x => k (.ref x))
  | some (c, p, _) => (ab_gI st o c p).bind (fun x => k (.int x))
  | none => none
def ab_putf (F : Option (Nat × Nat × Nat)) (stk : List Value) (st : ab_S) (k : List Value → ab_S → Option ab_R) : Option ab_R := match F with
  | some (c, p, 0) => tk_ri stk (fun o v r => (ab_pI st o c p v).bind (fun t => k r t))
  | some (c, p, 1) => tk_ri stk (fun o v r => (ab_pZ st o c p v).bind (fun t => k r t))
  | some (c, p, 2) => tk_rl stk (fun o v r => (ab_pJ st o c p v).bind (fun t => k r t))
  | some (c, p, 3) => tk_rr stk (fun o v r => (ab_pR st o c p v).bind (fun t => k r t))
  | _ => none
def ab_ret (kd : Nat) (stk : List Value) (st : ab_S) : Option ab_R := match kd, stk with
  | 1, [.int v] => some (some (.int v), st)
  | 2, [.int v] => ab_z v (some (some (.int v), st))
  | _, _ => none
def ab_retl (kd : Nat) (stk : List Value) (st : ab_S) : Option ab_R := match kd, stk with
  | 3, [.long v] => some (some (.long v), st)
  | _, _ => none
def ab_retr (kd : Nat) (stk : List Value) (st : ab_S) : Option ab_R := match kd, stk with
  | 4, [.ref v] => some (some (.ref v), st)
  | _, _ => none
def ab_retv (kd : Nat) (stk : List Value) (st : ab_S) : Option ab_R := match kd, stk with
  | 0, [] => some (none, st)
  | _, _ => none
/-- a new cell; the guard keeps it from being reckoned too early -/
def ab_mo (st : ab_S) (h : Nat × Nat) : Option ab_S := if (sH st).length < 2 then none else some (ab_mk st h)
def ab_newn (st : ab_S) (n : Int32) (kd : Nat) (k : Nat → ab_S → Option ab_R) : Option ab_R := if n < 0 ∨ 50000 < n.toNatClampNeg then none else (ab_mo st (kd, n.toNatClampNeg)).bind (fun t => k (sH st).length t)
def ab_atk : ArrayType → Nat
  | .int => 1
  | .long => 2
  | .byte => 3
  | .boolean => 4
  | _ => 6
/-- new int[n][k] -/
def ab_rows (st : ab_S) (a k : Nat) : Nat → ab_S
  | 0 => st
  | i + 1 => let t := ab_rows st a k i; uR (ab_mk t (1, k)) a i (sH t).length

def ab_newo (st : ab_S) (c : Nat) (k : Nat → ab_S → Option ab_R) : Option ab_R := (ab_mo st (0, c)).bind (fun t => k (sH st).length t)
def ab_mm (st : ab_S) (a b : Int32) : Option ab_S := if (sH st).length < 2 ∨ a < 0 ∨ b < 0 ∨ 1000 < a.toNatClampNeg ∨ 1000 < b.toNatClampNeg then none else some (ab_rows (ab_mk st (5, a.toNatClampNeg)) (sH st).length b.toNatClampNeg a.toNatClampNeg)
def ab_newm (st : ab_S) (a b : Int32) (k : Nat → ab_S → Option ab_R) : Option ab_R := (ab_mm st a b).bind (fun t => k (sH st).length t)

def ab_exec (M : ab_M) (K : ab_K) (pc : Nat) (ls : ab_L) (stk : List Value) (st : ab_S) (ins : Instr) (n : Nat) (x : Value) (t : Nat) : Option ab_R := match ins with
  | .iconst _ => K (pc + n) ls (x :: stk) st
  | .bipush _ => K (pc + n) ls (x :: stk) st
  | .sipush _ => K (pc + n) ls (x :: stk) st
  | .lconst _ => K (pc + n) ls (x :: stk) st
  | .ldc _ => K (pc + n) ls (x :: stk) st
  | .ldc2_w _ => K (pc + n) ls (x :: stk) st
  | .iload _ => ld_i ls t (fun v => K (pc + n) ls (.int v :: stk) st)
  | .iload_n _ => ld_i ls t (fun v => K (pc + n) ls (.int v :: stk) st)
  | .lload _ => ld_l ls t (fun v => K (pc + n) ls (.long v :: stk) st)
  | .lload_n _ => ld_l ls t (fun v => K (pc + n) ls (.long v :: stk) st)
  | .aload _ => ld_r ls t (fun v => K (pc + n) ls (.ref v :: stk) st)
  | .aload_n _ => ld_r ls t (fun v => K (pc + n) ls (.ref v :: stk) st)
  | .istore _ => ab_lt t (mN M) (tk_i stk (fun v r => K (pc + n) (ab_st1 ls t (.int v)) r st))
  | .istore_n _ => ab_lt t (mN M) (tk_i stk (fun v r => K (pc + n) (ab_st1 ls t (.int v)) r st))
  | .lstore _ => ab_lt (t + 1) (mN M) (tk_l stk (fun v r => K (pc + n) (ab_st2 ls t (.long v)) r st))
  | .lstore_n _ => ab_lt (t + 1) (mN M) (tk_l stk (fun v r => K (pc + n) (ab_st2 ls t (.long v)) r st))
  | .astore _ => ab_lt t (mN M) (tk_r stk (fun v r => K (pc + n) (ab_st1 ls t (.ref v)) r st))
  | .astore_n _ => ab_lt t (mN M) (tk_r stk (fun v r => K (pc + n) (ab_st1 ls t (.ref v)) r st))
  | .iinc _ _ => ab_lt t (mN M) (ld_i ls t (fun v => match x with
    | .int d => K (pc + n) (ab_st1 ls t (.int (v + d))) stk st
    | _ => none))
  | .iadd => tk_ii stk (fun a b r => K (pc + n) ls (.int (a + b) :: r) st)
  | .isub => tk_ii stk (fun a b r => K (pc + n) ls (.int (a - b) :: r) st)
  | .imul => tk_ii stk (fun a b r => K (pc + n) ls (.int (a * b) :: r) st)
  | .iand => tk_ii stk (fun a b r => K (pc + n) ls (.int (a &&& b) :: r) st)
  | .ior => tk_ii stk (fun a b r => K (pc + n) ls (.int (a ||| b) :: r) st)
  | .ishl => tk_ii stk (fun a b r => K (pc + n) ls (.int (a <<< (b &&& 31)) :: r) st)
  | .iushr => tk_ii stk (fun a b r => K (pc + n) ls (.int (a.toUInt32 >>> (b.toUInt32 &&& Int32.toUInt32 31)).toInt32 :: r) st)
  | .ineg => tk_i stk (fun a r => K (pc + n) ls (.int (-a) :: r) st)
  | .ladd => tk_ll stk (fun a b r => K (pc + n) ls (.long (a + b) :: r) st)
  | .lsub => tk_ll stk (fun a b r => K (pc + n) ls (.long (a - b) :: r) st)
  | .lmul => tk_ll stk (fun a b r => K (pc + n) ls (.long (a * b) :: r) st)
  | .land => tk_ll stk (fun a b r => K (pc + n) ls (.long (a &&& b) :: r) st)
  | .lor => tk_ll stk (fun a b r => K (pc + n) ls (.long (a ||| b) :: r) st)
  | .lxor => tk_ll stk (fun a b r => K (pc + n) ls (.long (a ^^^ b) :: r) st)
  | .lcmp => tk_ll stk (fun a b r => K (pc + n) ls (.int (lg_cmp a b) :: r) st)
  | .lshl => tk_li stk (fun a b r => K (pc + n) ls (.long (a <<< (b.toInt64 &&& 63)) :: r) st)
  | .lshr => tk_li stk (fun a b r => K (pc + n) ls (.long (a >>> (b.toInt64 &&& 63)) :: r) st)
  | .lushr => tk_li stk (fun a b r => K (pc + n) ls (.long (a.toUInt64 >>> (b.toInt64.toUInt64 &&& Int64.toUInt64 63)).toInt64 :: r) st)
  | .i2l => tk_i stk (fun a r => K (pc + n) ls (.long a.toInt64 :: r) st)
  | .l2i => tk_l stk (fun a r => K (pc + n) ls (.int a.toInt32 :: r) st)
  | .i2b => tk_i stk (fun a r => K (pc + n) ls (.int a.toInt8.toInt32 :: r) st)
  | .dup => tk_r stk (fun a r => K (pc + n) ls (.ref a :: .ref a :: r) st)
  | .dup2 => tk_ri stk (fun a i r => K (pc + n) ls (.int i :: .ref a :: .int i :: .ref a :: r) st)
  | .pop => tk_i stk (fun _ r => K (pc + n) ls r st)
  | .goto _ => K t ls stk st
  | .if_icmp .eq _ => tk_ii stk (fun a b r => if a = b then K t ls r st else K (pc + n) ls r st)
  | .if_icmp .ne _ => tk_ii stk (fun a b r => if a = b then K (pc + n) ls r st else K t ls r st)
  | .if_icmp .lt _ => tk_ii stk (fun a b r => if a < b then K t ls r st else K (pc + n) ls r st)
  | .if_icmp .ge _ => tk_ii stk (fun a b r => if b ≤ a then K t ls r st else K (pc + n) ls r st)
  | .if_icmp .gt _ => tk_ii stk (fun a b r => if b < a then K t ls r st else K (pc + n) ls r st)
  | .if_icmp .le _ => tk_ii stk (fun a b r => if a ≤ b then K t ls r st else K (pc + n) ls r st)
  | .ifCond .eq _ => tk_i stk (fun a r => if a = 0 then K t ls r st else K (pc + n) ls r st)
  | .ifCond .ne _ => tk_i stk (fun a r => if a = 0 then K (pc + n) ls r st else K t ls r st)
  | .ifCond .lt _ => tk_i stk (fun a r => if a < 0 then K t ls r st else K (pc + n) ls r st)
  | .ifCond .ge _ => tk_i stk (fun a r => if 0 ≤ a then K t ls r st else K (pc + n) ls r st)
  | .ifCond .gt _ => tk_i stk (fun a r => if 0 < a then K t ls r st else K (pc + n) ls r st)
  | .ifCond .le _ => tk_i stk (fun a r => if a ≤ 0 then K t ls r st else K (pc + n) ls r st)
  | .ifnull _ => tk_r stk (fun a r => if a = 0 then K t ls r st else K (pc + n) ls r st)
  | .tableswitch _ _ _ _ => match ab_look (mS M) pc with
    | some (cs, d) => tk_i stk (fun a r => ab_sw a (fun t => K t ls r st) d cs)
    | none => none
  | .lookupswitch _ _ => match ab_look (mS M) pc with
    | some (cs, d) => tk_i stk (fun a r => ab_sw a (fun t => K t ls r st) d cs)
    | none => none
  | .getfield i => tk_r stk (fun o r => ab_getf (ab_look (mF M) i) o st (fun v => K (pc + n) ls (v :: r) st))
  | .putfield i => ab_putf (ab_look (mF M) i) stk st (fun r st' => K (pc + n) ls r st')
  | .iaload => tk_ri stk (fun a i r => (ab_rI st a i).bind (fun v => K (pc + n) ls (.int v :: r) st))
  | .baload => tk_ri stk (fun a i r => (ab_rB st a i).bind (fun v => K (pc + n) ls (.int v :: r) st))
  | .laload => tk_ri stk (fun a i r => (ab_rJ st a i).bind (fun v => K (pc + n) ls (.long v :: r) st))
  | .aaload => tk_ri stk (fun a i r => (ab_rR st a i).bind (fun v => K (pc + n) ls (.ref v :: r) st))
  | .iastore => tk_rii stk (fun a i v r => (ab_wI st a i v).bind (fun st' => K (pc + n) ls r st'))
  | .bastore => tk_rii stk (fun a i v r => (ab_wB st a i v).bind (fun st' => K (pc + n) ls r st'))
  | .lastore => tk_ril stk (fun a i v r => (ab_wJ st a i v).bind (fun st' => K (pc + n) ls r st'))
  | .aastore => tk_rir stk (fun a i v r => (ab_wR st a i v).bind (fun st' => K (pc + n) ls r st'))
  | .arraylength => tk_r stk (fun a r => (ab_n st a).bind (fun v => K (pc + n) ls (.int (Int32.ofNat v) :: r) st))
  | .new i => match ab_look (mK M) i with
    | some c => ab_newo st c (fun o st' => K (pc + n) ls (.ref o :: stk) st')
    | none => none
  | .newarray a => tk_i stk (fun v r => ab_newn st v (ab_atk a) (fun o st' => K (pc + n) ls (.ref o :: r) st'))
  | .anewarray i => match ab_look (mK M) i with
    | some c => tk_i stk (fun v r => ab_newn st v (8 + c) (fun o st' => K (pc + n) ls (.ref o :: r) st'))
    | none => none
  | .multianewarray _ 2 => tk_ii stk (fun a b r => ab_newm st a b (fun o st' => K (pc + n) ls (.ref o :: r) st'))
  | .invokestatic i => ab_call (ab_look (mG M) i) 0 stk st (fun rs r st' => K (pc + n) ls (rs ++ r) st')
  | .invokevirtual i => ab_call (ab_look (mG M) i) 1 stk st (fun rs r st' => K (pc + n) ls (rs ++ r) st')
  | .invokespecial i => ab_call (ab_look (mG M) i) 2 stk st (fun rs r st' => K (pc + n) ls (rs ++ r) st')
  | .ireturn => ab_ret (mR M) stk st
  | .lreturn => ab_retl (mR M) stk st
  | .areturn => ab_retr (mR M) stk st
  | .return_ => ab_retv (mR M) stk st
  | _ => none

/-- at a label its own function; elsewhere the next instruction -/
def ab_jmp (M : ab_M) (Lf : ab_F) (K : ab_K) : ab_K := fun pc ls stk st => match ab_look (mL M) pc with
  | some sl => match ab_pick ls sl with
    | some vs => Lf pc vs stk st
    | none => none
  | none => K pc ls stk st
def ab_walk (M : ab_M) (Lf : ab_F) : Nat → ab_K
  | 0 => fun _ _ _ _ => none
  | f + 1 => fun pc ls stk st => match ab_look (mC M) pc with
    | some (ins, n, x, t) => ab_exec M (ab_jmp M Lf (ab_walk M Lf f)) pc ls stk st ins n x t
    | none => none
/-- from a label, with its locals' values -/
def ab_from (M : ab_M) (Lf : ab_F) : ab_F := fun pc vs stk st => match ab_look (mL M) pc with
  | some sl => match Nat.beq sl.length vs.length with
    | true => ab_walk M Lf 2000 pc (sl.zip vs) stk st
    | false => none
  | none => none
def ab_run (M : ab_M) : Nat → ab_F
  | 0 => fun _ _ _ _ => none
  | f + 1 => ab_from M (ab_run M f)
end
section
/-! THE LIMIT: what a method answers, with any number of labels passed; its own equation (lm_eq), by which all is reckoned later -/
def pt_K (G : ab_K → Option ab_R) : Prop := ∀ K r, G K = some r → (∀ K', G K' = some r) ∨ ∃ pc ls stk st, K pc ls stk st = some r ∧ ∀ K' : ab_K, K' pc ls stk st = some r → G K' = some r
def pt_F (G : ab_F → Option ab_R) : Prop := ∀ K r, G K = some r → (∀ K', G K' = some r) ∨ ∃ pc ls stk st, K pc ls stk st = some r ∧ ∀ K' : ab_F, K' pc ls stk st = some r → G K' = some r
/-- a callee goes on at one place -/
def ab_one (f : ab_G) : Prop := ∀ as st k r, f as st k = some r → ∃ rs st', k rs st' = some r ∧ ∀ k' : List Value → ab_S → Option ab_R, k' rs st' = some r → f as st k' = some r
theorem pk_one {pc : Nat} {ls : ab_L} {stk : List Value} {st : ab_S} : pt_K (fun K => K pc ls stk st) := fun _ _ h => Or.inr ⟨_, _, _, _, h, fun _ h => h⟩
theorem pk_c {v : Option ab_R} : pt_K (fun _ => v) := fun _ _ h => Or.inl (fun _ => h)
theorem pk_ite {c : Prop} [Decidable c] {A B : ab_K → Option ab_R} (ha : pt_K A) (hb : pt_K B) : pt_K (fun K => if c then A K else B K) := by
  by_cases h : c
  · simpa [h] using ha
  · simpa [h] using hb
theorem pk_bind {α : Type} {o : Option α} {A : ab_K → α → Option ab_R} (h : ∀ x, pt_K (fun K => A K x)) : pt_K (fun K => o.bind (A K)) := by
  cases o with
  | none => exact pk_c
  | some x => exact h x
theorem pk_i {stk : List Value} {A : ab_K → Int32 → List Value → Option ab_R} (h : ∀ x r, pt_K (fun K => A K x r)) : pt_K (fun K => tk_i stk (A K)) := by
  unfold tk_i; split <;> first | exact h _ _ | exact pk_c
theorem pk_l {stk : List Value} {A : ab_K → Int64 → List Value → Option ab_R} (h : ∀ x r, pt_K (fun K => A K x r)) : pt_K (fun K => tk_l stk (A K)) := by
  unfold tk_l; split <;> first | exact h _ _ | exact pk_c
theorem pk_r {stk : List Value} {A : ab_K → Nat → List Value → Option ab_R} (h : ∀ x r, pt_K (fun K => A K x r)) : pt_K (fun K => tk_r stk (A K)) := by
  unfold tk_r; split <;> first | exact h _ _ | exact pk_c
theorem pk_ii {stk : List Value} {A : ab_K → Int32 → Int32 → List Value → Option ab_R} (h : ∀ x y r, pt_K (fun K => A K x y r)) : pt_K (fun K => tk_ii stk (A K)) := by
  unfold tk_ii; split <;> first | exact h _ _ _ | exact pk_c
theorem pk_ll {stk : List Value} {A : ab_K → Int64 → Int64 → List Value → Option ab_R} (h : ∀ x y r, pt_K (fun K => A K x y r)) : pt_K (fun K => tk_ll stk (A K)) := by
  unfold tk_ll; split <;> first | exact h _ _ _ | exact pk_c
theorem pk_li {stk : List Value} {A : ab_K → Int64 → Int32 → List Value → Option ab_R} (h : ∀ x y r, pt_K (fun K => A K x y r)) : pt_K (fun K => tk_li stk (A K)) := by
  unfold tk_li; split <;> first | exact h _ _ _ | exact pk_c
theorem pk_ri {stk : List Value} {A : ab_K → Nat → Int32 → List Value → Option ab_R} (h : ∀ x y r, pt_K (fun K => A K x y r)) : pt_K (fun K => tk_ri stk (A K)) := by
  unfold tk_ri; split <;> first | exact h _ _ _ | exact pk_c
theorem pk_rl {stk : List Value} {A : ab_K → Nat → Int64 → List Value → Option ab_R} (h : ∀ x y r, pt_K (fun K => A K x y r)) : pt_K (fun K => tk_rl stk (A K)) := by
  unfold tk_rl; split <;> first | exact h _ _ _ | exact pk_c
theorem pk_rr {stk : List Value} {A : ab_K → Nat → Nat → List Value → Option ab_R} (h : ∀ x y r, pt_K (fun K => A K x y r)) : pt_K (fun K => tk_rr stk (A K)) := by
  unfold tk_rr; split <;> first | exact h _ _ _ | exact pk_c
theorem pk_rii {stk : List Value} {A : ab_K → Nat → Int32 → Int32 → List Value → Option ab_R} (h : ∀ x y z r, pt_K (fun K => A K x y z r)) : pt_K (fun K => tk_rii stk (A K)) := by
  unfold tk_rii; split <;> first | exact h _ _ _ _ | exact pk_c
theorem pk_ril {stk : List Value} {A : ab_K → Nat → Int32 → Int64 → List Value → Option ab_R} (h : ∀ x y z r, pt_K (fun K => A K x y z r)) : pt_K (fun K => tk_ril stk (A K)) := by
  unfold tk_ril; split <;> first | exact h _ _ _ _ | exact pk_c
theorem pk_rir {stk : List Value} {A : ab_K → Nat → Int32 → Nat → List Value → Option ab_R} (h : ∀ x y z r, pt_K (fun K => A K x y z r)) : pt_K (fun K => tk_rir stk (A K)) := by
  unfold tk_rir; split <;> first | exact h _ _ _ _ | exact pk_c
theorem pk_di {ls : ab_L} {i : Nat} {A : ab_K → Int32 → Option ab_R} (h : ∀ x, pt_K (fun K => A K x)) : pt_K (fun K => ld_i ls i (A K)) := by
  unfold ld_i; split <;> first | exact h _ | exact pk_c
theorem pk_dl {ls : ab_L} {i : Nat} {A : ab_K → Int64 → Option ab_R} (h : ∀ x, pt_K (fun K => A K x)) : pt_K (fun K => ld_l ls i (A K)) := by
  unfold ld_l; split <;> first | exact h _ | exact pk_c
theorem pk_dr {ls : ab_L} {i : Nat} {A : ab_K → Nat → Option ab_R} (h : ∀ x, pt_K (fun K => A K x)) : pt_K (fun K => ld_r ls i (A K)) := by
  unfold ld_r; split <;> first | exact h _ | exact pk_c
theorem pk_lt2 {i n : Nat} {A : ab_K → Option ab_R} (h : pt_K A) : pt_K (fun K => ab_lt i n (A K)) := by
  unfold ab_lt; split <;> first | exact h | exact pk_c
theorem pk_sw {x : Int32} {A : ab_K → Nat → Option ab_R} {d : Nat} (h : ∀ t, pt_K (fun K => A K t)) : ∀ cs, pt_K (fun K => ab_sw x (A K) d cs)
  | [] => h d
  | q :: r => pk_ite (c := x = q.1) (h q.2) (pk_sw h r)
theorem pk_getf {F : Option (Nat × Nat × Nat)} {o : Nat} {st : ab_S} {A : ab_K → Value → Option ab_R} (h : ∀ x, pt_K (fun K => A K x)) : pt_K (fun K => ab_getf F o st (A K)) := by
  unfold ab_getf; split <;> first | exact pk_bind (fun x => h _) | exact pk_c
theorem pk_putf {F : Option (Nat × Nat × Nat)} {stk : List Value} {st : ab_S} {A : ab_K → List Value → ab_S → Option ab_R} (h : ∀ r t, pt_K (fun K => A K r t)) : pt_K (fun K => ab_putf F stk st (A K)) := by
  unfold ab_putf
  split
  · exact pk_ri (fun o v r => pk_bind (fun t => h r t))
  · exact pk_ri (fun o v r => pk_bind (fun t => h r t))
  · exact pk_rl (fun o v r => pk_bind (fun t => h r t))
  · exact pk_rr (fun o v r => pk_bind (fun t => h r t))
  · exact pk_c
theorem pk_newn {st : ab_S} {n : Int32} {kd : Nat} {A : ab_K → Nat → ab_S → Option ab_R} (h : ∀ o t, pt_K (fun K => A K o t)) : pt_K (fun K => ab_newn st n kd (A K)) := by
  unfold ab_newn; split <;> first | exact pk_bind (fun t => h _ t) | exact pk_c
theorem pk_newo {st : ab_S} {c : Nat} {A : ab_K → Nat → ab_S → Option ab_R} (h : ∀ o t, pt_K (fun K => A K o t)) : pt_K (fun K => ab_newo st c (A K)) := pk_bind (fun t => h _ t)
theorem pk_newm {st : ab_S} {a b : Int32} {A : ab_K → Nat → ab_S → Option ab_R} (h : ∀ o t, pt_K (fun K => A K o t)) : pt_K (fun K => ab_newm st a b (A K)) := pk_bind (fun t => h _ t)
theorem pk_call {C : Option ab_C} {kd : Nat} {stk : List Value} {st : ab_S} {A : ab_K → List Value → List Value → ab_S → Option ab_R} (hC : ∀ q, C = some q → ab_one q.2.2) (h : ∀ rs r t, pt_K (fun K => A K rs r t)) : pt_K (fun K => ab_call C kd stk st (A K)) := by
  unfold ab_call
  split
  · next kd' n f =>
    have h1 : ab_one f := hC _ rfl
    split
    · intro K r hr
      obtain ⟨rs, st', h2, h3⟩ := h1 _ _ _ _ hr
      rcases h rs (stk.drop n) st' K r h2 with h4 | ⟨pc, ls, sk, s2, h4, h5⟩
      · exact Or.inl (fun K' => h3 _ (h4 K'))
      · exact Or.inr ⟨pc, ls, sk, s2, h4, fun K' h6 => h3 _ (h5 K' h6)⟩
    · exact pk_c
  · exact pk_c
theorem ab_look_mem {α : Type} : ∀ {l : List (Nat × α)} {i : Nat} {v : α}, ab_look l i = some v → (i, v) ∈ l
  | [], _, _, h => by cases h
  | q :: r, i, v, h => by
    unfold ab_look at h
    split at h
    · next hq =>
      cases h
      rw [← Nat.eq_of_beq_eq_true hq]
      exact List.mem_cons_self
    · exact List.mem_cons_of_mem _ (ab_look_mem h)
def ab_oneM (M : ab_M) : Prop := ∀ q ∈ mG M, ab_one q.2.2.2
set_option maxHeartbeats 4000000 in
theorem pk_exec {M : ab_M} (hM : ab_oneM M) {pc : Nat} {ls : ab_L} {stk : List Value} {st : ab_S} {ins : Instr} {n : Nat} {x : Value} {t : Nat} : pt_K (fun K => ab_exec M K pc ls stk st ins n x t) := by
  have hC : ∀ i q, ab_look (mG M) i = some q → ab_one q.2.2 := fun i q h => hM _ (ab_look_mem h)
  unfold ab_exec
  split <;> first
    | exact pk_one
    | exact pk_c
    | exact pk_di (fun _ => pk_one)
    | exact pk_dl (fun _ => pk_one)
    | exact pk_dr (fun _ => pk_one)
    | exact pk_lt2 (pk_i (fun _ _ => pk_one))
    | exact pk_lt2 (pk_l (fun _ _ => pk_one))
    | exact pk_lt2 (pk_r (fun _ _ => pk_one))
    | exact pk_i (fun _ _ => pk_one)
    | exact pk_l (fun _ _ => pk_one)
    | exact pk_r (fun _ _ => pk_one)
    | exact pk_ii (fun _ _ _ => pk_one)
    | exact pk_ll (fun _ _ _ => pk_one)
    | exact pk_li (fun _ _ _ => pk_one)
    | exact pk_ri (fun _ _ _ => pk_one)
    | exact pk_ii (fun _ _ _ => pk_ite pk_one pk_one)
    | exact pk_ii (fun _ _ _ => pk_newm (fun _ _ => pk_one))
    | exact pk_i (fun _ _ => pk_ite pk_one pk_one)
    | exact pk_r (fun _ _ => pk_ite pk_one pk_one)
    | exact pk_r (fun _ _ => pk_getf (fun _ => pk_one))
    | exact pk_putf (fun _ _ => pk_one)
    | exact pk_ri (fun _ _ _ => pk_bind (fun _ => pk_one))
    | exact pk_rii (fun _ _ _ _ => pk_bind (fun _ => pk_one))
    | exact pk_ril (fun _ _ _ _ => pk_bind (fun _ => pk_one))
    | exact pk_rir (fun _ _ _ _ => pk_bind (fun _ => pk_one))
    | exact pk_r (fun _ _ => pk_bind (fun _ => pk_one))
    | exact pk_i (fun _ _ => pk_newn (fun _ _ => pk_one))
    | exact pk_call (fun q h => hC _ q h) (fun _ _ _ => pk_one)
    | (split <;> first | exact pk_newo (fun _ _ => pk_one) | exact pk_one | exact pk_c | exact pk_i (fun _ _ => pk_sw (fun _ => pk_one) _) | exact pk_i (fun _ _ => pk_newn (fun _ _ => pk_one)))
    | exact pk_lt2 (pk_di (fun _ => by split <;> first | exact pk_one | exact pk_c))
theorem pt_walk {M : ab_M} (hM : ab_oneM M) : ∀ (f pc : Nat) (ls : ab_L) (stk : List Value) (st : ab_S), pt_F (fun Lf => ab_walk M Lf f pc ls stk st)
  | 0, _, _, _, _ => fun _ _ h => by cases h
  | f + 1, pc, ls, stk, st => by
    intro Lf r h
    unfold ab_walk at h ⊢
    split at h
    · next ins n x t hl =>
      rcases pk_exec hM _ _ h with h1 | ⟨pc2, ls2, stk2, st2, h1, h2⟩
      · exact Or.inl (fun K' => by simpa using h1 _)
      · unfold ab_jmp at h1
        split at h1
        · next sl hsl =>
          split at h1
          · next vs hvs =>
            refine Or.inr ⟨pc2, vs, stk2, st2, h1, fun K' h3 => ?_⟩
            refine h2 _ ?_
            unfold ab_jmp
            rw [hsl]
            simp only [hvs]
            exact h3
          · cases h1
        · next hsl =>
          rcases pt_walk hM f pc2 ls2 stk2 st2 Lf r h1 with h3 | ⟨a, b, c, d, h3, h4⟩
          · refine Or.inl (fun K' => h2 _ ?_)
            unfold ab_jmp
            rw [hsl]
            exact h3 K'
          · refine Or.inr ⟨a, b, c, d, h3, fun K' h5 => h2 _ ?_⟩
            unfold ab_jmp
            rw [hsl]
            exact h4 K' h5
    · cases h
theorem pt_from {M : ab_M} (hM : ab_oneM M) (pc : Nat) (vs stk : List Value) (st : ab_S) : pt_F (fun Lf => ab_from M Lf pc vs stk st) := by
  unfold ab_from
  split
  · split
    · exact pt_walk hM _ _ _ _ _
    · intro _ _ h; cases h
  · intro _ _ h; cases h
theorem pt_mono {G : ab_F → Option ab_R} (h : pt_F G) {A B : ab_F} (hAB : ∀ pc vs stk st r, A pc vs stk st = some r → B pc vs stk st = some r) {r : ab_R} (hA : G A = some r) : G B = some r := by
  rcases h A r hA with h1 | ⟨a, b, c, d, h1, h2⟩
  · exact h1 B
  · exact h2 B (hAB _ _ _ _ _ h1)
theorem run_up {M : ab_M} (hM : ab_oneM M) : ∀ (f pc : Nat) (vs stk : List Value) (st : ab_S) (r : ab_R), ab_run M f pc vs stk st = some r → ab_run M (f + 1) pc vs stk st = some r
  | 0, _, _, _, _, _, h => by cases h
  | f + 1, pc, vs, stk, st, r, h => pt_mono (pt_from hM pc vs stk st) (run_up hM f) h
theorem run_le {M : ab_M} (hM : ab_oneM M) {f g : Nat} (h : f ≤ g) {pc : Nat} {vs stk : List Value} {st : ab_S} {r : ab_R} (hr : ab_run M f pc vs stk st = some r) : ab_run M g pc vs stk st = some r := by
  induction h with
  | refl => exact hr
  | step _ ih => exact run_up hM _ _ _ _ _ _ ih
noncomputable def ab_lim (M : ab_M) : ab_F := fun pc vs stk st => @dite _ (∃ q : Nat × ab_R, ab_run M q.1 pc vs stk st = some q.2) (Classical.propDecidable _) (fun h => some h.choose.2) (fun _ => none)
theorem lm_iff {M : ab_M} (hM : ab_oneM M) {pc : Nat} {vs stk : List Value} {st : ab_S} {r : ab_R} : ab_lim M pc vs stk st = some r ↔ ∃ f, ab_run M f pc vs stk st = some r := by
  unfold ab_lim
  by_cases h : ∃ q : Nat × ab_R, ab_run M q.1 pc vs stk st = some q.2
  · rw [dif_pos h]
    have hq := h.choose_spec
    generalize h.choose = q at hq
    constructor
    · intro e
      cases e
      exact ⟨q.1, hq⟩
    · rintro ⟨f, hf⟩
      have h1 := run_le hM (Nat.le_max_left q.1 f) hq
      have h2 := run_le hM (Nat.le_max_right q.1 f) hf
      rw [h1] at h2
      exact h2
  · rw [dif_neg h]
    constructor
    · intro e; cases e
    · rintro ⟨f, hf⟩
      exact absurd ⟨(f, r), hf⟩ h
theorem lm_eq {M : ab_M} (hM : ab_oneM M) (pc : Nat) (vs stk : List Value) (st : ab_S) : ab_lim M pc vs stk st = ab_from M (ab_lim M) pc vs stk st := by
  apply Option.ext
  intro r
  rw [lm_iff hM]
  constructor
  · rintro ⟨f, hf⟩
    cases f with
    | zero => cases hf
    | succ f => exact pt_mono (pt_from hM pc vs stk st) (fun _ _ _ _ _ h => (lm_iff hM).mpr ⟨f, h⟩) hf
  · intro h
    rcases pt_from hM pc vs stk st _ _ h with h1 | ⟨a, b, c, d, h1, h2⟩
    · exact ⟨1, h1 _⟩
    · obtain ⟨f, hf⟩ := (lm_iff hM).mp h1
      exact ⟨f + 1, h2 _ hf⟩
/-! callees -/
theorem one_rv {r0 : Option ab_R} {k : List Value → ab_S → Option ab_R} {r : ab_R} (h : ab_rv r0 (fun t => k [] t) = some r) : ∃ rs st', k rs st' = some r ∧ ∀ k' : List Value → ab_S → Option ab_R, k' rs st' = some r → ab_rv r0 (fun t => k' [] t) = some r := by
  cases r0 with
  | none => cases h
  | some q =>
    obtain ⟨v, t⟩ := q
    cases v with
    | none => exact ⟨[], t, h, fun k' h' => h'⟩
    | some v => cases h
theorem one_ri {r0 : Option ab_R} {k : List Value → ab_S → Option ab_R} {r : ab_R} (h : ab_ri r0 (fun x t => k [.int x] t) = some r) : ∃ rs st', k rs st' = some r ∧ ∀ k' : List Value → ab_S → Option ab_R, k' rs st' = some r → ab_ri r0 (fun x t => k' [.int x] t) = some r := by
  cases r0 with
  | none => cases h
  | some q =>
    obtain ⟨v, t⟩ := q
    cases v with
    | none => cases h
    | some v => cases v <;> first | exact ⟨_, t, h, fun k' h' => h'⟩ | cases h
theorem one_rl {r0 : Option ab_R} {k : List Value → ab_S → Option ab_R} {r : ab_R} (h : ab_rl r0 (fun x t => k [.long x] t) = some r) : ∃ rs st', k rs st' = some r ∧ ∀ k' : List Value → ab_S → Option ab_R, k' rs st' = some r → ab_rl r0 (fun x t => k' [.long x] t) = some r := by
  cases r0 with
  | none => cases h
  | some q =>
    obtain ⟨v, t⟩ := q
    cases v with
    | none => cases h
    | some v => cases v <;> first | exact ⟨_, t, h, fun k' h' => h'⟩ | cases h
theorem one_rr {r0 : Option ab_R} {k : List Value → ab_S → Option ab_R} {r : ab_R} (h : ab_rr r0 (fun x t => k [.ref x] t) = some r) : ∃ rs st', k rs st' = some r ∧ ∀ k' : List Value → ab_S → Option ab_R, k' rs st' = some r → ab_rr r0 (fun x t => k' [.ref x] t) = some r := by
  cases r0 with
  | none => cases h
  | some q =>
    obtain ⟨v, t⟩ := q
    cases v with
    | none => cases h
    | some v => cases v <;> first | exact ⟨_, t, h, fun k' h' => h'⟩ | cases h
theorem o_obj : ab_one g_obj := by
  intro as st k r h
  unfold g_obj at h ⊢
  split at h
  · split at h
    · cases h
    · next ho => exact ⟨_, _, h, fun _ h' => by rw [if_neg ho]; exact h'⟩
  · cases h
theorem o_max : ab_one g_max := by
  intro as st k r h
  unfold g_max at h ⊢
  split at h
  · exact ⟨_, _, h, fun _ h' => h'⟩
  · cases h
theorem o_min : ab_one g_min := by
  intro as st k r h
  unfold g_min at h ⊢
  split at h
  · exact ⟨_, _, h, fun _ h' => h'⟩
  · cases h
theorem o_abs : ab_one g_abs := by
  intro as st k r h
  unfold g_abs at h ⊢
  split at h
  · exact ⟨_, _, h, fun _ h' => h'⟩
  · cases h
theorem o_minl : ab_one g_minl := by
  intro as st k r h
  unfold g_minl at h ⊢
  split at h
  · exact ⟨_, _, h, fun _ h' => h'⟩
  · cases h
end
section
/-! HOW A HEAP HOLDS AN ABSTRACT STATE. Number 1 is the script at b, number o + 2 the cell N0 + o. -/
def ad (b N0 : Nat) (o : Nat) : Option Nat := match o with
  | 0 => none
  | 1 => some b
  | o + 2 => some (N0 + o)
def cv (b N0 : Nat) (v : Value) : Value := match v with
  | .ref o => va_rf (ad b N0 o)
  | v => v
theorem va_rf_cat (r : Option Nat) : (va_rf r).category = 1 := by cases r <;> rfl
theorem cv_cat (b N0 : Nat) (v : Value) : (cv b N0 v).category = v.category := by
  cases v <;> first | rfl | exact va_rf_cat _
def fv (b N0 : Nat) (st : ab_S) (o k t : Nat) : Value := match t with
  | 2 => .long (sJ st o k)
  | 3 => va_rf (ad b N0 (sR st o k))
  | _ => .int (sI st o k)
def flv (b N0 : Nat) (st : ab_S) (o : Nat) : Nat → List Nat → List Value
  | _, [] => []
  | k, t :: r => fv b N0 st o k t :: flv b N0 st o (k + 1) r
theorem flv_get {b N0 : Nat} {st : ab_S} {o : Nat} : ∀ (ts : List Nat) (k j : Nat), (flv b N0 st o k ts)[j]? = (ts[j]?).map (fun t => fv b N0 st o (k + j) t)
  | [], _, _ => by simp [flv]
  | t :: r, k, 0 => by simp [flv]
  | t :: r, k, j + 1 => by
    simp only [flv, List.getElem?_cons_succ]
    rw [flv_get r (k + 1) j, show k + 1 + j = k + (j + 1) by omega]
theorem flv_len {b N0 : Nat} {st : ab_S} {o : Nat} : ∀ (ts : List Nat) (k : Nat), (flv b N0 st o k ts).length = ts.length
  | [], _ => rfl
  | t :: r, k => by simp [flv, flv_len r (k + 1)]
theorem flv_set {b N0 : Nat} {st st' : ab_S} {o p t : Nat} {ts : List Nat} {v : Value} (hp : ts[p]? = some t) (hv : fv b N0 st' o p t = v) (ho : ∀ j t', j ≠ p → fv b N0 st' o j t' = fv b N0 st o j t') : (flv b N0 st o 0 ts).set p v = flv b N0 st' o 0 ts := by
  apply List.ext_getElem?
  intro j
  rw [List.getElem?_set, flv_get, flv_get]
  by_cases h : p = j
  · subst h
    rw [if_pos rfl, hp]
    simp only [Option.map_some, Nat.zero_add, hv]
    have hl : p < (flv b N0 st o 0 ts).length := by
      rw [flv_len]
      exact (List.getElem?_eq_some_iff.mp hp).1
    rw [if_pos hl]
  · rw [if_neg h]
    cases ts[j]? with
    | none => rfl
    | some t' => simp only [Option.map_some, Nat.zero_add]; rw [ho j t' (fun q => h q.symm)]
theorem flv_congr {b N0 : Nat} {st st' : ab_S} {o : Nat} (h : ∀ k t, fv b N0 st' o k t = fv b N0 st o k t) : ∀ (ts : List Nat) (k : Nat), flv b N0 st' o k ts = flv b N0 st o k ts
  | [], _ => rfl
  | t :: r, k => by simp only [flv, h, flv_congr h r (k + 1)]
def en (b N0 : Nat) (aK : Nat → ClassId) (st : ab_S) (o : Nat) (h : Nat × Nat) : va_E :=
  if h.1 = 0 then .inr (h.2, flv b N0 st o 0 (ab_fk h.2)) else .inl (aK h.1, h.2, if h.1 = 2 then .inr (.inl (sJ st o)) else if h.1 = 1 ∨ h.1 = 3 ∨ h.1 = 4 then .inl (sI st o) else .inr (.inr (.inr (.inr (fun j => ad b N0 (sR st o j))))))
def wsl (b N0 : Nat) (aK : Nat → ClassId) (st : ab_S) : va_W := ((sH st).drop 2).mapIdx (fun i h => (N0 + i, en b N0 aK st (i + 2) h))
theorem wsl_q (b N0 : Nat) (aK : Nat → ClassId) (st : ab_S) (o : Nat) : (wsl b N0 aK st)[o]? = ((sH st)[o + 2]?).map (fun h => (N0 + o, en b N0 aK st (o + 2) h)) := by
  unfold wsl
  rw [List.getElem?_mapIdx, List.getElem?_drop, Nat.add_comm 2 o]
theorem wsl_get {b N0 : Nat} {aK : Nat → ClassId} {st : ab_S} {o : Nat} {h : Nat × Nat} (hs : (sH st)[o + 2]? = some h) : (wsl b N0 aK st)[o]? = some (N0 + o, en b N0 aK st (o + 2) h) := by
  rw [wsl_q, hs]; rfl
theorem wsl_D (b N0 : Nat) (aK : Nat → ClassId) (st : ab_S) : va_D (fun q => N0 ≤ q) (wsl b N0 aK st) := by
  have key : ∀ (i : Nat) (p : Nat × va_E), (wsl b N0 aK st)[i]? = some p → p.1 = N0 + i := by
    intro i p h
    rw [wsl_q] at h
    cases hs : (sH st)[i + 2]? with
    | none => rw [hs] at h; cases h
    | some x => rw [hs] at h; cases h; rfl
  refine ⟨fun i j p q hi hj hpq => ?_, fun k q hk => ?_⟩
  · have h1 := key i p hi
    have h2 := key j q hj
    omega
  · have h1 := key k q hk
    show N0 ≤ q.1
    omega
theorem wsl_set {b N0 : Nat} {aK : Nat → ClassId} {st st' : ab_S} {o : Nat} {h : Nat × Nat} {e : va_E} (hs : (sH st)[o + 2]? = some h) (hH : sH st' = sH st) (he : en b N0 aK st' (o + 2) h = e) (ho : ∀ i h', i ≠ o → en b N0 aK st' (i + 2) h' = en b N0 aK st (i + 2) h') : (wsl b N0 aK st).set o (N0 + o, e) = wsl b N0 aK st' := by
  apply List.ext_getElem?
  intro j
  rw [List.getElem?_set, wsl_q, wsl_q, hH]
  have hl : o < (wsl b N0 aK st).length := (List.getElem?_eq_some_iff.mp (wsl_get (b := b) (N0 := N0) (aK := aK) hs)).1
  by_cases hj : o = j
  · subst hj
    rw [if_pos rfl, if_pos hl, hs]
    simp only [Option.map_some, he]
  · rw [if_neg hj]
    cases (sH st)[j + 2]? with
    | none => rfl
    | some x => simp only [Option.map_some]; rw [ho j x (fun q => hj q.symm)]
theorem wsl_push {b N0 : Nat} {aK : Nat → ClassId} {st st' : ab_S} {h : Nat × Nat} {e : va_E} (h2 : 2 ≤ (sH st).length) (hH : sH st' = sH st ++ [h]) (he : en b N0 aK st' (sH st).length h = e) (ho : ∀ i h', i < (sH st).length → en b N0 aK st' i h' = en b N0 aK st i h') : wsl b N0 aK st ++ [(N0 + ((sH st).length - 2), e)] = wsl b N0 aK st' := by
  have hlen : (wsl b N0 aK st).length = (sH st).length - 2 := by simp [wsl]
  apply List.ext_getElem?
  intro j
  rw [wsl_q, hH]
  by_cases hj : j + 2 < (sH st).length
  · rw [List.getElem?_append_left (by omega), List.getElem?_append_left hj, wsl_q]
    cases hx : (sH st)[j + 2]? with
    | none => rfl
    | some x => simp only [Option.map_some]; rw [ho _ x hj]
  · by_cases hj2 : j + 2 = (sH st).length
    · rw [List.getElem?_append_right (by omega), List.getElem?_append_right (by omega), hlen, hj2, Nat.sub_self, show j - ((sH st).length - 2) = 0 by omega]
      simp only [List.getElem?_cons_zero, Option.map_some, he]
      congr 2
      omega
    · rw [List.getElem?_eq_none (by simp; omega), List.getElem?_eq_none (by simp; omega)]
      rfl
/-- which shapes there are, from 2 on -/
def shOK (h : Nat × Nat) : Prop := (h.1 = 0 ∧ h.2 < 12) ∨ h.1 = 1 ∨ h.1 = 2 ∨ h.1 = 3 ∨ h.1 = 4 ∨ h.1 = 5 ∨ h.1 = 8 ∨ h.1 = 12 ∨ h.1 = 17
abbrev tys (aK : Nat → ClassId) : List (ClassId × FieldType) := [(aK 1, .int), (aK 2, .long), (aK 3, .byte), (aK 4, .boolean), (aK 5, .array .int), (aK 8, .object RX0), (aK 12, .object RX4), (aK 17, .object RX9)]
def rp (D : va_G) (aK : Nat → ClassId) (b N0 L : Nat) (xs : Nat → Int32) (st : ab_S) (H : Heap) : Prop :=
  va_P D ab_cl (wsl b N0 aK st) H ∧ H.size + 2 = N0 + (sH st).length ∧ (sH st)[0]? = some (6, 0) ∧ (sH st)[1]? = some (7, L) ∧ (∀ j, j < L → sI st 1 j = xs j) ∧ ∀ i h, (sH st)[i + 2]? = some h → shOK h
/-- the rows of an array of arrays of int are arrays of int -/
def rkI (aK : Nat → ClassId) (U : State) : Prop := ∃ kA : Class, U.vm.classes[aK 5]? = some kA ∧ kA.kind = .array (aK 1) (.array .int)
theorem rkI.moved {aK : Nat → ClassId} {u U : State} (hvm : u.vm.Alike U.vm) (h : rkI aK u) : rkI aK U := by
  obtain ⟨k, h1, h2⟩ := h
  obtain ⟨k', hk', he⟩ := hvm.2.2 _ _ h1
  exact ⟨k', hk', by rw [he]; exact h2⟩
/-- what the tables say, and where the script is -/
def rk (D : va_G) (aK : Nat → ClassId) (b N0 L : Nat) (xs : Nat → Int32) (U : State) : Prop :=
  va_K D ab_cl (tys aK) U ∧ (∀ w ∈ ab_nw, va_Nw w U) ∧ va_AO RX0 U ∧ va_AO RX4 U ∧ (va_AO RX9 U ∧ rkI aK U) ∧ va_X b L xs U U.heap ∧ b < N0 ∧ N0 ≤ U.heap.size
theorem rp_ge {D : va_G} {aK : Nat → ClassId} {b N0 L : Nat} {xs : Nat → Int32} {st : ab_S} {H : Heap} (h : rp D aK b N0 L xs st H) {o : Nat} {q : Nat × Nat} (hs : (sH st)[o]? = some q) (h6 : q.1 ≠ 6) (h7 : q.1 ≠ 7) : ∃ o', o = o' + 2 := by
  obtain ⟨-, -, h0, h1, -⟩ := h
  match o, hs with
  | 0, hs => rw [h0] at hs; cases hs; exact absurd rfl h6
  | 1, hs => rw [h1] at hs; cases hs; exact absurd rfl h7
  | o + 2, _ => exact ⟨o, rfl⟩
/-- one cell changes -/
theorem rp_set {D : va_G} {aK : Nat → ClassId} {b N0 L : Nat} {xs : Nat → Int32} {st st' : ab_S} {H H1 : Heap} {o : Nat} {q : Nat × Nat} (hr : rp D aK b N0 L xs st H) (hs : (sH st)[o + 2]? = some q) (hH : sH st' = sH st) (hI : ∀ j, sI st' 1 j = sI st 1 j) (ho : ∀ i h', i ≠ o → en b N0 aK st' (i + 2) h' = en b N0 aK st (i + 2) h')
    (hz : H1.size = H.size) (hq : ∀ a : Nat, a ≠ N0 + o → H1[a]? = H[a]?) (hat : va_at D ab_cl (N0 + o, en b N0 aK st' (o + 2) q) H1) : rp D aK b N0 L xs st' H1 := by
  obtain ⟨h1, h2, h3, h4, h5, h6⟩ := hr
  refine ⟨?_, by rw [hz, hH]; exact h2, by rw [hH]; exact h3, by rw [hH]; exact h4, fun j hj => by rw [hI]; exact h5 j hj, fun i h hi => h6 i h (by rw [← hH]; exact hi)⟩
  rw [← wsl_set hs hH rfl ho]
  exact h1.set (wsl_D b N0 aK st) (wsl_get hs) hat hq
theorem rp_push {D : va_G} {aK : Nat → ClassId} {b N0 L : Nat} {xs : Nat → Int32} {st : ab_S} {H H1 : Heap} {q : Nat × Nat} (hr : rp D aK b N0 L xs st H) (hok : shOK q) (hz : H1.size = H.size + 1) (hq : ∀ a : Nat, a < H.size → H1[a]? = H[a]?) (hat : va_at D ab_cl (H.size, en b N0 aK (ab_mk st q) (sH st).length q) H1) : rp D aK b N0 L xs (ab_mk st q) H1 := by
  obtain ⟨h1, h2, h3, h4, h5, h6⟩ := hr
  have hl : 2 ≤ (sH st).length := by
    have := (List.getElem?_eq_some_iff.mp h4).1
    omega
  have hne : ∀ i, i < (sH st).length → i ≠ st.2.2.2.length := fun i hi => Nat.ne_of_lt hi
  have hen : ∀ i h', i < (sH st).length → en b N0 aK (ab_mk st q) i h' = en b N0 aK st i h' := by
    intro i h' hi
    have e1 : sI (ab_mk st q) i = sI st i := by funext k; simp [sI, ab_mk, hne i hi]
    have e2 : sJ (ab_mk st q) i = sJ st i := by funext k; simp [sJ, ab_mk, hne i hi]
    have e3 : sR (ab_mk st q) i = sR st i := by funext k; simp [sR, ab_mk, hne i hi]
    unfold en
    rw [e1, e2, e3, flv_congr (st' := ab_mk st q) (st := st) (fun k t => by unfold fv; rw [e1, e2, e3])]
  have ha : H.size = N0 + ((sH st).length - 2) := by omega
  refine ⟨?_, by show H1.size + 2 = N0 + (st.2.2.2 ++ [q]).length; rw [hz, List.length_append]; show H.size + 1 + 2 = N0 + ((sH st).length + 1); omega, ?_, ?_, fun j hj => ?_, fun i h hi => ?_⟩
  · rw [← wsl_push hl (show sH (ab_mk st q) = sH st ++ [q] from rfl) rfl hen]
    refine va_P.app (h1.kept (fun k x hx => hq x.1 ((h1 k x hx).lt))) (fun k x hx => ?_)
    have hz : k < 1 := (List.getElem?_eq_some_iff.mp hx).1
    rw [show k = 0 by omega] at hx
    cases hx
    rw [← ha]
    exact hat
  · show (st.2.2.2 ++ [q])[0]? = _
    rw [List.getElem?_append_left (show 0 < st.2.2.2.length from by show 0 < (sH st).length; omega)]
    exact h3
  · show (st.2.2.2 ++ [q])[1]? = _
    rw [List.getElem?_append_left (show 1 < st.2.2.2.length from by show 1 < (sH st).length; omega)]
    exact h4
  · have : sI (ab_mk st q) 1 j = sI st 1 j := by
      have := hne 1 (by omega)
      simp [sI, ab_mk, this]
    rw [this]
    exact h5 j hj
  · have hi : (sH st ++ [q])[i + 2]? = some h := hi
    by_cases hlt : i + 2 < (sH st).length
    · rw [List.getElem?_append_left hlt] at hi
      exact h6 i h hi
    · rw [List.getElem?_append_right (by omega)] at hi
      have hz : i + 2 - (sH st).length < 1 := (List.getElem?_eq_some_iff.mp hi).1
      rw [show i + 2 - (sH st).length = 0 by omega] at hi
      cases hi
      exact hok
/-- cells and slots -/
def ns1 (h : Nat × Nat) : Nat := if h.1 = 0 then (ab_fk h.2).length else h.2
def nsl (l : List (Nat × Nat)) : Nat := (l.map ns1).sum
def ext (a c : ab_S) : Prop := ∃ t, sH c = sH a ++ t
theorem ext_rfl {a : ab_S} : ext a a := ⟨[], by simp⟩
theorem ext_eq {a c : ab_S} (h : sH c = sH a) : ext a c := ⟨[], by simp [h]⟩
theorem ext_trans {a c d : ab_S} (h : ext a c) (h2 : ext c d) : ext a d := by
  obtain ⟨t, h⟩ := h
  obtain ⟨u, h2⟩ := h2
  exact ⟨t ++ u, by rw [h2, h, List.append_assoc]⟩
theorem ext_len {a c : ab_S} (h : ext a c) : (sH a).length ≤ (sH c).length := by
  obtain ⟨t, h⟩ := h
  rw [h, List.length_append]; omega
theorem ext_ns {a c : ab_S} (h : ext a c) : nsl (sH a) ≤ nsl (sH c) := by
  obtain ⟨t, h⟩ := h
  rw [h]; unfold nsl; rw [List.map_append, List.sum_append]; omega
theorem ext_mk {a : ab_S} {h : Nat × Nat} : ext a (ab_mk a h) := ⟨[h], rfl⟩
theorem len_mk {a : ab_S} {h : Nat × Nat} : (sH (ab_mk a h)).length = (sH a).length + 1 := by
  show (sH a ++ [h]).length = _
  simp
theorem nsl_mk {a : ab_S} {h : Nat × Nat} : nsl (sH (ab_mk a h)) = nsl (sH a) + ns1 h := by
  show nsl (sH a ++ [h]) = _
  unfold nsl
  simp
end
section
/-! SOUNDNESS: what the abstract machine answers, the machine does. Here one instruction. -/
theorem tk_i_e {stk : List Value} {f : Int32 → List Value → Option ab_R} {r : ab_R} (h : tk_i stk f = some r) : ∃ x q, stk = .int x :: q ∧ f x q = some r := by
  unfold tk_i at h; split at h
  · exact ⟨_, _, rfl, h⟩
  · cases h
theorem tk_l_e {stk : List Value} {f : Int64 → List Value → Option ab_R} {r : ab_R} (h : tk_l stk f = some r) : ∃ x q, stk = .long x :: q ∧ f x q = some r := by
  unfold tk_l at h; split at h
  · exact ⟨_, _, rfl, h⟩
  · cases h
theorem tk_r_e {stk : List Value} {f : Nat → List Value → Option ab_R} {r : ab_R} (h : tk_r stk f = some r) : ∃ x q, stk = .ref x :: q ∧ f x q = some r := by
  unfold tk_r at h; split at h
  · exact ⟨_, _, rfl, h⟩
  · cases h
theorem tk_ii_e {stk : List Value} {f : Int32 → Int32 → List Value → Option ab_R} {r : ab_R} (h : tk_ii stk f = some r) : ∃ x y q, stk = .int y :: .int x :: q ∧ f x y q = some r := by
  unfold tk_ii at h; split at h
  · exact ⟨_, _, _, rfl, h⟩
  · cases h
theorem tk_ll_e {stk : List Value} {f : Int64 → Int64 → List Value → Option ab_R} {r : ab_R} (h : tk_ll stk f = some r) : ∃ x y q, stk = .long y :: .long x :: q ∧ f x y q = some r := by
  unfold tk_ll at h; split at h
  · exact ⟨_, _, _, rfl, h⟩
  · cases h
theorem tk_li_e {stk : List Value} {f : Int64 → Int32 → List Value → Option ab_R} {r : ab_R} (h : tk_li stk f = some r) : ∃ x y q, stk = .int y :: .long x :: q ∧ f x y q = some r := by
  unfold tk_li at h; split at h
  · exact ⟨_, _, _, rfl, h⟩
  · cases h
theorem tk_ri_e {stk : List Value} {f : Nat → Int32 → List Value → Option ab_R} {r : ab_R} (h : tk_ri stk f = some r) : ∃ x y q, stk = .int y :: .ref x :: q ∧ f x y q = some r := by
  unfold tk_ri at h; split at h
  · exact ⟨_, _, _, rfl, h⟩
  · cases h
theorem tk_rl_e {stk : List Value} {f : Nat → Int64 → List Value → Option ab_R} {r : ab_R} (h : tk_rl stk f = some r) : ∃ x y q, stk = .long y :: .ref x :: q ∧ f x y q = some r := by
  unfold tk_rl at h; split at h
  · exact ⟨_, _, _, rfl, h⟩
  · cases h
theorem tk_rr_e {stk : List Value} {f : Nat → Nat → List Value → Option ab_R} {r : ab_R} (h : tk_rr stk f = some r) : ∃ x y q, stk = .ref y :: .ref x :: q ∧ f x y q = some r := by
  unfold tk_rr at h; split at h
  · exact ⟨_, _, _, rfl, h⟩
  · cases h
theorem tk_rii_e {stk : List Value} {f : Nat → Int32 → Int32 → List Value → Option ab_R} {r : ab_R} (h : tk_rii stk f = some r) : ∃ x y z q, stk = .int z :: .int y :: .ref x :: q ∧ f x y z q = some r := by
  unfold tk_rii at h; split at h
  · exact ⟨_, _, _, _, rfl, h⟩
  · cases h
theorem tk_ril_e {stk : List Value} {f : Nat → Int32 → Int64 → List Value → Option ab_R} {r : ab_R} (h : tk_ril stk f = some r) : ∃ x y z q, stk = .long z :: .int y :: .ref x :: q ∧ f x y z q = some r := by
  unfold tk_ril at h; split at h
  · exact ⟨_, _, _, _, rfl, h⟩
  · cases h
theorem tk_rir_e {stk : List Value} {f : Nat → Int32 → Nat → List Value → Option ab_R} {r : ab_R} (h : tk_rir stk f = some r) : ∃ x y z q, stk = .ref z :: .int y :: .ref x :: q ∧ f x y z q = some r := by
  unfold tk_rir at h; split at h
  · exact ⟨_, _, _, _, rfl, h⟩
  · cases h
theorem ld_i_e {ls : ab_L} {i : Nat} {f : Int32 → Option ab_R} {r : ab_R} (h : ld_i ls i f = some r) : ∃ x, ab_look ls i = some (.int x) ∧ f x = some r := by
  unfold ld_i at h; split at h
  · next x hx => exact ⟨x, hx, h⟩
  · cases h
theorem ld_l_e {ls : ab_L} {i : Nat} {f : Int64 → Option ab_R} {r : ab_R} (h : ld_l ls i f = some r) : ∃ x, ab_look ls i = some (.long x) ∧ f x = some r := by
  unfold ld_l at h; split at h
  · next x hx => exact ⟨x, hx, h⟩
  · cases h
theorem ld_r_e {ls : ab_L} {i : Nat} {f : Nat → Option ab_R} {r : ab_R} (h : ld_r ls i f = some r) : ∃ x, ab_look ls i = some (.ref x) ∧ f x = some r := by
  unfold ld_r at h; split at h
  · next x hx => exact ⟨x, hx, h⟩
  · cases h
theorem ab_lt_e {i n : Nat} {q : Option ab_R} {r : ab_R} (h : ab_lt i n q = some r) : i < n ∧ q = some r := by
  unfold ab_lt at h; split at h
  · next hx => exact ⟨Nat.le_of_ble_eq_true hx, h⟩
  · cases h
/-- what an entry of the table says of its constant, its target, its length -/
def ab_chk (pc : Nat) (ins : Instr) (n : Nat) (x : Value) (t : Nat) : Bool := match ins with
  | .iconst i => n == 1 && x == .int (Int32.ofInt i)
  | .bipush i => n == 2 && x == .int (Int8.ofInt i).toInt32
  | .sipush i => n == 3 && x == .int (Int16.ofInt i).toInt32
  | .lconst i => n == 1 && x == .long (Int64.ofNat i.val)
  | .ldc _ => n == 2
  | .ldc2_w _ => n == 3
  | .iload i => n == 2 && t == i
  | .lload i => n == 2 && t == i
  | .aload i => n == 2 && t == i
  | .istore i => n == 2 && t == i
  | .lstore i => n == 2 && t == i
  | .astore i => n == 2 && t == i
  | .iload_n i => n == 1 && t == i.val
  | .lload_n i => n == 1 && t == i.val
  | .aload_n i => n == 1 && t == i.val
  | .istore_n i => n == 1 && t == i.val
  | .lstore_n i => n == 1 && t == i.val
  | .astore_n i => n == 1 && t == i.val
  | .iinc i d => n == 3 && (t == i && x == .int (Int32.ofInt d))
  | .goto d => n == 3 && decide ((pc : Int) + d = (t : Int))
  | .if_icmp _ d => n == 3 && decide ((pc : Int) + d = (t : Int))
  | .ifCond _ d => n == 3 && decide ((pc : Int) + d = (t : Int))
  | .ifnull d => n == 3 && decide ((pc : Int) + d = (t : Int))
  | .getfield _ => n == 3
  | .putfield _ => n == 3
  | .new _ => n == 3
  | .anewarray _ => n == 3
  | .newarray a => n == 2 && decide (a = .int ∨ a = .long ∨ a = .byte ∨ a = .boolean)
  | .multianewarray _ _ => n == 4
  | .invokestatic _ => n == 3
  | .invokevirtual _ => n == 3
  | .invokespecial _ => n == 3
  | .tableswitch _ _ _ _ => true
  | .lookupswitch _ _ => true
  | _ => n == 1
section GO
variable {p : Program} {l : Launch} {e : Env} {R : Room} {s : State} {m : MethodId} {args : Array Value} {below : List Frame} {meth : Method} {c : Code} {Q : State → Prop}
variable {D : va_G} {aK : Nat → ClassId} {b N0 L : Nat} {xs : Nat → Int32} {nL : Nat} {st0 : ab_S}
/-- from here the machine comes to a state with Q, whatever heap holds the abstract state -/
def Go (p : Program) (l : Launch) (e : Env) (R : Room) (s : State) (m : MethodId) (args : Array Value) (below : List Frame) (meth : Method) (c : Code) (Q : State → Prop) (D : va_G) (aK : Nat → ClassId) (b N0 L : Nat) (xs : Nat → Int32) (nL : Nat) (st0 : ab_S) (pc : Nat) (ls : ab_L) (stk : List Value) (st : ab_S) : Prop :=
  ∀ (H : Heap) (locs : List Loc) (lsA : Array Slot), rp D aK b N0 L xs st H → va_S (fun q => N0 ≤ q) s.heap H locs → lv_has lsA nL (ls.map (fun q => (q.1, cv b N0 q.2))) →
    W p l e R s m args below meth c H locs ((sH st).length - (sH st0).length) (nsl (sH st) - nsl (sH st0)) Q (F0 m pc lsA (stk.map (cv b N0)))
theorem lv_map {ls : ab_L} {lsA : Array Slot} {i : Nat} {v : Value} (hl : lv_has lsA nL (ls.map (fun q => (q.1, cv b N0 q.2)))) (h : ab_look ls i = some v) : lsA[i]? = some (.val (cv b N0 v)) :=
  hl.2.2 (i, cv b N0 v) (List.mem_map.mpr ⟨(i, v), ab_look_mem h, rfl⟩)
theorem st1_map {ls : ab_L} {i : Nat} {v : Value} : (i, cv b N0 v) :: (ls.map (fun q => (q.1, cv b N0 q.2))).filter (fun q => !(q.1 == i) && !(q.1 + 1 == i && q.2.category == 2)) = (ab_st1 ls i v).map (fun q => (q.1, cv b N0 q.2)) := by
  unfold ab_st1
  rw [List.map_cons, List.filter_map]
  congr 3
  funext q
  simp only [Function.comp, cv_cat]
theorem st2_map {ls : ab_L} {i : Nat} {v : Value} : (i, cv b N0 v) :: (ls.map (fun q => (q.1, cv b N0 q.2))).filter (fun q => !(q.1 == i) && (!(q.1 == i + 1) && !(q.1 + 1 == i && q.2.category == 2))) = (ab_st2 ls i v).map (fun q => (q.1, cv b N0 q.2)) := by
  unfold ab_st2
  rw [List.map_cons, List.filter_map]
  congr 3
  funext q
  simp only [Function.comp, cv_cat]
/-- loading and storing a reference, null or not -/
theorem ab_aload {cc : ByteArray} {pc n i : Nat} {ls : Array Slot} {rest : List Value} {H : Heap} {locs : List Loc} {cells slots : Nat} (hx : p.tables.exec = Jvm.exec) (hb : c.code = cc) {r : Option Nat} (hl : ls[i]? = some (.val (va_rf r)))
    (hd : (n = 2 ∧ decode cc pc = .ok (.aload i, n)) ∨ (n = 1 ∧ ∃ k : Fin 4, k.val = i ∧ decode cc pc = .ok (.aload_n k, n))) (k : W p l e R s m args below meth c H locs cells slots Q (F0 m (pc + n) ls (va_rf r :: rest))) : W p l e R s m args below meth c H locs cells slots Q (F0 m pc ls rest) := by
  rcases hd with ⟨rfl, hd⟩ | ⟨rfl, k4, h4, hd⟩
  · cases r with
    | none => exact lv_aloadN hx hb hd hl k
    | some a => exact lv_aload hx hb hd hl k
  · cases r with
    | none => exact lv_aload_nN hx hb hd h4 hl k
    | some a => exact lv_aload_n hx hb hd h4 hl k
theorem ab_astore {cc : ByteArray} {pc n i : Nat} {ls : Array Slot} {rest : List Value} {H : Heap} {locs : List Loc} {cells slots : Nat} (hx : p.tables.exec = Jvm.exec) (hb : c.code = cc) {r : Option Nat} {lv lv' : List (Nat × Value)} (h : lv_has ls nL lv) (hn : i < nL) (hl : (i, va_rf r) :: lv.filter (fun q => !(q.1 == i) && !(q.1 + 1 == i && q.2.category == 2)) = lv')
    (hd : (n = 2 ∧ decode cc pc = .ok (.astore i, n)) ∨ (n = 1 ∧ ∃ k : Fin 4, k.val = i ∧ decode cc pc = .ok (.astore_n k, n))) (k : ∀ ls' : Array Slot, lv_has ls' nL lv' → W p l e R s m args below meth c H locs cells slots Q (F0 m (pc + n) ls' rest)) : W p l e R s m args below meth c H locs cells slots Q (F0 m pc ls (va_rf r :: rest)) := by
  rcases hd with ⟨rfl, hd⟩ | ⟨rfl, k4, h4, hd⟩
  · cases r with
    | none => exact lv_astoreN hx hb hd h hn hl k
    | some a => exact lv_astore hx hb hd h hn hl k
  · cases r with
    | none => exact lv_astore_nN hx hb hd h4 h hn hl k
    | some a => exact lv_astore_n hx hb hd h4 h hn hl k
end GO
end
section
/-! THE HEAP'S ROWS over an abstract state -/
def kdok (ks : List Nat) (ty : FieldType) (k : Nat) : Bool := match ks[k]?, ty with
  | some 0, .int => true
  | some 1, .boolean => true
  | some 2, .long => true
  | some 3, .object _ => true
  | some 3, .array _ => true
  | _, _ => false
theorem cl_w0 : ∀ w ∈ u_ws RX0 TX0 3, w ∈ ab_ws := by decide +kernel
theorem cl_t0 : ∀ k, k < 3 → parseFieldDescriptor (TX0 k).2.2.1 = some (ab_ty 0 k) := by decide +kernel
theorem cl_n0 : ∀ a, a < 3 → ∀ b, b < 3 → a ≠ b → (TX0 a).2.1 ≠ (TX0 b).2.1 := by decide +kernel
theorem cl_k0 : ∀ k, k < 3 → kdok (ab_fk 0) (ab_ty 0 k) k = true := by decide +kernel
theorem cl_w1 : ∀ w ∈ u_ws RX1 TX1 11, w ∈ ab_ws := by decide +kernel
theorem cl_t1 : ∀ k, k < 11 → parseFieldDescriptor (TX1 k).2.2.1 = some (ab_ty 1 k) := by decide +kernel
theorem cl_n1 : ∀ a, a < 11 → ∀ b, b < 11 → a ≠ b → (TX1 a).2.1 ≠ (TX1 b).2.1 := by decide +kernel
theorem cl_k1 : ∀ k, k < 11 → kdok (ab_fk 1) (ab_ty 1 k) k = true := by decide +kernel
theorem cl_w2 : ∀ w ∈ u_ws RX2 TX2 3, w ∈ ab_ws := by decide +kernel
theorem cl_t2 : ∀ k, k < 3 → parseFieldDescriptor (TX2 k).2.2.1 = some (ab_ty 2 k) := by decide +kernel
theorem cl_n2 : ∀ a, a < 3 → ∀ b, b < 3 → a ≠ b → (TX2 a).2.1 ≠ (TX2 b).2.1 := by decide +kernel
theorem cl_k2 : ∀ k, k < 3 → kdok (ab_fk 2) (ab_ty 2 k) k = true := by decide +kernel
theorem cl_w3 : ∀ w ∈ u_ws RX3 TX3 5, w ∈ ab_ws := by decide +kernel
theorem cl_t3 : ∀ k, k < 5 → parseFieldDescriptor (TX3 k).2.2.1 = some (ab_ty 3 k) := by decide +kernel
theorem cl_n3 : ∀ a, a < 5 → ∀ b, b < 5 → a ≠ b → (TX3 a).2.1 ≠ (TX3 b).2.1 := by decide +kernel
theorem cl_k3 : ∀ k, k < 5 → kdok (ab_fk 3) (ab_ty 3 k) k = true := by decide +kernel
theorem cl_w4 : ∀ w ∈ u_ws RX4 TX4 3, w ∈ ab_ws := by decide +kernel
theorem cl_t4 : ∀ k, k < 3 → parseFieldDescriptor (TX4 k).2.2.1 = some (ab_ty 4 k) := by decide +kernel
theorem cl_n4 : ∀ a, a < 3 → ∀ b, b < 3 → a ≠ b → (TX4 a).2.1 ≠ (TX4 b).2.1 := by decide +kernel
theorem cl_k4 : ∀ k, k < 3 → kdok (ab_fk 4) (ab_ty 4 k) k = true := by decide +kernel
theorem cl_w5 : ∀ w ∈ u_ws RX5 TX5 10, w ∈ ab_ws := by decide +kernel
theorem cl_t5 : ∀ k, k < 10 → parseFieldDescriptor (TX5 k).2.2.1 = some (ab_ty 5 k) := by decide +kernel
theorem cl_n5 : ∀ a, a < 10 → ∀ b, b < 10 → a ≠ b → (TX5 a).2.1 ≠ (TX5 b).2.1 := by decide +kernel
theorem cl_k5 : ∀ k, k < 10 → kdok (ab_fk 5) (ab_ty 5 k) k = true := by decide +kernel
theorem cl_w6 : ∀ w ∈ u_ws RX6 TX6 2, w ∈ ab_ws := by decide +kernel
theorem cl_t6 : ∀ k, k < 2 → parseFieldDescriptor (TX6 k).2.2.1 = some (ab_ty 6 k) := by decide +kernel
theorem cl_n6 : ∀ a, a < 2 → ∀ b, b < 2 → a ≠ b → (TX6 a).2.1 ≠ (TX6 b).2.1 := by decide +kernel
theorem cl_k6 : ∀ k, k < 2 → kdok (ab_fk 6) (ab_ty 6 k) k = true := by decide +kernel
theorem cl_w7 : ∀ w ∈ u_ws RX7 TX7 4, w ∈ ab_ws := by decide +kernel
theorem cl_t7 : ∀ k, k < 4 → parseFieldDescriptor (TX7 k).2.2.1 = some (ab_ty 7 k) := by decide +kernel
theorem cl_n7 : ∀ a, a < 4 → ∀ b, b < 4 → a ≠ b → (TX7 a).2.1 ≠ (TX7 b).2.1 := by decide +kernel
theorem cl_k7 : ∀ k, k < 4 → kdok (ab_fk 7) (ab_ty 7 k) k = true := by decide +kernel
theorem cl_w8 : ∀ w ∈ u_ws RX8 TX8 15, w ∈ ab_ws := by decide +kernel
theorem cl_t8 : ∀ k, k < 15 → parseFieldDescriptor (TX8 k).2.2.1 = some (ab_ty 8 k) := by decide +kernel
theorem cl_n8 : ∀ a, a < 15 → ∀ b, b < 15 → a ≠ b → (TX8 a).2.1 ≠ (TX8 b).2.1 := by decide +kernel
theorem cl_k8 : ∀ k, k < 15 → kdok (ab_fk 8) (ab_ty 8 k) k = true := by decide +kernel
theorem cl_w9 : ∀ w ∈ u_ws RX9 TX9 4, w ∈ ab_ws := by decide +kernel
theorem cl_t9 : ∀ k, k < 4 → parseFieldDescriptor (TX9 k).2.2.1 = some (ab_ty 9 k) := by decide +kernel
theorem cl_n9 : ∀ a, a < 4 → ∀ b, b < 4 → a ≠ b → (TX9 a).2.1 ≠ (TX9 b).2.1 := by decide +kernel
theorem cl_k9 : ∀ k, k < 4 → kdok (ab_fk 9) (ab_ty 9 k) k = true := by decide +kernel
theorem cl_w10 : ∀ w ∈ u_ws RX10 TX10 15, w ∈ ab_ws := by decide +kernel
theorem cl_t10 : ∀ k, k < 15 → parseFieldDescriptor (TX10 k).2.2.1 = some (ab_ty 10 k) := by decide +kernel
theorem cl_n10 : ∀ a, a < 15 → ∀ b, b < 15 → a ≠ b → (TX10 a).2.1 ≠ (TX10 b).2.1 := by decide +kernel
theorem cl_k10 : ∀ k, k < 15 → kdok (ab_fk 10) (ab_ty 10 k) k = true := by decide +kernel
theorem cl_w11 : ∀ w ∈ u_ws RX11 TX11 57, w ∈ ab_ws := by decide +kernel
theorem cl_t11 : ∀ k, k < 57 → parseFieldDescriptor (TX11 k).2.2.1 = some (ab_ty 11 k) := by decide +kernel
theorem cl_n11 : ∀ a, a < 57 → ∀ b, b < 57 → a ≠ b → (TX11 a).2.1 ≠ (TX11 b).2.1 := by decide +kernel
theorem cl_k11 : ∀ k, k < 57 → kdok (ab_fk 11) (ab_ty 11 k) k = true := by decide +kernel
def cl_P (ci : Nat) (C : String) (T : u_T) (N : Nat) : Prop := (∀ w ∈ u_ws C T N, w ∈ ab_ws) ∧ (∀ k, k < N → parseFieldDescriptor (T k).2.2.1 = some (ab_ty ci k)) ∧ (∀ a, a < N → ∀ b, b < N → a ≠ b → (T a).2.1 ≠ (T b).2.1) ∧ (ab_fk ci).length = N ∧ ∀ k, k < N → kdok (ab_fk ci) (ab_ty ci k) k = true
theorem cl_ok {ci : Nat} {q : vw_C} (h : ab_cl[ci]? = some q) : cl_P ci q.1 q.2.1 q.2.2 := by
  match ci, h with
  | 0, h => cases h; exact ⟨cl_w0, cl_t0, cl_n0, rfl, cl_k0⟩
  | 1, h => cases h; exact ⟨cl_w1, cl_t1, cl_n1, rfl, cl_k1⟩
  | 2, h => cases h; exact ⟨cl_w2, cl_t2, cl_n2, rfl, cl_k2⟩
  | 3, h => cases h; exact ⟨cl_w3, cl_t3, cl_n3, rfl, cl_k3⟩
  | 4, h => cases h; exact ⟨cl_w4, cl_t4, cl_n4, rfl, cl_k4⟩
  | 5, h => cases h; exact ⟨cl_w5, cl_t5, cl_n5, rfl, cl_k5⟩
  | 6, h => cases h; exact ⟨cl_w6, cl_t6, cl_n6, rfl, cl_k6⟩
  | 7, h => cases h; exact ⟨cl_w7, cl_t7, cl_n7, rfl, cl_k7⟩
  | 8, h => cases h; exact ⟨cl_w8, cl_t8, cl_n8, rfl, cl_k8⟩
  | 9, h => cases h; exact ⟨cl_w9, cl_t9, cl_n9, rfl, cl_k9⟩
  | 10, h => cases h; exact ⟨cl_w10, cl_t10, cl_n10, rfl, cl_k10⟩
  | 11, h => cases h; exact ⟨cl_w11, cl_t11, cl_n11, rfl, cl_k11⟩
  | n + 12, h => simp [ab_cl] at h
theorem cl_lt {ci : Nat} (h : ci < 12) : ∃ q, ab_cl[ci]? = some q := ⟨_, List.getElem?_eq_getElem (by simpa [ab_cl] using h)⟩
def fok (own : String) (i ci k kd : Nat) : Bool := match ab_cl[ci]? with
  | some q => decide (k < q.2.2) && (decide ((ab_fk ci)[k]? = some kd) && (decide (Cond.fieldLink own i (q.2.1 k).1 (q.2.1 k).2.1 (q.2.1 k).2.2.1 ∈ ab_ws) || decide (Cond.fieldLinkNest own i (q.2.1 k).1 (q.2.1 k).2.1 (q.2.1 k).2.2.1 "TermMachine" ∈ ab_nw)))
  | none => false
theorem fok_e {own : String} {i ci k kd : Nat} (h : fok own i ci k kd = true) : ∃ q : vw_C, ab_cl[ci]? = some q ∧ k < q.2.2 ∧ (ab_fk ci)[k]? = some kd ∧ (Cond.fieldLink own i (q.2.1 k).1 (q.2.1 k).2.1 (q.2.1 k).2.2.1 ∈ ab_ws ∨ Cond.fieldLinkNest own i (q.2.1 k).1 (q.2.1 k).2.1 (q.2.1 k).2.2.1 "TermMachine" ∈ ab_nw) := by
  unfold fok at h
  split at h
  · next q hq =>
    simp only [Bool.and_eq_true, Bool.or_eq_true, decide_eq_true_eq] at h
    exact ⟨q, hq, h.1, h.2.1, h.2.2⟩
  · cases h
/-- a final field is written in its own class' constructor alone -/
def pok (own : String) (init : Bool) (i ci k : Nat) : Bool := match ab_cl[ci]? with
  | some q => (q.2.1 k).2.2.2 == false || (init && (decide ((q.2.1 k).1 = own) && decide (Cond.fieldLink own i (q.2.1 k).1 (q.2.1 k).2.1 (q.2.1 k).2.2.1 ∈ ab_ws)))
  | none => false
/-- what holds all through a method's body -/
def Cx (p : Program) (s : State) (m : MethodId) (args : Array Value) (c : Code) (cc : ByteArray) (own : String) (nL : Nat) (D : va_G) (aK : Nat → ClassId) (b N0 L : Nat) (xs : Nat → Int32) : Prop :=
  p.tables.exec = Jvm.exec ∧ c.code = cc ∧ c.maxLocals = nL ∧ s.vm.findClass own = some m.cls ∧ (∀ w ∈ ab_ws, w.before args s = true) ∧ rk D aK b N0 L xs s
section HR
variable {p : Program} {l : Launch} {e : Env} {R : Room} {s : State} {m : MethodId} {args : Array Value} {below : List Frame} {meth : Method} {c : Code} {Q : State → Prop}
variable {D : va_G} {aK : Nat → ClassId} {b N0 L : Nat} {xs : Nat → Int32} {nL : Nat} {cc : ByteArray} {own : String} {pc : Nat} {lsA : Array Slot} {rest : List Value} {H : Heap} {locs : List Loc} {cells slots : Nat} {st : ab_S}
theorem ab_get (X : Cx p s m args c cc own nL D aK b N0 L xs) {i ci k kd o : Nat} (hf : fok own i ci k kd = true) (hr : rp D aK b N0 L xs st H) (hs : (sH st)[o]? = some (0, ci)) (hdg : decode cc pc = .ok (.getfield i, 3))
    (kk : W p l e R s m args below meth c H locs cells slots Q (F0 m (pc + 3) lsA (fv b N0 st o k kd :: rest))) : W p l e R s m args below meth c H locs cells slots Q (F0 m pc lsA (cv b N0 (.ref o) :: rest)) := by
  obtain ⟨o, rfl⟩ := rp_ge hr hs (by simp) (by simp)
  obtain ⟨hx, hb, -, hown, hts, hrk⟩ := X
  obtain ⟨q, hq, hk, hkd, hw⟩ := fok_e hf
  obtain ⟨C, T, N⟩ := q
  have hc := cl_ok hq
  have he := wsl_get (b := b) (N0 := N0) (aK := aK) hs
  have hv : (flv b N0 st (o + 2) 0 (ab_fk ci))[k]? = some (fv b N0 st (o + 2) k kd) := by rw [flv_get, hkd]; simp
  rcases hw with hw | hw
  · exact va_get (ci := ci) (v := fv b N0 st (o + 2) k kd) (C := C) (T := T) (N := N) hx hb hts hc.1 hown hrk.1 hr.1 o he hq k hk (hts _ hw) (fun _ h => h) hv hdg kk
  · exact va_getN (ci := ci) (v := fv b N0 st (o + 2) k kd) (C := C) (T := T) (N := N) hx hb hts hc.1 hown hrk.1 hr.1 o he hq k hk (va_Nw.use rfl (hrk.2.1 _ hw)) (fun _ h => h) hv hdg kk
theorem ab_put (X : Cx p s m args c cc own nL D aK b N0 L xs) {init : Bool} (hin : init = true → meth.name = "<init>") {i ci k kd o : Nat} {st' : ab_S} (hf : fok own i ci k kd = true) (hp : pok own init i ci k = true) (hr : rp D aK b N0 L xs st H) (hS : va_S (fun q => N0 ≤ q) s.heap H locs) (hs : (sH st)[o]? = some (0, ci))
    (hH : sH st' = sH st) (hoth : ∀ j, j ≠ o → sI st' j = sI st j ∧ sJ st' j = sJ st j ∧ sR st' j = sR st j) (hsame : ∀ j t', j ≠ k → fv b N0 st' o j t' = fv b N0 st o j t') (hn : narrow (ab_ty ci k) (fv b N0 st' o k kd) = fv b N0 st' o k kd) (hfit : fits (ab_ty ci k) (fv b N0 st' o k kd) = true) (hdg : decode cc pc = .ok (.putfield i, 3))
    (kk : ∀ (H1 : Heap) (locs1 : List Loc), rp D aK b N0 L xs st' H1 → va_S (fun q => N0 ≤ q) s.heap H1 locs1 → W p l e R s m args below meth c H1 locs1 cells slots Q (F0 m (pc + 3) lsA rest)) : W p l e R s m args below meth c H locs cells slots Q (F0 m pc lsA (fv b N0 st' o k kd :: cv b N0 (.ref o) :: rest)) := by
  obtain ⟨o, rfl⟩ := rp_ge hr hs (by simp) (by simp)
  obtain ⟨hx, hb, -, hown, hts, hrk⟩ := X
  obtain ⟨q, hq, hk, hkd, hw⟩ := fok_e hf
  obtain ⟨C, T, N⟩ := q
  obtain ⟨hin0, hty, hnm, hlen, -⟩ := cl_ok hq
  have hd := hty k hk
  have hap := va_apart (own := own) hts hin0 (ab_ty ci) hty hnm hrk.1 hq
  obtain ⟨r, h1, cell, q1, q2, q3, q4⟩ := hr.1 o _ (wsl_get (b := b) (N0 := N0) (aK := aK) hs)
  have hr2 : r = (C, T, N) := Option.some.inj (h1.symm.trans hq)
  subst hr2
  obtain ⟨hSl, hfc, kC, hkC, hkind⟩ := hrk.1.1 ci _ hq
  obtain ⟨cf, kf, fi, f, hi, hsl⟩ := hSl k hk
  have hlay := hts _ (hin0 _ (u_in_lay hk))
  have hst := (u_facts hfc hkC (u_lays hts hin0 hk) hi).1
  have hl : k < (flv b N0 st (o + 2) 0 (ab_fk ci)).length := by rw [flv_len]; exact (List.getElem?_eq_some_iff.mp hkd).1
  have fin : ∀ (H' : Heap), H'[N0 + o]? = some (cell.setSlot ((D.2 ci) k) (fv b N0 st' (o + 2) k kd)) → H'.size = H.size → (∀ q : Nat, q ≠ N0 + o → H'[q]? = H[q]?) → ∀ sl, W p l e R s m args below meth c H' (locs ++ [⟨N0 + o, sl⟩]) cells slots Q (F0 m (pc + 3) lsA rest) := by
    intro H' e1 e2 e3 sl
    refine kk H' _ (rp_set hr hs hH (fun j => by rw [(hoth 1 (by omega)).1]) (fun j h' hj => ?_) e2 e3 ?_) (hS.put e2 e3 (Nat.le_add_right N0 o))
    · obtain ⟨a1, a2, a3⟩ := hoth (j + 2) (by omega)
      unfold en
      rw [a1, a2, a3, flv_congr (st' := st') (st := st) (fun k t => by unfold fv; rw [a1, a2, a3])]
    · show ∃ r : vw_C, ab_cl[ci]? = some r ∧ t_OB (N0 + o) (D.1 ci) r.2.2 (D.2 ci) H' (vp_V (flv b N0 st' (o + 2) 0 (ab_fk ci)))
      refine ⟨_, hq, t_OB.to (V := updV (vp_V (flv b N0 st (o + 2) 0 (ab_fk ci))) k (fv b N0 st' (o + 2) k kd)) ⟨_, e1, q2, q3, t_set q4 hap hk _⟩ (fun j _ => ?_)⟩
      rw [vp_updV_set hl, flv_set hkd rfl hsame]
  have hlt : f.slot < cell.slots.size := by rw [hsl]; exact k2_hasslot (q4 k hk)
  by_cases hfin : (T k).2.2.2 = true
  · unfold pok at hp
    rw [hq] at hp
    simp only [hfin, Bool.or_eq_true, Bool.and_eq_true, decide_eq_true_eq] at hp
    rcases hp with hp | ⟨hp1, hp2, hp3⟩
    · cases hp
    · unfold u_lay at hlay
      rw [if_pos hfin] at hlay
      have hcf : m.cls = cf := by
        obtain ⟨_, _, c', _, _, _, -, -, hf', -, -, -, hown2, -⟩ := Cond.laysFinal_spec hlay
        have e1 : c' = cf := by have := hi.symm.trans hf'; simp at this; exact this.1.symm
        rw [hp2] at hown2
        rw [← e1]; exact Option.some.inj (hown.symm.trans hown2)
      have h6 := u_fits hfc hkC hkind (Or.inr hlay) hi hd hn hfit
      refine W.putFinK hx hb hown (hts _ hp3) hi hst hcf (hin hp1) (by rw [q2]; exact h6) q1 q3 hlt rfl rfl hdg fun H' e1 e2 e3 => ?_
      rw [hsl] at e1
      exact fin H' e1 e2 e3 _
  · unfold u_lay at hlay
    rw [if_neg hfin] at hlay
    have h6 := u_store hfc hkC hkind hlay hi hd hn hfit
    rcases hw with hw | hw
    · refine W.putK hx hb (f := f) ⟨hown, hts _ hw, ⟨_, _, _, hi⟩, hst⟩ (by rw [q2]; exact h6) q1 q3 hlt rfl rfl hdg fun H' e1 e2 e3 => ?_
      rw [hsl] at e1
      exact fin H' e1 e2 e3 _
    · refine va_WputK hx hb (f := f) hown (va_Nw.use rfl (hrk.2.1 _ hw)) hi hst (by rw [q2]; exact h6) q1 q3 hlt rfl rfl hdg fun H' e1 e2 e3 => ?_
      rw [hsl] at e1
      exact fin H' e1 e2 e3 _
theorem ab_rd_e {st : ab_S} {a : Nat} {i : Int32} {f : Nat → Bool} {k : Nat} (h : ab_rd st a i f = some k) : ∃ n, (sH st)[a]? = some (k, n) ∧ f k = true ∧ vp_in i n := by
  unfold ab_rd at h
  split at h
  · next k' n hs =>
    split at h
    · next hc => cases h; exact ⟨n, hs, hc.1, hc.2⟩
    · cases h
  · cases h
theorem rp_sh {a : Nat} {q : Nat × Nat} (hr : rp D aK b N0 L xs st H) (hs : (sH st)[a + 2]? = some q) : shOK q := hr.2.2.2.2.2 a q hs
/-- one place of an array changes -/
theorem rp_arr {a n kd : Nat} {st' : ab_S} {H1 : Heap} (hr : rp D aK b N0 L xs st H) (hs : (sH st)[a + 2]? = some (kd, n)) (hH : sH st' = sH st) (hoth : ∀ j, j ≠ a + 2 → sI st' j = sI st j ∧ sJ st' j = sJ st j ∧ sR st' j = sR st j)
    (hz : H1.size = H.size) (hq : ∀ x : Nat, x ≠ N0 + a → H1[x]? = H[x]?) (hat : va_at D ab_cl (N0 + a, en b N0 aK st' (a + 2) (kd, n)) H1) : rp D aK b N0 L xs st' H1 := by
  refine rp_set hr hs hH (fun j => by rw [(hoth 1 (by omega)).1]) (fun j h' hj => ?_) hz hq hat
  obtain ⟨a1, a2, a3⟩ := hoth (j + 2) (by omega)
  unfold en
  rw [a1, a2, a3, flv_congr (st' := st') (st := st) (fun k t => by unfold fv; rw [a1, a2, a3])]
theorem ab_iald (X : Cx p s m args c cc own nL D aK b N0 L xs) {a : Nat} {i : Int32} {v : Int32} (hr : rp D aK b N0 L xs st H) (hS : va_S (fun q => N0 ≤ q) s.heap H locs) (h : ab_rI st a i = some v) (hdg : decode cc pc = .ok (.iaload, 1))
    (kk : W p l e R s m args below meth c H locs cells slots Q (F0 m (pc + 1) lsA (.int v :: rest))) : W p l e R s m args below meth c H locs cells slots Q (F0 m pc lsA (.int i :: cv b N0 (.ref a) :: rest)) := by
  obtain ⟨hx, hb, -, hown, hts, hrk⟩ := X
  unfold ab_rI at h
  cases hd : ab_rd st a i (fun k => k == 1 || k == 7) with
  | none => rw [hd] at h; cases h
  | some k =>
    rw [hd] at h
    cases h
    obtain ⟨n, hs, hk, hi⟩ := ab_rd_e hd
    match a, hs with
    | 0, hs => rw [hr.2.2.1] at hs; cases hs; cases hk
    | 1, hs =>
      have hL := hr.2.2.2.1
      rw [hL] at hs; cases hs
      have hlt : i.toNatClampNeg < L := Nat.not_le.mp fun q => hi (Or.inr q)
      have e1 : sI st 1 i.toNatClampNeg = xs i.toNatClampNeg := hr.2.2.2.2.1 _ hlt
      rw [e1] at kk
      exact va_sld (A := fun q => N0 ≤ q) hx hb hrk.2.2.2.2.2.1 (Nat.lt_of_lt_of_le hrk.2.2.2.2.2.2.1 hrk.2.2.2.2.2.2.2) (Nat.not_le.mpr hrk.2.2.2.2.2.2.1) hS hi hdg kk
    | a + 2, hs =>
      have h1 : k = 1 := by
        have h2 := rp_sh hr hs
        simp only [Bool.or_eq_true, beq_iff_eq] at hk
        rcases hk with rfl | rfl
        · rfl
        · simp [shOK] at h2
      subst h1
      exact va_iald (f := sI st (a + 2)) hx hb hrk.1 hr.1 a 0 (wsl_get (b := b) (N0 := N0) (aK := aK) hs) rfl hi hdg kk
theorem ab_bald (X : Cx p s m args c cc own nL D aK b N0 L xs) {a : Nat} {i : Int32} {v : Int32} (hr : rp D aK b N0 L xs st H) (h : ab_rB st a i = some v) (hdg : decode cc pc = .ok (.baload, 1))
    (kk : W p l e R s m args below meth c H locs cells slots Q (F0 m (pc + 1) lsA (.int v :: rest))) : W p l e R s m args below meth c H locs cells slots Q (F0 m pc lsA (.int i :: cv b N0 (.ref a) :: rest)) := by
  obtain ⟨hx, hb, -, hown, hts, hrk⟩ := X
  unfold ab_rB at h
  cases hd : ab_rd st a i (fun k => k == 3 || k == 4) with
  | none => rw [hd] at h; cases h
  | some k =>
    rw [hd] at h
    cases h
    obtain ⟨n, hs, hk, hi⟩ := ab_rd_e hd
    simp only [Bool.or_eq_true, beq_iff_eq] at hk
    obtain ⟨a, rfl⟩ := rp_ge hr hs (by rcases hk with rfl | rfl <;> simp) (by rcases hk with rfl | rfl <;> simp)
    rcases hk with rfl | rfl
    · exact va_bald (f := sI st (a + 2)) hx hb hrk.1 hr.1 a 2 (wsl_get (b := b) (N0 := N0) (aK := aK) hs) rfl hi hdg kk
    · exact va_zald (f := sI st (a + 2)) hx hb hrk.1 hr.1 a 3 (wsl_get (b := b) (N0 := N0) (aK := aK) hs) rfl hi hdg kk
theorem ab_lald (X : Cx p s m args c cc own nL D aK b N0 L xs) {a : Nat} {i : Int32} {v : Int64} (hr : rp D aK b N0 L xs st H) (h : ab_rJ st a i = some v) (hdg : decode cc pc = .ok (.laload, 1))
    (kk : W p l e R s m args below meth c H locs cells slots Q (F0 m (pc + 1) lsA (.long v :: rest))) : W p l e R s m args below meth c H locs cells slots Q (F0 m pc lsA (.int i :: cv b N0 (.ref a) :: rest)) := by
  obtain ⟨hx, hb, -, hown, hts, hrk⟩ := X
  unfold ab_rJ at h
  cases hd : ab_rd st a i (fun k => k == 2) with
  | none => rw [hd] at h; cases h
  | some k =>
    rw [hd] at h
    cases h
    obtain ⟨n, hs, hk, hi⟩ := ab_rd_e hd
    simp only [beq_iff_eq] at hk
    subst hk
    obtain ⟨a, rfl⟩ := rp_ge hr hs (by simp) (by simp)
    exact va_lald (f := sJ st (a + 2)) hx hb hrk.1 hr.1 a 1 (wsl_get (b := b) (N0 := N0) (aK := aK) hs) rfl hi hdg kk
theorem ab_aald (X : Cx p s m args c cc own nL D aK b N0 L xs) {a : Nat} {i : Int32} {v : Nat} (hr : rp D aK b N0 L xs st H) (h : ab_rR st a i = some v) (hdg : decode cc pc = .ok (.aaload, 1))
    (kk : W p l e R s m args below meth c H locs cells slots Q (F0 m (pc + 1) lsA (cv b N0 (.ref v) :: rest))) : W p l e R s m args below meth c H locs cells slots Q (F0 m pc lsA (.int i :: cv b N0 (.ref a) :: rest)) := by
  obtain ⟨hx, hb, -, hown, hts, hrk⟩ := X
  unfold ab_rR at h
  cases hd : ab_rd st a i (fun k => k == 5 || Nat.ble 8 k) with
  | none => rw [hd] at h; cases h
  | some k =>
    rw [hd] at h
    cases h
    obtain ⟨n, hs, hk, hi⟩ := ab_rd_e hd
    simp only [Bool.or_eq_true, beq_iff_eq] at hk
    have h8 : k = 5 ∨ 8 ≤ k := hk.imp id Nat.le_of_ble_eq_true
    obtain ⟨a, rfl⟩ := rp_ge hr hs (by show k ≠ 6; omega) (by show k ≠ 7; omega)
    have hsh := rp_sh hr hs
    have hlt : i.toNatClampNeg < n := Nat.not_le.mp fun q => hi (Or.inr q)
    have go : ∀ (t0 : Nat) (ty : FieldType), (tys aK)[t0]? = some (aK k, ty) → ty.isReference = true → en b N0 aK st (a + 2) (k, n) = .inl (aK k, n, .inr (.inr (.inr (.inr (fun j => ad b N0 (sR st (a + 2) j)))))) → W p l e R s m args below meth c H locs cells slots Q (F0 m pc lsA (.int i :: cv b N0 (.ref (a + 2)) :: rest)) := by
      intro t0 ty ht hrf hen
      have hcell := hr.1 a _ (wsl_get (b := b) (N0 := N0) (aK := aK) hs)
      rw [hen] at hcell
      exact W.aald (v := va_rf (ad b N0 (sR st (a + 2) i.toNatClampNeg))) (ty := ty) hx hb hcell ((hrk.1.2 t0 _ ht).1 n (fun j => va_rf (ad b N0 (sR st (a + 2) j)))) hrf (fun q => by cases q) (by show ¬ (i < 0 ∨ (arrV _ _ _).slots.size ≤ _); rw [arrV_size]; exact hi) (by show (arrV _ _ _).slots[_]? = _; rw [arrV_read _ _ hlt]) rfl rfl hdg kk
    have h4 : k = 5 ∨ k = 8 ∨ k = 12 ∨ k = 17 := by
      rcases hsh with h | h | h | h | h | h | h | h | h <;> first | omega | (have := h.1; simp only at this; omega) | (simp only at h; omega)
    rcases h4 with rfl | rfl | rfl | rfl
    · exact go 4 _ rfl rfl rfl
    · exact go 5 _ rfl rfl rfl
    · exact go 6 _ rfl rfl rfl
    · exact go 7 _ rfl rfl rfl
theorem ab_alen (X : Cx p s m args c cc own nL D aK b N0 L xs) {a n : Nat} (hr : rp D aK b N0 L xs st H) (hS : va_S (fun q => N0 ≤ q) s.heap H locs) (h : ab_n st a = some n) (hdg : decode cc pc = .ok (.arraylength, 1))
    (kk : W p l e R s m args below meth c H locs cells slots Q (F0 m (pc + 1) lsA (.int (Int32.ofNat n) :: rest))) : W p l e R s m args below meth c H locs cells slots Q (F0 m pc lsA (cv b N0 (.ref a) :: rest)) := by
  obtain ⟨hx, hb, -, hown, hts, hrk⟩ := X
  unfold ab_n at h
  split at h
  · next k n' hs =>
    split at h
    · cases h
    · next hk =>
      cases h
      match a, hs with
      | 0, hs => rw [hr.2.2.1] at hs; cases hs; exact absurd (Or.inr rfl) hk
      | 1, hs =>
        have hL := hr.2.2.2.1
        rw [hL] at hs; cases hs
        exact va_slen (A := fun q => N0 ≤ q) hx hb hrk.2.2.2.2.2.1 (Nat.lt_of_lt_of_le hrk.2.2.2.2.2.2.1 hrk.2.2.2.2.2.2.2) (Nat.not_le.mpr hrk.2.2.2.2.2.2.1) hS hdg kk
      | a + 2, hs =>
        have hcell := wsl_get (b := b) (N0 := N0) (aK := aK) hs
        have h4 : k = 1 ∨ k = 2 ∨ k = 3 ∨ k = 4 ∨ k = 5 ∨ k = 8 ∨ k = 12 ∨ k = 17 := by
          have hsh := rp_sh hr hs
          rcases hsh with h | h | h | h | h | h | h | h | h <;> first | (have := h.1; simp only at this; omega) | (simp only at h; omega)
        rcases h4 with rfl | rfl | rfl | rfl | rfl | rfl | rfl | rfl
        · exact va_alen (ty := .int) hx hb hrk.1 hr.1 a 0 hcell rfl rfl hdg kk
        · exact va_alen (ty := .long) hx hb hrk.1 hr.1 a 1 hcell rfl rfl hdg kk
        · exact va_alen (ty := .byte) hx hb hrk.1 hr.1 a 2 hcell rfl rfl hdg kk
        · exact va_alen (ty := .boolean) hx hb hrk.1 hr.1 a 3 hcell rfl rfl hdg kk
        · exact va_alen hx hb hrk.1 hr.1 a 4 hcell rfl rfl hdg kk
        · exact va_alen hx hb hrk.1 hr.1 a 5 hcell rfl rfl hdg kk
        · exact va_alen hx hb hrk.1 hr.1 a 6 hcell rfl rfl hdg kk
        · exact va_alen hx hb hrk.1 hr.1 a 7 hcell rfl rfl hdg kk
  · cases h
theorem uI_oth {st : ab_S} {o k : Nat} {v : Int32} : ∀ j, j ≠ o → sI (uI st o k v) j = sI st j ∧ sJ (uI st o k v) j = sJ st j ∧ sR (uI st o k v) j = sR st j := fun j hj => ⟨by funext q; simp [sI, uI, hj], rfl, rfl⟩
theorem uJ_oth {st : ab_S} {o k : Nat} {v : Int64} : ∀ j, j ≠ o → sI (uJ st o k v) j = sI st j ∧ sJ (uJ st o k v) j = sJ st j ∧ sR (uJ st o k v) j = sR st j := fun j hj => ⟨rfl, by funext q; simp [sJ, uJ, hj], rfl⟩
theorem uR_oth {st : ab_S} {o k v : Nat} : ∀ j, j ≠ o → sI (uR st o k v) j = sI st j ∧ sJ (uR st o k v) j = sJ st j ∧ sR (uR st o k v) j = sR st j := fun j hj => ⟨rfl, rfl, by funext q; simp [sR, uR, hj]⟩
theorem ab_iast (X : Cx p s m args c cc own nL D aK b N0 L xs) {a : Nat} {i v : Int32} {st' : ab_S} (hr : rp D aK b N0 L xs st H) (hS : va_S (fun q => N0 ≤ q) s.heap H locs) (h : ab_wI st a i v = some st') (hdg : decode cc pc = .ok (.iastore, 1))
    (kk : ∀ (H1 : Heap) (locs1 : List Loc), rp D aK b N0 L xs st' H1 → va_S (fun q => N0 ≤ q) s.heap H1 locs1 → W p l e R s m args below meth c H1 locs1 cells slots Q (F0 m (pc + 1) lsA rest)) : W p l e R s m args below meth c H locs cells slots Q (F0 m pc lsA (.int v :: .int i :: cv b N0 (.ref a) :: rest)) := by
  obtain ⟨hx, hb, -, hown, hts, hrk⟩ := X
  unfold ab_wI at h
  cases hd : ab_rd st a i (fun k => k == 1) with
  | none => rw [hd] at h; cases h
  | some k =>
    rw [hd] at h
    cases h
    obtain ⟨n, hs, hk, hi⟩ := ab_rd_e hd
    simp only [beq_iff_eq] at hk
    subst hk
    obtain ⟨a, rfl⟩ := rp_ge hr hs (by simp) (by simp)
    refine W.iast hx hb (hr.1 a _ (wsl_get (b := b) (N0 := N0) (aK := aK) hs)) ((hrk.1.2 0 _ rfl).1 n (fun j => .int (sI st (a + 2) j))) (fun q => by cases q) (by show ¬ (i < 0 ∨ (arrV _ _ _).slots.size ≤ _); rw [arrV_size]; exact hi) rfl rfl hdg fun H1 e z oq => ?_
    refine kk H1 _ (rp_arr hr hs rfl uI_oth z oq ?_) (hS.put z oq (Nat.le_add_right N0 a))
    show H1[N0 + a]? = some (vp_cell (aK 1) (n, .inl (sI (uI st (a + 2) i.toNatClampNeg v) (a + 2))))
    rw [e]
    show some ((vp_cell (aK 1) (n, .inl (sI st (a + 2)))).setSlot _ _) = _
    rw [vp_cell_i, vp_cell_i, arrV_store]
    congr 2
    funext q
    by_cases hq : q = i.toNatClampNeg
    · subst hq
      simp [updV, sI, uI]
    · simp [updV, sI, uI, hq]
theorem ab_bast (X : Cx p s m args c cc own nL D aK b N0 L xs) {a : Nat} {i v : Int32} {st' : ab_S} (hr : rp D aK b N0 L xs st H) (hS : va_S (fun q => N0 ≤ q) s.heap H locs) (h : ab_wB st a i v = some st') (hdg : decode cc pc = .ok (.bastore, 1))
    (kk : ∀ (H1 : Heap) (locs1 : List Loc), rp D aK b N0 L xs st' H1 → va_S (fun q => N0 ≤ q) s.heap H1 locs1 → W p l e R s m args below meth c H1 locs1 cells slots Q (F0 m (pc + 1) lsA rest)) : W p l e R s m args below meth c H locs cells slots Q (F0 m pc lsA (.int v :: .int i :: cv b N0 (.ref a) :: rest)) := by
  obtain ⟨hx, hb, -, hown, hts, hrk⟩ := X
  unfold ab_wB at h
  cases hd : ab_rd st a i (fun k => k == 3 || k == 4) with
  | none => rw [hd] at h; cases h
  | some k =>
    rw [hd] at h
    cases h
    obtain ⟨n, hs, hk, hi⟩ := ab_rd_e hd
    simp only [Bool.or_eq_true, beq_iff_eq] at hk
    obtain ⟨a, rfl⟩ := rp_ge hr hs (by rcases hk with rfl | rfl <;> simp) (by rcases hk with rfl | rfl <;> simp)
    rcases hk with rfl | rfl
    · refine W.bast hx hb (hr.1 a _ (wsl_get (b := b) (N0 := N0) (aK := aK) hs)) ((hrk.1.2 2 _ rfl).1 n (fun j => .int (sI st (a + 2) j))) (fun q => by cases q) (by show ¬ (i < 0 ∨ (arrV _ _ _).slots.size ≤ _); rw [arrV_size]; exact hi) rfl rfl hdg fun H1 e z oq => ?_
      refine kk H1 _ (rp_arr hr hs rfl uI_oth z oq ?_) (hS.put z oq (Nat.le_add_right N0 a))
      show H1[N0 + a]? = some (vp_cell (aK 3) (n, .inl (sI (uI st (a + 2) i.toNatClampNeg (if 3 = 3 then v.toInt8.toInt32 else v &&& 1)) (a + 2))))
      rw [e]
      show some ((vp_cell (aK 3) (n, .inl (sI st (a + 2)))).setSlot _ _) = _
      rw [vp_cell_i, vp_cell_i, arrV_store]
      congr 2
      funext q
      by_cases hq : q = i.toNatClampNeg
      · subst hq
        simp [updV, sI, uI, narrow]
      · simp [updV, sI, uI, hq]
    · refine W.zast hx hb (hr.1 a _ (wsl_get (b := b) (N0 := N0) (aK := aK) hs)) ((hrk.1.2 3 _ rfl).1 n (fun j => .int (sI st (a + 2) j))) (fun q => by cases q) (by show ¬ (i < 0 ∨ (arrV _ _ _).slots.size ≤ _); rw [arrV_size]; exact hi) rfl rfl hdg fun H1 e z oq => ?_
      refine kk H1 _ (rp_arr hr hs rfl uI_oth z oq ?_) (hS.put z oq (Nat.le_add_right N0 a))
      show H1[N0 + a]? = some (vp_cell (aK 4) (n, .inl (sI (uI st (a + 2) i.toNatClampNeg (if 4 = 3 then v.toInt8.toInt32 else v &&& 1)) (a + 2))))
      rw [e]
      show some ((vp_cell (aK 4) (n, .inl (sI st (a + 2)))).setSlot _ _) = _
      rw [vp_cell_i, vp_cell_i, arrV_store]
      congr 2
      funext q
      by_cases hq : q = i.toNatClampNeg
      · subst hq
        simp [updV, sI, uI, narrow]
      · simp [updV, sI, uI, hq]
theorem ab_last (X : Cx p s m args c cc own nL D aK b N0 L xs) {a : Nat} {i : Int32} {v : Int64} {st' : ab_S} (hr : rp D aK b N0 L xs st H) (hS : va_S (fun q => N0 ≤ q) s.heap H locs) (h : ab_wJ st a i v = some st') (hdg : decode cc pc = .ok (.lastore, 1))
    (kk : ∀ (H1 : Heap) (locs1 : List Loc), rp D aK b N0 L xs st' H1 → va_S (fun q => N0 ≤ q) s.heap H1 locs1 → W p l e R s m args below meth c H1 locs1 cells slots Q (F0 m (pc + 1) lsA rest)) : W p l e R s m args below meth c H locs cells slots Q (F0 m pc lsA (.long v :: .int i :: cv b N0 (.ref a) :: rest)) := by
  obtain ⟨hx, hb, -, hown, hts, hrk⟩ := X
  unfold ab_wJ at h
  cases hd : ab_rd st a i (fun k => k == 2) with
  | none => rw [hd] at h; cases h
  | some k =>
    rw [hd] at h
    cases h
    obtain ⟨n, hs, hk, hi⟩ := ab_rd_e hd
    simp only [beq_iff_eq] at hk
    subst hk
    obtain ⟨a, rfl⟩ := rp_ge hr hs (by simp) (by simp)
    refine W.last hx hb (hr.1 a _ (wsl_get (b := b) (N0 := N0) (aK := aK) hs)) ((hrk.1.2 1 _ rfl).1 n (fun j => .long (sJ st (a + 2) j))) (fun q => by cases q) (by show ¬ (i < 0 ∨ (arrV _ _ _).slots.size ≤ _); rw [arrV_size]; exact hi) rfl rfl hdg fun H1 e z oq => ?_
    refine kk H1 _ (rp_arr hr hs rfl uJ_oth z oq ?_) (hS.put z oq (Nat.le_add_right N0 a))
    show H1[N0 + a]? = some (vp_cell (aK 2) (n, .inr (.inl (sJ (uJ st (a + 2) i.toNatClampNeg v) (a + 2)))))
    rw [e]
    show some ((vp_cell (aK 2) (n, .inr (.inl (sJ st (a + 2))))).setSlot _ _) = _
    rw [vp_cell_l, vp_cell_l, arrV_store]
    congr 2
    funext q
    by_cases hq : q = i.toNatClampNeg
    · subst hq
      simp [updV, sJ, uJ]
    · simp [updV, sJ, uJ, hq]
theorem ab_aast (X : Cx p s m args c cc own nL D aK b N0 L xs) {a v : Nat} {i : Int32} {st' : ab_S} (hr : rp D aK b N0 L xs st H) (hS : va_S (fun q => N0 ≤ q) s.heap H locs) (h : ab_wR st a i v = some st') (hdg : decode cc pc = .ok (.aastore, 1))
    (kk : ∀ (H1 : Heap) (locs1 : List Loc), rp D aK b N0 L xs st' H1 → va_S (fun q => N0 ≤ q) s.heap H1 locs1 → W p l e R s m args below meth c H1 locs1 cells slots Q (F0 m (pc + 1) lsA rest)) : W p l e R s m args below meth c H locs cells slots Q (F0 m pc lsA (cv b N0 (.ref v) :: .int i :: cv b N0 (.ref a) :: rest)) := by
  obtain ⟨hx, hb, -, hown, hts, hrk⟩ := X
  unfold ab_wR at h
  cases hd : ab_rd st a i (fun k => Nat.ble 8 k) with
  | none => rw [hd] at h; cases h
  | some k =>
    rw [hd] at h
    simp only [Option.bind_some] at h
    split at h
    · next hv =>
      cases h
      obtain ⟨n, hs, hk, hi⟩ := ab_rd_e hd
      have h8 : 8 ≤ k := Nat.le_of_ble_eq_true hk
      obtain ⟨a, rfl⟩ := rp_ge hr hs (by show k ≠ 6; omega) (by show k ≠ 7; omega)
      obtain ⟨v, rfl⟩ := rp_ge hr hv (by simp) (by simp)
      have hsh := rp_sh hr hs
      have hlt : i.toNatClampNeg < n := Nat.not_le.mp fun q => hi (Or.inr q)
      have h0 : ¬ i < 0 := fun q => hi (Or.inl q)
      have go : ∀ (t0 ci : Nat) (r : vw_C), (tys aK)[t0]? = some (aK k, .object r.1) → ab_cl[ci]? = some r → k - 8 = ci → en b N0 aK st (a + 2) (k, n) = .inl (aK k, n, .inr (.inr (.inr (.inr (fun j => ad b N0 (sR st (a + 2) j)))))) → en b N0 aK (uR st (a + 2) i.toNatClampNeg (v + 2)) (a + 2) (k, n) = .inl (aK k, n, .inr (.inr (.inr (.inr (fun j => ad b N0 (sR (uR st (a + 2) i.toNatClampNeg (v + 2)) (a + 2) j)))))) → W p l e R s m args below meth c H locs cells slots Q (F0 m pc lsA (cv b N0 (.ref (v + 2)) :: .int i :: cv b N0 (.ref (a + 2)) :: rest)) := by
        intro t0 ci r ht hc hk8 hen hen'
        rw [hk8] at hv
        have hcell := hr.1 a _ (wsl_get (b := b) (N0 := N0) (aK := aK) hs)
        rw [hen] at hcell
        have hcell : H[N0 + a]? = some (vp_cell (aK k) (n, .inr (.inr (.inr (.inr (fun j => ad b N0 (sR st (a + 2) j))))))) := hcell
        obtain ⟨r', hr', cellV, g1, g2, g3, -⟩ := hr.1 v _ (wsl_get (b := b) (N0 := N0) (aK := aK) hv)
        have hcls := (hrk.1.1 ci r hc).2
        obtain ⟨kA, comp, k1, k2, k3, -⟩ := (hrk.1.2 t0 _ ht).2
        have hcomp : comp = D.1 ci := Option.some.inj (k3.symm.trans hcls.1)
        subst hcomp
        obtain ⟨kC, hkC, -⟩ := hcls.2
        have g2 : cellV.cls = D.1 ci := g2
        refine W.aast hx hb hcell (fun q h => by cases h) (fun h => by cases h) k1 k2 rfl hkC ⟨h0, by show _ < (arrV _ _ _).slots.size; rw [arrV_size]; exact hlt⟩ g1 (fun q h => by rw [g3] at h; cases h) (by rw [g2]; exact hkC) (by rw [g2]; exact va_assign hcls) rfl rfl hdg fun H1 e z oq => ?_
        refine kk H1 _ (rp_arr hr hs rfl uR_oth z oq ?_) (hS.put z oq (Nat.le_add_right N0 a))
        rw [hen']
        show H1[N0 + a]? = some (vp_cell (aK k) _)
        rw [e]
        rw [vp_cell_q, vp_cell_q, arrV_store]
        congr 2
        funext q
        by_cases hq : q = i.toNatClampNeg
        · subst hq
          simp [updV, sR, uR, ad, va_rf]
        · simp [updV, sR, uR, hq]
      have h4 : k = 8 ∨ k = 12 ∨ k = 17 := by
        rcases hsh with h | h | h | h | h | h | h | h | h <;> first | (have := h.1; simp only at this; omega) | (simp only at h; omega)
      rcases h4 with rfl | rfl | rfl
      · exact go 5 0 _ rfl rfl rfl rfl rfl
      · exact go 6 4 _ rfl rfl rfl rfl rfl
      · exact go 7 9 _ rfl rfl rfl rfl rfl
    · cases h
end HR
end
section
/-! NEW CELLS -/
section NW
variable {p : Program} {l : Launch} {e : Env} {R : Room} {s : State} {m : MethodId} {args : Array Value} {below : List Frame} {meth : Method} {c : Code} {Q : State → Prop}
variable {D : va_G} {aK : Nat → ClassId} {b N0 L : Nat} {xs : Nat → Int32} {nL : Nat} {cc : ByteArray} {own : String} {pc : Nat} {lsA : Array Slot} {rest : List Value} {H : Heap} {locs : List Loc} {cells slots : Nat} {st : ab_S}
theorem cv_new (hr : rp D aK b N0 L xs st H) : cv b N0 (.ref (sH st).length) = .ref H.size := by
  have h4 := (List.getElem?_eq_some_iff.mp hr.2.2.2.1).1
  have h2 := hr.2.1
  obtain ⟨k, hk⟩ : ∃ k, (sH st).length = k + 2 := ⟨(sH st).length - 2, by omega⟩
  rw [hk] at h2 ⊢
  show Value.ref (N0 + k) = _
  rw [show N0 + k = H.size by omega]
theorem va_S_push {A : Nat → Prop} {H0 H1 : Heap} (h : va_S A H0 H locs) (hz : H1.size = H.size + 1) (hq : ∀ a : Nat, a < H.size → H1[a]? = H[a]?) : va_S A H0 H1 locs := ⟨by have := h.1; omega, fun q h1 h2 => (hq q (Nat.lt_of_lt_of_le h1 h.1)).trans (h.2.1 q h1 h2), h.2.2⟩
theorem mk_own {q : Nat × Nat} : sI (ab_mk st q) (sH st).length = (fun _ => 0) ∧ sJ (ab_mk st q) (sH st).length = (fun _ => 0) ∧ sR (ab_mk st q) (sH st).length = (fun _ => 0) := by
  refine ⟨?_, ?_, ?_⟩ <;> funext k <;> simp [sI, sJ, sR, sH, ab_mk]
def kok (own : String) (i ci : Nat) : Bool := match ab_cl[ci]? with
  | some q => decide (Cond.classLink own i q.1 ∈ ab_ws) && (decide (Cond.instantiable q.1 q.2.2 ∈ ab_ws) && decide (Cond.initialized q.1 ∈ ab_ws))
  | none => false
theorem dv_int : defaultValue .int = .int 0 := rfl
theorem ab_new (X : Cx p s m args c cc own nL D aK b N0 L xs) {i ci : Nat} (hk : kok own i ci = true) (hr : rp D aK b N0 L xs st H) (hS : va_S (fun q => N0 ≤ q) s.heap H locs) (hc1 : cells + 1 ≤ R.cells) (hc2 : slots + ns1 (0, ci) ≤ R.slots) (hdg : decode cc pc = .ok (.new i, 3))
    (kk : ∀ (H1 : Heap), rp D aK b N0 L xs (ab_mk st (0, ci)) H1 → va_S (fun q => N0 ≤ q) s.heap H1 locs → W p l e R s m args below meth c H1 locs (cells + 1) (slots + ns1 (0, ci)) Q (F0 m (pc + 3) lsA (cv b N0 (.ref (sH st).length) :: rest))) : W p l e R s m args below meth c H locs cells slots Q (F0 m pc lsA rest) := by
  obtain ⟨hx, hb, -, hown, hts, hrk⟩ := X
  unfold kok at hk
  split at hk
  · next q hq =>
    obtain ⟨C, T, N⟩ := q
    simp only [Bool.and_eq_true, decide_eq_true_eq] at hk
    obtain ⟨hw1, hw2, hw3⟩ := hk
    obtain ⟨hin0, hty, -, hlen, hkd⟩ := cl_ok hq
    have hKn := hrk.1.1 ci _ hq
    have hn : ns1 (0, ci) = N := by simpa [ns1] using hlen
    rw [hn] at hc2 kk
    refine W.newcK hx hb hown (hts _ hw1) (hts _ hw2) (hts _ hw3) rfl hdg hc1 hc2 hKn.2.1 rfl fun H1 kC hkC e1 z1 o1 => ?_
    have ec := cv_new hr
    rw [ec] at kk
    have hci : ci < 12 := by simpa [ab_cl] using (List.getElem?_eq_some_iff.mp hq).1
    refine kk H1 (rp_push hr (Or.inl ⟨rfl, hci⟩) z1 o1 ?_) (va_S_push hS z1 o1)
    show ∃ r : vw_C, ab_cl[ci]? = some r ∧ t_OB H.size (D.1 ci) r.2.2 (D.2 ci) H1 (vp_V (flv b N0 (ab_mk st (0, ci)) (sH st).length 0 (ab_fk ci)))
    refine ⟨_, hq, (u_born (ab_ty ci) hts hin0 hKn hkC e1 hty).to (fun k hk => ?_)⟩
    have h1 := hkd k hk
    obtain ⟨m1, m2, m3⟩ := mk_own (st := st) (q := (0, ci))
    have hg : (ab_fk ci)[k]? = some (ab_fk ci)[k] := List.getElem?_eq_getElem (by omega)
    unfold vp_V
    rw [List.getD_eq_getElem?_getD, flv_get, hg]
    unfold kdok at h1
    rw [hg] at h1
    simp only [Option.map_some, Option.getD_some, Nat.zero_add]
    split at h1 <;> first | (next e1 e2 => rw [e2]; injection e1 with e1; rw [e1]; unfold fv; first | (simp only [m1]; rfl) | (simp only [m2]; rfl) | (simp only [m3]; rfl)) | cases h1
  · cases hk
def atk_ty : ArrayType → FieldType := newarray.typeOf
theorem ab_newarr (X : Cx p s m args c cc own nL D aK b N0 L xs) {a : ArrayType} {n : Int32} (ha : a = .int ∨ a = .long ∨ a = .byte ∨ a = .boolean) (hr : rp D aK b N0 L xs st H) (hS : va_S (fun q => N0 ≤ q) s.heap H locs) (hn : ¬ (n < 0 ∨ 50000 < n.toNatClampNeg)) (hc1 : cells + 1 ≤ R.cells) (hc2 : slots + n.toNatClampNeg ≤ R.slots) (hdg : decode cc pc = .ok (.newarray a, 2))
    (kk : ∀ (H1 : Heap), rp D aK b N0 L xs (ab_mk st (ab_atk a, n.toNatClampNeg)) H1 → va_S (fun q => N0 ≤ q) s.heap H1 locs → W p l e R s m args below meth c H1 locs (cells + 1) (slots + n.toNatClampNeg) Q (F0 m (pc + 2) lsA (cv b N0 (.ref (sH st).length) :: rest))) : W p l e R s m args below meth c H locs cells slots Q (F0 m pc lsA (.int n :: rest)) := by
  obtain ⟨hx, hb, -, hown, hts, hrk⟩ := X
  have hn0 : ¬ n < 0 := fun q => hn (Or.inl q)
  have hn1 : n.toNatClampNeg ≤ 50000 := Nat.not_lt.mp fun q => hn (Or.inr q)
  rw [cv_new hr] at kk
  obtain ⟨m1, m2, m3⟩ := mk_own (st := st) (q := (ab_atk a, n.toNatClampNeg))
  have go : ∀ (t0 : Nat), (tys aK)[t0]? = some (aK (ab_atk a), newarray.typeOf a) → Cond.arrayClass (newarray.typeOf a) ∈ ab_ws → n.toNatClampNeg * componentBytes (newarray.typeOf a) ≤ 536870912 → shOK (ab_atk a, n.toNatClampNeg) → (∀ cA : ClassId, cA = aK (ab_atk a) → va_at D ab_cl (H.size, en b N0 aK (ab_mk st (ab_atk a, n.toNatClampNeg)) (sH st).length (ab_atk a, n.toNatClampNeg)) = fun H1 : Heap => H1[H.size]? = some (arrV cA n.toNatClampNeg (fun _ => defaultValue (newarray.typeOf a)))) → (∀ cA, va_RA s cA (newarray.typeOf a) ↔ s.vm.findClass ("[" ++ (newarray.typeOf a).toString) = some cA) → W p l e R s m args below meth c H locs cells slots Q (F0 m pc lsA (.int n :: rest)) := by
    intro t0 ht hw hby hok hat hra
    refine va_newaK hx hb (hts _ hw) rfl hdg rfl hn0 rfl hby hc1 hc2 rfl fun H1 cA e1 z1 o1 hA hf => ?_
    have hcA : cA = aK (ab_atk a) := Option.some.inj (hf.symm.trans ((hra _).mp (hrk.1.2 t0 _ ht).2))
    refine kk H1 (rp_push hr hok z1 o1 ?_) (va_S_push hS z1 o1)
    rw [hat cA hcA]
    exact e1
  rcases ha with rfl | rfl | rfl | rfl
  · refine go 0 rfl (by decide +kernel) (by show n.toNatClampNeg * 4 ≤ _; omega) (by simp [shOK, ab_atk]) (fun cA h => ?_) (fun cA => Iff.rfl)
    subst h
    funext H1
    show (H1[H.size]? = some (vp_cell (aK 1) (n.toNatClampNeg, .inl (sI (ab_mk st (ab_atk .int, n.toNatClampNeg)) (sH st).length)))) = _
    rw [m1]; rfl
  · refine go 1 rfl (by decide +kernel) (by show n.toNatClampNeg * 8 ≤ _; omega) (by simp [shOK, ab_atk]) (fun cA h => ?_) (fun cA => Iff.rfl)
    subst h
    funext H1
    show (H1[H.size]? = some (vp_cell (aK 2) (n.toNatClampNeg, .inr (.inl (sJ (ab_mk st (ab_atk .long, n.toNatClampNeg)) (sH st).length))))) = _
    rw [m2]; rfl
  · refine go 2 rfl (by decide +kernel) (by show n.toNatClampNeg * 1 ≤ _; omega) (by simp [shOK, ab_atk]) (fun cA h => ?_) (fun cA => Iff.rfl)
    subst h
    funext H1
    show (H1[H.size]? = some (vp_cell (aK 3) (n.toNatClampNeg, .inl (sI (ab_mk st (ab_atk .byte, n.toNatClampNeg)) (sH st).length)))) = _
    rw [m1]; rfl
  · refine go 3 rfl (by decide +kernel) (by show n.toNatClampNeg * 1 ≤ _; omega) (by simp [shOK, ab_atk]) (fun cA h => ?_) (fun cA => Iff.rfl)
    subst h
    funext H1
    show (H1[H.size]? = some (vp_cell (aK 4) (n.toNatClampNeg, .inl (sI (ab_mk st (ab_atk .boolean, n.toNatClampNeg)) (sH st).length)))) = _
    rw [m1]; rfl
def akok (own : String) (i ci : Nat) : Bool := match ab_cl[ci]? with
  | some q => decide (Cond.classLink own i q.1 ∈ ab_ws) && (decide (ci = 0) || (decide (ci = 4) || decide (ci = 9)))
  | none => false
theorem ab_anew (X : Cx p s m args c cc own nL D aK b N0 L xs) {i ci : Nat} {n : Int32} (hk : akok own i ci = true) (hr : rp D aK b N0 L xs st H) (hS : va_S (fun q => N0 ≤ q) s.heap H locs) (hn : ¬ (n < 0 ∨ 50000 < n.toNatClampNeg)) (hc1 : cells + 1 ≤ R.cells) (hc2 : slots + n.toNatClampNeg ≤ R.slots) (hdg : decode cc pc = .ok (.anewarray i, 3))
    (kk : ∀ (H1 : Heap), rp D aK b N0 L xs (ab_mk st (8 + ci, n.toNatClampNeg)) H1 → va_S (fun q => N0 ≤ q) s.heap H1 locs → W p l e R s m args below meth c H1 locs (cells + 1) (slots + n.toNatClampNeg) Q (F0 m (pc + 3) lsA (cv b N0 (.ref (sH st).length) :: rest))) : W p l e R s m args below meth c H locs cells slots Q (F0 m pc lsA (.int n :: rest)) := by
  obtain ⟨hx, hb, -, hown, hts, hrk⟩ := X
  have hn0 : ¬ n < 0 := fun q => hn (Or.inl q)
  have hn1 : n.toNatClampNeg ≤ 50000 := Nat.not_lt.mp fun q => hn (Or.inr q)
  rw [cv_new hr] at kk
  obtain ⟨m1, m2, m3⟩ := mk_own (st := st) (q := (8 + ci, n.toNatClampNeg))
  unfold akok at hk
  split at hk
  · next q hq =>
    simp only [Bool.and_eq_true, Bool.or_eq_true, decide_eq_true_eq] at hk
    obtain ⟨hw, hci⟩ := hk
    have go : ∀ (t0 : Nat), (tys aK)[t0]? = some (aK (8 + ci), .object q.1) → va_AO q.1 s → shOK (8 + ci, n.toNatClampNeg) → W p l e R s m args below meth c H locs cells slots Q (F0 m pc lsA (.int n :: rest)) := by
      intro t0 ht hAO hok
      refine W.anew hx hb hown (hts _ hw) (va_AO.use hAO) rfl hdg rfl hn0 (by omega) hc1 hc2 fun cA kA comp f1 f2 f3 f4 => ?_
      obtain ⟨kA', comp', g1, g2, g3, g4⟩ := (hrk.1.2 t0 _ ht).2
      have hcA : cA = aK (8 + ci) := Option.some.inj (f1.symm.trans g4)
      subst hcA
      generalize hH1 : H.push ({ cls := aK (8 + ci), slots := Array.replicate n.toNatClampNeg .null, vm := .none } : Cell) = H1
      have z1 : H1.size = H.size + 1 := by rw [← hH1, Array.size_push]
      have e1 : H1[H.size]? = some (arrV (aK (8 + ci)) n.toNatClampNeg (fun _ => .null)) := by rw [← hH1, Array.getElem?_push_size, ← arrV_new]
      have o1 : ∀ q : Nat, q < H.size → H1[q]? = H[q]? := fun q hq => by rw [← hH1, Array.getElem?_push, if_neg (Nat.ne_of_lt hq)]
      refine kk H1 (rp_push hr hok z1 o1 ?_) (va_S_push hS z1 o1)
      have hen : en b N0 aK (ab_mk st (8 + ci, n.toNatClampNeg)) (sH st).length (8 + ci, n.toNatClampNeg) = .inl (aK (8 + ci), n.toNatClampNeg, .inr (.inr (.inr (.inr (fun j => ad b N0 (sR (ab_mk st (8 + ci, n.toNatClampNeg)) (sH st).length j)))))) := by
        unfold en
        rw [if_neg (by show ¬ 8 + ci = 0; omega), if_neg (by show ¬ 8 + ci = 2; omega), if_neg (by show ¬ (8 + ci = 1 ∨ 8 + ci = 3 ∨ 8 + ci = 4); omega)]
      rw [hen, m3]
      show H1[H.size]? = some (vp_cell _ _)
      rw [vp_cell_q]
      exact e1
    rcases hci with rfl | rfl | rfl
    · cases hq
      exact go 5 rfl hrk.2.2.1 (by simp [shOK])
    · cases hq
      exact go 6 rfl hrk.2.2.2.1 (by simp [shOK])
    · cases hq
      exact go 7 rfl hrk.2.2.2.2.1.1 (by simp [shOK])
  · cases hk
end NW
end
section
/-! NEW ROWS: an array of arrays of int -/
def mz (o i : Nat) : Nat → Value := fun j => if j < i then .ref (o + 1 + j) else .null
theorem mz_0 (o : Nat) : mz o 0 = fun _ => .null := by funext j; simp [mz]
theorem mz_s (o i : Nat) : updV (mz o i) i (.ref (o + 1 + i)) = mz o (i + 1) := by
  funext j
  unfold updV mz
  by_cases h : j = i
  · subst h; rw [if_pos rfl, if_pos (by omega)]
  · rw [if_neg h]
    by_cases h2 : j < i
    · rw [if_pos h2, if_pos (by omega)]
    · rw [if_neg h2, if_neg (by omega)]
/-- the machine's state when i rows stand -/
def mq (T : State) (cA cI : ClassId) (N M : Nat) : Nat → State
  | 0 => T.pushCell (arrV cA N (mz T.heap.size 0))
  | i + 1 => ((mq T cA cI N M i).pushCell (arrV cI M (fun _ => .int 0))).setCell T.heap.size (arrV cA N (mz T.heap.size (i + 1)))
section MQ0
variable {T : State} {cA cI : ClassId} {N M : Nat}
theorem mq_f : ∀ i, (mq T cA cI N M i).heap.size = T.heap.size + 1 + i ∧ (mq T cA cI N M i).heap[T.heap.size]? = some (arrV cA N (mz T.heap.size i)) ∧ (mq T cA cI N M i).vm = T.vm ∧ (mq T cA cI N M i).slotsUsed = T.slotsUsed + N + i * M
  | 0 => ⟨by simp [mq], by simp [mq], rfl, by simp [mq, arrV_size]⟩
  | i + 1 => by
    obtain ⟨a, b, d, u⟩ := mq_f i
    have hlt : T.heap.size < (mq T cA cI N M i).heap.size := by omega
    have hb' : ((mq T cA cI N M i).pushCell (arrV cI M (fun _ => .int 0))).heap[T.heap.size]? = some (arrV cA N (mz T.heap.size i)) := by rw [State.heap_pushCell_of_lt (h := hlt)]; exact b
    refine ⟨?_, State.heap_setCell_self hb', by simp [mq, d], ?_⟩
    · simp [mq, State.setCell, a]; omega
    · simp [mq, u, arrV_size, Nat.succ_mul]; omega
theorem mq_top (f : JFrame) : ∀ i, mq (T.setTop f) cA cI N M i = (mq T cA cI N M i).setTop f
  | 0 => rfl
  | i + 1 => by simp only [mq, mq_top f i, State.heap_setTop, State.pushCell_setTop, State.setCell_setTop]
end MQ0
section MQ1
variable {p : Program} {l : Launch} {e : Env} {R : Room} {s : State} {m : MethodId} {args : Array Value} {below : List Frame} {meth : Method} {c : Code} {Q : State → Prop}
variable {D : va_G} {aK : Nat → ClassId} {b N0 L : Nat} {xs : Nat → Int32} {nL : Nat} {cc : ByteArray} {own : String} {pc : Nat} {lsA : Array Slot} {rest : List Value} {H : Heap} {locs : List Loc} {cells slots : Nat} {st : ab_S} {T : State}
theorem mq_stand (X : Stand p l e R s m args below meth c T locs cells slots) (cA cI : ClassId) (N M : Nat) : ∀ i, Stand p l e R s m args below meth c (mq T cA cI N M i) locs (cells + 1 + i) (slots + N + i * M)
  | 0 => by
    have h := X.pushed (arrV cA N (mz T.heap.size 0))
    rw [arrV_size] at h
    rw [Nat.zero_mul]
    exact h
  | i + 1 => by
    have Xi := mq_stand X cA cI N M i
    obtain ⟨f1, f2, f3, f4⟩ := mq_f (T := T) (cA := cA) (cI := cI) (N := N) (M := M) i
    have hlt : T.heap.size < (mq T cA cI N M i).heap.size := by omega
    have hcell : ((mq T cA cI N M i).pushCell (arrV cI M (fun _ => .int 0))).heap[T.heap.size]? = some (arrV cA N (mz T.heap.size i)) := by rw [State.heap_pushCell_of_lt (h := hlt)]; exact f2
    have h := (Xi.pushed (arrV cI M (fun _ => .int 0))).stored hcell i (.ref (T.heap.size + 1 + i))
    rw [arrV_store, mz_s, arrV_size] at h
    rw [show slots + N + (i + 1) * M = slots + N + i * M + M by rw [Nat.succ_mul]; omega]
    refine Stand.dropFresh h (fun x hx => ?_)
    rw [List.mem_singleton.mp hx]
    exact X.heapGrown
theorem mq_rp (hr : rp D aK b N0 L xs st T.heap) (N M : Nat) (hN : (sH st).length ≥ 2) : ∀ i, rp D aK b N0 L xs (ab_rows (ab_mk st (5, N)) (sH st).length M i) (mq T (aK 5) (aK 1) N M i).heap ∧ (sH (ab_rows (ab_mk st (5, N)) (sH st).length M i)).length = (sH st).length + 1 + i ∧ (sH (ab_rows (ab_mk st (5, N)) (sH st).length M i))[(sH st).length]? = some (5, N) ∧ (∀ j, ad b N0 (sR (ab_rows (ab_mk st (5, N)) (sH st).length M i) (sH st).length j) = if j < i then some (T.heap.size + 1 + j) else none)
  | 0 => by
    obtain ⟨m1, m2, m3⟩ := mk_own (st := st) (q := (5, N))
    refine ⟨rp_push hr (by simp [shOK]) (mq_f 0).1 (fun a ha => State.heap_pushCell_of_lt _ _ ha) ?_, len_mk, ?_, fun j => ?_⟩
    · show (mq T (aK 5) (aK 1) N M 0).heap[T.heap.size]? = some (vp_cell (aK 5) (N, .inr (.inr (.inr (.inr (fun j => ad b N0 (sR (ab_mk st (5, N)) (sH st).length j)))))))
      rw [m3, vp_cell_q, (mq_f 0).2.1, mz_0]
      rfl
    · show (sH st ++ [(5, N)])[(sH st).length]? = _
      simp
    · show ad b N0 (sR (ab_mk st (5, N)) (sH st).length j) = _
      rw [m3, if_neg (by omega)]
      rfl
  | i + 1 => by
    obtain ⟨hr1, hl1, hs1, ha1⟩ := mq_rp hr N M hN i
    generalize ht : ab_rows (ab_mk st (5, N)) (sH st).length M i = t at hr1 hl1 hs1 ha1
    have hrow : ab_rows (ab_mk st (5, N)) (sH st).length M (i + 1) = uR (ab_mk t (1, M)) (sH st).length i (sH t).length := by
      show (let t := ab_rows (ab_mk st (5, N)) (sH st).length M i; uR (ab_mk t (1, M)) (sH st).length i (sH t).length) = _
      rw [ht]
    rw [hrow]
    obtain ⟨f1, f2, f3, f4⟩ := mq_f (T := T) (cA := aK 5) (cI := aK 1) (N := N) (M := M) i
    obtain ⟨g1, g2, g3, g4⟩ := mq_f (T := T) (cA := aK 5) (cI := aK 1) (N := N) (M := M) (i + 1)
    obtain ⟨m1, m2, m3⟩ := mk_own (st := t) (q := (1, M))
    have hlt : T.heap.size < (mq T (aK 5) (aK 1) N M i).heap.size := by omega
    have hp : rp D aK b N0 L xs (ab_mk t (1, M)) ((mq T (aK 5) (aK 1) N M i).pushCell (arrV (aK 1) M (fun _ => .int 0))).heap := by
      refine rp_push hr1 (by simp [shOK]) (by simp) (fun a ha => State.heap_pushCell_of_lt _ _ ha) ?_
      show ((mq T (aK 5) (aK 1) N M i).pushCell (arrV (aK 1) M (fun _ => .int 0))).heap[(mq T (aK 5) (aK 1) N M i).heap.size]? = some (vp_cell (aK 1) (M, .inl (sI (ab_mk t (1, M)) (sH t).length)))
      rw [m1, vp_cell_i, State.heap_pushCell_size]
    have hs2 : (sH (ab_mk t (1, M)))[(sH st).length]? = some (5, N) := by
      show (sH t ++ [(1, M)])[(sH st).length]? = _
      rw [List.getElem?_append_left (by omega)]
      exact hs1
    obtain ⟨o, ho⟩ : ∃ o, (sH st).length = o + 2 := ⟨(sH st).length - 2, by omega⟩
    have hsz : T.heap.size = N0 + o := by have := hr.2.1; omega
    have hsR : ∀ j, sR (ab_mk t (1, M)) (sH st).length j = sR t (sH st).length j := fun j => by
      have : ¬ (sH st).length = t.2.2.2.length := by show ¬ _ = (sH t).length; omega
      simp [sR, ab_mk, this]
    have hnew : ad b N0 (sH t).length = some (T.heap.size + 1 + i) := by
      rw [hl1, ho, show o + 2 + 1 + i = (o + 1 + i) + 2 by omega]
      show some (N0 + (o + 1 + i)) = _
      rw [hsz]; congr 1; omega
    have had : ∀ j, ad b N0 (sR (uR (ab_mk t (1, M)) (sH st).length i (sH t).length) (sH st).length j) = if j < i + 1 then some (T.heap.size + 1 + j) else none := fun j => by
      by_cases hj : j = i
      · subst hj
        rw [show sR (uR (ab_mk t (1, M)) (sH st).length j (sH t).length) (sH st).length j = (sH t).length by simp [sR, uR], hnew, if_pos (by omega)]
      · rw [show sR (uR (ab_mk t (1, M)) (sH st).length i (sH t).length) (sH st).length j = sR (ab_mk t (1, M)) (sH st).length j by simp [sR, uR, hj], hsR, ha1]
        by_cases h2 : j < i
        · rw [if_pos h2, if_pos (by omega)]
        · rw [if_neg h2, if_neg (by omega)]
    refine ⟨?_, ?_, hs2, had⟩
    · rw [ho] at hs2 had ⊢
      refine rp_arr hp hs2 rfl uR_oth (by rw [g1]; simp [f1]; omega) (fun x hx => ?_) ?_
      · show (((mq T (aK 5) (aK 1) N M i).pushCell (arrV (aK 1) M (fun _ => .int 0))).setCell T.heap.size _).heap[x]? = _
        rw [State.heap_setCell_other (by rw [hsz]; exact fun q => hx q.symm)]
      · show (mq T (aK 5) (aK 1) N M (i + 1)).heap[N0 + o]? = some (vp_cell (aK 5) (N, .inr (.inr (.inr (.inr (fun j => ad b N0 (sR (uR (ab_mk t (1, M)) (o + 2) i (sH t).length) (o + 2) j)))))))
        rw [vp_cell_q, ← hsz, g2]
        congr 2
        funext j
        rw [had]
        unfold mz
        split <;> rfl
    · show (sH (ab_mk t (1, M))).length = _
      rw [len_mk, hl1]; omega
theorem mq_old (cA cI : ClassId) (N M : Nat) {a : Nat} (ha : a < T.heap.size) : ∀ i, (mq T cA cI N M i).heap[a]? = T.heap[a]?
  | 0 => State.heap_pushCell_of_lt _ _ ha
  | i + 1 => by
    have f1 := (mq_f (T := T) (cA := cA) (cI := cI) (N := N) (M := M) i).1
    show (((mq T cA cI N M i).pushCell (arrV cI M (fun _ => .int 0))).setCell T.heap.size _).heap[a]? = _
    have hlt : a < (mq T cA cI N M i).heap.size := by rw [f1]; omega
    rw [State.heap_setCell_other (Nat.ne_of_gt ha), State.heap_pushCell_of_lt (h := hlt)]
    exact mq_old cA cI N M ha i
theorem mq_S (hS : va_S (fun q => N0 ≤ q) s.heap T.heap locs) (cA cI : ClassId) (N M i : Nat) : va_S (fun q => N0 ≤ q) s.heap (mq T cA cI N M i).heap locs := by
  have f1 := (mq_f (T := T) (cA := cA) (cI := cI) (N := N) (M := M) i).1
  exact ⟨by rw [f1]; have := hS.1; omega, fun q h1 h2 => (mq_old cA cI N M (Nat.lt_of_lt_of_le h1 hS.1) i).trans (hS.2.1 q h1 h2), hS.2.2⟩
end MQ1
section MQ2
variable {E : CtlPost} {e : Env} {d : Bool} {acts : List Action} {s : State}
theorem mq_new {cA comp : ClassId} {k : Class} {ty : FieldType} {n : Nat} {v : Value} (hk : s.vm.classes[cA]? = some k) (hkind : k.kind = .array comp ty) (h1 : ¬ n > e.platform.arrayLengthLimit) (h2 : ¬ n * componentBytes ty > e.platform.maxHeapBytes) (hf : fits ty v = true) (hv : v.isDefault = true) (h3 : s.heap.size < e.platform.maxCells) (h4 : s.slotsUsed + n ≤ e.platform.maxSlots)
    {Q : Addr → Pre} (hq : Q s.heap.size d acts (s.pushCell (arrV cA n (fun _ => v)))) : wp (Jvm.newArray cA n v) Q E e d acts s := by
  have hall : ((Array.replicate n v).all (·.isDefault)) = true := by
    rw [Array.all_replicate]
    split
    · rfl
    · exact hv
  have ha : allocActs (Array.replicate n v) s.heap.size acts = acts := by
    unfold allocActs
    rw [if_pos hall]
  have hs : ∀ i w, (Array.replicate n v)[i]? = some w → s.fitsSlot cA .none i w = true := by
    intro i w hw
    rw [Array.getElem?_replicate] at hw
    split at hw
    · cases hw
      simp [State.fitsSlot, State.slotType?, hk, hkind, hf]
    · cases hw
  rw [← arrV_new] at hq
  simp only [Jvm.newArray, Jvm.arrayFits, wp_bind', Jvm.W.ask, Jvm.W.ite, h1, if_false, wp_pure', Jvm.W.theClass, hk, hkind, h2, Jvm.W.alloc, Jvm.W.stop, Option.some.injEq, exists_eq_left', Array.size_replicate, ha]
  rw [if_neg (by omega)]
  exact ⟨h3, h4, hs, hq⟩
theorem mq_row {cI cc : ClassId} {kC : Class} {k : Int32} (hk : s.vm.classes[cI]? = some kC) (hkind : kC.kind = .array cc .int) (h0 : ¬ k < 0) (h1 : ¬ k.toNatClampNeg > e.platform.arrayLengthLimit) (h2 : ¬ k.toNatClampNeg * componentBytes .int > e.platform.maxHeapBytes) (h3 : s.heap.size < e.platform.maxCells) (h4 : s.slotsUsed + k.toNatClampNeg ≤ e.platform.maxSlots)
    {Q : Addr → Pre} (hq : Q s.heap.size d acts (s.pushCell (arrV cI k.toNatClampNeg (fun _ => .int 0)))) : wp (multianewarray.make cI [k]) Q E e d acts s := by
  rw [multianewarray.make]
  simp only [wp_bind', Jvm.W.ite, h0, if_false, wp_pure', Jvm.W.theClass, hk, hkind, Option.some.injEq, exists_eq_left']
  exact mq_new hk hkind h1 h2 rfl rfl h3 h4 hq
theorem mq_make {cA cI cc : ClassId} {kA kC : Class} {n k : Int32} (hkA : s.vm.classes[cA]? = some kA) (hkindA : kA.kind = .array cI (.array .int)) (hkC : s.vm.classes[cI]? = some kC) (hkindC : kC.kind = .array cc .int) (hn : ¬ n < 0) (hk : ¬ k < 0)
    (h1 : ¬ n.toNatClampNeg > e.platform.arrayLengthLimit) (h2 : ¬ n.toNatClampNeg * componentBytes (.array .int) > e.platform.maxHeapBytes) (h3 : ¬ k.toNatClampNeg > e.platform.arrayLengthLimit) (h4 : ¬ k.toNatClampNeg * componentBytes .int > e.platform.maxHeapBytes)
    (h5 : s.heap.size + 1 + n.toNatClampNeg ≤ e.platform.maxCells) (h6 : s.slotsUsed + n.toNatClampNeg + n.toNatClampNeg * k.toNatClampNeg ≤ e.platform.maxSlots)
    {Q : Addr → Pre} (hq : ∀ d' acts', Q s.heap.size d' acts' (mq s cA cI n.toNatClampNeg k.toNatClampNeg n.toNatClampNeg)) : wp (multianewarray.make cA [n, k]) Q E e d acts s := by
  have hfi : ([k].find? (· < 0)) = none := by simp [hk]
  rw [multianewarray.make]
  simp only [wp_bind', Jvm.W.ite, hn, if_false, wp_pure', Jvm.W.theClass, hkA, hkindA, Option.some.injEq, exists_eq_left']
  refine mq_new hkA hkindA h1 h2 rfl rfl (by omega) (by omega) ?_
  simp only [hfi]
  rw [ite_self, wp_bind', Std.Legacy.Range.forIn_eq_forIn_range', show ([:n.toNatClampNeg] : Std.Legacy.Range).size = n.toNatClampNeg by simp [Std.Legacy.Range.size]]
  refine wp_forIn_inv (fun r s' => ∃ i, i ≤ n.toNatClampNeg ∧ r = List.range' i (n.toNatClampNeg - i) ∧ s' = mq s cA cI n.toNatClampNeg k.toNatClampNeg i) _ _ ⟨0, Nat.zero_le _, rfl, ?_⟩ ?_ ?_
  · show s.pushCell (arrV cA n.toNatClampNeg (fun _ => .null)) = s.pushCell (arrV cA n.toNatClampNeg (mz s.heap.size 0))
    rw [mz_0]
  · rintro x r s' d' acts' Q' ⟨i, hi, hl, rfl⟩ hnext
    have hlt : i < n.toNatClampNeg := by
      rcases Nat.lt_or_ge i n.toNatClampNeg with h | h
      · exact h
      · rw [Nat.sub_eq_zero_of_le h] at hl; cases hl
    rw [show n.toNatClampNeg - i = (n.toNatClampNeg - (i + 1)) + 1 by omega, List.range'_succ] at hl
    obtain ⟨rfl, hrest⟩ := List.cons.inj hl
    obtain ⟨f1, f2, f3, f4⟩ := mq_f (T := s) (cA := cA) (cI := cI) (N := n.toNatClampNeg) (M := k.toNatClampNeg) x
    have hmul : x * k.toNatClampNeg + k.toNatClampNeg ≤ n.toNatClampNeg * k.toNatClampNeg := by
      have := Nat.mul_le_mul_right k.toNatClampNeg hlt
      rw [Nat.succ_mul] at this
      exact this
    have hlt0 : s.heap.size < (mq s cA cI n.toNatClampNeg k.toNatClampNeg x).heap.size := by rw [f1]; omega
    simp only [wp_bind']
    refine mq_row (by rw [f3]; exact hkC) hkindC hk h3 h4 (by rw [f1]; omega) (by rw [f4]; omega) ?_
    simp only [wp_bind', Jvm.W.writeLoc, wp_pure']
    refine ⟨arrV cA n.toNatClampNeg (mz s.heap.size x), by rw [State.heap_pushCell_of_lt (h := hlt0)]; exact f2, (fun q => by cases q), by rw [arrV_size]; exact hlt, ?_, hnext _ _ _ ⟨x + 1, hlt, hrest, ?_⟩⟩
    · have hv : ((mq s cA cI n.toNatClampNeg k.toNatClampNeg x).pushCell (arrV cI k.toNatClampNeg (fun _ => .int 0))).vm.classes[cA]? = some kA := by
        show (mq s cA cI n.toNatClampNeg k.toNatClampNeg x).vm.classes[cA]? = some kA
        rw [f3]; exact hkA
      show State.fitsSlot _ cA .none x _ = true
      simp [State.fitsSlot, State.slotType?, -State.vm_pushCell, hv, hkindA, fits]
    · rw [f1, arrV_store, mz_s]
      rfl
  · rintro s' d' acts' ⟨i, hi, hl, rfl⟩
    have hiN : i = n.toNatClampNeg := by
      rcases Nat.lt_or_ge i n.toNatClampNeg with h | h
      · rw [show n.toNatClampNeg - i = (n.toNatClampNeg - (i + 1)) + 1 by omega, List.range'_succ] at hl; cases hl
      · omega
    subst hiN
    simp only [wp_pure']
    exact hq _ _
end MQ2
theorem rows_len (st : ab_S) (a k : Nat) : ∀ n, (sH (ab_rows st a k n)).length = (sH st).length + n
  | 0 => rfl
  | n + 1 => by
    show (sH (ab_mk (ab_rows st a k n) (1, k))).length = _
    rw [len_mk, rows_len st a k n]; omega
theorem rows_nsl (st : ab_S) (a k : Nat) : ∀ n, nsl (sH (ab_rows st a k n)) = nsl (sH st) + n * k
  | 0 => by rw [Nat.zero_mul]; rfl
  | n + 1 => by
    show nsl (sH (ab_mk (ab_rows st a k n) (1, k))) = _
    rw [nsl_mk, rows_nsl st a k n, Nat.succ_mul]
    show _ + k = _
    omega
theorem rows_ex (st : ab_S) (a k : Nat) : ∀ n, ext st (ab_rows st a k n)
  | 0 => ext_rfl
  | n + 1 => ext_trans (rows_ex st a k n) (ext_mk (h := (1, k)))
section MQ3
variable {p : Program} {l : Launch} {e : Env} {R : Room} {s : State} {m : MethodId} {args : Array Value} {below : List Frame} {meth : Method} {c : Code} {Q : State → Prop}
variable {D : va_G} {aK : Nat → ClassId} {b N0 L : Nat} {xs : Nat → Int32} {nL : Nat} {cc : ByteArray} {own : String} {pc : Nat} {lsA : Array Slot} {rest : List Value} {H : Heap} {locs : List Loc} {cells slots : Nat} {st : ab_S} {T : State}
theorem ab_multi (X : Cx p s m args c cc own nL D aK b N0 L xs) {i : Nat} {n k : Int32} (hw : Cond.classLink own i "[[I" ∈ ab_ws) (hr : rp D aK b N0 L xs st H) (hS : va_S (fun q => N0 ≤ q) s.heap H locs) (hn : ¬ n < 0) (hk : ¬ k < 0) (hn1 : n.toNatClampNeg ≤ 1000) (hk1 : k.toNatClampNeg ≤ 1000) (hc1 : cells + (1 + n.toNatClampNeg) ≤ R.cells) (hc2 : slots + (n.toNatClampNeg + n.toNatClampNeg * k.toNatClampNeg) ≤ R.slots) (hdg : decode cc pc = .ok (.multianewarray i 2, 4))
    (kk : ∀ (H1 : Heap), rp D aK b N0 L xs (ab_rows (ab_mk st (5, n.toNatClampNeg)) (sH st).length k.toNatClampNeg n.toNatClampNeg) H1 → va_S (fun q => N0 ≤ q) s.heap H1 locs → W p l e R s m args below meth c H1 locs (cells + 1 + n.toNatClampNeg) (slots + n.toNatClampNeg + n.toNatClampNeg * k.toNatClampNeg) Q (F0 m (pc + 4) lsA (cv b N0 (.ref (sH st).length) :: rest))) : W p l e R s m args below meth c H locs cells slots Q (F0 m pc lsA (.int k :: .int n :: rest)) := by
  obtain ⟨hx, hb, -, hown, hts, hrk⟩ := X
  rw [cv_new hr] at kk
  have hl2 : (sH st).length ≥ 2 := by
    have := (List.getElem?_eq_some_iff.mp hr.2.2.2.1).1
    omega
  intro T hT XT
  subst hT; subst hb
  have hpl : e.platform.magicAccessors = ({} : Platform).magicAccessors := by rw [XT.admits.platform]
  obtain ⟨c0, hfc0, hcl⟩ := Cond.classLink_spec hown (hts _ hw) e.platform hpl
  have h5 : s.vm.findClass "[[I" = some (aK 5) := (hrk.1.2 4 _ rfl).2
  cases h5.symm.trans hfc0
  obtain ⟨kA, hkA, hkindA⟩ := hrk.2.2.2.2.1.2
  obtain ⟨-, kC, hkC, comp, hkindC⟩ := (hrk.1.2 0 _ rfl).1 0 (fun _ => .null)
  have hkC : s.vm.classes[aK 1]? = some kC := hkC
  obtain ⟨hg₁, hwarm₁, hready₁⟩ := State.classEntry (e := e) XT.warmed hcl
  generalize T.vm.noted m.cls i (.cls (aK 5)) = vm₁ at hg₁ hwarm₁ hready₁
  have hal : s.vm.Alike vm₁ := hwarm₁.alike
  obtain ⟨kA₁, hkA₁, heA⟩ := hal.2.2 _ _ hkA
  obtain ⟨kC₁, hkC₁, heC⟩ := hal.2.2 _ _ hkC
  have hkindA₁ : kA₁.kind = .array (aK 1) (.array .int) := by rw [heA]; exact hkindA
  have hkindC₁ : kC₁.kind = .array comp .int := by rw [heC]; exact hkindC
  have X₁ := XT.noted hwarm₁
  obtain ⟨hr1, hr2⟩ := XT.roomAbove hc1 hc2
  have XF := mq_stand X₁ (aK 5) (aK 1) n.toNatClampNeg k.toNatClampNeg n.toNatClampNeg
  obtain ⟨t, a1, b1⟩ := kk _ (mq_rp (T := T.setVm vm₁) hr n.toNatClampNeg k.toNatClampNeg hl2 n.toNatClampNeg).1 (mq_S (T := T.setVm vm₁) hS (aK 5) (aK 1) n.toNatClampNeg k.toNatClampNeg n.toNatClampNeg) _ rfl XF
  refine ⟨t, ?_, b1⟩
  have hl1 : ¬ n.toNatClampNeg > e.platform.arrayLengthLimit := by rw [Launch.admits_arrayLengthLimit XT.admits]; omega
  have hh1 : ¬ n.toNatClampNeg * componentBytes (.array .int) > e.platform.maxHeapBytes := by
    rw [Launch.admits_maxHeapBytes XT.admits]; show ¬ n.toNatClampNeg * 4 > 536870912; omega
  have hl2 : ¬ k.toNatClampNeg > e.platform.arrayLengthLimit := by rw [Launch.admits_arrayLengthLimit XT.admits]; omega
  have hh2 : ¬ k.toNatClampNeg * componentBytes .int > e.platform.maxHeapBytes := by
    rw [Launch.admits_maxHeapBytes XT.admits]; show ¬ k.toNatClampNeg * 4 > 536870912; omega
  jvm_step XT.here [hx, hdg]
  simp only [multianewarray.sem, wp_bind', Jvm.W.resolveClassAt_links (State.method?_setTop (F0 m pc lsA (.int k :: .int n :: rest)) XT.here.top) hg₁]
  rw [Jvm.W.popN, if_neg (by decide)]
  refine ⟨F0 m pc lsA (.int k :: .int n :: rest), State.topJava?_setTop' (s := T.setVm vm₁) _ XT.here.top, [.int n, .int k], rest, rfl, rfl, ?_⟩
  simp only [List.mapM_cons, List.mapM_nil, wp_bind', wp_pure']
  refine mq_make (kA := kA₁) (kC := kC₁) (cI := aK 1) hkA₁ hkindA₁ hkC₁ hkindC₁ hn hk hl1 hh1 hl2 hh2 (by show T.heap.size + 1 + _ ≤ _; omega) (by show T.slotsUsed + _ + _ ≤ _; omega) (fun d' acts' => ?_)
  have eS : ((T.setTop (F0 m pc lsA (.int k :: .int n :: rest))).setVm vm₁).setTop (F0 m pc lsA rest) = (T.setVm vm₁).setTop (F0 m pc lsA rest) := by
    show ((T.setVm vm₁).setTop _).setTop _ = _
    rw [State.setTop_setTop]
  rw [eS, mq_top]
  simp only [wp_bind', Jvm.W.mark, Jvm.W.pushRef, State.topJava?_setTop' _ XF.here.top, Option.some.injEq, exists_eq_left', State.setTop_setTop, State.heap_setTop]
  intro acts
  simp [jvm, XF.here.top]
  exact a1
end MQ3
end
section
/-! CONTRACTS, AND ONE INSTRUCTION'S SOUNDNESS -/
def isNest : Cond → Bool
  | .fieldLinkNest _ _ _ _ _ _ => true
  | .methodLinkNest _ _ _ _ => true
  | _ => false
theorem nw_nest : ∀ w ∈ ab_nw, isNest w = true := by decide +kernel
theorem nw_warm {w : Cond} (hw : isNest w = true) {s U : State} (hW : s.WarmedH U.vm) (h : va_Nw w s) : va_Nw w U := by
  cases w <;> first | exact va_Nw.warmF hW h | exact va_Nw.warmM hW h | cases hw
theorem nest_tab {w : Cond} (hw : isNest w = true) : w.onTables = true := by
  cases w <;> first | rfl | cases hw
section RK
variable {D : va_G} {aK : Nat → ClassId} {b N0 L : Nat} {xs : Nat → Int32}
theorem rk_moved {u U : State} (h : rk D aK b N0 L xs u) (hW : u.WarmedH U.vm) (hb : U.heap[b]? = u.heap[b]?) (hz : u.heap.size ≤ U.heap.size) : rk D aK b N0 L xs U := by
  obtain ⟨h1, h2, h3, h4, h5, h6, h7, h8⟩ := h
  exact ⟨va_K.moved hW.alike h1, fun w hw => nw_warm (nw_nest w hw) hW (h2 w hw), h3.moved hW.alike, h4.moved hW.alike, ⟨h5.1.moved hW.alike, h5.2.moved hW.alike⟩, (h6.kept hb).moved hW.alike, h7, Nat.le_trans h8 hz⟩
theorem rk_calling {U : State} {g : JFrame} {mk : MethodId} {a : Array Value} (h : rk D aK b N0 L xs U) : rk D aK b N0 L xs (U.calling g mk a) := by
  obtain ⟨h1, h2, h3, h4, h5, h6, h7, h8⟩ := h
  have hA : U.vm.Alike (U.calling g mk a).vm := Vm.Alike.refl U.vm
  exact ⟨va_K.moved hA h1, fun w hw => va_Nw.same (u := U) (U := U.calling g mk a) (nest_tab (nw_nest w hw)) rfl (h2 w hw), h3.moved hA, h4.moved hA, ⟨h5.1.moved hA, h5.2.moved hA⟩, h6.moved hA, h7, h8⟩
end RK
/-- what a contract says of the end -/
def ct_Q (D : va_G) (aK : Nat → ClassId) (b N0 L : Nat) (xs : Nat → Int32) (rs : List Value) (st' : ab_S) : Array Value → State → Outcome → State → Prop := fun _ s0 o t => o = .returned ((rs.map (cv b N0)).head?) ∧ rp D aK b N0 L xs st' t.heap ∧ va_F (fun q => N0 ≤ q) s0 t
/-- a method's contract at an abstract state -/
def ct (l : Launch) (y : MethodName) (bytes : ByteArray) (maxL : Nat) (ret : Option FieldType) (fr lo : Nat) (as : List Value) (st : ab_S) (rs : List Value) (st' : ab_S) : Prop :=
  ∀ (D : va_G) (aK : Nat → ClassId) (b N0 L : Nat) (xs : Nat → Int32), Met l y (.code y bytes maxL ret :: ab_ws) { frames := fr, cells := (sH st').length - (sH st).length, slots := nsl (sH st') - nsl (sH st), locals := lo }
    (va_Pc (as.map (cv b N0)) (fun U => rp D aK b N0 L xs st U.heap ∧ rk D aK b N0 L xs U)) (ct_Q D aK b N0 L xs rs st') ((sH st').length - (sH st).length) (nsl (sH st') - nsl (sH st)) (fun q => N0 ≤ q)
/-- what a callee's number i means in a method of class own that has fr frames and lo words of locals left -/
def cee (l : Launch) (fr lo : Nat) (own : String) (i kd n : Nat) (g : ab_G) : Prop := ∃ (y : MethodName) (bytes : ByteArray) (maxL : Nat) (ret : Option FieldType) (fr' lo' ci : Nat),
  Cond.code y bytes maxL ret ∈ ab_ws ∧ Cond.initialized y.cls ∈ ab_ws ∧ (y.cls ≠ "java/lang/invoke/MethodHandle" ∧ y.cls ≠ "java/lang/invoke/VarHandle" ∧ (parseMethodDescriptor y.desc).map (fun d => d.parameters.length) = some (if kd = 0 then n else n - 1)) ∧ fr' + 1 ≤ fr ∧ 8 + (maxL + 11) + lo' ≤ lo ∧
  ((kd = 0 ∧ Cond.methodLink own i y ∈ ab_ws ∧ Cond.static y ∈ ab_ws) ∨ (kd = 1 ∧ Cond.methodLink own i y ∈ ab_ws ∧ Cond.instanceMethod y ∈ ab_ws ∧ Cond.selects y.cls y y ∈ ab_ws ∧ ∃ q, ab_cl[ci]? = some q ∧ q.1 = y.cls) ∨ (kd = 2 ∧ (Cond.methodLink own i y ∈ ab_ws ∨ Cond.methodLinkNest own i y "TermMachine" ∈ ab_nw) ∧ y.name = "<init>" ∧ ret = none ∧ Cond.instanceMethod y ∈ ab_ws)) ∧
  ∀ as st k r, g as st k = some r → as.length = n ∧ (kd ≠ 0 → ∃ o as', as = .ref o :: as' ∧ (sH st)[o]? = some (0, ci)) ∧ ∃ rs st', k rs st' = some r ∧ rs.length ≤ 1 ∧ ext st st' ∧ ct l y bytes maxL ret fr' lo' as st rs st'
def objok (fr lo : Nat) (own : String) (i kd n : Nat) (g : ab_G) : Prop := g = g_obj ∧ kd = 2 ∧ n = 1 ∧ Cond.methodLink own i Lib.objectInit ∈ ab_ws ∧ 1 ≤ fr ∧ 20 ≤ lo
/-- the methods of Math -/
def matok (fr lo : Nat) (own : String) (i kd n : Nat) (g : ab_G) : Prop := kd = 0 ∧ 1 ≤ fr ∧ 23 ≤ lo ∧ ((g = g_max ∧ n = 2 ∧ Cond.methodLink own i Lib.Math.max.name ∈ ab_ws) ∨ (g = g_min ∧ n = 2 ∧ Cond.methodLink own i Lib.Math.min.name ∈ ab_ws) ∨ (g = g_abs ∧ n = 1 ∧ Cond.methodLink own i Lib.Math.abs.name ∈ ab_ws) ∨ (g = g_minl ∧ n = 2 ∧ Cond.methodLink own i Lib.MathLoose.min_long.x ∈ ab_ws))
theorem mat_i : Cond.initialized "java/lang/Math" ∈ ab_ws := by decide +kernel
theorem mat_max : Cond.static Lib.Math.max.name ∈ ab_ws ∧ Cond.code Lib.Math.max.name Lib.Math.max.code 2 (some .int) ∈ ab_ws := by decide +kernel
theorem mat_min : Cond.static Lib.Math.min.name ∈ ab_ws ∧ Cond.code Lib.Math.min.name Lib.Math.min.code 2 (some .int) ∈ ab_ws := by decide +kernel
theorem mat_abs : Cond.static Lib.Math.abs.name ∈ ab_ws ∧ Cond.code Lib.Math.abs.name Lib.Math.abs.code 1 (some .int) ∈ ab_ws := by decide +kernel
theorem mat_minl : Cond.static Lib.MathLoose.min_long.x ∈ ab_ws ∧ Cond.code Lib.MathLoose.min_long.x Lib.MathLoose.min_long.code 4 (some .long) ∈ ab_ws := by decide +kernel
theorem obj_w : Cond.instanceMethod Lib.objectInit ∈ ab_ws ∧ Cond.code Lib.objectInit ⟨#[0xb1]⟩ 1 none ∈ ab_ws := by decide +kernel
section CALLS
variable {p : Program} {l : Launch} {e : Env} {R : Room} {s : State} {m : MethodId} {args : Array Value} {below : List Frame} {meth : Method} {c : Code} {Q : State → Prop}
variable {D : va_G} {aK : Nat → ClassId} {b N0 L : Nat} {xs : Nat → Int32} {nL : Nat} {cc : ByteArray} {own : String} {pc : Nat} {lsA : Array Slot} {H : Heap} {locs : List Loc} {cells slots : Nat} {st : ab_S}
theorem ab_sum_le (b N0 : Nat) : ∀ (l : List Value), ((l.map (cv b N0)).map fun v => v.category).sum = ab_sum l
  | [] => rfl
  | v :: r => by simp only [List.map_cons, List.sum_cons, ab_sum, cv_cat, ab_sum_le b N0 r]
/-- behind a call -/
theorem ab_back {mc ms : Nat} {rs rest : List Value} {st' : ab_S} {a : Array Value} {stk : List Value} (hr : va_Run p l e R s m args below meth c H locs cells slots mc ms (F0 m pc lsA stk) (rest.map (cv b N0)) (ct_Q D aK b N0 L xs rs st' a) (fun q => N0 ≤ q)) (hlen : rs.length ≤ 1) (hS : va_S (fun q => N0 ≤ q) s.heap H locs)
    (kk : ∀ (H1 : Heap) (locs1 : List Loc), rp D aK b N0 L xs st' H1 → va_S (fun q => N0 ≤ q) s.heap H1 locs1 → W p l e R s m args below meth c H1 locs1 (cells + mc) (slots + ms) Q (F0 m (pc + 3) lsA ((rs ++ rest).map (cv b N0)))) : W p l e R s m args below meth c H locs cells slots Q (F0 m pc lsA stk) := by
  intro T hT X
  obtain ⟨v, st₀, t, T', L', h0, X', hL, e1, e2, ⟨ho, hrp, hz, hk⟩, go⟩ := hr T hT X
  rw [h0] at hz hk
  have hv : v = (rs.map (cv b N0)).head? := Outcome.returned.inj ho
  have hst : v.toList ++ rest.map (cv b N0) = (rs ++ rest).map (cv b N0) := by
    rw [hv]
    match rs, hlen with
    | [], _ => rfl
    | [x], _ => rfl
    | _ :: _ :: _, h => simp at h
  obtain ⟨t2, a1, b1⟩ := kk T'.heap (locs ++ L') (by rw [e1]; exact hrp)
    ⟨Nat.le_trans hS.1 (by rw [e1]; exact hz), fun q h1 h2 => by rw [e1, hk q (Nat.lt_of_lt_of_le h1 hS.1) h2]; exact hS.2.1 q h1 h2, fun q hq => by
      rcases List.mem_append.mp hq with h | h
      · exact hS.2.2 q h
      · exact hL q h⟩ T' rfl X'
  rw [← hst] at a1
  exact ⟨t2, go t2 a1, b1⟩
theorem ab_invoke (X : Cx p s m args c cc own nL D aK b N0 L xs) {i kd n : Nat} {g : ab_G} {k : List Value → ab_S → Option ab_R} {r : ab_R} {stk : List Value} (hG : cee l R.frames R.locals own i kd n g) (hsz : lsA.size = nL)
    (hop : (kd = 0 → decode cc pc = .ok (.invokestatic i, 3)) ∧ (kd = 1 → decode cc pc = .ok (.invokevirtual i, 3)) ∧ (kd = 2 → decode cc pc = .ok (.invokespecial i, 3))) (hlen : n ≤ stk.length) (hsum : ab_sum (stk.drop n) ≤ 8) (h : g (stk.take n).reverse st k = some r) :
    ∃ rs st', k rs st' = some r ∧ ext st st' ∧ (rp D aK b N0 L xs st H → va_S (fun q => N0 ≤ q) s.heap H locs → cells + ((sH st').length - (sH st).length) ≤ R.cells ∧ slots + (nsl (sH st') - nsl (sH st)) ≤ R.slots →
      (∀ (H1 : Heap) (locs1 : List Loc), rp D aK b N0 L xs st' H1 → va_S (fun q => N0 ≤ q) s.heap H1 locs1 → W p l e R s m args below meth c H1 locs1 (cells + ((sH st').length - (sH st).length)) (slots + (nsl (sH st') - nsl (sH st))) Q (F0 m (pc + 3) lsA ((rs ++ stk.drop n).map (cv b N0)))) → W p l e R s m args below meth c H locs cells slots Q (F0 m pc lsA (stk.map (cv b N0)))) := by
  obtain ⟨y, bytes, maxL, ret, fr', lo', ci, hcode, hini, hd, hfr, hlo, hlink, hspec⟩ := hG
  obtain ⟨hlen2, hrecv, rs, st', hk, hrs, hext, hct⟩ := hspec _ _ _ _ h
  refine ⟨rs, st', hk, hext, fun hr hS hf kk => ?_⟩
  obtain ⟨hx, hb, hml, hown, hts, hrk⟩ := X
  have hM := hct D aK b N0 L xs
  generalize has : (stk.take n).reverse = as at hM hrecv hlen2
  have hstk : stk.map (cv b N0) = (as.map (cv b N0)).reverse ++ (stk.drop n).map (cv b N0) := by
    rw [← has, List.map_reverse, List.reverse_reverse, ← List.map_append, List.take_append_drop]
  have hroom : 2 * (F0 m pc lsA (stk.map (cv b N0))).monitorRoom + (((stk.drop n).map (cv b N0)).map fun v => v.category).sum ≤ 8 := lv_room (by rw [ab_sum_le]; exact hsum)
  have hbl : FrameBlind (va_Pc (as.map (cv b N0)) (fun U => rp D aK b N0 L xs st U.heap ∧ rk D aK b N0 L xs U)) := fun a U g mk q => ⟨q.1, q.2.1, rk_calling q.2.2⟩
  have hbH : H[b]? = s.heap[b]? := hS.2.1 b (Nat.lt_of_lt_of_le hrk.2.2.2.2.2.2.1 hrk.2.2.2.2.2.2.2) (Nat.not_le.mpr hrk.2.2.2.2.2.2.1)
  have hpre : ∀ U : State, U.heap = H → s.WarmedH U.vm → va_Pc (as.map (cv b N0)) (fun U => rp D aK b N0 L xs st U.heap ∧ rk D aK b N0 L xs U) (as.map (cv b N0)).toArray U := fun U hU hW => ⟨rfl, by rw [hU]; exact hr, rk_moved hrk hW (by rw [hU]; exact hbH) (by rw [hU]; exact hS.1)⟩
  have S : CallFix p m c cc nL s args ab_ws own := ⟨hx, hb, hml, hown, hts⟩
  rcases hlink with ⟨rfl, hl, hst⟩ | ⟨rfl, hl, hin, hse, q, hq, hqy⟩ | ⟨rfl, hl, hnm, rfl, hin⟩
  · refine ab_back (rest := stk.drop n) (va_runS (As := as.map (cv b N0)) (n := n) S hM ⟨callB_of n hts (ab_good hcode) rfl rfl rfl (hts _ hini) (hts _ hl) ⟨hd.1, hd.2.1, by simpa using hd.2.2⟩ ⟨hfr, hlo⟩, hts _ hst⟩ ⟨hbl, hpre⟩ rfl (by rw [List.length_map]; exact hlen2) hsz hstk hroom (hop.1 rfl) hf) hrs hS kk
  · obtain ⟨o, as', rfl, hsh⟩ := hrecv (by decide)
    obtain ⟨o, rfl⟩ := rp_ge hr hsh (by simp) (by simp)
    have hstk2 : stk.map (cv b N0) = (as'.map (cv b N0)).reverse ++ .ref (N0 + o) :: (stk.drop n).map (cv b N0) := by
      rw [hstk, List.map_cons, List.reverse_cons, List.append_assoc]; rfl
    have hn : n - 1 = as'.length := by rw [← hlen2]; simp
    refine ab_back (rest := stk.drop n) (va_runV (C := y.cls) (b := N0 + o) (As := as'.map (cv b N0)) (n := n - 1) S hM ⟨callB_of (n - 1) hts (ab_good hcode) rfl rfl rfl (hts _ hini) (hts _ hl) ⟨hd.1, hd.2.1, by simpa using hd.2.2⟩ ⟨hfr, hlo⟩, hts _ hin, hts _ hse⟩ ⟨hbl, ?_, hpre⟩ rfl (by rw [List.length_map]; exact hn.symm) hsz hstk2 hroom (hop.2.1 rfl) hf) hrs hS kk
    rw [← hqy]
    exact va_recv hrk.1 hr.1 hq (wsl_get (b := b) (N0 := N0) (aK := aK) hsh)
  · obtain ⟨o, as', rfl, hsh⟩ := hrecv (by decide)
    obtain ⟨o, rfl⟩ := rp_ge hr hsh (by simp) (by simp)
    have hstk2 : stk.map (cv b N0) = (as'.map (cv b N0)).reverse ++ .ref (N0 + o) :: (stk.drop n).map (cv b N0) := by
      rw [hstk, List.map_cons, List.reverse_cons, List.append_assoc]; rfl
    have hn : n - 1 = as'.length := by rw [← hlen2]; simp
    rcases hl with hl | hl
    · exact ab_back (rest := stk.drop n) (va_runI (b := N0 + o) (As := as'.map (cv b N0)) (n := n - 1) S hM ⟨callB_of (n - 1) hts (ab_good hcode) rfl rfl rfl (hts _ hini) (hts _ hl) ⟨hd.1, hd.2.1, by simpa using hd.2.2⟩ ⟨hfr, hlo⟩, hnm, hts _ hin⟩ ⟨hbl, hpre⟩ rfl (by rw [List.length_map]; exact hn.symm) hsz hstk2 hroom (hop.2.2 rfl) hf) hrs hS kk
    · exact ab_back (rest := stk.drop n) (va_runIN (host := "TermMachine") (b := N0 + o) (As := as'.map (cv b N0)) (n := n - 1) S hM ⟨va_cnB (n - 1) hts (ab_good hcode) rfl rfl rfl (hrk.2.1 _ hl) (hts _ hini) ⟨hd.1, hd.2.1, by simpa using hd.2.2⟩ ⟨hfr, hlo⟩, hnm, hts _ hin⟩ ⟨hbl, hpre⟩ rfl (by rw [List.length_map]; exact hn.symm) hsz hstk2 hroom (hop.2.2 rfl) hf) hrs hS kk
end CALLS
/-! switches -/
theorem sw_e {x : Int32} {G : Nat → Option ab_R} {d : Nat} {r : ab_R} : ∀ {cs : List (Int32 × Nat)}, ab_sw x G d cs = some r → (∃ (j : Nat) (q : Int32 × Nat), cs[j]? = some q ∧ x = q.1 ∧ G q.2 = some r) ∨ ((∀ q ∈ cs, x ≠ q.1) ∧ G d = some r)
  | [], h => Or.inr ⟨fun _ h => absurd h List.not_mem_nil, h⟩
  | q :: cs, h => by
    unfold ab_sw at h
    split at h
    · next hq => exact Or.inl ⟨0, q, rfl, hq, h⟩
    · next hq =>
      rcases sw_e h with ⟨j, q', h1, h2, h3⟩ | ⟨h1, h2⟩
      · exact Or.inl ⟨j + 1, q', h1, h2, h3⟩
      · exact Or.inr ⟨fun q' hq' => (List.mem_cons.mp hq').elim (fun e => e ▸ hq) (h1 q'), h2⟩
def tchk (pc : Nat) : List (Int32 × Nat) → List Int → Int → Bool
  | [], [], _ => true
  | q :: cs, o :: os, k => decide (q.1.toInt = k) && (decide ((pc : Int) + o = (q.2 : Int)) && tchk pc cs os (k + 1))
  | _, _, _ => false
theorem tchk_len {pc : Nat} : ∀ {cs : List (Int32 × Nat)} {os : List Int} {k : Int}, tchk pc cs os k = true → cs.length = os.length
  | [], [], _, _ => rfl
  | q :: cs, o :: os, k, h => by
    unfold tchk at h
    simp only [Bool.and_eq_true] at h
    simp [tchk_len h.2.2]
  | [], _ :: _, _, h => by cases h
  | _ :: _, [], _, h => by cases h
theorem tchk_at {pc : Nat} : ∀ {cs : List (Int32 × Nat)} {os : List Int} {k : Int}, tchk pc cs os k = true → ∀ (j : Nat) (q : Int32 × Nat), cs[j]? = some q → q.1.toInt = k + j ∧ ∃ o, os[j]? = some o ∧ (pc : Int) + o = (q.2 : Int)
  | [], [], _, _ => fun j q h => by simp at h
  | q :: cs, o :: os, k, h => by
    unfold tchk at h
    simp only [Bool.and_eq_true, decide_eq_true_eq] at h
    intro j q' hj
    match j, hj with
    | 0, hj => cases hj; exact ⟨by rw [h.1]; simp, o, rfl, h.2.1⟩
    | j + 1, hj =>
      obtain ⟨h1, o', h2, h3⟩ := tchk_at h.2.2 j q' hj
      exact ⟨by rw [h1]; push_cast; omega, o', h2, h3⟩
  | [], _ :: _, _, h => by cases h
  | _ :: _, [], _, h => by cases h
def lchk (pc : Nat) : List (Int32 × Nat) → List (Int × Int) → Bool
  | [], [] => true
  | q :: cs, o :: os => decide (q.1.toInt = o.1) && (decide ((pc : Int) + o.2 = (q.2 : Int)) && lchk pc cs os)
  | _, _ => false
theorem lchk_e {pc : Nat} {x : Int32} {G : Nat → Option ab_R} {d : Nat} {dd : Int} {r : ab_R} (hd : (pc : Int) + dd = (d : Int)) : ∀ {cs : List (Int32 × Nat)} {os : List (Int × Int)}, lchk pc cs os = true → ab_sw x G d cs = some r → ∃ t : Nat, (pc : Int) + Op.lookupswitch.offset os dd x.toInt = (t : Int) ∧ G t = some r
  | [], [], _, h => ⟨d, hd, h⟩
  | q :: cs, o :: os, hc, h => by
    unfold lchk at hc
    simp only [Bool.and_eq_true, decide_eq_true_eq] at hc
    unfold ab_sw at h
    obtain ⟨a, o⟩ := o
    rw [Op.lookupswitch.offset_cons]
    split at h
    · next hq =>
      rw [if_pos (by first | (rw [hq]; exact hc.1) | (rw [hq]; exact hc.1.symm))]
      exact ⟨q.2, hc.2.1, h⟩
    · next hq =>
      rw [if_neg (by
        intro e
        apply hq
        apply Int32.toInt_inj.mp
        rw [hc.1]
        first | exact e | exact e.symm)]
      exact lchk_e hd hc.2.2 h
  | [], _ :: _, hc, _ => by cases hc
  | _ :: _, [], hc, _ => by cases hc
end
section
/-! ONE INSTRUCTION: soundness -/
def ab_chk2 (own : String) (init : Bool) (M : ab_M) (pc : Nat) (ins : Instr) (x : Value) : Bool := match ins with
  | .ldc i => match x with
    | .int v => decide (Cond.constant own i v ∈ ab_ws)
    | _ => false
  | .ldc2_w i => match x with
    | .long v => decide (Cond.constantLong own i v ∈ ab_ws)
    | _ => false
  | .putfield i => match ab_look (mF M) i with
    | some (ci, k, _) => pok own init i ci k
    | none => true
  | .new i => match ab_look (mK M) i with
    | some ci => kok own i ci
    | none => true
  | .anewarray i => match ab_look (mK M) i with
    | some ci => akok own i ci
    | none => true
  | .tableswitch d lo hi offs => match ab_look (mS M) pc with
    | some (cs, dd) => tchk pc cs offs.toList lo && (decide (hi + 1 = lo + (offs.size : Int)) && decide ((pc : Int) + d = (dd : Int)))
    | none => true
  | .lookupswitch d ps => match ab_look (mS M) pc with
    | some (cs, dd) => lchk pc cs ps.toList && ((ps.toList.zip (ps.toList.drop 1)).all (fun (a, next) => a.1 < next.1) && decide ((pc : Int) + d = (dd : Int)))
    | none => true
  | .multianewarray i d => decide (d = 2) && decide (Cond.classLink own i "[[I" ∈ ab_ws)
  | _ => true
/-- a method's tables are right -/
def mok (l : Launch) (cc : ByteArray) (own : String) (init : Bool) (fr lo : Nat) (M : ab_M) : Prop :=
  (∀ q ∈ mC M, decode cc q.1 = .ok (q.2.1, q.2.2.1) ∧ ab_chk q.1 q.2.1 q.2.2.1 q.2.2.2.1 q.2.2.2.2 = true ∧ ab_chk2 own init M q.1 q.2.1 q.2.2.2.1 = true) ∧ (∀ q ∈ mF M, fok own q.1 q.2.1 q.2.2.1 q.2.2.2 = true) ∧ ∀ q ∈ mG M, cee l fr lo own q.1 q.2.1 q.2.2.1 q.2.2.2 ∨ objok fr lo own q.1 q.2.1 q.2.2.1 q.2.2.2 ∨ matok fr lo own q.1 q.2.1 q.2.2.1 q.2.2.2
/-- which return gives which answer -/
def rtn (cc : ByteArray) (kd pc : Nat) (v : Option Value) : Prop := (v = none ∧ kd = 0 ∧ decode cc pc = .ok (.return_, 1)) ∨ (∃ x, v = some (.int x) ∧ (kd = 1 ∨ (kd = 2 ∧ (x = 0 ∨ x = 1))) ∧ decode cc pc = .ok (.ireturn, 1)) ∨ (∃ x, v = some (.long x) ∧ kd = 3 ∧ decode cc pc = .ok (.lreturn, 1)) ∨ ∃ x, v = some (.ref x) ∧ kd = 4 ∧ decode cc pc = .ok (.areturn, 1)
section EX
variable {p : Program} {l : Launch} {e : Env} {R : Room} {s : State} {m : MethodId} {args : Array Value} {below : List Frame} {meth : Method} {c : Code} {Q : State → Prop}
variable {D : va_G} {aK : Nat → ClassId} {b N0 L : Nat} {xs : Nat → Int32} {nL : Nat} {cc : ByteArray} {own : String} {st0 : ab_S} {r : ab_R}
/-- what is said of a place: the rest ends with r, and the machine does so -/
def Snd (p : Program) (l : Launch) (e : Env) (R : Room) (s : State) (m : MethodId) (args : Array Value) (below : List Frame) (meth : Method) (c : Code) (Q : State → Prop) (D : va_G) (aK : Nat → ClassId) (b N0 L : Nat) (xs : Nat → Int32) (nL : Nat) (st0 : ab_S) (r : ab_R) (pc : Nat) (ls : ab_L) (stk : List Value) (st : ab_S) : Prop :=
  ext st r.2 ∧ (ext st0 st → Go p l e R s m args below meth c Q D aK b N0 L xs nL st0 pc ls stk st)
/-- the answer's end -/
def Rets (p : Program) (l : Launch) (e : Env) (R : Room) (s : State) (m : MethodId) (args : Array Value) (below : List Frame) (meth : Method) (c : Code) (Q : State → Prop) (D : va_G) (aK : Nat → ClassId) (b N0 L : Nat) (xs : Nat → Int32) (cc : ByteArray) (kd : Nat) (st0 : ab_S) (r : ab_R) : Prop :=
  ∀ (pc : Nat) (H : Heap) (locs : List Loc) (lsA : Array Slot), rtn cc kd pc r.1 → rp D aK b N0 L xs r.2 H → va_S (fun q => N0 ≤ q) s.heap H locs → W p l e R s m args below meth c H locs ((sH r.2).length - (sH st0).length) (nsl (sH r.2) - nsl (sH st0)) Q (F0 m pc lsA (r.1.toList.map (cv b N0)))
theorem bind_e {α : Type} {o : Option α} {f : α → Option ab_R} (h : o.bind f = some r) : ∃ x, o = some x ∧ f x = some r := Option.bind_eq_some_iff.mp h
theorem ab_ret_e {kd : Nat} {stk : List Value} {st : ab_S} {r : ab_R} (h : ab_ret kd stk st = some r) : ∃ v, stk = [.int v] ∧ r = (some (.int v), st) ∧ (kd = 1 ∨ (kd = 2 ∧ (v = 0 ∨ v = 1))) := by
  unfold ab_ret at h
  split at h
  · cases h; exact ⟨_, rfl, rfl, Or.inl rfl⟩
  · unfold ab_z at h
    split at h
    · next hz => cases h; exact ⟨_, rfl, rfl, Or.inr ⟨rfl, hz⟩⟩
    · cases h
  · cases h
theorem ab_retl_e {kd : Nat} {stk : List Value} {st : ab_S} {r : ab_R} (h : ab_retl kd stk st = some r) : ∃ v, stk = [.long v] ∧ r = (some (.long v), st) ∧ kd = 3 := by
  unfold ab_retl at h
  split at h
  · cases h; exact ⟨_, rfl, rfl, rfl⟩
  · cases h
theorem ab_retr_e {kd : Nat} {stk : List Value} {st : ab_S} {r : ab_R} (h : ab_retr kd stk st = some r) : ∃ v, stk = [.ref v] ∧ r = (some (.ref v), st) ∧ kd = 4 := by
  unfold ab_retr at h
  split at h
  · cases h; exact ⟨_, rfl, rfl, rfl⟩
  · cases h
theorem ab_retv_e {kd : Nat} {stk : List Value} {st : ab_S} {r : ab_R} (h : ab_retv kd stk st = some r) : stk = [] ∧ r = (none, st) ∧ kd = 0 := by
  unfold ab_retv at h
  split at h
  · cases h; exact ⟨rfl, rfl, rfl⟩
  · cases h
theorem wI_sH {st st' : ab_S} {a : Nat} {i v : Int32} (h : ab_wI st a i v = some st') : sH st' = sH st := by
  unfold ab_wI at h
  obtain ⟨k, -, hk⟩ := Option.map_eq_some_iff.mp h
  rw [← hk]; rfl
theorem wB_sH {st st' : ab_S} {a : Nat} {i v : Int32} (h : ab_wB st a i v = some st') : sH st' = sH st := by
  unfold ab_wB at h
  obtain ⟨k, -, hk⟩ := Option.map_eq_some_iff.mp h
  rw [← hk]; rfl
theorem wJ_sH {st st' : ab_S} {a : Nat} {i : Int32} {v : Int64} (h : ab_wJ st a i v = some st') : sH st' = sH st := by
  unfold ab_wJ at h
  obtain ⟨k, -, hk⟩ := Option.map_eq_some_iff.mp h
  rw [← hk]; rfl
theorem wR_sH {st st' : ab_S} {a v : Nat} {i : Int32} (h : ab_wR st a i v = some st') : sH st' = sH st := by
  unfold ab_wR at h
  obtain ⟨k, -, hk⟩ := Option.bind_eq_some_iff.mp h
  split at hk
  · cases hk; rfl
  · cases hk
theorem snd_call {M : ab_M} (X : Cx p s m args c cc own nL D aK b N0 L xs) (hMG : ∀ q ∈ mG M, cee l R.frames R.locals own q.1 q.2.1 q.2.2.1 q.2.2.2 ∨ objok R.frames R.locals own q.1 q.2.1 q.2.2.1 q.2.2.2 ∨ matok R.frames R.locals own q.1 q.2.1 q.2.2.1 q.2.2.2) (hR : (sH r.2).length - (sH st0).length ≤ R.cells ∧ nsl (sH r.2) - nsl (sH st0) ≤ R.slots)
    {K : ab_K} (hK : ∀ pc ls stk st, K pc ls stk st = some r → Snd p l e R s m args below meth c Q D aK b N0 L xs nL st0 r pc ls stk st) {pc : Nat} {ls : ab_L} {stk : List Value} {st : ab_S} {ins : Instr} {i kd : Nat}
    (hd : decode cc pc = .ok (ins, 3)) (h : ab_call (ab_look (mG M) i) kd stk st (fun rs r st' => K (pc + 3) ls (rs ++ r) st') = some r) (hop : (kd = 0 ∧ ins = .invokestatic i) ∨ (kd = 1 ∧ ins = .invokevirtual i) ∨ (kd = 2 ∧ ins = .invokespecial i)) : Snd p l e R s m args below meth c Q D aK b N0 L xs nL st0 r pc ls stk st := by
  unfold ab_call at h
  cases hlk : ab_look (mG M) i with
  | none => rw [hlk] at h; cases h
  | some w =>
    obtain ⟨kd', n, g⟩ := w
    rw [hlk] at h
    have hG := hMG _ (ab_look_mem hlk)
    try dsimp only at h
    split at h
    · next hk1 hk2 hk3 =>
      have hkd : kd = kd' := Nat.eq_of_beq_eq_true hk1
      subst hkd
      have hle : n ≤ stk.length := Nat.le_of_ble_eq_true hk2
      have hsum : ab_sum (stk.drop n) ≤ 8 := Nat.le_of_ble_eq_true hk3
      rcases hG with hG | ⟨hg, hk, hn, hw, hf, hlo⟩ | ⟨hk, hf, hlo, hm⟩
      · have hopd : (kd = 0 → decode cc pc = .ok (.invokestatic i, 3)) ∧ (kd = 1 → decode cc pc = .ok (.invokevirtual i, 3)) ∧ (kd = 2 → decode cc pc = .ok (.invokespecial i, 3)) := by
          rcases hop with ⟨rfl, rfl⟩ | ⟨rfl, rfl⟩ | ⟨rfl, rfl⟩
          · exact ⟨fun _ => hd, fun h => (by cases h), fun h => (by cases h)⟩
          · exact ⟨fun h => (by cases h), fun _ => hd, fun h => (by cases h)⟩
          · exact ⟨fun h => (by cases h), fun h => (by cases h), fun _ => hd⟩
        have hE : ext st r.2 := by
          obtain ⟨y, bytes, maxL, ret, fr', lo', ci, -, -, -, -, -, -, hspec⟩ := hG
          obtain ⟨-, -, rs, st', hk, -, hext, -⟩ := hspec _ _ _ _ h
          exact ext_trans hext (hK _ _ _ _ hk).1
        refine ⟨hE, fun he H locs lsA hr hS hl => ?_⟩
        obtain ⟨rs, st', hk, hext, hgo⟩ := ab_invoke (l := l) (e := e) (R := R) (below := below) (meth := meth) (Q := Q) (lsA := lsA) (H := H) (locs := locs) (cells := (sH st).length - (sH st0).length) (slots := nsl (sH st) - nsl (sH st0)) X hG hl.1 hopd hle hsum h
        obtain ⟨h1, h2⟩ := hK _ _ _ _ hk
        have e1 := ext_len h1
        have e2 := ext_ns h1
        have e3 := ext_len he
        have e4 := ext_ns he
        have e5 := ext_len hext
        have e6 := ext_ns hext
        refine hgo hr hS ⟨by omega, by omega⟩ (fun H1 locs1 hr1 hS1 => ?_)
        have := h2 (ext_trans he hext) H1 locs1 lsA hr1 hS1 hl
        rw [show (sH st').length - (sH st0).length = (sH st).length - (sH st0).length + ((sH st').length - (sH st).length) by omega, show nsl (sH st') - nsl (sH st0) = nsl (sH st) - nsl (sH st0) + (nsl (sH st') - nsl (sH st)) by omega] at this
        exact this
      · have hg : g = g_obj := hg
        have hk : kd = 2 := hk
        have hn : n = 1 := hn
        subst hg; subst hk; subst hn
        have hins : ins = .invokespecial i := by
          rcases hop with ⟨h, -⟩ | ⟨h, -⟩ | ⟨-, h⟩
          · cases h
          · cases h
          · exact h
        subst hins
        match stk, h, hsum with
        | v :: q, h0, hsum =>
          have h : g_obj [v] st (fun rs st' => K (pc + 3) ls (rs ++ q) st') = some r := h0
          clear h0
          unfold g_obj at h
          split at h
          · next o e1 =>
            cases e1
            split at h
            · cases h
            · next ho =>
              obtain ⟨h1, h2⟩ := hK _ _ _ _ h
              refine ⟨h1, fun he H locs lsA hr hS hl => ?_⟩
              obtain ⟨hx, hb, hml, hown, hts, hrk⟩ := X
              obtain ⟨a, ha⟩ : ∃ a, cv b N0 (.ref o) = .ref a := by
                match o, ho with
                | 0, ho => exact absurd rfl ho
                | 1, _ => exact ⟨b, rfl⟩
                | o + 2, _ => exact ⟨N0 + o, rfl⟩
              have hroom := lv_room (m := m) (pc := pc) (ls := lsA) (rest := (Value.ref o :: q).map (cv b N0)) (st := q.map (cv b N0)) (by rw [ab_sum_le]; exact hsum)
              refine W.objInit (a := a) (rest := q.map (cv b N0)) hx hb hown (hts _ hw) (hts _ obj_w.1) (hts _ obj_w.2) rfl (hl.1.trans hml.symm) (by show cv b N0 (.ref o) :: q.map (cv b N0) = _; rw [ha]) hd hf (by omega) ?_
              exact h2 he H locs lsA hr hS hl
          · cases h
      · have hk : kd = 0 := hk
        subst hk
        have hins : ins = .invokestatic i := by
          rcases hop with ⟨-, h⟩ | ⟨h, -⟩ | ⟨h, -⟩
          · exact h
          · cases h
          · cases h
        subst hins
        obtain ⟨hx, hb, hml, hown, hts, hrk⟩ := X
        rcases hm with ⟨hg, hn, hw⟩ | ⟨hg, hn, hw⟩ | ⟨hg, hn, hw⟩ | ⟨hg, hn, hw⟩
        · have hg : g = g_max := hg
          have hn : n = 2 := hn
          subst hg; subst hn
          match stk, h, hsum, hle with
          | v0 :: u0 :: q, h0, hsum, _ =>
            replace h : g_max [u0, v0] st (fun rs st' => K (pc + 3) ls (rs ++ q) st') = some r := h0
            clear h0
            unfold g_max at h
            split at h
            · next e1 =>
              cases e1
              obtain ⟨h1, h2⟩ := hK _ _ _ _ h
              refine ⟨h1, fun he H locs lsA hr hS hl => ?_⟩
              have e1 := ext_len h1
              have e2 := ext_ns h1
              have hs8 : ((q.map (cv b N0)).map fun v => v.category).sum ≤ 8 := by rw [ab_sum_le]; exact hsum
              exact va_mmax hx hb (hml.trans hl.1.symm) hown (hts _ hw) (hts _ mat_max.1) (hts _ mat_i) (hts _ mat_max.2) hf (by omega) (by omega) (by omega) hd (h2 he H locs lsA hr hS hl)
            · cases h
        · have hg : g = g_min := hg
          have hn : n = 2 := hn
          subst hg; subst hn
          match stk, h, hsum, hle with
          | v0 :: u0 :: q, h0, hsum, _ =>
            replace h : g_min [u0, v0] st (fun rs st' => K (pc + 3) ls (rs ++ q) st') = some r := h0
            clear h0
            unfold g_min at h
            split at h
            · next e1 =>
              cases e1
              obtain ⟨h1, h2⟩ := hK _ _ _ _ h
              refine ⟨h1, fun he H locs lsA hr hS hl => ?_⟩
              have e1 := ext_len h1
              have e2 := ext_ns h1
              have hs8 : ((q.map (cv b N0)).map fun v => v.category).sum ≤ 8 := by rw [ab_sum_le]; exact hsum
              exact va_mmin hx hb (hml.trans hl.1.symm) hown (hts _ hw) (hts _ mat_min.1) (hts _ mat_i) (hts _ mat_min.2) hf (by omega) (by omega) (by omega) hd (h2 he H locs lsA hr hS hl)
            · cases h
        · have hg : g = g_abs := hg
          have hn : n = 1 := hn
          subst hg; subst hn
          match stk, h, hsum, hle with
          | u0 :: q, h0, hsum, _ =>
            replace h : g_abs [u0] st (fun rs st' => K (pc + 3) ls (rs ++ q) st') = some r := h0
            clear h0
            unfold g_abs at h
            split at h
            · next e1 =>
              cases e1
              obtain ⟨h1, h2⟩ := hK _ _ _ _ h
              refine ⟨h1, fun he H locs lsA hr hS hl => ?_⟩
              have e1 := ext_len h1
              have e2 := ext_ns h1
              have hs8 : ((q.map (cv b N0)).map fun v => v.category).sum ≤ 8 := by rw [ab_sum_le]; exact hsum
              exact va_mabs hx hb (hml.trans hl.1.symm) hown (hts _ hw) (hts _ mat_abs.1) (hts _ mat_i) (hts _ mat_abs.2) hf (by omega) (by omega) (by omega) hd (h2 he H locs lsA hr hS hl)
            · cases h
        · have hg : g = g_minl := hg
          have hn : n = 2 := hn
          subst hg; subst hn
          match stk, h, hsum, hle with
          | v0 :: u0 :: q, h0, hsum, _ =>
            replace h : g_minl [u0, v0] st (fun rs st' => K (pc + 3) ls (rs ++ q) st') = some r := h0
            clear h0
            unfold g_minl at h
            split at h
            · next e1 =>
              cases e1
              obtain ⟨h1, h2⟩ := hK _ _ _ _ h
              refine ⟨h1, fun he H locs lsA hr hS hl => ?_⟩
              have e1 := ext_len h1
              have e2 := ext_ns h1
              have hs8 : ((q.map (cv b N0)).map fun v => v.category).sum ≤ 8 := by rw [ab_sum_le]; exact hsum
              exact va_mmin_long hx hb (hml.trans hl.1.symm) hown (hts _ hw) (hts _ mat_minl.1) (hts _ mat_i) (hts _ mat_minl.2) hf (by omega) (by omega) (by omega) hd (h2 he H locs lsA hr hS hl)
            · cases h
    · cases h
set_option maxHeartbeats 4000000 in
theorem snd_exec {M : ab_M} {init : Bool} (X : Cx p s m args c cc own nL D aK b N0 L xs) (hN : nL = mN M) (hin : init = true → meth.name = "<init>") (hM : mok l cc own init R.frames R.locals M) (hR : (sH r.2).length - (sH st0).length ≤ R.cells ∧ nsl (sH r.2) - nsl (sH st0) ≤ R.slots) (hret : Rets p l e R s m args below meth c Q D aK b N0 L xs cc (mR M) st0 r)
    {K : ab_K} (hK : ∀ pc ls stk st, K pc ls stk st = some r → Snd p l e R s m args below meth c Q D aK b N0 L xs nL st0 r pc ls stk st) {pc : Nat} {ls : ab_L} {stk : List Value} {st : ab_S} {ins : Instr} {n : Nat} {x : Value} {t : Nat}
    (hd : decode cc pc = .ok (ins, n)) (hc : ab_chk pc ins n x t = true) (hc2 : ab_chk2 own init M pc ins x = true) (h : ab_exec M K pc ls stk st ins n x t = some r) : Snd p l e R s m args below meth c Q D aK b N0 L xs nL st0 r pc ls stk st := by
  obtain ⟨hx, hb, hml, hown, hts, hrk⟩ := id X
  obtain ⟨hMC, hMF, hMG⟩ := hM
  cases ins with
  | iconst i =>
    replace hc : (n == 1 && x == .int (Int32.ofInt i)) = true := hc
    simp only [Bool.and_eq_true, beq_iff_eq] at hc
    obtain ⟨rfl, rfl⟩ := hc
    obtain ⟨h1, h2⟩ := hK _ _ _ _ h
    exact ⟨h1, fun he H locs lsA hr hS hl => lv_iconst hx hb hd rfl (h2 he H locs lsA hr hS hl)⟩
  | bipush i =>
    replace hc : (n == 2 && x == .int (Int8.ofInt i).toInt32) = true := hc
    simp only [Bool.and_eq_true, beq_iff_eq] at hc
    obtain ⟨rfl, rfl⟩ := hc
    obtain ⟨h1, h2⟩ := hK _ _ _ _ h
    exact ⟨h1, fun he H locs lsA hr hS hl => lv_bipush hx hb hd rfl (h2 he H locs lsA hr hS hl)⟩
  | sipush i =>
    replace hc : (n == 3 && x == .int (Int16.ofInt i).toInt32) = true := hc
    simp only [Bool.and_eq_true, beq_iff_eq] at hc
    obtain ⟨rfl, rfl⟩ := hc
    obtain ⟨h1, h2⟩ := hK _ _ _ _ h
    exact ⟨h1, fun he H locs lsA hr hS hl => lv_sipush hx hb hd rfl (h2 he H locs lsA hr hS hl)⟩
  | lconst i =>
    replace hc : (n == 1 && x == .long (Int64.ofNat i.val)) = true := hc
    simp only [Bool.and_eq_true, beq_iff_eq] at hc
    obtain ⟨rfl, rfl⟩ := hc
    obtain ⟨h1, h2⟩ := hK _ _ _ _ h
    exact ⟨h1, fun he H locs lsA hr hS hl => lv_lconst hx hb hd rfl (h2 he H locs lsA hr hS hl)⟩
  | ldc i =>
    replace hc : (n == 2) = true := hc
    simp only [beq_iff_eq] at hc
    subst hc
    cases x with
    | int v =>
      replace hc2 : decide (Cond.constant own i v ∈ ab_ws) = true := hc2
      obtain ⟨h1, h2⟩ := hK _ _ _ _ h
      exact ⟨h1, fun he H locs lsA hr hS hl => lv_ldc hx hb hown (hts _ (of_decide_eq_true hc2)) hd (h2 he H locs lsA hr hS hl)⟩
    | _ => cases hc2
  | ldc2_w i =>
    replace hc : (n == 3) = true := hc
    simp only [beq_iff_eq] at hc
    subst hc
    cases x with
    | long v =>
      replace hc2 : decide (Cond.constantLong own i v ∈ ab_ws) = true := hc2
      obtain ⟨h1, h2⟩ := hK _ _ _ _ h
      exact ⟨h1, fun he H locs lsA hr hS hl => lv_ldc2 hx hb hown (hts _ (of_decide_eq_true hc2)) hd (h2 he H locs lsA hr hS hl)⟩
    | _ => cases hc2
  | iload i =>
    replace hc : (n == 2 && t == i) = true := hc
    simp only [Bool.and_eq_true, beq_iff_eq] at hc
    obtain ⟨rfl, rfl⟩ := hc
    have hh := ld_i_e h
    clear h
    obtain ⟨v, hv, h⟩ := hh
    obtain ⟨h1, h2⟩ := hK _ _ _ _ h
    exact ⟨h1, fun he H locs lsA hr hS hl => lv_iload hx hb hd (lv_map hl hv) (h2 he H locs lsA hr hS hl)⟩
  | iload_n i =>
    replace hc : (n == 1 && t == i.val) = true := hc
    simp only [Bool.and_eq_true, beq_iff_eq] at hc
    obtain ⟨rfl, rfl⟩ := hc
    have hh := ld_i_e h
    clear h
    obtain ⟨v, hv, h⟩ := hh
    obtain ⟨h1, h2⟩ := hK _ _ _ _ h
    exact ⟨h1, fun he H locs lsA hr hS hl => lv_iload_n hx hb hd rfl (lv_map hl hv) (h2 he H locs lsA hr hS hl)⟩
  | lload i =>
    replace hc : (n == 2 && t == i) = true := hc
    simp only [Bool.and_eq_true, beq_iff_eq] at hc
    obtain ⟨rfl, rfl⟩ := hc
    have hh := ld_l_e h
    clear h
    obtain ⟨v, hv, h⟩ := hh
    obtain ⟨h1, h2⟩ := hK _ _ _ _ h
    exact ⟨h1, fun he H locs lsA hr hS hl => lv_lload hx hb hd (lv_map hl hv) (h2 he H locs lsA hr hS hl)⟩
  | lload_n i =>
    replace hc : (n == 1 && t == i.val) = true := hc
    simp only [Bool.and_eq_true, beq_iff_eq] at hc
    obtain ⟨rfl, rfl⟩ := hc
    have hh := ld_l_e h
    clear h
    obtain ⟨v, hv, h⟩ := hh
    obtain ⟨h1, h2⟩ := hK _ _ _ _ h
    exact ⟨h1, fun he H locs lsA hr hS hl => lv_lload_n hx hb hd rfl (lv_map hl hv) (h2 he H locs lsA hr hS hl)⟩
  | aload i =>
    replace hc : (n == 2 && t == i) = true := hc
    simp only [Bool.and_eq_true, beq_iff_eq] at hc
    obtain ⟨rfl, rfl⟩ := hc
    have hh := ld_r_e h
    clear h
    obtain ⟨v, hv, h⟩ := hh
    obtain ⟨h1, h2⟩ := hK _ _ _ _ h
    exact ⟨h1, fun he H locs lsA hr hS hl => ab_aload (r := ad b N0 v) hx hb (lv_map hl hv) (Or.inl ⟨rfl, hd⟩) (h2 he H locs lsA hr hS hl)⟩
  | aload_n i =>
    replace hc : (n == 1 && t == i.val) = true := hc
    simp only [Bool.and_eq_true, beq_iff_eq] at hc
    obtain ⟨rfl, rfl⟩ := hc
    have hh := ld_r_e h
    clear h
    obtain ⟨v, hv, h⟩ := hh
    obtain ⟨h1, h2⟩ := hK _ _ _ _ h
    exact ⟨h1, fun he H locs lsA hr hS hl => ab_aload (r := ad b N0 v) hx hb (lv_map hl hv) (Or.inr ⟨rfl, i, rfl, hd⟩) (h2 he H locs lsA hr hS hl)⟩
  | istore i =>
    replace hc : (n == 2 && t == i) = true := hc
    simp only [Bool.and_eq_true, beq_iff_eq] at hc
    obtain ⟨rfl, rfl⟩ := hc
    have hh := ab_lt_e h
    clear h
    obtain ⟨hlt, h⟩ := hh
    have hh := tk_i_e h
    clear h
    obtain ⟨v, q, rfl, h⟩ := hh
    obtain ⟨h1, h2⟩ := hK _ _ _ _ h
    exact ⟨h1, fun he H locs lsA hr hS hl => lv_istore hx hb hd hl (by omega) (st1_map (v := .int v)) (fun lsB hlB => h2 he H locs lsB hr hS hlB)⟩
  | istore_n i =>
    replace hc : (n == 1 && t == i.val) = true := hc
    simp only [Bool.and_eq_true, beq_iff_eq] at hc
    obtain ⟨rfl, rfl⟩ := hc
    have hh := ab_lt_e h
    clear h
    obtain ⟨hlt, h⟩ := hh
    have hh := tk_i_e h
    clear h
    obtain ⟨v, q, rfl, h⟩ := hh
    obtain ⟨h1, h2⟩ := hK _ _ _ _ h
    exact ⟨h1, fun he H locs lsA hr hS hl => lv_istore_n hx hb hd rfl hl (by omega) (st1_map (v := .int v)) (fun lsB hlB => h2 he H locs lsB hr hS hlB)⟩
  | lstore i =>
    replace hc : (n == 2 && t == i) = true := hc
    simp only [Bool.and_eq_true, beq_iff_eq] at hc
    obtain ⟨rfl, rfl⟩ := hc
    have hh := ab_lt_e h
    clear h
    obtain ⟨hlt, h⟩ := hh
    have hh := tk_l_e h
    clear h
    obtain ⟨v, q, rfl, h⟩ := hh
    obtain ⟨h1, h2⟩ := hK _ _ _ _ h
    exact ⟨h1, fun he H locs lsA hr hS hl => lv_lstore hx hb hd hl (by omega) (st2_map (v := .long v)) (fun lsB hlB => h2 he H locs lsB hr hS hlB)⟩
  | lstore_n i =>
    replace hc : (n == 1 && t == i.val) = true := hc
    simp only [Bool.and_eq_true, beq_iff_eq] at hc
    obtain ⟨rfl, rfl⟩ := hc
    have hh := ab_lt_e h
    clear h
    obtain ⟨hlt, h⟩ := hh
    have hh := tk_l_e h
    clear h
    obtain ⟨v, q, rfl, h⟩ := hh
    obtain ⟨h1, h2⟩ := hK _ _ _ _ h
    exact ⟨h1, fun he H locs lsA hr hS hl => lv_lstore_n hx hb hd rfl hl (by omega) (st2_map (v := .long v)) (fun lsB hlB => h2 he H locs lsB hr hS hlB)⟩
  | astore i =>
    replace hc : (n == 2 && t == i) = true := hc
    simp only [Bool.and_eq_true, beq_iff_eq] at hc
    obtain ⟨rfl, rfl⟩ := hc
    have hh := ab_lt_e h
    clear h
    obtain ⟨hlt, h⟩ := hh
    have hh := tk_r_e h
    clear h
    obtain ⟨v, q, rfl, h⟩ := hh
    obtain ⟨h1, h2⟩ := hK _ _ _ _ h
    exact ⟨h1, fun he H locs lsA hr hS hl => ab_astore (r := ad b N0 v) hx hb hl (by omega) (st1_map (v := .ref v)) (Or.inl ⟨rfl, hd⟩) (fun lsB hlB => h2 he H locs lsB hr hS hlB)⟩
  | astore_n i =>
    replace hc : (n == 1 && t == i.val) = true := hc
    simp only [Bool.and_eq_true, beq_iff_eq] at hc
    obtain ⟨rfl, rfl⟩ := hc
    have hh := ab_lt_e h
    clear h
    obtain ⟨hlt, h⟩ := hh
    have hh := tk_r_e h
    clear h
    obtain ⟨v, q, rfl, h⟩ := hh
    obtain ⟨h1, h2⟩ := hK _ _ _ _ h
    exact ⟨h1, fun he H locs lsA hr hS hl => ab_astore (r := ad b N0 v) hx hb hl (by omega) (st1_map (v := .ref v)) (Or.inr ⟨rfl, i, rfl, hd⟩) (fun lsB hlB => h2 he H locs lsB hr hS hlB)⟩
  | iinc i d =>
    replace hc : (n == 3 && (t == i && x == .int (Int32.ofInt d))) = true := hc
    simp only [Bool.and_eq_true, beq_iff_eq] at hc
    obtain ⟨rfl, rfl, rfl⟩ := hc
    have hh := ab_lt_e h
    clear h
    obtain ⟨hlt, h⟩ := hh
    have hh := ld_i_e h
    clear h
    obtain ⟨v, hv, h⟩ := hh
    obtain ⟨h1, h2⟩ := hK _ _ _ _ h
    refine ⟨h1, fun he H locs lsA hr hS hl => ?_⟩
    obtain ⟨k, hk⟩ := List.mem_iff_getElem?.mp (List.mem_map.mpr ⟨(t, .int v), ab_look_mem hv, rfl⟩ : (t, cv b N0 (.int v)) ∈ ls.map (fun q => (q.1, cv b N0 q.2)))
    exact lv_iinc (k := k) hx hb hd hl hk rfl (by omega) (st1_map (v := .int (v + Int32.ofInt d))) (fun lsB hlB => h2 he H locs lsB hr hS hlB)
  | iadd =>
    replace hc : (n == 1) = true := hc
    simp only [beq_iff_eq] at hc
    subst hc
    have hh := tk_ii_e h
    clear h
    obtain ⟨u, v, q, rfl, h⟩ := hh
    obtain ⟨h1, h2⟩ := hK _ _ _ _ h
    exact ⟨h1, fun he H locs lsA hr hS hl => lv_iadd hx hb hd (h2 he H locs lsA hr hS hl)⟩
  | isub =>
    replace hc : (n == 1) = true := hc
    simp only [beq_iff_eq] at hc
    subst hc
    have hh := tk_ii_e h
    clear h
    obtain ⟨u, v, q, rfl, h⟩ := hh
    obtain ⟨h1, h2⟩ := hK _ _ _ _ h
    exact ⟨h1, fun he H locs lsA hr hS hl => lv_isub hx hb hd (h2 he H locs lsA hr hS hl)⟩
  | imul =>
    replace hc : (n == 1) = true := hc
    simp only [beq_iff_eq] at hc
    subst hc
    have hh := tk_ii_e h
    clear h
    obtain ⟨u, v, q, rfl, h⟩ := hh
    obtain ⟨h1, h2⟩ := hK _ _ _ _ h
    exact ⟨h1, fun he H locs lsA hr hS hl => lv_imul hx hb hd (h2 he H locs lsA hr hS hl)⟩
  | iand =>
    replace hc : (n == 1) = true := hc
    simp only [beq_iff_eq] at hc
    subst hc
    have hh := tk_ii_e h
    clear h
    obtain ⟨u, v, q, rfl, h⟩ := hh
    obtain ⟨h1, h2⟩ := hK _ _ _ _ h
    exact ⟨h1, fun he H locs lsA hr hS hl => lv_iand hx hb hd (h2 he H locs lsA hr hS hl)⟩
  | ior =>
    replace hc : (n == 1) = true := hc
    simp only [beq_iff_eq] at hc
    subst hc
    have hh := tk_ii_e h
    clear h
    obtain ⟨u, v, q, rfl, h⟩ := hh
    obtain ⟨h1, h2⟩ := hK _ _ _ _ h
    exact ⟨h1, fun he H locs lsA hr hS hl => lv_ior hx hb hd (h2 he H locs lsA hr hS hl)⟩
  | ishl =>
    replace hc : (n == 1) = true := hc
    simp only [beq_iff_eq] at hc
    subst hc
    have hh := tk_ii_e h
    clear h
    obtain ⟨u, v, q, rfl, h⟩ := hh
    obtain ⟨h1, h2⟩ := hK _ _ _ _ h
    exact ⟨h1, fun he H locs lsA hr hS hl => lv_ishl hx hb hd (h2 he H locs lsA hr hS hl)⟩
  | iushr =>
    replace hc : (n == 1) = true := hc
    simp only [beq_iff_eq] at hc
    subst hc
    have hh := tk_ii_e h
    clear h
    obtain ⟨u, v, q, rfl, h⟩ := hh
    obtain ⟨h1, h2⟩ := hK _ _ _ _ h
    exact ⟨h1, fun he H locs lsA hr hS hl => lv_iushr hx hb hd rfl (h2 he H locs lsA hr hS hl)⟩
  | ineg =>
    replace hc : (n == 1) = true := hc
    simp only [beq_iff_eq] at hc
    subst hc
    have hh := tk_i_e h
    clear h
    obtain ⟨u, q, rfl, h⟩ := hh
    obtain ⟨h1, h2⟩ := hK _ _ _ _ h
    exact ⟨h1, fun he H locs lsA hr hS hl => lv_ineg hx hb hd (h2 he H locs lsA hr hS hl)⟩
  | ladd =>
    replace hc : (n == 1) = true := hc
    simp only [beq_iff_eq] at hc
    subst hc
    have hh := tk_ll_e h
    clear h
    obtain ⟨u, v, q, rfl, h⟩ := hh
    obtain ⟨h1, h2⟩ := hK _ _ _ _ h
    exact ⟨h1, fun he H locs lsA hr hS hl => lv_ladd hx hb hd (h2 he H locs lsA hr hS hl)⟩
  | lsub =>
    replace hc : (n == 1) = true := hc
    simp only [beq_iff_eq] at hc
    subst hc
    have hh := tk_ll_e h
    clear h
    obtain ⟨u, v, q, rfl, h⟩ := hh
    obtain ⟨h1, h2⟩ := hK _ _ _ _ h
    exact ⟨h1, fun he H locs lsA hr hS hl => lv_lsub hx hb hd (h2 he H locs lsA hr hS hl)⟩
  | lmul =>
    replace hc : (n == 1) = true := hc
    simp only [beq_iff_eq] at hc
    subst hc
    have hh := tk_ll_e h
    clear h
    obtain ⟨u, v, q, rfl, h⟩ := hh
    obtain ⟨h1, h2⟩ := hK _ _ _ _ h
    exact ⟨h1, fun he H locs lsA hr hS hl => lv_lmul hx hb hd (h2 he H locs lsA hr hS hl)⟩
  | land =>
    replace hc : (n == 1) = true := hc
    simp only [beq_iff_eq] at hc
    subst hc
    have hh := tk_ll_e h
    clear h
    obtain ⟨u, v, q, rfl, h⟩ := hh
    obtain ⟨h1, h2⟩ := hK _ _ _ _ h
    exact ⟨h1, fun he H locs lsA hr hS hl => lv_land hx hb hd (h2 he H locs lsA hr hS hl)⟩
  | lor =>
    replace hc : (n == 1) = true := hc
    simp only [beq_iff_eq] at hc
    subst hc
    have hh := tk_ll_e h
    clear h
    obtain ⟨u, v, q, rfl, h⟩ := hh
    obtain ⟨h1, h2⟩ := hK _ _ _ _ h
    exact ⟨h1, fun he H locs lsA hr hS hl => lv_lor hx hb hd (h2 he H locs lsA hr hS hl)⟩
  | lxor =>
    replace hc : (n == 1) = true := hc
    simp only [beq_iff_eq] at hc
    subst hc
    have hh := tk_ll_e h
    clear h
    obtain ⟨u, v, q, rfl, h⟩ := hh
    obtain ⟨h1, h2⟩ := hK _ _ _ _ h
    exact ⟨h1, fun he H locs lsA hr hS hl => lv_lxor hx hb hd (h2 he H locs lsA hr hS hl)⟩
  | lcmp =>
    replace hc : (n == 1) = true := hc
    simp only [beq_iff_eq] at hc
    subst hc
    have hh := tk_ll_e h
    clear h
    obtain ⟨u, v, q, rfl, h⟩ := hh
    obtain ⟨h1, h2⟩ := hK _ _ _ _ h
    exact ⟨h1, fun he H locs lsA hr hS hl => W.lcmp hx hb hd (h2 he H locs lsA hr hS hl)⟩
  | lshl =>
    replace hc : (n == 1) = true := hc
    simp only [beq_iff_eq] at hc
    subst hc
    have hh := tk_li_e h
    clear h
    obtain ⟨u, v, q, rfl, h⟩ := hh
    obtain ⟨h1, h2⟩ := hK _ _ _ _ h
    exact ⟨h1, fun he H locs lsA hr hS hl => lv_lshl hx hb hd rfl (h2 he H locs lsA hr hS hl)⟩
  | lshr =>
    replace hc : (n == 1) = true := hc
    simp only [beq_iff_eq] at hc
    subst hc
    have hh := tk_li_e h
    clear h
    obtain ⟨u, v, q, rfl, h⟩ := hh
    obtain ⟨h1, h2⟩ := hK _ _ _ _ h
    exact ⟨h1, fun he H locs lsA hr hS hl => lv_lshr hx hb hd rfl (h2 he H locs lsA hr hS hl)⟩
  | lushr =>
    replace hc : (n == 1) = true := hc
    simp only [beq_iff_eq] at hc
    subst hc
    have hh := tk_li_e h
    clear h
    obtain ⟨u, v, q, rfl, h⟩ := hh
    obtain ⟨h1, h2⟩ := hK _ _ _ _ h
    exact ⟨h1, fun he H locs lsA hr hS hl => lv_lushr hx hb hd rfl (h2 he H locs lsA hr hS hl)⟩
  | i2l =>
    replace hc : (n == 1) = true := hc
    simp only [beq_iff_eq] at hc
    subst hc
    have hh := tk_i_e h
    clear h
    obtain ⟨u, q, rfl, h⟩ := hh
    obtain ⟨h1, h2⟩ := hK _ _ _ _ h
    exact ⟨h1, fun he H locs lsA hr hS hl => lv_i2l hx hb hd rfl (h2 he H locs lsA hr hS hl)⟩
  | l2i =>
    replace hc : (n == 1) = true := hc
    simp only [beq_iff_eq] at hc
    subst hc
    have hh := tk_l_e h
    clear h
    obtain ⟨u, q, rfl, h⟩ := hh
    obtain ⟨h1, h2⟩ := hK _ _ _ _ h
    exact ⟨h1, fun he H locs lsA hr hS hl => lv_l2i hx hb hd rfl (h2 he H locs lsA hr hS hl)⟩
  | i2b =>
    replace hc : (n == 1) = true := hc
    simp only [beq_iff_eq] at hc
    subst hc
    have hh := tk_i_e h
    clear h
    obtain ⟨u, q, rfl, h⟩ := hh
    obtain ⟨h1, h2⟩ := hK _ _ _ _ h
    exact ⟨h1, fun he H locs lsA hr hS hl => lv_i2b hx hb hd rfl (h2 he H locs lsA hr hS hl)⟩
  | dup =>
    replace hc : (n == 1) = true := hc
    simp only [beq_iff_eq] at hc
    subst hc
    have hh := tk_r_e h
    clear h
    obtain ⟨u, q, rfl, h⟩ := hh
    obtain ⟨h1, h2⟩ := hK _ _ _ _ h
    exact ⟨h1, fun he H locs lsA hr hS hl => lv_dup hx hb hd (va_rf_cat _) (h2 he H locs lsA hr hS hl)⟩
  | dup2 =>
    replace hc : (n == 1) = true := hc
    simp only [beq_iff_eq] at hc
    subst hc
    have hh := tk_ri_e h
    clear h
    obtain ⟨u, v, q, rfl, h⟩ := hh
    obtain ⟨h1, h2⟩ := hK _ _ _ _ h
    exact ⟨h1, fun he H locs lsA hr hS hl => lv_dup2_11 hx hb hd rfl (va_rf_cat _) (h2 he H locs lsA hr hS hl)⟩
  | pop =>
    replace hc : (n == 1) = true := hc
    simp only [beq_iff_eq] at hc
    subst hc
    have hh := tk_i_e h
    clear h
    obtain ⟨u, q, rfl, h⟩ := hh
    obtain ⟨h1, h2⟩ := hK _ _ _ _ h
    exact ⟨h1, fun he H locs lsA hr hS hl => lv_pop hx hb hd rfl (h2 he H locs lsA hr hS hl)⟩
  | goto d =>
    replace hc : (n == 3 && decide ((pc : Int) + d = (t : Int))) = true := hc
    simp only [Bool.and_eq_true, beq_iff_eq, decide_eq_true_eq] at hc
    obtain ⟨rfl, ht⟩ := hc
    obtain ⟨h1, h2⟩ := hK _ _ _ _ h
    exact ⟨h1, fun he H locs lsA hr hS hl => lv_goto hx hb hd ht (h2 he H locs lsA hr hS hl)⟩
  | if_icmp cd d =>
    replace hc : (n == 3 && decide ((pc : Int) + d = (t : Int))) = true := hc
    simp only [Bool.and_eq_true, beq_iff_eq, decide_eq_true_eq] at hc
    obtain ⟨rfl, ht⟩ := hc
    cases cd with
    | eq =>
      have hh := tk_ii_e h
      clear h
      obtain ⟨u, v, q, rfl, h⟩ := hh
      have h' := h
      try dsimp only at h'
      split at h'
      · next hcd =>
        obtain ⟨h1, h2⟩ := hK _ _ _ _ h'
        exact ⟨h1, fun he H locs lsA hr hS hl => lv_icmp_eq hx hb hd ht (fun _ => h2 he H locs lsA hr hS hl) (fun q => absurd hcd q)⟩
      · next hcd =>
        obtain ⟨h1, h2⟩ := hK _ _ _ _ h'
        exact ⟨h1, fun he H locs lsA hr hS hl => lv_icmp_eq hx hb hd ht (fun q => absurd q hcd) (fun _ => h2 he H locs lsA hr hS hl)⟩
    | ne =>
      have hh := tk_ii_e h
      clear h
      obtain ⟨u, v, q, rfl, h⟩ := hh
      have h' := h
      try dsimp only at h'
      split at h'
      · next hcd =>
        obtain ⟨h1, h2⟩ := hK _ _ _ _ h'
        exact ⟨h1, fun he H locs lsA hr hS hl => lv_icmp_ne hx hb hd ht (fun q => absurd hcd q) (fun _ => h2 he H locs lsA hr hS hl)⟩
      · next hcd =>
        obtain ⟨h1, h2⟩ := hK _ _ _ _ h'
        exact ⟨h1, fun he H locs lsA hr hS hl => lv_icmp_ne hx hb hd ht (fun _ => h2 he H locs lsA hr hS hl) (fun q => absurd q hcd)⟩
    | lt =>
      have hh := tk_ii_e h
      clear h
      obtain ⟨u, v, q, rfl, h⟩ := hh
      have h' := h
      try dsimp only at h'
      split at h'
      · next hcd =>
        obtain ⟨h1, h2⟩ := hK _ _ _ _ h'
        exact ⟨h1, fun he H locs lsA hr hS hl => lv_icmp_lt hx hb hd ht (fun _ => h2 he H locs lsA hr hS hl) (fun q => absurd hcd q)⟩
      · next hcd =>
        obtain ⟨h1, h2⟩ := hK _ _ _ _ h'
        exact ⟨h1, fun he H locs lsA hr hS hl => lv_icmp_lt hx hb hd ht (fun q => absurd q hcd) (fun _ => h2 he H locs lsA hr hS hl)⟩
    | ge =>
      have hh := tk_ii_e h
      clear h
      obtain ⟨u, v, q, rfl, h⟩ := hh
      have h' := h
      try dsimp only at h'
      split at h'
      · next hcd =>
        obtain ⟨h1, h2⟩ := hK _ _ _ _ h'
        exact ⟨h1, fun he H locs lsA hr hS hl => lv_icmp_ge hx hb hd ht (fun _ => h2 he H locs lsA hr hS hl) (fun q => absurd hcd q)⟩
      · next hcd =>
        obtain ⟨h1, h2⟩ := hK _ _ _ _ h'
        exact ⟨h1, fun he H locs lsA hr hS hl => lv_icmp_ge hx hb hd ht (fun q => absurd q hcd) (fun _ => h2 he H locs lsA hr hS hl)⟩
    | gt =>
      have hh := tk_ii_e h
      clear h
      obtain ⟨u, v, q, rfl, h⟩ := hh
      have h' := h
      try dsimp only at h'
      split at h'
      · next hcd =>
        obtain ⟨h1, h2⟩ := hK _ _ _ _ h'
        exact ⟨h1, fun he H locs lsA hr hS hl => lv_icmp_gt hx hb hd ht (fun _ => h2 he H locs lsA hr hS hl) (fun q => absurd hcd q)⟩
      · next hcd =>
        obtain ⟨h1, h2⟩ := hK _ _ _ _ h'
        exact ⟨h1, fun he H locs lsA hr hS hl => lv_icmp_gt hx hb hd ht (fun q => absurd q hcd) (fun _ => h2 he H locs lsA hr hS hl)⟩
    | le =>
      have hh := tk_ii_e h
      clear h
      obtain ⟨u, v, q, rfl, h⟩ := hh
      have h' := h
      try dsimp only at h'
      split at h'
      · next hcd =>
        obtain ⟨h1, h2⟩ := hK _ _ _ _ h'
        exact ⟨h1, fun he H locs lsA hr hS hl => lv_icmp_le hx hb hd ht (fun _ => h2 he H locs lsA hr hS hl) (fun q => absurd hcd q)⟩
      · next hcd =>
        obtain ⟨h1, h2⟩ := hK _ _ _ _ h'
        exact ⟨h1, fun he H locs lsA hr hS hl => lv_icmp_le hx hb hd ht (fun q => absurd q hcd) (fun _ => h2 he H locs lsA hr hS hl)⟩
  | ifCond cd d =>
    replace hc : (n == 3 && decide ((pc : Int) + d = (t : Int))) = true := hc
    simp only [Bool.and_eq_true, beq_iff_eq, decide_eq_true_eq] at hc
    obtain ⟨rfl, ht⟩ := hc
    cases cd with
    | eq =>
      have hh := tk_i_e h
      clear h
      obtain ⟨u, q, rfl, h⟩ := hh
      have h' := h
      try dsimp only at h'
      split at h'
      · next hcd =>
        obtain ⟨h1, h2⟩ := hK _ _ _ _ h'
        exact ⟨h1, fun he H locs lsA hr hS hl => lv_if_eq hx hb hd ht (fun _ => h2 he H locs lsA hr hS hl) (fun q => absurd hcd q)⟩
      · next hcd =>
        obtain ⟨h1, h2⟩ := hK _ _ _ _ h'
        exact ⟨h1, fun he H locs lsA hr hS hl => lv_if_eq hx hb hd ht (fun q => absurd q hcd) (fun _ => h2 he H locs lsA hr hS hl)⟩
    | ne =>
      have hh := tk_i_e h
      clear h
      obtain ⟨u, q, rfl, h⟩ := hh
      have h' := h
      try dsimp only at h'
      split at h'
      · next hcd =>
        obtain ⟨h1, h2⟩ := hK _ _ _ _ h'
        exact ⟨h1, fun he H locs lsA hr hS hl => lv_if_ne hx hb hd ht (fun q => absurd hcd q) (fun _ => h2 he H locs lsA hr hS hl)⟩
      · next hcd =>
        obtain ⟨h1, h2⟩ := hK _ _ _ _ h'
        exact ⟨h1, fun he H locs lsA hr hS hl => lv_if_ne hx hb hd ht (fun _ => h2 he H locs lsA hr hS hl) (fun q => absurd q hcd)⟩
    | lt =>
      have hh := tk_i_e h
      clear h
      obtain ⟨u, q, rfl, h⟩ := hh
      have h' := h
      try dsimp only at h'
      split at h'
      · next hcd =>
        obtain ⟨h1, h2⟩ := hK _ _ _ _ h'
        exact ⟨h1, fun he H locs lsA hr hS hl => lv_if_lt hx hb hd ht (fun _ => h2 he H locs lsA hr hS hl) (fun q => absurd hcd q)⟩
      · next hcd =>
        obtain ⟨h1, h2⟩ := hK _ _ _ _ h'
        exact ⟨h1, fun he H locs lsA hr hS hl => lv_if_lt hx hb hd ht (fun q => absurd q hcd) (fun _ => h2 he H locs lsA hr hS hl)⟩
    | ge =>
      have hh := tk_i_e h
      clear h
      obtain ⟨u, q, rfl, h⟩ := hh
      have h' := h
      try dsimp only at h'
      split at h'
      · next hcd =>
        obtain ⟨h1, h2⟩ := hK _ _ _ _ h'
        exact ⟨h1, fun he H locs lsA hr hS hl => lv_if_ge hx hb hd ht (fun _ => h2 he H locs lsA hr hS hl) (fun q => absurd hcd q)⟩
      · next hcd =>
        obtain ⟨h1, h2⟩ := hK _ _ _ _ h'
        exact ⟨h1, fun he H locs lsA hr hS hl => lv_if_ge hx hb hd ht (fun q => absurd q hcd) (fun _ => h2 he H locs lsA hr hS hl)⟩
    | gt =>
      have hh := tk_i_e h
      clear h
      obtain ⟨u, q, rfl, h⟩ := hh
      have h' := h
      try dsimp only at h'
      split at h'
      · next hcd =>
        obtain ⟨h1, h2⟩ := hK _ _ _ _ h'
        exact ⟨h1, fun he H locs lsA hr hS hl => lv_if_gt hx hb hd ht (fun _ => h2 he H locs lsA hr hS hl) (fun q => absurd hcd q)⟩
      · next hcd =>
        obtain ⟨h1, h2⟩ := hK _ _ _ _ h'
        exact ⟨h1, fun he H locs lsA hr hS hl => lv_if_gt hx hb hd ht (fun q => absurd q hcd) (fun _ => h2 he H locs lsA hr hS hl)⟩
    | le =>
      have hh := tk_i_e h
      clear h
      obtain ⟨u, q, rfl, h⟩ := hh
      have h' := h
      try dsimp only at h'
      split at h'
      · next hcd =>
        obtain ⟨h1, h2⟩ := hK _ _ _ _ h'
        exact ⟨h1, fun he H locs lsA hr hS hl => lv_if_le hx hb hd ht (fun _ => h2 he H locs lsA hr hS hl) (fun q => absurd hcd q)⟩
      · next hcd =>
        obtain ⟨h1, h2⟩ := hK _ _ _ _ h'
        exact ⟨h1, fun he H locs lsA hr hS hl => lv_if_le hx hb hd ht (fun q => absurd q hcd) (fun _ => h2 he H locs lsA hr hS hl)⟩
  | ifnull d =>
    replace hc : (n == 3 && decide ((pc : Int) + d = (t : Int))) = true := hc
    simp only [Bool.and_eq_true, beq_iff_eq, decide_eq_true_eq] at hc
    obtain ⟨rfl, ht⟩ := hc
    have hh := tk_r_e h
    clear h
    obtain ⟨u, q, rfl, h⟩ := hh
    have h' := h
    try dsimp only at h'
    split at h'
    · next hcd =>
      subst hcd
      obtain ⟨h1, h2⟩ := hK _ _ _ _ h'
      exact ⟨h1, fun he H locs lsA hr hS hl => lv_ifnullN hx hb hd ht (h2 he H locs lsA hr hS hl)⟩
    · next hcd =>
      obtain ⟨h1, h2⟩ := hK _ _ _ _ h'
      refine ⟨h1, fun he H locs lsA hr hS hl => ?_⟩
      match u, hcd with
      | 0, hcd => exact absurd rfl hcd
      | 1, _ => exact lv_ifnull hx hb hd (h2 he H locs lsA hr hS hl)
      | u + 2, _ => exact lv_ifnull hx hb hd (h2 he H locs lsA hr hS hl)
  | tableswitch dd lo hi offs =>
    replace h : (match ab_look (mS M) pc with
      | some (cs, d) => tk_i stk (fun a r => ab_sw a (fun t => K t ls r st) d cs)
      | none => none) = some r := h
    replace hc2 : (match ab_look (mS M) pc with
      | some (cs, d) => tchk pc cs offs.toList lo && (decide (hi + 1 = lo + (offs.size : Int)) && decide ((pc : Int) + dd = (d : Int)))
      | none => true) = true := hc2
    cases hlk : ab_look (mS M) pc with
    | none => rw [hlk] at h; cases h
    | some w =>
      obtain ⟨cs, d⟩ := w
      rw [hlk] at h hc2
      simp only [Bool.and_eq_true, decide_eq_true_eq] at hc2
      obtain ⟨ht, hhi, hdd⟩ := hc2
      have hh := tk_i_e h
      clear h
      obtain ⟨v, q, rfl, h⟩ := hh
      have hlen := tchk_len ht
      rcases sw_e h with ⟨j, w, hj, hv, h⟩ | ⟨hne, h⟩
      · obtain ⟨h1, h2⟩ := hK _ _ _ _ h
        obtain ⟨g1, o, g2, g3⟩ := tchk_at ht j w hj
        have hjl : j < cs.length := (List.getElem?_eq_some_iff.mp hj).1
        have hsz : (offs.toList.length : Int) = offs.size := by simp
        rw [← hv] at g1
        refine ⟨h1, fun he H locs lsA hr hS hl => lv_tableIn hx hb hd (by omega) (by omega) (off := o) ?_ g3 (h2 he H locs lsA hr hS hl)⟩
        rw [show (v.toInt - lo).toNat = j by omega, ← Array.getElem?_toList]
        exact g2
      · obtain ⟨h1, h2⟩ := hK _ _ _ _ h
        have hsz : (offs.toList.length : Int) = offs.size := by simp
        refine ⟨h1, fun he H locs lsA hr hS hl => lv_tableOut hx hb hd ?_ hdd (h2 he H locs lsA hr hS hl)⟩
        apply Classical.byContradiction
        intro hno
        have e1 : lo ≤ v.toInt ∧ v.toInt ≤ hi := by omega
        have e2 : (v.toInt - lo).toNat < cs.length := by omega
        obtain ⟨g1, -⟩ := tchk_at ht _ _ (List.getElem?_eq_getElem e2)
        exact hne _ (List.getElem_mem e2) (Int32.toInt_inj.mp (by omega))
  | lookupswitch dd ps =>
    replace h : (match ab_look (mS M) pc with
      | some (cs, d) => tk_i stk (fun a r => ab_sw a (fun t => K t ls r st) d cs)
      | none => none) = some r := h
    replace hc2 : (match ab_look (mS M) pc with
      | some (cs, d) => lchk pc cs ps.toList && ((ps.toList.zip (ps.toList.drop 1)).all (fun (a, next) => a.1 < next.1) && decide ((pc : Int) + dd = (d : Int)))
      | none => true) = true := hc2
    cases hlk : ab_look (mS M) pc with
    | none => rw [hlk] at h; cases h
    | some w =>
      obtain ⟨cs, d⟩ := w
      rw [hlk] at h hc2
      have hc2 := Bool.and_eq_true_iff.mp hc2
      have hc3 := Bool.and_eq_true_iff.mp hc2.2
      have hh := tk_i_e h
      clear h
      obtain ⟨v, q, rfl, h⟩ := hh
      obtain ⟨t', g1, g2⟩ := lchk_e (of_decide_eq_true hc3.2) hc2.1 h
      obtain ⟨h1, h2⟩ := hK _ _ _ _ g2
      exact ⟨h1, fun he H locs lsA hr hS hl => lv_lookup hx hb hd hc3.1 rfl g1 (h2 he H locs lsA hr hS hl)⟩
  | getfield i =>
    replace hc : (n == 3) = true := hc
    simp only [beq_iff_eq] at hc
    subst hc
    have hh := tk_r_e h
    clear h
    obtain ⟨u, q, rfl, h⟩ := hh
    try dsimp only at h
    cases hlk : ab_look (mF M) i with
    | none => rw [hlk] at h; cases h
    | some w =>
      obtain ⟨ci, k, kd⟩ := w
      rw [hlk] at h
      have hf := hMF _ (ab_look_mem hlk)
      unfold ab_getf at h
      split at h
      · next e1 =>
        cases e1
        have hh := bind_e h
        clear h
        obtain ⟨v, hv, h⟩ := hh
        unfold ab_gJ at hv
        split at hv
        · next hsh =>
          cases hv
          obtain ⟨h1, h2⟩ := hK _ _ _ _ h
          exact ⟨h1, fun he H locs lsA hr hS hl => ab_get X hf hr hsh hd (h2 he H locs lsA hr hS hl)⟩
        · cases hv
      · next e1 =>
        cases e1
        have hh := bind_e h
        clear h
        obtain ⟨v, hv, h⟩ := hh
        unfold ab_gR at hv
        split at hv
        · next hsh =>
          cases hv
          obtain ⟨h1, h2⟩ := hK _ _ _ _ h
          exact ⟨h1, fun he H locs lsA hr hS hl => ab_get X hf hr hsh hd (h2 he H locs lsA hr hS hl)⟩
        · cases hv
      · next c' p' kd' hn2 hn3 e1 =>
        cases e1
        have hh := bind_e h
        clear h
        obtain ⟨v, hv, h⟩ := hh
        unfold ab_gI at hv
        split at hv
        · next hsh =>
          cases hv
          obtain ⟨h1, h2⟩ := hK _ _ _ _ h
          refine ⟨h1, fun he H locs lsA hr hS hl => ab_get X hf hr hsh hd ?_⟩
          have e2 : fv b N0 st u k kd = .int (sI st u k) := by
            unfold fv
            split
            · exact (hn2 rfl).elim
            · exact (hn3 rfl).elim
            · rfl
          rw [e2]
          exact h2 he H locs lsA hr hS hl
        · cases hv
      · next e1 => cases e1
  | putfield i =>
    replace hc : (n == 3) = true := hc
    simp only [beq_iff_eq] at hc
    subst hc
    cases hlk : ab_look (mF M) i with
    | none =>
      replace h : ab_putf (ab_look (mF M) i) stk st (fun r st' => K (pc + 3) ls r st') = some r := h
      rw [hlk] at h; cases h
    | some w =>
      obtain ⟨ci, k, kd⟩ := w
      replace h : ab_putf (ab_look (mF M) i) stk st (fun r st' => K (pc + 3) ls r st') = some r := h
      replace hc2 : (match ab_look (mF M) i with
        | some (ci, k, _) => pok own init i ci k
        | none => true) = true := hc2
      rw [hlk] at h hc2
      have hf := hMF _ (ab_look_mem hlk)
      obtain ⟨q0, hq0, hk0, hkd0, -⟩ := fok_e hf
      have hkd := (cl_ok hq0).2.2.2.2 k hk0
      unfold kdok at hkd
      rw [hkd0] at hkd
      unfold ab_putf at h
      split at h
      · next e1 =>
        cases e1
        have hh := tk_ri_e h
        clear h
        obtain ⟨o, v, q, rfl, h⟩ := hh
        have hh := bind_e h
        clear h
        obtain ⟨st', hv, h⟩ := hh
        unfold ab_pI at hv
        split at hv
        · next hsh =>
          cases hv
          obtain ⟨h1, h2⟩ := hK _ _ _ _ h
          have hty : ab_ty ci k = .int := by cases hT : ab_ty ci k <;> first | rfl | (rw [hT] at hkd; cases hkd)
          refine ⟨h1, fun he H locs lsA hr hS hl => ?_⟩
          have e2 : fv b N0 (uI st o k v) o k 0 = .int v := by simp [fv, sI, uI]
          have := ab_put (lsA := lsA) (rest := q.map (cv b N0)) X hin hf hc2 hr hS hsh (st' := uI st o k v) rfl uI_oth (fun j t' hj => by unfold fv; simp [sI, sJ, sR, uI, hj]) (by rw [e2, hty]; rfl) (by rw [e2, hty]; rfl) hd (fun H1 locs1 hr1 hS1 => h2 he H1 locs1 lsA hr1 hS1 hl)
          rw [e2] at this
          exact this
        · cases hv
      · next e1 =>
        cases e1
        have hh := tk_ri_e h
        clear h
        obtain ⟨o, v, q, rfl, h⟩ := hh
        have hh := bind_e h
        clear h
        obtain ⟨st', hv, h⟩ := hh
        unfold ab_pZ at hv
        split at hv
        · next hsh =>
          cases hv
          obtain ⟨hsh, hz⟩ := hsh
          obtain ⟨h1, h2⟩ := hK _ _ _ _ h
          have hty : ab_ty ci k = .boolean := by cases hT : ab_ty ci k <;> first | rfl | (rw [hT] at hkd; cases hkd)
          refine ⟨h1, fun he H locs lsA hr hS hl => ?_⟩
          have e2 : fv b N0 (uI st o k v) o k 1 = .int v := by simp [fv, sI, uI]
          have := ab_put (lsA := lsA) (rest := q.map (cv b N0)) X hin hf hc2 hr hS hsh (st' := uI st o k v) rfl uI_oth (fun j t' hj => by unfold fv; simp [sI, sJ, sR, uI, hj]) (by rw [e2, hty]; rcases hz with rfl | rfl <;> decide) (by rw [e2, hty]; rcases hz with rfl | rfl <;> decide) hd (fun H1 locs1 hr1 hS1 => h2 he H1 locs1 lsA hr1 hS1 hl)
          rw [e2] at this
          exact this
        · cases hv
      · next e1 =>
        cases e1
        have hh := tk_rl_e h
        clear h
        obtain ⟨o, v, q, rfl, h⟩ := hh
        have hh := bind_e h
        clear h
        obtain ⟨st', hv, h⟩ := hh
        unfold ab_pJ at hv
        split at hv
        · next hsh =>
          cases hv
          obtain ⟨h1, h2⟩ := hK _ _ _ _ h
          have hty : ab_ty ci k = .long := by cases hT : ab_ty ci k <;> first | rfl | (rw [hT] at hkd; cases hkd)
          refine ⟨h1, fun he H locs lsA hr hS hl => ?_⟩
          have e2 : fv b N0 (uJ st o k v) o k 2 = .long v := by simp [fv, sJ, uJ]
          have := ab_put (lsA := lsA) (rest := q.map (cv b N0)) X hin hf hc2 hr hS hsh (st' := uJ st o k v) rfl uJ_oth (fun j t' hj => by unfold fv; simp [sI, sJ, sR, uJ, hj]) (by rw [e2, hty]; rfl) (by rw [e2, hty]; rfl) hd (fun H1 locs1 hr1 hS1 => h2 he H1 locs1 lsA hr1 hS1 hl)
          rw [e2] at this
          exact this
        · cases hv
      · next e1 =>
        cases e1
        have hh := tk_rr_e h
        clear h
        obtain ⟨o, v, q, rfl, h⟩ := hh
        have hh := bind_e h
        clear h
        obtain ⟨st', hv, h⟩ := hh
        unfold ab_pR at hv
        split at hv
        · next hsh =>
          cases hv
          obtain ⟨h1, h2⟩ := hK _ _ _ _ h
          refine ⟨h1, fun he H locs lsA hr hS hl => ?_⟩
          have e2 : fv b N0 (uR st o k v) o k 3 = cv b N0 (.ref v) := by simp [fv, sR, uR, cv]
          have hrv : ∀ ro : Option Nat, narrow (ab_ty ci k) (va_rf ro) = va_rf ro ∧ fits (ab_ty ci k) (va_rf ro) = true := by
            intro ro
            cases hT : ab_ty ci k <;> first | (rw [hT] at hkd; cases hkd; done) | (cases ro <;> exact ⟨rfl, rfl⟩)
          have := ab_put (lsA := lsA) (rest := q.map (cv b N0)) X hin hf hc2 hr hS hsh (st' := uR st o k v) rfl uR_oth (fun j t' hj => by unfold fv; simp [sI, sJ, sR, uR, hj]) (by rw [e2]; exact (hrv _).1) (by rw [e2]; exact (hrv _).2) hd (fun H1 locs1 hr1 hS1 => h2 he H1 locs1 lsA hr1 hS1 hl)
          rw [e2] at this
          exact this
        · cases hv
      · cases h
  | iaload =>
    replace hc : (n == 1) = true := hc
    simp only [beq_iff_eq] at hc
    subst hc
    have hh := tk_ri_e h
    clear h
    obtain ⟨a, i, q, rfl, h⟩ := hh
    have hh := bind_e h
    clear h
    obtain ⟨v, hv, h⟩ := hh
    obtain ⟨h1, h2⟩ := hK _ _ _ _ h
    exact ⟨h1, fun he H locs lsA hr hS hl => ab_iald X hr hS hv hd (h2 he H locs lsA hr hS hl)⟩
  | baload =>
    replace hc : (n == 1) = true := hc
    simp only [beq_iff_eq] at hc
    subst hc
    have hh := tk_ri_e h
    clear h
    obtain ⟨a, i, q, rfl, h⟩ := hh
    have hh := bind_e h
    clear h
    obtain ⟨v, hv, h⟩ := hh
    obtain ⟨h1, h2⟩ := hK _ _ _ _ h
    exact ⟨h1, fun he H locs lsA hr hS hl => ab_bald X hr hv hd (h2 he H locs lsA hr hS hl)⟩
  | laload =>
    replace hc : (n == 1) = true := hc
    simp only [beq_iff_eq] at hc
    subst hc
    have hh := tk_ri_e h
    clear h
    obtain ⟨a, i, q, rfl, h⟩ := hh
    have hh := bind_e h
    clear h
    obtain ⟨v, hv, h⟩ := hh
    obtain ⟨h1, h2⟩ := hK _ _ _ _ h
    exact ⟨h1, fun he H locs lsA hr hS hl => ab_lald X hr hv hd (h2 he H locs lsA hr hS hl)⟩
  | aaload =>
    replace hc : (n == 1) = true := hc
    simp only [beq_iff_eq] at hc
    subst hc
    have hh := tk_ri_e h
    clear h
    obtain ⟨a, i, q, rfl, h⟩ := hh
    have hh := bind_e h
    clear h
    obtain ⟨v, hv, h⟩ := hh
    obtain ⟨h1, h2⟩ := hK _ _ _ _ h
    exact ⟨h1, fun he H locs lsA hr hS hl => ab_aald X hr hv hd (h2 he H locs lsA hr hS hl)⟩
  | iastore =>
    replace hc : (n == 1) = true := hc
    simp only [beq_iff_eq] at hc
    subst hc
    have hh := tk_rii_e h
    clear h
    obtain ⟨a, i, v, q, rfl, h⟩ := hh
    have hh := bind_e h
    clear h
    obtain ⟨st', hv, h⟩ := hh
    obtain ⟨h1, h2⟩ := hK _ _ _ _ h
    have hsame : sH st' = sH st := wI_sH hv
    exact ⟨ext_trans (ext_eq hsame) h1, fun he H locs lsA hr hS hl => ab_iast X hr hS hv hd (fun H1 locs1 hr1 hS1 => by
      have := h2 (ext_trans he (ext_eq hsame)) H1 locs1 lsA hr1 hS1 hl
      rw [hsame] at this
      exact this)⟩
  | bastore =>
    replace hc : (n == 1) = true := hc
    simp only [beq_iff_eq] at hc
    subst hc
    have hh := tk_rii_e h
    clear h
    obtain ⟨a, i, v, q, rfl, h⟩ := hh
    have hh := bind_e h
    clear h
    obtain ⟨st', hv, h⟩ := hh
    obtain ⟨h1, h2⟩ := hK _ _ _ _ h
    have hsame : sH st' = sH st := wB_sH hv
    exact ⟨ext_trans (ext_eq hsame) h1, fun he H locs lsA hr hS hl => ab_bast X hr hS hv hd (fun H1 locs1 hr1 hS1 => by
      have := h2 (ext_trans he (ext_eq hsame)) H1 locs1 lsA hr1 hS1 hl
      rw [hsame] at this
      exact this)⟩
  | lastore =>
    replace hc : (n == 1) = true := hc
    simp only [beq_iff_eq] at hc
    subst hc
    have hh := tk_ril_e h
    clear h
    obtain ⟨a, i, v, q, rfl, h⟩ := hh
    have hh := bind_e h
    clear h
    obtain ⟨st', hv, h⟩ := hh
    obtain ⟨h1, h2⟩ := hK _ _ _ _ h
    have hsame : sH st' = sH st := wJ_sH hv
    exact ⟨ext_trans (ext_eq hsame) h1, fun he H locs lsA hr hS hl => ab_last X hr hS hv hd (fun H1 locs1 hr1 hS1 => by
      have := h2 (ext_trans he (ext_eq hsame)) H1 locs1 lsA hr1 hS1 hl
      rw [hsame] at this
      exact this)⟩
  | aastore =>
    replace hc : (n == 1) = true := hc
    simp only [beq_iff_eq] at hc
    subst hc
    have hh := tk_rir_e h
    clear h
    obtain ⟨a, i, v, q, rfl, h⟩ := hh
    have hh := bind_e h
    clear h
    obtain ⟨st', hv, h⟩ := hh
    obtain ⟨h1, h2⟩ := hK _ _ _ _ h
    have hsame : sH st' = sH st := wR_sH hv
    exact ⟨ext_trans (ext_eq hsame) h1, fun he H locs lsA hr hS hl => ab_aast X hr hS hv hd (fun H1 locs1 hr1 hS1 => by
      have := h2 (ext_trans he (ext_eq hsame)) H1 locs1 lsA hr1 hS1 hl
      rw [hsame] at this
      exact this)⟩
  | arraylength =>
    replace hc : (n == 1) = true := hc
    simp only [beq_iff_eq] at hc
    subst hc
    have hh := tk_r_e h
    clear h
    obtain ⟨a, q, rfl, h⟩ := hh
    have hh := bind_e h
    clear h
    obtain ⟨v, hv, h⟩ := hh
    obtain ⟨h1, h2⟩ := hK _ _ _ _ h
    exact ⟨h1, fun he H locs lsA hr hS hl => ab_alen X hr hS hv hd (h2 he H locs lsA hr hS hl)⟩
  | new i =>
    replace hc : (n == 3) = true := hc
    simp only [beq_iff_eq] at hc
    subst hc
    replace h : (match ab_look (mK M) i with
      | some c => ab_newo st c (fun o st' => K (pc + 3) ls (.ref o :: stk) st')
      | none => none) = some r := h
    replace hc2 : (match ab_look (mK M) i with
      | some ci => kok own i ci
      | none => true) = true := hc2
    cases hlk : ab_look (mK M) i with
    | none => rw [hlk] at h; cases h
    | some ci =>
      rw [hlk] at h hc2
      have hh := bind_e h
      clear h
      obtain ⟨st', hv, h⟩ := hh
      unfold ab_mo at hv
      split at hv
      · cases hv
      · cases hv
        obtain ⟨h1, h2⟩ := hK _ _ _ _ h
        have e1 := ext_len h1
        have e2 := ext_ns h1
        rw [len_mk] at e1
        rw [nsl_mk] at e2
        refine ⟨ext_trans ext_mk h1, fun he H locs lsA hr hS hl => ?_⟩
        have e3 := ext_len he
        have e4 := ext_ns he
        refine ab_new X hc2 hr hS (by omega) (by omega) hd (fun H1 hr1 hS1 => ?_)
        have := h2 (ext_trans he ext_mk) H1 locs lsA hr1 hS1 hl
        rw [len_mk, nsl_mk, show (sH st).length + 1 - (sH st0).length = (sH st).length - (sH st0).length + 1 by omega, show nsl (sH st) + ns1 (0, ci) - nsl (sH st0) = nsl (sH st) - nsl (sH st0) + ns1 (0, ci) by omega] at this
        exact this
  | newarray a =>
    replace hc : (n == 2 && decide (a = .int ∨ a = .long ∨ a = .byte ∨ a = .boolean)) = true := hc
    simp only [Bool.and_eq_true, beq_iff_eq, decide_eq_true_eq] at hc
    obtain ⟨rfl, ha⟩ := hc
    have hh := tk_i_e h
    clear h
    obtain ⟨v, q, rfl, h⟩ := hh
    try dsimp only at h
    unfold ab_newn at h
    split at h
    · cases h
    · next hn =>
      have hh := bind_e h
      clear h
      obtain ⟨st', hv, h⟩ := hh
      unfold ab_mo at hv
      split at hv
      · cases hv
      · cases hv
        obtain ⟨h1, h2⟩ := hK _ _ _ _ h
        have e1 := ext_len h1
        have e2 := ext_ns h1
        rw [len_mk] at e1
        rw [nsl_mk] at e2
        have e5 : ns1 (ab_atk a, v.toNatClampNeg) = v.toNatClampNeg := by rcases ha with rfl | rfl | rfl | rfl <;> rfl
        rw [e5] at e2
        refine ⟨ext_trans ext_mk h1, fun he H locs lsA hr hS hl => ?_⟩
        have e3 := ext_len he
        have e4 := ext_ns he
        refine ab_newarr X ha hr hS hn (by omega) (by omega) hd (fun H1 hr1 hS1 => ?_)
        have := h2 (ext_trans he ext_mk) H1 locs lsA hr1 hS1 hl
        rw [len_mk, nsl_mk, e5, show (sH st).length + 1 - (sH st0).length = (sH st).length - (sH st0).length + 1 by omega, show nsl (sH st) + v.toNatClampNeg - nsl (sH st0) = nsl (sH st) - nsl (sH st0) + v.toNatClampNeg by omega] at this
        exact this
  | anewarray i =>
    replace hc : (n == 3) = true := hc
    simp only [beq_iff_eq] at hc
    subst hc
    replace h : (match ab_look (mK M) i with
      | some c => tk_i stk (fun v r => ab_newn st v (8 + c) (fun o st' => K (pc + 3) ls (.ref o :: r) st'))
      | none => none) = some r := h
    replace hc2 : (match ab_look (mK M) i with
      | some ci => akok own i ci
      | none => true) = true := hc2
    cases hlk : ab_look (mK M) i with
    | none => rw [hlk] at h; cases h
    | some ci =>
      rw [hlk] at h hc2
      have hh := tk_i_e h
      clear h
      obtain ⟨v, q, rfl, h⟩ := hh
      try dsimp only at h
      unfold ab_newn at h
      split at h
      · cases h
      · next hn =>
        have hh := bind_e h
        clear h
        obtain ⟨st', hv, h⟩ := hh
        unfold ab_mo at hv
        split at hv
        · cases hv
        · cases hv
          obtain ⟨h1, h2⟩ := hK _ _ _ _ h
          have e1 := ext_len h1
          have e2 := ext_ns h1
          rw [len_mk] at e1
          rw [nsl_mk] at e2
          have e5 : ns1 (8 + ci, v.toNatClampNeg) = v.toNatClampNeg := by
            unfold ns1
            rw [if_neg (by show ¬ 8 + ci = 0; omega)]
          rw [e5] at e2
          refine ⟨ext_trans ext_mk h1, fun he H locs lsA hr hS hl => ?_⟩
          have e3 := ext_len he
          have e4 := ext_ns he
          refine ab_anew X hc2 hr hS hn (by omega) (by omega) hd (fun H1 hr1 hS1 => ?_)
          have := h2 (ext_trans he ext_mk) H1 locs lsA hr1 hS1 hl
          rw [len_mk, nsl_mk, e5, show (sH st).length + 1 - (sH st0).length = (sH st).length - (sH st0).length + 1 by omega, show nsl (sH st) + v.toNatClampNeg - nsl (sH st0) = nsl (sH st) - nsl (sH st0) + v.toNatClampNeg by omega] at this
          exact this
  | multianewarray i d =>
    replace hc : (n == 4) = true := hc
    simp only [beq_iff_eq] at hc
    subst hc
    replace hc2 : (decide (d = 2) && decide (Cond.classLink own i "[[I" ∈ ab_ws)) = true := hc2
    simp only [Bool.and_eq_true, decide_eq_true_eq] at hc2
    obtain ⟨rfl, hw⟩ := hc2
    replace h : tk_ii stk (fun a b r => ab_newm st a b (fun o st' => K (pc + 4) ls (.ref o :: r) st')) = some r := h
    have hh := tk_ii_e h
    clear h
    obtain ⟨v, w, q, rfl, h⟩ := hh
    try dsimp only at h
    unfold ab_newm at h
    have hh := bind_e h
    clear h
    obtain ⟨st', hv, h⟩ := hh
    unfold ab_mm at hv
    split at hv
    · cases hv
    · next hn =>
      cases hv
      obtain ⟨h1, h2⟩ := hK _ _ _ _ h
      have e1 := ext_len h1
      have e2 := ext_ns h1
      have hex : ext st (ab_rows (ab_mk st (5, v.toNatClampNeg)) (sH st).length w.toNatClampNeg v.toNatClampNeg) := ext_trans ext_mk (rows_ex _ _ _ _)
      have e5 : ns1 (5, v.toNatClampNeg) = v.toNatClampNeg := rfl
      have el : (sH (ab_rows (ab_mk st (5, v.toNatClampNeg)) (sH st).length w.toNatClampNeg v.toNatClampNeg)).length = (sH st).length + 1 + v.toNatClampNeg := by rw [rows_len, len_mk]
      have en : nsl (sH (ab_rows (ab_mk st (5, v.toNatClampNeg)) (sH st).length w.toNatClampNeg v.toNatClampNeg)) = nsl (sH st) + v.toNatClampNeg + v.toNatClampNeg * w.toNatClampNeg := by rw [rows_nsl, nsl_mk, e5]
      rw [el] at e1
      rw [en] at e2
      refine ⟨ext_trans hex h1, fun he H locs lsA hr hS hl => ?_⟩
      have e3 := ext_len he
      have e4 := ext_ns he
      refine ab_multi X hw hr hS (fun q => hn (Or.inr (Or.inl q))) (fun q => hn (Or.inr (Or.inr (Or.inl q)))) (Nat.not_lt.mp fun q => hn (Or.inr (Or.inr (Or.inr (Or.inl q))))) (Nat.not_lt.mp fun q => hn (Or.inr (Or.inr (Or.inr (Or.inr q))))) (by omega) (by omega) hd (fun H1 hr1 hS1 => ?_)
      have := h2 (ext_trans he hex) H1 locs lsA hr1 hS1 hl
      rw [el, en, show (sH st).length + 1 + v.toNatClampNeg - (sH st0).length = (sH st).length - (sH st0).length + 1 + v.toNatClampNeg by omega, show nsl (sH st) + v.toNatClampNeg + v.toNatClampNeg * w.toNatClampNeg - nsl (sH st0) = nsl (sH st) - nsl (sH st0) + v.toNatClampNeg + v.toNatClampNeg * w.toNatClampNeg by omega] at this
      exact this
  | invokestatic i =>
    replace hc : (n == 3) = true := hc
    simp only [beq_iff_eq] at hc
    subst hc
    exact snd_call X hMG hR hK hd h (Or.inl ⟨rfl, rfl⟩)
  | invokevirtual i =>
    replace hc : (n == 3) = true := hc
    simp only [beq_iff_eq] at hc
    subst hc
    exact snd_call X hMG hR hK hd h (Or.inr (Or.inl ⟨rfl, rfl⟩))
  | invokespecial i =>
    replace hc : (n == 3) = true := hc
    simp only [beq_iff_eq] at hc
    subst hc
    exact snd_call X hMG hR hK hd h (Or.inr (Or.inr ⟨rfl, rfl⟩))
  | ireturn =>
    replace hc : (n == 1) = true := hc
    simp only [beq_iff_eq] at hc
    subst hc
    replace h : ab_ret (mR M) stk st = some r := h
    have hh := ab_ret_e h
    clear h
    obtain ⟨v, rfl, rfl, hk⟩ := hh
    exact ⟨ext_rfl, fun he H locs lsA hr hS hl => hret pc H locs lsA (Or.inr (Or.inl ⟨_, rfl, hk, hd⟩)) hr hS⟩
  | lreturn =>
    replace hc : (n == 1) = true := hc
    simp only [beq_iff_eq] at hc
    subst hc
    replace h : ab_retl (mR M) stk st = some r := h
    have hh := ab_retl_e h
    clear h
    obtain ⟨v, rfl, rfl, hk⟩ := hh
    exact ⟨ext_rfl, fun he H locs lsA hr hS hl => hret pc H locs lsA (Or.inr (Or.inr (Or.inl ⟨_, rfl, hk, hd⟩))) hr hS⟩
  | areturn =>
    replace hc : (n == 1) = true := hc
    simp only [beq_iff_eq] at hc
    subst hc
    replace h : ab_retr (mR M) stk st = some r := h
    have hh := ab_retr_e h
    clear h
    obtain ⟨v, rfl, rfl, hk⟩ := hh
    exact ⟨ext_rfl, fun he H locs lsA hr hS hl => hret pc H locs lsA (Or.inr (Or.inr (Or.inr ⟨_, rfl, hk, hd⟩))) hr hS⟩
  | return_ =>
    replace hc : (n == 1) = true := hc
    simp only [beq_iff_eq] at hc
    subst hc
    replace h : ab_retv (mR M) stk st = some r := h
    have hh := ab_retv_e h
    clear h
    obtain ⟨rfl, rfl, hk⟩ := hh
    exact ⟨ext_rfl, fun he H locs lsA hr hS hl => hret pc H locs lsA (Or.inl ⟨rfl, hk, hd⟩) hr hS⟩
  | _ => cases h
end EX
end
section
/-! SOUNDNESS: walks, labels, the limit, a method's contract -/
section SD
variable {p : Program} {l : Launch} {e : Env} {R : Room} {s : State} {m : MethodId} {args : Array Value} {below : List Frame} {meth : Method} {c : Code} {Q : State → Prop}
variable {D : va_G} {aK : Nat → ClassId} {b N0 L : Nat} {xs : Nat → Int32} {nL : Nat} {cc : ByteArray} {own : String} {st0 : ab_S} {r : ab_R}
theorem go_sub {pc : Nat} {ls ls' : ab_L} {stk : List Value} {st : ab_S} (hs : ∀ q ∈ ls', q ∈ ls) (h : Go p l e R s m args below meth c Q D aK b N0 L xs nL st0 pc ls' stk st) : Go p l e R s m args below meth c Q D aK b N0 L xs nL st0 pc ls stk st := by
  intro H locs lsA hr hS hl
  refine h H locs lsA hr hS ⟨hl.1, hl.2.1, fun q hq => hl.2.2 q ?_⟩
  obtain ⟨w, hw, rfl⟩ := List.mem_map.mp hq
  exact List.mem_map.mpr ⟨w, hs w hw, rfl⟩
theorem pick_mem {ls : ab_L} : ∀ {sl : List Nat} {vs : List Value}, ab_pick ls sl = some vs → sl.length = vs.length ∧ ∀ q ∈ sl.zip vs, q ∈ ls
  | [], vs, h => by cases h; exact ⟨rfl, fun q hq => by simp at hq⟩
  | i :: sl, vs, h => by
    unfold ab_pick at h
    split at h
    · next v hv =>
      split at h
      · next ws hws =>
        cases h
        obtain ⟨h1, h2⟩ := pick_mem hws
        refine ⟨by simp [h1], fun q hq => ?_⟩
        rw [List.zip_cons_cons] at hq
        rcases List.mem_cons.mp hq with rfl | hq
        · exact ab_look_mem hv
        · exact h2 q hq
      · cases h
    · cases h
/-- what is said of a label -/
def SndL (p : Program) (l : Launch) (e : Env) (R : Room) (s : State) (m : MethodId) (args : Array Value) (below : List Frame) (meth : Method) (c : Code) (Q : State → Prop) (D : va_G) (aK : Nat → ClassId) (b N0 L : Nat) (xs : Nat → Int32) (nL : Nat) (st0 : ab_S) (r : ab_R) (M : ab_M) (pc : Nat) (vs stk : List Value) (st : ab_S) : Prop :=
  ∃ sl, ab_look (mL M) pc = some sl ∧ sl.length = vs.length ∧ Snd p l e R s m args below meth c Q D aK b N0 L xs nL st0 r pc (sl.zip vs) stk st
theorem snd_walk {M : ab_M} {init : Bool} (X : Cx p s m args c cc own nL D aK b N0 L xs) (hN : nL = mN M) (hin : init = true → meth.name = "<init>") (hM : mok l cc own init R.frames R.locals M) (hR : (sH r.2).length - (sH st0).length ≤ R.cells ∧ nsl (sH r.2) - nsl (sH st0) ≤ R.slots) (hret : Rets p l e R s m args below meth c Q D aK b N0 L xs cc (mR M) st0 r)
    {Lf : ab_F} (hL : ∀ pc vs stk st, Lf pc vs stk st = some r → SndL p l e R s m args below meth c Q D aK b N0 L xs nL st0 r M pc vs stk st) : ∀ (f pc : Nat) (ls : ab_L) (stk : List Value) (st : ab_S), ab_walk M Lf f pc ls stk st = some r → Snd p l e R s m args below meth c Q D aK b N0 L xs nL st0 r pc ls stk st
  | 0, _, _, _, _, h => by cases h
  | f + 1, pc, ls, stk, st, h => by
    unfold ab_walk at h
    split at h
    · next ins n x t hl =>
      obtain ⟨h1, h2, h3⟩ := hM.1 _ (ab_look_mem hl)
      refine snd_exec X hN hin hM hR hret (K := ab_jmp M Lf (ab_walk M Lf f)) (fun pc2 ls2 stk2 st2 h4 => ?_) h1 h2 h3 h
      unfold ab_jmp at h4
      split at h4
      · next sl hsl =>
        split at h4
        · next vs hvs =>
          obtain ⟨sl', g1, g2, g3, g4⟩ := hL _ _ _ _ h4
          cases hsl.symm.trans g1
          exact ⟨g3, fun he => go_sub (pick_mem hvs).2 (g4 he)⟩
        · cases h4
      · exact snd_walk X hN hin hM hR hret hL f pc2 ls2 stk2 st2 h4
    · cases h
theorem snd_from {M : ab_M} {init : Bool} (X : Cx p s m args c cc own nL D aK b N0 L xs) (hN : nL = mN M) (hin : init = true → meth.name = "<init>") (hM : mok l cc own init R.frames R.locals M) (hR : (sH r.2).length - (sH st0).length ≤ R.cells ∧ nsl (sH r.2) - nsl (sH st0) ≤ R.slots) (hret : Rets p l e R s m args below meth c Q D aK b N0 L xs cc (mR M) st0 r)
    {Lf : ab_F} (hL : ∀ pc vs stk st, Lf pc vs stk st = some r → SndL p l e R s m args below meth c Q D aK b N0 L xs nL st0 r M pc vs stk st) {pc : Nat} {vs stk : List Value} {st : ab_S} (h : ab_from M Lf pc vs stk st = some r) : SndL p l e R s m args below meth c Q D aK b N0 L xs nL st0 r M pc vs stk st := by
  unfold ab_from at h
  split at h
  · next sl hsl =>
    split at h
    · next hq => exact ⟨sl, hsl, Nat.eq_of_beq_eq_true hq, snd_walk X hN hin hM hR hret hL _ _ _ _ _ h⟩
    · cases h
  · cases h
theorem snd_run {M : ab_M} {init : Bool} (X : Cx p s m args c cc own nL D aK b N0 L xs) (hN : nL = mN M) (hin : init = true → meth.name = "<init>") (hM : mok l cc own init R.frames R.locals M) (hR : (sH r.2).length - (sH st0).length ≤ R.cells ∧ nsl (sH r.2) - nsl (sH st0) ≤ R.slots) (hret : Rets p l e R s m args below meth c Q D aK b N0 L xs cc (mR M) st0 r) : ∀ (f pc : Nat) (vs stk : List Value) (st : ab_S), ab_run M f pc vs stk st = some r → SndL p l e R s m args below meth c Q D aK b N0 L xs nL st0 r M pc vs stk st
  | 0, _, _, _, _, h => by cases h
  | f + 1, pc, vs, stk, st, h => snd_from X hN hin hM hR hret (snd_run X hN hin hM hR hret f) h
end SD
/-! cells only come -/
def pe (st : ab_S) (G : ab_K → Option ab_R) : Prop := ∀ K r, (∀ pc ls stk st', K pc ls stk st' = some r → ext st' r.2) → G K = some r → ext st r.2
theorem pe_one {st st' : ab_S} {pc : Nat} {ls : ab_L} {stk : List Value} (h : ext st st') : pe st (fun K => K pc ls stk st') := fun _ _ hK hr => ext_trans h (hK _ _ _ _ hr)
theorem pe_none {st : ab_S} : pe st (fun _ => none) := fun _ _ _ h => by cases h
theorem pe_ite {st : ab_S} {c : Prop} [Decidable c] {A B : ab_K → Option ab_R} (ha : pe st A) (hb : pe st B) : pe st (fun K => if c then A K else B K) := by
  by_cases h : c
  · simpa [h] using ha
  · simpa [h] using hb
theorem pe_bind {st : ab_S} {α : Type} {o : Option α} {A : ab_K → α → Option ab_R} (h : ∀ x, o = some x → pe st (fun K => A K x)) : pe st (fun K => o.bind (A K)) := by
  cases o with
  | none => exact pe_none
  | some x => exact h x rfl
theorem pe_i {st : ab_S} {stk : List Value} {A : ab_K → Int32 → List Value → Option ab_R} (h : ∀ x r, pe st (fun K => A K x r)) : pe st (fun K => tk_i stk (A K)) := by
  unfold tk_i; split <;> first | exact h _ _ | exact pe_none
theorem pe_l {st : ab_S} {stk : List Value} {A : ab_K → Int64 → List Value → Option ab_R} (h : ∀ x r, pe st (fun K => A K x r)) : pe st (fun K => tk_l stk (A K)) := by
  unfold tk_l; split <;> first | exact h _ _ | exact pe_none
theorem pe_r {st : ab_S} {stk : List Value} {A : ab_K → Nat → List Value → Option ab_R} (h : ∀ x r, pe st (fun K => A K x r)) : pe st (fun K => tk_r stk (A K)) := by
  unfold tk_r; split <;> first | exact h _ _ | exact pe_none
theorem pe_ii {st : ab_S} {stk : List Value} {A : ab_K → Int32 → Int32 → List Value → Option ab_R} (h : ∀ x y r, pe st (fun K => A K x y r)) : pe st (fun K => tk_ii stk (A K)) := by
  unfold tk_ii; split <;> first | exact h _ _ _ | exact pe_none
theorem pe_ll {st : ab_S} {stk : List Value} {A : ab_K → Int64 → Int64 → List Value → Option ab_R} (h : ∀ x y r, pe st (fun K => A K x y r)) : pe st (fun K => tk_ll stk (A K)) := by
  unfold tk_ll; split <;> first | exact h _ _ _ | exact pe_none
theorem pe_li {st : ab_S} {stk : List Value} {A : ab_K → Int64 → Int32 → List Value → Option ab_R} (h : ∀ x y r, pe st (fun K => A K x y r)) : pe st (fun K => tk_li stk (A K)) := by
  unfold tk_li; split <;> first | exact h _ _ _ | exact pe_none
theorem pe_ri {st : ab_S} {stk : List Value} {A : ab_K → Nat → Int32 → List Value → Option ab_R} (h : ∀ x y r, pe st (fun K => A K x y r)) : pe st (fun K => tk_ri stk (A K)) := by
  unfold tk_ri; split <;> first | exact h _ _ _ | exact pe_none
theorem pe_rl {st : ab_S} {stk : List Value} {A : ab_K → Nat → Int64 → List Value → Option ab_R} (h : ∀ x y r, pe st (fun K => A K x y r)) : pe st (fun K => tk_rl stk (A K)) := by
  unfold tk_rl; split <;> first | exact h _ _ _ | exact pe_none
theorem pe_rr {st : ab_S} {stk : List Value} {A : ab_K → Nat → Nat → List Value → Option ab_R} (h : ∀ x y r, pe st (fun K => A K x y r)) : pe st (fun K => tk_rr stk (A K)) := by
  unfold tk_rr; split <;> first | exact h _ _ _ | exact pe_none
theorem pe_rii {st : ab_S} {stk : List Value} {A : ab_K → Nat → Int32 → Int32 → List Value → Option ab_R} (h : ∀ x y z r, pe st (fun K => A K x y z r)) : pe st (fun K => tk_rii stk (A K)) := by
  unfold tk_rii; split <;> first | exact h _ _ _ _ | exact pe_none
theorem pe_ril {st : ab_S} {stk : List Value} {A : ab_K → Nat → Int32 → Int64 → List Value → Option ab_R} (h : ∀ x y z r, pe st (fun K => A K x y z r)) : pe st (fun K => tk_ril stk (A K)) := by
  unfold tk_ril; split <;> first | exact h _ _ _ _ | exact pe_none
theorem pe_rir {st : ab_S} {stk : List Value} {A : ab_K → Nat → Int32 → Nat → List Value → Option ab_R} (h : ∀ x y z r, pe st (fun K => A K x y z r)) : pe st (fun K => tk_rir stk (A K)) := by
  unfold tk_rir; split <;> first | exact h _ _ _ _ | exact pe_none
theorem pe_di {st : ab_S} {ls : ab_L} {i : Nat} {A : ab_K → Int32 → Option ab_R} (h : ∀ x, pe st (fun K => A K x)) : pe st (fun K => ld_i ls i (A K)) := by
  unfold ld_i; split <;> first | exact h _ | exact pe_none
theorem pe_dl {st : ab_S} {ls : ab_L} {i : Nat} {A : ab_K → Int64 → Option ab_R} (h : ∀ x, pe st (fun K => A K x)) : pe st (fun K => ld_l ls i (A K)) := by
  unfold ld_l; split <;> first | exact h _ | exact pe_none
theorem pe_dr {st : ab_S} {ls : ab_L} {i : Nat} {A : ab_K → Nat → Option ab_R} (h : ∀ x, pe st (fun K => A K x)) : pe st (fun K => ld_r ls i (A K)) := by
  unfold ld_r; split <;> first | exact h _ | exact pe_none
theorem pe_lt {st : ab_S} {i n : Nat} {A : ab_K → Option ab_R} (h : pe st A) : pe st (fun K => ab_lt i n (A K)) := by
  unfold ab_lt; split <;> first | exact h | exact pe_none
theorem pe_sw {st : ab_S} {x : Int32} {A : ab_K → Nat → Option ab_R} {d : Nat} (h : ∀ t, pe st (fun K => A K t)) : ∀ cs, pe st (fun K => ab_sw x (A K) d cs)
  | [] => h d
  | q :: r => pe_ite (c := x = q.1) (h q.2) (pe_sw h r)
theorem pe_getf {st : ab_S} {F : Option (Nat × Nat × Nat)} {o : Nat} {A : ab_K → Value → Option ab_R} (h : ∀ x, pe st (fun K => A K x)) : pe st (fun K => ab_getf F o st (A K)) := by
  unfold ab_getf; split <;> first | exact pe_bind (fun x _ => h _) | exact pe_none
theorem pI_sH {st t : ab_S} {o c k : Nat} {v : Int32} (h : ab_pI st o c k v = some t) : ext st t := by
  unfold ab_pI at h; split at h
  · cases h; exact ext_eq rfl
  · cases h
theorem pZ_sH {st t : ab_S} {o c k : Nat} {v : Int32} (h : ab_pZ st o c k v = some t) : ext st t := by
  unfold ab_pZ at h; split at h
  · cases h; exact ext_eq rfl
  · cases h
theorem pJ_sH {st t : ab_S} {o c k : Nat} {v : Int64} (h : ab_pJ st o c k v = some t) : ext st t := by
  unfold ab_pJ at h; split at h
  · cases h; exact ext_eq rfl
  · cases h
theorem pR_sH {st t : ab_S} {o c k v : Nat} (h : ab_pR st o c k v = some t) : ext st t := by
  unfold ab_pR at h; split at h
  · cases h; exact ext_eq rfl
  · cases h
theorem mo_sH {st t : ab_S} {q : Nat × Nat} (h : ab_mo st q = some t) : ext st t := by
  unfold ab_mo at h; split at h
  · cases h
  · cases h; exact ext_mk
theorem rows_ext {st : ab_S} {a k : Nat} : ∀ n, ext st (ab_rows st a k n)
  | 0 => ext_rfl
  | n + 1 => ext_trans (rows_ext n) (ext_trans (ext_mk (h := (1, k))) (ext_eq rfl))
theorem mm_sH {st t : ab_S} {a b : Int32} (h : ab_mm st a b = some t) : ext st t := by
  unfold ab_mm at h; split at h
  · cases h
  · cases h; exact ext_trans ext_mk (rows_ext _)
theorem pe_putf {st : ab_S} {F : Option (Nat × Nat × Nat)} {stk : List Value} {A : ab_K → List Value → ab_S → Option ab_R} (h : ∀ r t, ext st t → pe st (fun K => A K r t)) : pe st (fun K => ab_putf F stk st (A K)) := by
  unfold ab_putf
  split
  · exact pe_ri (fun o v r => pe_bind (fun t ht => h r t (pI_sH ht)))
  · exact pe_ri (fun o v r => pe_bind (fun t ht => h r t (pZ_sH ht)))
  · exact pe_rl (fun o v r => pe_bind (fun t ht => h r t (pJ_sH ht)))
  · exact pe_rr (fun o v r => pe_bind (fun t ht => h r t (pR_sH ht)))
  · exact pe_none
theorem pe_newn {st : ab_S} {n : Int32} {kd : Nat} {A : ab_K → Nat → ab_S → Option ab_R} (h : ∀ o t, ext st t → pe st (fun K => A K o t)) : pe st (fun K => ab_newn st n kd (A K)) := by
  unfold ab_newn; split <;> first | exact pe_bind (fun t ht => h _ t (mo_sH ht)) | exact pe_none
def ab_ext (g : ab_G) : Prop := ∀ as st k r, g as st k = some r → ∃ rs st', k rs st' = some r ∧ ext st st'
theorem pe_call {st : ab_S} {C : Option ab_C} {kd : Nat} {stk : List Value} {A : ab_K → List Value → List Value → ab_S → Option ab_R} (hC : ∀ q, C = some q → ab_ext q.2.2) (h : ∀ rs r t, pe t (fun K => A K rs r t)) : pe st (fun K => ab_call C kd stk st (A K)) := by
  unfold ab_call
  split
  · next kd' n f =>
    split
    · intro K r hK hr
      obtain ⟨rs, st', h2, h3⟩ := hC _ rfl _ _ _ _ hr
      exact ext_trans h3 (h rs (stk.drop n) st' K r hK h2)
    · exact pe_none
  · exact pe_none
def ab_extM (M : ab_M) : Prop := ∀ q ∈ mG M, ab_ext q.2.2.2
theorem mok_ext {l : Launch} {cc : ByteArray} {own : String} {init : Bool} {fr lo : Nat} {M : ab_M} (h : mok l cc own init fr lo M) : ab_extM M := by
  intro q hq as st k r hr
  rcases h.2.2 q hq with hG | ⟨hg, -⟩ | ⟨-, -, -, hm⟩
  · obtain ⟨y, bytes, maxL, ret, fr', lo', ci, -, -, -, -, -, -, hspec⟩ := hG
    obtain ⟨-, -, rs, st', hk, -, hext, -⟩ := hspec _ _ _ _ hr
    exact ⟨rs, st', hk, hext⟩
  · rw [hg] at hr
    unfold g_obj at hr
    split at hr
    · split at hr
      · cases hr
      · exact ⟨_, _, hr, ext_rfl⟩
    · cases hr
  · rcases hm with ⟨hg, -⟩ | ⟨hg, -⟩ | ⟨hg, -⟩ | ⟨hg, -⟩ <;> rw [hg] at hr
    · unfold g_max at hr
      split at hr
      · exact ⟨_, _, hr, ext_rfl⟩
      · cases hr
    · unfold g_min at hr
      split at hr
      · exact ⟨_, _, hr, ext_rfl⟩
      · cases hr
    · unfold g_abs at hr
      split at hr
      · exact ⟨_, _, hr, ext_rfl⟩
      · cases hr
    · unfold g_minl at hr
      split at hr
      · exact ⟨_, _, hr, ext_rfl⟩
      · cases hr
set_option maxHeartbeats 4000000 in
theorem pe_exec {M : ab_M} (hM : ab_extM M) {pc : Nat} {ls : ab_L} {stk : List Value} {st : ab_S} {ins : Instr} {n : Nat} {x : Value} {t : Nat} : pe st (fun K => ab_exec M K pc ls stk st ins n x t) := by
  have hC : ∀ i q, ab_look (mG M) i = some q → ab_ext q.2.2 := fun i q h => hM _ (ab_look_mem h)
  unfold ab_exec
  split <;> first
    | exact pe_one ext_rfl
    | exact pe_none
    | exact pe_di (fun _ => pe_one ext_rfl)
    | exact pe_dl (fun _ => pe_one ext_rfl)
    | exact pe_dr (fun _ => pe_one ext_rfl)
    | exact pe_lt (pe_i (fun _ _ => pe_one ext_rfl))
    | exact pe_lt (pe_l (fun _ _ => pe_one ext_rfl))
    | exact pe_lt (pe_r (fun _ _ => pe_one ext_rfl))
    | exact pe_i (fun _ _ => pe_one ext_rfl)
    | exact pe_l (fun _ _ => pe_one ext_rfl)
    | exact pe_r (fun _ _ => pe_one ext_rfl)
    | exact pe_ii (fun _ _ _ => pe_one ext_rfl)
    | exact pe_ll (fun _ _ _ => pe_one ext_rfl)
    | exact pe_li (fun _ _ _ => pe_one ext_rfl)
    | exact pe_ri (fun _ _ _ => pe_one ext_rfl)
    | exact pe_ii (fun _ _ _ => pe_ite (pe_one ext_rfl) (pe_one ext_rfl))
    | exact pe_ii (fun _ _ _ => pe_bind (fun _ h => pe_one (mm_sH h)))
    | exact pe_i (fun _ _ => pe_ite (pe_one ext_rfl) (pe_one ext_rfl))
    | exact pe_r (fun _ _ => pe_ite (pe_one ext_rfl) (pe_one ext_rfl))
    | exact pe_r (fun _ _ => pe_getf (fun _ => pe_one ext_rfl))
    | exact pe_putf (fun _ _ h => pe_one h)
    | exact pe_ri (fun _ _ _ => pe_bind (fun _ _ => pe_one ext_rfl))
    | exact pe_rii (fun _ _ _ _ => pe_bind (fun _ h => pe_one (ext_eq (wI_sH h))))
    | exact pe_rii (fun _ _ _ _ => pe_bind (fun _ h => pe_one (ext_eq (wB_sH h))))
    | exact pe_ril (fun _ _ _ _ => pe_bind (fun _ h => pe_one (ext_eq (wJ_sH h))))
    | exact pe_rir (fun _ _ _ _ => pe_bind (fun _ h => pe_one (ext_eq (wR_sH h))))
    | exact pe_r (fun _ _ => pe_bind (fun _ _ => pe_one ext_rfl))
    | exact pe_i (fun _ _ => pe_newn (fun _ _ h => pe_one h))
    | exact pe_call (fun q h => hC _ q h) (fun _ _ _ => pe_one ext_rfl)
    | (split <;> first | exact pe_none | exact pe_bind (fun _ h => pe_one (mo_sH h)) | exact pe_one ext_rfl | exact pe_i (fun _ _ => pe_sw (fun _ => pe_one ext_rfl) _) | exact pe_i (fun _ _ => pe_newn (fun _ _ h => pe_one h)))
    | exact pe_lt (pe_di (fun _ => by split <;> first | exact pe_one ext_rfl | exact pe_none))
    | (intro K r _ h; obtain ⟨v, -, rfl, -⟩ := ab_ret_e h; exact ext_rfl)
    | (intro K r _ h; obtain ⟨v, -, rfl, -⟩ := ab_retl_e h; exact ext_rfl)
    | (intro K r _ h; obtain ⟨v, -, rfl, -⟩ := ab_retr_e h; exact ext_rfl)
    | (intro K r _ h; obtain ⟨-, rfl, -⟩ := ab_retv_e h; exact ext_rfl)
theorem walk_ext {M : ab_M} (hM : ab_extM M) {Lf : ab_F} {r : ab_R} (hL : ∀ pc vs stk st, Lf pc vs stk st = some r → ext st r.2) : ∀ (f pc : Nat) (ls : ab_L) (stk : List Value) (st : ab_S), ab_walk M Lf f pc ls stk st = some r → ext st r.2
  | 0, _, _, _, _, h => by cases h
  | f + 1, pc, ls, stk, st, h => by
    unfold ab_walk at h
    split at h
    · refine pe_exec hM _ _ (fun pc2 ls2 stk2 st2 h4 => ?_) h
      unfold ab_jmp at h4
      split at h4
      · split at h4
        · exact hL _ _ _ _ h4
        · cases h4
      · exact walk_ext hM hL f _ _ _ _ h4
    · cases h
theorem run_ext {M : ab_M} (hM : ab_extM M) {r : ab_R} : ∀ (f pc : Nat) (vs stk : List Value) (st : ab_S), ab_run M f pc vs stk st = some r → ext st r.2
  | 0, _, _, _, _, h => by cases h
  | f + 1, pc, vs, stk, st, h => by
    have h : ab_from M (ab_run M f) pc vs stk st = some r := h
    unfold ab_from at h
    split at h
    · split at h
      · exact walk_ext hM (run_ext hM f) _ _ _ _ _ h
      · cases h
    · cases h
def ab_slots : Nat → List Value → List Nat
  | _, [] => []
  | i, v :: vs => i :: ab_slots (if v.category = 2 then i + 2 else i + 1) vs
theorem slots_args (b N0 : Nat) : ∀ (as : List Value) (i : Nat), lv_args i (as.map (cv b N0)) = ((ab_slots i as).zip as).map (fun q => (q.1, cv b N0 q.2))
  | [], _ => rfl
  | v :: vs, i => by
    simp only [List.map_cons, lv_args, ab_slots, List.zip_cons_cons, cv_cat, slots_args b N0 vs]
theorem sl_len (b N0 : Nat) : ∀ (as : List Value), (lg_sl (as.map (cv b N0))).length = ab_sum as
  | [] => rfl
  | v :: vs => by
    have h := sl_len b N0 vs
    have e : lg_sl ((v :: vs).map (cv b N0)) = (if (cv b N0 v).category = 2 then [.val (cv b N0 v), .second] else [.val (cv b N0 v)]) ++ lg_sl (vs.map (cv b N0)) := by
      unfold lg_sl
      rw [List.map_cons, List.flatMap_cons]
    rw [e, List.length_append, h, cv_cat]
    show _ = v.category + ab_sum vs
    rcases lv_cat v with hc | hc
    · rw [if_neg (by omega), hc]; rfl
    · rw [if_pos hc, hc]; rfl
def retok (kd : Nat) (ret : Option FieldType) : Prop := (kd = 0 ∧ ret = none) ∨ (kd = 1 ∧ ret = some .int) ∨ (kd = 2 ∧ ret = some .boolean) ∨ (kd = 3 ∧ ret = some .long) ∨ (kd = 4 ∧ ∃ C, ret = some (.object C))
/-- a method's contract out of its answer -/
theorem ct_of {l : Launch} {M : ab_M} {y : MethodName} {cc : ByteArray} {maxL : Nat} {ret : Option FieldType} {init : Bool} {fr lo : Nat} (hone : ab_oneM M) (hok : mok l cc y.cls init fr lo M) (hN : maxL = mN M) (hy : plainName y.cls = true) (hin : init = true → y.name = "<init>") (hrt : retok (mR M) ret)
    {as : List Value} {st st' : ab_S} {rs : List Value} {v : Option Value} (hv : v = rs.head?) (hrl : rs.length ≤ 1) (hlab : ab_look (mL M) 0 = some (ab_slots 0 as)) (hsum : ab_sum as ≤ maxL) (h : ab_lim M 0 as [] st = some (v, st')) : ext st st' ∧ ct l y cc maxL ret fr lo as st rs st' := by
  obtain ⟨f, hf⟩ := (lm_iff hone).mp h
  have hext : ext st st' := run_ext (mok_ext hok) f 0 as [] st hf
  refine ⟨hext, ?_⟩
  intro D aK b N0 L xs
  refine Met.ofW (cc := cc) (maxL := maxL) (ret := ret) hy rfl ?_
  intro p e s m args below meth c s₁ B hml hP
  obtain ⟨rfl, hrp, hrk⟩ := hP
  have hx := B.exec
  have hb := B.bytes
  have hr := B.returns
  have hts := atoms_spec (ws := .code y cc maxL ret :: ab_ws) B.pre
  have hown : s.vm.findClass y.cls = some m.cls := findClass_of_methodNamed B.named
  have hlocks := B.notSynchronized
  have X : Cx p s m (as.map (cv b N0)).toArray c cc y.cls maxL D aK b N0 L xs := ⟨hx, hb, hml, hown, fun w hw => hts w (List.mem_cons_of_mem _ hw), hrk⟩
  have hin2 : init = true → meth.name = "<init>" := fun h => (name_of_methodNamed B.named B.method).1.trans (hin h)
  have hret : Rets p l e (headSpec (.code y cc maxL ret :: ab_ws) { frames := fr, cells := (sH st').length - (sH st).length, slots := nsl (sH st') - nsl (sH st), locals := lo }).room s m (as.map (cv b N0)).toArray below meth c (MQ below (ct_Q D aK b N0 L xs rs st') (as.map (cv b N0)).toArray s ((sH st').length - (sH st).length) (nsl (sH st') - nsl (sH st)) (fun q => N0 ≤ q)) D aK b N0 L xs cc (mR M) st (v, st') := by
    intro pc H locs lsA hrtn hrp' hS'
    have hq : ∀ (w : Option Value), w = v.map (cv b N0) → ∀ t : State, t.heap = H → s.WarmedH t.vm → ct_Q D aK b N0 L xs rs st' (as.map (cv b N0)).toArray s (.returned w) t := by
      intro w hw t ht _
      refine ⟨?_, by rw [ht]; exact hrp', hS'.F ht⟩
      rw [hw, hv]
      cases rs <;> rfl
    rcases hrtn with ⟨h1, h2, h3⟩ | ⟨x, h1, h2, h3⟩ | ⟨x, h1, h2, h3⟩ | ⟨x, h1, h2, h3⟩
    · have h1 : v = none := h1
      subst h1
      have hr2 : meth.sig.returnType = none := by rw [hr]; rcases hrt with h | h | h | h | h <;> first | exact h.2 | (have := h.1; omega)
      exact W.vret hx hb hr2 (hq none rfl) hS'.2.2 h3
    · have h1 : v = some (.int x) := h1
      subst h1
      rcases h2 with h2 | ⟨h2, hz⟩
      · have hr2 : meth.sig.returnType = some .int := by rw [hr]; rcases hrt with h | h | h | h | h <;> first | exact h.2 | (have := h.1; omega)
        exact W.iret hx hb hr2 (hq (some (.int x)) rfl) hS'.2.2 h3
      · have hr2 : meth.sig.returnType = some .boolean := by rw [hr]; rcases hrt with h | h | h | h | h <;> first | exact h.2 | (have := h.1; omega)
        exact W.zret hx hb hr2 (by rcases hz with rfl | rfl <;> decide) (hq (some (.int x)) rfl) hS'.2.2 h3
    · have h1 : v = some (.long x) := h1
      subst h1
      have hr2 : meth.sig.returnType = some .long := by rw [hr]; rcases hrt with h | h | h | h | h <;> first | exact h.2 | (have := h.1; omega)
      exact W.lret hx hb hr2 (hq (some (.long x)) rfl) hS'.2.2 h3
    · have h1 : v = some (.ref x) := h1
      subst h1
      obtain ⟨C, hC⟩ : ∃ C, ret = some (.object C) := by rcases hrt with h | h | h | h | h <;> first | exact h.2 | (have := h.1; omega)
      exact W.aret hx hb (hr.trans hC) (Or.inl ⟨C, rfl⟩) (va_rf_or _) (hq (some (cv b N0 (.ref x))) rfl) hS'.2.2 h3
  obtain ⟨sl, g1, g2, -, g4⟩ := snd_run X hN hin2 hok ⟨Nat.le_refl _, Nat.le_refl _⟩ hret f 0 as [] st hf
  cases hlab.symm.trans g1
  have hl := lv_entry (as.map (cv b N0)) (n := maxL) (by rw [sl_len]; exact hsum)
  rw [lg_entry_eq]
  have := g4 ext_rfl s.heap [] _ hrp va_S.rf (by rw [← slots_args]; exact hl)
  rw [Nat.sub_self, Nat.sub_self] at this
  exact this
/-! checks by program, and callees -/
def ab_okC (cc : ByteArray) (own : String) (init : Bool) (M : ab_M) : Bool := (mC M).all (fun q => decide (decode cc q.1 = .ok (q.2.1, q.2.2.1)) && (ab_chk q.1 q.2.1 q.2.2.1 q.2.2.2.1 q.2.2.2.2 && ab_chk2 own init M q.1 q.2.1 q.2.2.2.1))
theorem okC_e {cc : ByteArray} {own : String} {init : Bool} {M : ab_M} (h : ab_okC cc own init M = true) : ∀ q ∈ mC M, decode cc q.1 = .ok (q.2.1, q.2.2.1) ∧ ab_chk q.1 q.2.1 q.2.2.1 q.2.2.2.1 q.2.2.2.2 = true ∧ ab_chk2 own init M q.1 q.2.1 q.2.2.2.1 = true := by
  intro q hq
  have h1 := List.all_eq_true.mp h q hq
  simp only [Bool.and_eq_true, decide_eq_true_eq] at h1
  exact h1
def ab_okF (own : String) (M : ab_M) : Bool := (mF M).all (fun q => fok own q.1 q.2.1 q.2.2.1 q.2.2.2)
theorem okF_e {own : String} {M : ab_M} (h : ab_okF own M = true) : ∀ q ∈ mF M, fok own q.1 q.2.1 q.2.2.1 q.2.2.2 = true := fun q hq => List.all_eq_true.mp h q hq
/-- of a callee alone -/
def ab_okY (y : MethodName) (bytes : ByteArray) (maxL : Nat) (ret : Option FieldType) (kd n ci : Nat) : Bool := decide (Cond.code y bytes maxL ret ∈ ab_ws) && (decide (Cond.initialized y.cls ∈ ab_ws) && (decide (y.cls ≠ "java/lang/invoke/MethodHandle") && (decide (y.cls ≠ "java/lang/invoke/VarHandle") && (decide ((parseMethodDescriptor y.desc).map (fun d => d.parameters.length) = some (if kd = 0 then n else n - 1)) &&
  (match kd with
  | 0 => decide (Cond.static y ∈ ab_ws)
  | 1 => decide (Cond.instanceMethod y ∈ ab_ws) && (decide (Cond.selects y.cls y y ∈ ab_ws) && decide ((ab_cl[ci]?).map (fun q => q.1) = some y.cls))
  | 2 => decide (y.name = "<init>") && (decide (ret = none) && decide (Cond.instanceMethod y ∈ ab_ws))
  | _ => false)))))
def ab_okK (own : String) (i kd : Nat) (y : MethodName) : Bool := decide (Cond.methodLink own i y ∈ ab_ws) || (decide (kd = 2) && decide (Cond.methodLinkNest own i y "TermMachine" ∈ ab_nw))
/-- what a callee does -/
def ab_spec (l : Launch) (y : MethodName) (bytes : ByteArray) (maxL : Nat) (ret : Option FieldType) (fr lo kd n ci : Nat) (g : ab_G) : Prop := ∀ as st k r, g as st k = some r → as.length = n ∧ (kd ≠ 0 → ∃ o as', as = .ref o :: as' ∧ (sH st)[o]? = some (0, ci)) ∧ ∃ rs st', k rs st' = some r ∧ rs.length ≤ 1 ∧ ext st st' ∧ ct l y bytes maxL ret fr lo as st rs st'
theorem cee_of {l : Launch} {y : MethodName} {bytes : ByteArray} {maxL : Nat} {ret : Option FieldType} {fr lo fr' lo' kd n ci i : Nat} {own : String} {g : ab_G} (hy : ab_okY y bytes maxL ret kd n ci = true) (hk : ab_okK own i kd y = true) (hs : ab_spec l y bytes maxL ret fr' lo' kd n ci g) (hr : (Nat.ble (fr' + 1) fr && Nat.ble (8 + (maxL + 11) + lo') lo) = true) : cee l fr lo own i kd n g := by
  unfold ab_okY at hy
  unfold ab_okK at hk
  simp only [Bool.and_eq_true, Bool.or_eq_true, decide_eq_true_eq] at hy hk hr
  obtain ⟨h1, h2, h3, h4, h5, h6⟩ := hy
  refine ⟨y, bytes, maxL, ret, fr', lo', ci, h1, h2, ⟨h3, h4, h5⟩, Nat.le_of_ble_eq_true hr.1, Nat.le_of_ble_eq_true hr.2, ?_, hs⟩
  match kd, h6 with
  | 0, h6 =>
    have h6 : decide (Cond.static y ∈ ab_ws) = true := h6
    rcases hk with hk | ⟨hk, hk2⟩
    · exact Or.inl ⟨rfl, hk, of_decide_eq_true h6⟩
    · cases hk
  | 1, h6 =>
    have h6 : (decide (Cond.instanceMethod y ∈ ab_ws) && (decide (Cond.selects y.cls y y ∈ ab_ws) && decide ((ab_cl[ci]?).map (fun q => q.1) = some y.cls))) = true := h6
    simp only [Bool.and_eq_true, decide_eq_true_eq] at h6
    obtain ⟨q, hq, hq2⟩ := Option.map_eq_some_iff.mp h6.2.2
    rcases hk with hk | ⟨hk, hk2⟩
    · exact Or.inr (Or.inl ⟨rfl, hk, h6.1, h6.2.1, q, hq, hq2⟩)
    · cases hk
  | 2, h6 =>
    have h6 : (decide (y.name = "<init>") && (decide (ret = none) && decide (Cond.instanceMethod y ∈ ab_ws))) = true := h6
    simp only [Bool.and_eq_true, decide_eq_true_eq] at h6
    exact Or.inr (Or.inr ⟨rfl, hk.imp id (fun q => q.2), h6.1, h6.2.1, h6.2.2⟩)
  | n + 3, h6 => cases h6
theorem rv_e {r0 : Option ab_R} {k : ab_S → Option ab_R} {r : ab_R} (h : ab_rv r0 k = some r) : ∃ t, r0 = some (none, t) ∧ k t = some r := by
  obtain ⟨⟨v, t⟩, h1, h2⟩ := Option.bind_eq_some_iff.mp h
  cases v with
  | none => exact ⟨t, h1, h2⟩
  | some v => cases h2
theorem ri_e {r0 : Option ab_R} {k : Int32 → ab_S → Option ab_R} {r : ab_R} (h : ab_ri r0 k = some r) : ∃ x t, r0 = some (some (.int x), t) ∧ k x t = some r := by
  obtain ⟨⟨v, t⟩, h1, h2⟩ := Option.bind_eq_some_iff.mp h
  cases v with
  | none => cases h2
  | some v => cases v <;> first | exact ⟨_, t, h1, h2⟩ | cases h2
theorem rl_e {r0 : Option ab_R} {k : Int64 → ab_S → Option ab_R} {r : ab_R} (h : ab_rl r0 k = some r) : ∃ x t, r0 = some (some (.long x), t) ∧ k x t = some r := by
  obtain ⟨⟨v, t⟩, h1, h2⟩ := Option.bind_eq_some_iff.mp h
  cases v with
  | none => cases h2
  | some v => cases v <;> first | exact ⟨_, t, h1, h2⟩ | cases h2
theorem rr_e {r0 : Option ab_R} {k : Nat → ab_S → Option ab_R} {r : ab_R} (h : ab_rr r0 k = some r) : ∃ x t, r0 = some (some (.ref x), t) ∧ k x t = some r := by
  obtain ⟨⟨v, t⟩, h1, h2⟩ := Option.bind_eq_some_iff.mp h
  cases v with
  | none => cases h2
  | some v => cases v <;> first | exact ⟨_, t, h1, h2⟩ | cases h2
theorem rc_e {st : ab_S} {o c : Nat} {r0 : Option ab_R} {r : ab_R} (h : ab_rc st o c r0 = some r) : (sH st)[o]? = some (0, c) ∧ r0 = some r := by
  unfold ab_rc at h
  split at h
  · next hs => exact ⟨hs, h⟩
  · cases h
end
section
/-! THE CLAIM OUT OF ONE WALK OF THE LAW'S BODY. Your part is whole_start (and what it stands on); all else here is the same for every law, but numbers. -/
def R_law : String := "TermMachineLaw"
def lw_P (b : Addr) (xs : List Int32) (args : Array Value) (s : State) : Prop := args = #[.ref b] ∧ s.IntsAt b xs ∧ xs.length ≤ 2560 ∧ (Jvm.Cond.and given_1 narrow_1).before args s = true
def lw_Q (_ : Array Value) (s : State) (o : Outcome) (t : State) : Prop := o = .returned (some (.int 1)) ∧ Framed s o t [] 600000 7302250
def lw_Z (below : List Frame) (a : Array Value) (s : State) : State → Prop := fun t => ∃ o, t.status = .running ∧ Ended t below o ∧ lw_Q a s o t
/-- the law's own end, with 1 on the stack, nothing written that was there before, its room as the claim has it -/
theorem lw_ret {p : Program} {l : Launch} {e : Env} {s : State} {m : MethodId} {below : List Frame} {meth : Method} {c : Code} {b : Nat} (hx : p.tables.exec = Jvm.exec) (hb : c.code = code) (hr : meth.sig.returnType = ret) (hlocks : meth.locks = false) {pc : Nat} {H : Heap} {ls : Array Slot} (hdg : decode code pc = .ok (.ireturn, 1)) : W p l e room_1 s m #[Value.ref b] below meth c H [] 600000 7302250 (lw_Z below #[Value.ref b] s) (F0 m pc ls [.int 1]) := by
  intro T hT X
  obtain ⟨fs, hret, hrun, hended, hW, hframe⟩ := X.leave (v := some (.int 1)) (hlocks := hlocks) (fun h => by rw [hr] at h; cases h)
  have hmeth' : T.vm.method? m = some meth := X.method'
  refine ⟨T.setFrames fs, ?_, .returned (some (.int 1)), hrun, hended, rfl, ⟨_, rfl⟩, hW, hframe⟩
  jvm_step X.here [X.here.top, hx, hb, hdg, hmeth', hr, ret, narrow_b1]
  (try refine ⟨rfl, ?_⟩); (try refine ⟨rfl, ?_⟩)
  first | (intro acts; rw [hret _ acts rfl rfl rfl]) | rw [hret _ _ rfl rfl rfl]
  exact Steps.refl _
/-- what holds at the law's entry: the machine, the code, the tables' words (any of lw_tbl by 'hts w (by decide +kernel)'), the script of L ints xs at the cell b, what the Statement gives of the start (any of its parts by flat_of_before) -/
def lw_At (p : Program) (s : State) (m : MethodId) (meth : Method) (c : Code) (b L : Nat) (xs : Nat → Int32) : Prop :=
  p.tables.exec = Jvm.exec ∧ c.code = code ∧ meth.sig.returnType = ret ∧ c.maxLocals = 4 ∧ s.vm.findClass R_law = some m.cls ∧ (∀ w ∈ lw_tbl, w.before #[Value.ref b] s = true) ∧ va_X b L xs s s.heap ∧ b < s.heap.size ∧ meth.locks = false ∧ (Jvm.Cond.and given_1 narrow_1).before #[Value.ref b] s = true
theorem mok_mono {l : Launch} {cc : ByteArray} {own : String} {init : Bool} {fr lo fr' lo' : Nat} {M : ab_M} (h : mok l cc own init fr lo M) (h1 : fr ≤ fr') (h2 : lo ≤ lo') : mok l cc own init fr' lo' M := by
  refine ⟨h.1, h.2.1, fun q hq => ?_⟩
  rcases h.2.2 q hq with hc | hc | hc
  · obtain ⟨y, bytes, maxL, ret, fr0, lo0, ci, a1, a2, a3, a4, a5, a6⟩ := hc
    exact Or.inl ⟨y, bytes, maxL, ret, fr0, lo0, ci, a1, a2, a3, Nat.le_trans a4 h1, Nat.le_trans a5 h2, a6⟩
  · obtain ⟨a1, a2, a3, a4, a5, a6⟩ := hc
    exact Or.inr (Or.inl ⟨a1, a2, a3, a4, Nat.le_trans a5 h1, Nat.le_trans a6 h2⟩)
  · obtain ⟨a1, a2, a3, a4⟩ := hc
    exact Or.inr (Or.inr ⟨a1, Nat.le_trans a2 h1, Nat.le_trans a3 h2, a4⟩)
theorem wh_ins : ∀ q ∈ ab_cl.map (fun q : vw_C => (q.1, q.2.2)), Cond.instantiable q.1 q.2 ∈ ab_ws := by decide +kernel
theorem wh_D {s : State} {args : Array Value} (hts : ∀ w ∈ ab_ws, w.before args s = true) : ∃ D : va_G, ∀ (c : Nat) (q : vw_C), ab_cl[c]? = some q → u_Kn s q.1 q.2.1 q.2.2 (D.1 c) (D.2 c) := by
  have h : ∀ c : Nat, ∃ p : ClassId × (Nat → Nat), ∀ q : vw_C, ab_cl[c]? = some q → u_Kn s q.1 q.2.1 q.2.2 p.1 p.2 := by
    intro c
    cases hq : ab_cl[c]? with
    | none => exact ⟨(0, fun _ => 0), fun q h => by cases h⟩
    | some q =>
      have hi := wh_ins (q.1, q.2.2) (List.mem_map.mpr ⟨q, List.mem_of_getElem? hq, rfl⟩)
      obtain ⟨cC, iS, hK⟩ := u_known hts (cl_ok hq).1 (hts _ hi)
      exact ⟨(cC, iS), fun q' h => by cases h; exact hK⟩
  exact ⟨(fun c => (h c).choose.1, fun c => (h c).choose.2), fun c q hq => (h c).choose_spec q hq⟩
theorem wh_arr {s : State} {args : Array Value} {ty : FieldType} (h : (Cond.arrayClass ty).before args s = true) : ∃ cA, ArrOfT s cA ty ∧ s.vm.findClass ("[" ++ ty.toString) = some cA := by
  obtain ⟨c, k, comp, h1, h2, h3⟩ := Cond.arrayClass_spec h
  exact ⟨c, fun N z => ⟨(fun q h => by cases h), k, h2, comp, h3⟩, h1⟩
theorem wh_obj {s : State} {C : String} (h : va_AO C s) : ∃ cA, ArrOfT s cA (.object C) ∧ va_RA s cA (.object C) := by
  obtain ⟨comp, c, k, h1, h2, h3, h4, h5⟩ := Cond.arrayOver_spec h
  exact ⟨c, fun N z => ⟨(fun q h => by cases h), k, h3, comp, h4⟩, k, comp, h3, h4, h1, h5⟩
theorem wh_ao : Cond.arrayOver (.object RX0) ∈ lw_tbl ∧ Cond.arrayOver (.object RX4) ∈ lw_tbl ∧ Cond.arrayOver (.object RX9) ∈ lw_tbl ∧ Cond.arrayOver (.array .int) ∈ lw_tbl := by decide +kernel
theorem wh_ac : Cond.arrayClass .int ∈ lw_tbl ∧ Cond.arrayClass .long ∈ lw_tbl ∧ Cond.arrayClass .byte ∈ lw_tbl ∧ Cond.arrayClass .boolean ∈ lw_tbl := by decide +kernel
theorem wh_nw : ∀ w ∈ ab_nw, w.onTables = true := by decide +kernel
/-- what the tables say at the law's entry -/
theorem wh_rk {p : Program} {s : State} {m : MethodId} {meth : Method} {c : Code} {b L : Nat} {xs : Nat → Int32} (C0 : lw_At p s m meth c b L xs) : ∃ (D : va_G) (aK : Nat → ClassId), rk D aK b s.heap.size L xs s := by
  obtain ⟨-, -, -, -, -, hts, hX, hbl, -, -⟩ := C0
  obtain ⟨D, hD⟩ := wh_D (fun w hw => hts w (ab_ws_in w hw))
  have o0 : va_AO RX0 s := hts _ wh_ao.1
  have o4 : va_AO RX4 s := hts _ wh_ao.2.1
  have o9 : va_AO RX9 s := hts _ wh_ao.2.2.1
  obtain ⟨c1, a1, b1⟩ := wh_arr (hts _ wh_ac.1)
  obtain ⟨c2, a2, b2⟩ := wh_arr (hts _ wh_ac.2.1)
  obtain ⟨c3, a3, b3⟩ := wh_arr (hts _ wh_ac.2.2.1)
  obtain ⟨c4, a4, b4⟩ := wh_arr (hts _ wh_ac.2.2.2)
  obtain ⟨c8, a8, b8⟩ := wh_obj o0
  obtain ⟨c12, a12, b12⟩ := wh_obj o4
  obtain ⟨c17, a17, b17⟩ := wh_obj o9
  obtain ⟨comp, c5, k5, d1, -, d3, d4, d5⟩ := arrayOverA_spec (hts _ wh_ao.2.2.2)
  have hc : comp = c1 := Option.some.inj (d1.symm.trans b1)
  subst hc
  refine ⟨D, fun i => match i with
    | 1 => comp
    | 2 => c2
    | 3 => c3
    | 4 => c4
    | 5 => c5
    | 8 => c8
    | 12 => c12
    | 17 => c17
    | _ => 0, ⟨hD, fun k q hk => ?_⟩, fun w hw => va_Nw.of (wh_nw w hw) (hts w (ab_nw_in w hw)), o0, o4, ⟨o9, k5, d3, d4⟩, hX, hbl, Nat.le_refl _⟩
  match k, hk with
  | 0, hk => cases hk; exact ⟨a1, b1⟩
  | 1, hk => cases hk; exact ⟨a2, b2⟩
  | 2, hk => cases hk; exact ⟨a3, b3⟩
  | 3, hk => cases hk; exact ⟨a4, b4⟩
  | 4, hk => cases hk; exact ⟨fun N z => ⟨(fun q h => by cases h), k5, d3, comp, d4⟩, d5⟩
  | 5, hk => cases hk; exact ⟨a8, b8⟩
  | 6, hk => cases hk; exact ⟨a12, b12⟩
  | 7, hk => cases hk; exact ⟨a17, b17⟩
  | k + 8, hk => cases hk
/-- the law's walk out of the abstract machine's answer -/
theorem wh_gen {p : Program} {e : Env} {s : State} {m : MethodId} {below : List Frame} {meth : Method} {c : Code} (l : Launch) {b L : Nat} {xs : Nat → Int32} (C0 : lw_At p s m meth c b L xs) {M : ab_M} {fr lo : Nat} (hone : ab_oneM M) (hok : mok l code R_law false fr lo M) (hfr : fr ≤ 10) (hlo : lo ≤ 374) (hN : mN M = 4) (hkd : mR M = 1 ∨ mR M = 2) (hlab : ab_look (mL M) 0 = some [0])
    {st0 st' : ab_S} (hH : sH st0 = [(6, 0), (7, L)]) (hI : ∀ j, j < L → sI st0 1 j = xs j) (h : ab_lim M 0 [.ref 1] [] st0 = some (some (.int 1), st')) (hc1 : (sH st').length - (sH st0).length ≤ 600000) (hc2 : nsl (sH st') - nsl (sH st0) ≤ 7302250) :
    W p l e room_1 s m #[Value.ref b] below meth c s.heap [] 0 0 (lw_Z below #[Value.ref b] s) (entryFrame m ([Value.ref b] : List Value).toArray 4) := by
  obtain ⟨D, aK, hrk⟩ := wh_rk C0
  obtain ⟨hx, hb, hr, hml, hown, hts, hX, hbl, hlocks, -⟩ := C0
  obtain ⟨f, hf⟩ := (lm_iff hone).mp h
  have X : Cx p s m #[Value.ref b] c code R_law 4 D aK b s.heap.size L xs := ⟨hx, hb, hml, hown, fun w hw => hts w (ab_ws_in w hw), hrk⟩
  have hrp : rp D aK b s.heap.size L xs st0 s.heap := by
    refine ⟨?_, by rw [hH]; rfl, by rw [hH]; rfl, by rw [hH]; rfl, hI, fun i q hq => ?_⟩
    · intro k q hq
      rw [wsl_q, hH] at hq
      simp at hq
    · rw [hH] at hq
      simp at hq
  have hret : Rets p l e room_1 s m #[Value.ref b] below meth c (lw_Z below #[Value.ref b] s) D aK b s.heap.size L xs code (mR M) st0 (some (.int 1), st') := by
    intro pc H locs lsA hrtn hrp' hS'
    have hdg : decode code pc = .ok (.ireturn, 1) := by
      rcases hrtn with ⟨h1, -, -⟩ | ⟨x, -, -, h3⟩ | ⟨x, h1, -, -⟩ | ⟨x, h1, -, -⟩
      · cases h1
      · exact h3
      · cases h1
      · cases h1
    intro T hT XT
    exact lw_ret hx hb hr hlocks hdg T hT (stand_widen (Stand.dropFresh (locs := []) (J := locs) XT hS'.2.2) hc1 hc2)
  obtain ⟨sl, g1, g2, -, g4⟩ := snd_run X hN.symm (fun h => by cases h) (mok_mono hok hfr hlo) ⟨hc1, hc2⟩ hret f 0 [.ref 1] [] st0 hf
  cases hlab.symm.trans g1
  have hl := lv_entry [Value.ref b] (n := 4) (Nat.le_of_ble_eq_true rfl)
  rw [lg_entry_eq]
  have := g4 ext_rfl s.heap [] _ hrp va_S.rf hl
  rw [Nat.sub_self, Nat.sub_self] at this
  exact this
end
