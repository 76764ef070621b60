section
-- ===== PART A: goes FIRST, ahead of the names: the tables' words, and 'selects' of the private methods out of them =====
/-- a private method of a class that the tables say can be made, by its rows of tables_1 -/
def lw_okq (q : MethodName × Nat) : Prop := (q.1.cls ≠ "java/lang/invoke/MethodHandle" ∧ q.1.cls ≠ "java/lang/invoke/VarHandle") ∧ Cond.instantiable q.1.cls q.2 ∈ tables_1 ∧ Cond.privateMethod q.1 ∈ tables_1 ∧ Cond.instanceMethod q.1 ∈ tables_1
theorem lw_p0 : lw_okq (⟨"ShufflingBook$Told", "tellNothing", "()V"⟩, 10) := ⟨⟨by decide +kernel, by decide +kernel⟩, List.mem_of_getElem? (i := 47) (by decide +kernel), List.mem_of_getElem? (i := 55) (by decide +kernel), List.mem_of_getElem? (i := 56) (by decide +kernel)⟩
theorem lw_p1 : lw_okq (⟨"ShufflingBook", "startAnew", "()V"⟩, 14) := ⟨⟨by decide +kernel, by decide +kernel⟩, List.mem_of_getElem? (i := 12) (by decide +kernel), List.mem_of_getElem? (i := 204) (by decide +kernel), List.mem_of_getElem? (i := 205) (by decide +kernel)⟩
theorem lw_p2 : lw_okq (⟨"ShufflingBook$Readers", "readOneReader", "(LShufflingBook$Told;)V"⟩, 9) := ⟨⟨by decide +kernel, by decide +kernel⟩, List.mem_of_getElem? (i := 119) (by decide +kernel), List.mem_of_getElem? (i := 233) (by decide +kernel), List.mem_of_getElem? (i := 234) (by decide +kernel)⟩
theorem lw_p3 : lw_okq (⟨"ShufflingBook$Order", "cut", "()V"⟩, 3) := ⟨⟨by decide +kernel, by decide +kernel⟩, List.mem_of_getElem? (i := 100) (by decide +kernel), List.mem_of_getElem? (i := 246) (by decide +kernel), List.mem_of_getElem? (i := 247) (by decide +kernel)⟩
theorem lw_p4 : lw_okq (⟨"ShufflingBook$Order", "layTop", "(I)V"⟩, 3) := ⟨⟨by decide +kernel, by decide +kernel⟩, List.mem_of_getElem? (i := 100) (by decide +kernel), List.mem_of_getElem? (i := 255) (by decide +kernel), List.mem_of_getElem? (i := 256) (by decide +kernel)⟩
theorem lw_p5 : lw_okq (⟨"ShufflingBook$Readers", "layRings", "()V"⟩, 9) := ⟨⟨by decide +kernel, by decide +kernel⟩, List.mem_of_getElem? (i := 119) (by decide +kernel), List.mem_of_getElem? (i := 264) (by decide +kernel), List.mem_of_getElem? (i := 265) (by decide +kernel)⟩
theorem lw_p6 : lw_okq (⟨"ShufflingBook$Readers", "layRing", "(II)I"⟩, 9) := ⟨⟨by decide +kernel, by decide +kernel⟩, List.mem_of_getElem? (i := 119) (by decide +kernel), List.mem_of_getElem? (i := 268) (by decide +kernel), List.mem_of_getElem? (i := 269) (by decide +kernel)⟩
theorem lw_p7 : lw_okq (⟨"ShufflingBook$Readers", "readWithoutFirst", "(LShufflingBook$Told;)V"⟩, 9) := ⟨⟨by decide +kernel, by decide +kernel⟩, List.mem_of_getElem? (i := 119) (by decide +kernel), List.mem_of_getElem? (i := 276) (by decide +kernel), List.mem_of_getElem? (i := 277) (by decide +kernel)⟩
theorem lw_p8 : lw_okq (⟨"ShufflingBook$Told", "scanItem", "(LShufflingBook$Text;I)I"⟩, 10) := ⟨⟨by decide +kernel, by decide +kernel⟩, List.mem_of_getElem? (i := 47) (by decide +kernel), List.mem_of_getElem? (i := 365) (by decide +kernel), List.mem_of_getElem? (i := 366) (by decide +kernel)⟩
theorem lw_p9 : lw_okq (⟨"ShufflingBook$Told", "takeIn", "(III)Z"⟩, 10) := ⟨⟨by decide +kernel, by decide +kernel⟩, List.mem_of_getElem? (i := 47) (by decide +kernel), List.mem_of_getElem? (i := 391) (by decide +kernel), List.mem_of_getElem? (i := 392) (by decide +kernel)⟩
theorem lw_p10 : lw_okq (⟨"ShufflingBook$Told", "takeLeafCount", "(I)Z"⟩, 10) := ⟨⟨by decide +kernel, by decide +kernel⟩, List.mem_of_getElem? (i := 47) (by decide +kernel), List.mem_of_getElem? (i := 395) (by decide +kernel), List.mem_of_getElem? (i := 396) (by decide +kernel)⟩
theorem lw_p11 : lw_okq (⟨"ShufflingBook$Told", "takePerReader", "(I)Z"⟩, 10) := ⟨⟨by decide +kernel, by decide +kernel⟩, List.mem_of_getElem? (i := 47) (by decide +kernel), List.mem_of_getElem? (i := 400) (by decide +kernel), List.mem_of_getElem? (i := 401) (by decide +kernel)⟩
theorem lw_p12 : lw_okq (⟨"ShufflingBook$Told", "takeLaw", "(II)Z"⟩, 10) := ⟨⟨by decide +kernel, by decide +kernel⟩, List.mem_of_getElem? (i := 47) (by decide +kernel), List.mem_of_getElem? (i := 404) (by decide +kernel), List.mem_of_getElem? (i := 405) (by decide +kernel)⟩
theorem lw_p13 : lw_okq (⟨"ShufflingBook$Told", "takeSwap", "(II)Z"⟩, 10) := ⟨⟨by decide +kernel, by decide +kernel⟩, List.mem_of_getElem? (i := 47) (by decide +kernel), List.mem_of_getElem? (i := 408) (by decide +kernel), List.mem_of_getElem? (i := 409) (by decide +kernel)⟩
theorem lw_p14 : lw_okq (⟨"ShufflingBook$Told", "takeTaleLeaf", "(I)Z"⟩, 10) := ⟨⟨by decide +kernel, by decide +kernel⟩, List.mem_of_getElem? (i := 47) (by decide +kernel), List.mem_of_getElem? (i := 412) (by decide +kernel), List.mem_of_getElem? (i := 413) (by decide +kernel)⟩
theorem lw_p15 : lw_okq (⟨"ShufflingBook", "isBelowCount", "(I)Z"⟩, 14) := ⟨⟨by decide +kernel, by decide +kernel⟩, List.mem_of_getElem? (i := 12) (by decide +kernel), List.mem_of_getElem? (i := 428) (by decide +kernel), List.mem_of_getElem? (i := 429) (by decide +kernel)⟩
def lw_privs_1 : List (MethodName × Nat) := [(⟨"ShufflingBook$Told", "tellNothing", "()V"⟩, 10), (⟨"ShufflingBook", "startAnew", "()V"⟩, 14), (⟨"ShufflingBook$Readers", "readOneReader", "(LShufflingBook$Told;)V"⟩, 9), (⟨"ShufflingBook$Order", "cut", "()V"⟩, 3), (⟨"ShufflingBook$Order", "layTop", "(I)V"⟩, 3), (⟨"ShufflingBook$Readers", "layRings", "()V"⟩, 9), (⟨"ShufflingBook$Readers", "layRing", "(II)I"⟩, 9), (⟨"ShufflingBook$Readers", "readWithoutFirst", "(LShufflingBook$Told;)V"⟩, 9), (⟨"ShufflingBook$Told", "scanItem", "(LShufflingBook$Text;I)I"⟩, 10), (⟨"ShufflingBook$Told", "takeIn", "(III)Z"⟩, 10), (⟨"ShufflingBook$Told", "takeLeafCount", "(I)Z"⟩, 10), (⟨"ShufflingBook$Told", "takePerReader", "(I)Z"⟩, 10), (⟨"ShufflingBook$Told", "takeLaw", "(II)Z"⟩, 10), (⟨"ShufflingBook$Told", "takeSwap", "(II)Z"⟩, 10), (⟨"ShufflingBook$Told", "takeTaleLeaf", "(I)Z"⟩, 10), (⟨"ShufflingBook", "isBelowCount", "(I)Z"⟩, 14)]
theorem lw_r1 : ∀ q ∈ lw_privs_1, lw_okq q := List.forall_mem_cons.mpr ⟨lw_p0, List.forall_mem_cons.mpr ⟨lw_p1, List.forall_mem_cons.mpr ⟨lw_p2, List.forall_mem_cons.mpr ⟨lw_p3, List.forall_mem_cons.mpr ⟨lw_p4, List.forall_mem_cons.mpr ⟨lw_p5, List.forall_mem_cons.mpr ⟨lw_p6, List.forall_mem_cons.mpr ⟨lw_p7, List.forall_mem_cons.mpr ⟨lw_p8, List.forall_mem_cons.mpr ⟨lw_p9, List.forall_mem_cons.mpr ⟨lw_p10, List.forall_mem_cons.mpr ⟨lw_p11, List.forall_mem_cons.mpr ⟨lw_p12, List.forall_mem_cons.mpr ⟨lw_p13, List.forall_mem_cons.mpr ⟨lw_p14, List.forall_mem_cons.mpr ⟨lw_p15, fun _ h => absurd h List.not_mem_nil⟩⟩⟩⟩⟩⟩⟩⟩⟩⟩⟩⟩⟩⟩⟩⟩
theorem lw_p16 : lw_okq (⟨"ShufflingBook", "isTurn", "(I)Z"⟩, 14) := ⟨⟨by decide +kernel, by decide +kernel⟩, List.mem_of_getElem? (i := 12) (by decide +kernel), List.mem_of_getElem? (i := 479) (by decide +kernel), List.mem_of_getElem? (i := 480) (by decide +kernel)⟩
theorem lw_p17 : lw_okq (⟨"ShufflingBook", "leafHad", "(JI)I"⟩, 14) := ⟨⟨by decide +kernel, by decide +kernel⟩, List.mem_of_getElem? (i := 12) (by decide +kernel), List.mem_of_getElem? (i := 483) (by decide +kernel), List.mem_of_getElem? (i := 484) (by decide +kernel)⟩
theorem lw_p18 : lw_okq (⟨"ShufflingBook$Readers", "placeInRing", "(IJ)I"⟩, 9) := ⟨⟨by decide +kernel, by decide +kernel⟩, List.mem_of_getElem? (i := 119) (by decide +kernel), List.mem_of_getElem? (i := 491) (by decide +kernel), List.mem_of_getElem? (i := 492) (by decide +kernel)⟩
theorem lw_p19 : lw_okq (⟨"ShufflingBook", "leavesHad", "(J)J"⟩, 14) := ⟨⟨by decide +kernel, by decide +kernel⟩, List.mem_of_getElem? (i := 12) (by decide +kernel), List.mem_of_getElem? (i := 502) (by decide +kernel), List.mem_of_getElem? (i := 503) (by decide +kernel)⟩
theorem lw_p20 : lw_okq (⟨"ShufflingBook$Readers", "readInRing", "(I)I"⟩, 9) := ⟨⟨by decide +kernel, by decide +kernel⟩, List.mem_of_getElem? (i := 119) (by decide +kernel), List.mem_of_getElem? (i := 529) (by decide +kernel), List.mem_of_getElem? (i := 530) (by decide +kernel)⟩
theorem lw_p21 : lw_okq (⟨"ShufflingBook", "readingsToShowAll", "(II)I"⟩, 14) := ⟨⟨by decide +kernel, by decide +kernel⟩, List.mem_of_getElem? (i := 12) (by decide +kernel), List.mem_of_getElem? (i := 586) (by decide +kernel), List.mem_of_getElem? (i := 587) (by decide +kernel)⟩
theorem lw_p22 : lw_okq (⟨"ShufflingBook", "guessFromSeen", "()V"⟩, 14) := ⟨⟨by decide +kernel, by decide +kernel⟩, List.mem_of_getElem? (i := 12) (by decide +kernel), List.mem_of_getElem? (i := 609) (by decide +kernel), List.mem_of_getElem? (i := 610) (by decide +kernel)⟩
theorem lw_p23 : lw_okq (⟨"ShufflingBook", "isReadBy", "(II)Z"⟩, 14) := ⟨⟨by decide +kernel, by decide +kernel⟩, List.mem_of_getElem? (i := 12) (by decide +kernel), List.mem_of_getElem? (i := 635) (by decide +kernel), List.mem_of_getElem? (i := 636) (by decide +kernel)⟩
theorem lw_p24 : lw_okq (⟨"ShufflingBook", "rightWhenLaidAt", "(II)I"⟩, 14) := ⟨⟨by decide +kernel, by decide +kernel⟩, List.mem_of_getElem? (i := 12) (by decide +kernel), List.mem_of_getElem? (i := 643) (by decide +kernel), List.mem_of_getElem? (i := 644) (by decide +kernel)⟩
theorem lw_p25 : lw_okq (⟨"ShufflingBook", "keptPack", "(I)LShufflingBook$Pack;"⟩, 14) := ⟨⟨by decide +kernel, by decide +kernel⟩, List.mem_of_getElem? (i := 12) (by decide +kernel), List.mem_of_getElem? (i := 658) (by decide +kernel), List.mem_of_getElem? (i := 659) (by decide +kernel)⟩
theorem lw_p26 : lw_okq (⟨"ShufflingBookModel", "noBook", "(I)V"⟩, 31) := ⟨⟨by decide +kernel, by decide +kernel⟩, List.mem_of_getElem? (i := 674) (by decide +kernel), List.mem_of_getElem? (i := 680) (by decide +kernel), List.mem_of_getElem? (i := 681) (by decide +kernel)⟩
theorem lw_p27 : lw_okq (⟨"ShufflingBookModel", "layBook", "()V"⟩, 31) := ⟨⟨by decide +kernel, by decide +kernel⟩, List.mem_of_getElem? (i := 674) (by decide +kernel), List.mem_of_getElem? (i := 684) (by decide +kernel), List.mem_of_getElem? (i := 685) (by decide +kernel)⟩
theorem lw_p28 : lw_okq (⟨"ShufflingBookModel", "layOne", "()V"⟩, 31) := ⟨⟨by decide +kernel, by decide +kernel⟩, List.mem_of_getElem? (i := 674) (by decide +kernel), List.mem_of_getElem? (i := 688) (by decide +kernel), List.mem_of_getElem? (i := 689) (by decide +kernel)⟩
theorem lw_p29 : lw_okq (⟨"ShufflingBookModel", "goRead", "([IIIII)V"⟩, 31) := ⟨⟨by decide +kernel, by decide +kernel⟩, List.mem_of_getElem? (i := 674) (by decide +kernel), List.mem_of_getElem? (i := 692) (by decide +kernel), List.mem_of_getElem? (i := 693) (by decide +kernel)⟩
theorem lw_p30 : lw_okq (⟨"ShufflingBookModel", "cut", "([II)V"⟩, 31) := ⟨⟨by decide +kernel, by decide +kernel⟩, List.mem_of_getElem? (i := 674) (by decide +kernel), List.mem_of_getElem? (i := 696) (by decide +kernel), List.mem_of_getElem? (i := 697) (by decide +kernel)⟩
theorem lw_p31 : lw_okq (⟨"ShufflingBookModel", "layBelow", "([III)V"⟩, 31) := ⟨⟨by decide +kernel, by decide +kernel⟩, List.mem_of_getElem? (i := 674) (by decide +kernel), List.mem_of_getElem? (i := 700) (by decide +kernel), List.mem_of_getElem? (i := 701) (by decide +kernel)⟩
def lw_privs_2 : List (MethodName × Nat) := [(⟨"ShufflingBook", "isTurn", "(I)Z"⟩, 14), (⟨"ShufflingBook", "leafHad", "(JI)I"⟩, 14), (⟨"ShufflingBook$Readers", "placeInRing", "(IJ)I"⟩, 9), (⟨"ShufflingBook", "leavesHad", "(J)J"⟩, 14), (⟨"ShufflingBook$Readers", "readInRing", "(I)I"⟩, 9), (⟨"ShufflingBook", "readingsToShowAll", "(II)I"⟩, 14), (⟨"ShufflingBook", "guessFromSeen", "()V"⟩, 14), (⟨"ShufflingBook", "isReadBy", "(II)Z"⟩, 14), (⟨"ShufflingBook", "rightWhenLaidAt", "(II)I"⟩, 14), (⟨"ShufflingBook", "keptPack", "(I)LShufflingBook$Pack;"⟩, 14), (⟨"ShufflingBookModel", "noBook", "(I)V"⟩, 31), (⟨"ShufflingBookModel", "layBook", "()V"⟩, 31), (⟨"ShufflingBookModel", "layOne", "()V"⟩, 31), (⟨"ShufflingBookModel", "goRead", "([IIIII)V"⟩, 31), (⟨"ShufflingBookModel", "cut", "([II)V"⟩, 31), (⟨"ShufflingBookModel", "layBelow", "([III)V"⟩, 31)]
theorem lw_r2 : ∀ q ∈ lw_privs_2, lw_okq q := List.forall_mem_cons.mpr ⟨lw_p16, List.forall_mem_cons.mpr ⟨lw_p17, List.forall_mem_cons.mpr ⟨lw_p18, List.forall_mem_cons.mpr ⟨lw_p19, List.forall_mem_cons.mpr ⟨lw_p20, List.forall_mem_cons.mpr ⟨lw_p21, List.forall_mem_cons.mpr ⟨lw_p22, List.forall_mem_cons.mpr ⟨lw_p23, List.forall_mem_cons.mpr ⟨lw_p24, List.forall_mem_cons.mpr ⟨lw_p25, List.forall_mem_cons.mpr ⟨lw_p26, List.forall_mem_cons.mpr ⟨lw_p27, List.forall_mem_cons.mpr ⟨lw_p28, List.forall_mem_cons.mpr ⟨lw_p29, List.forall_mem_cons.mpr ⟨lw_p30, List.forall_mem_cons.mpr ⟨lw_p31, fun _ h => absurd h List.not_mem_nil⟩⟩⟩⟩⟩⟩⟩⟩⟩⟩⟩⟩⟩⟩⟩⟩
theorem lw_p32 : lw_okq (⟨"ShufflingBookModel", "readAll", "()I"⟩, 31) := ⟨⟨by decide +kernel, by decide +kernel⟩, List.mem_of_getElem? (i := 674) (by decide +kernel), List.mem_of_getElem? (i := 816) (by decide +kernel), List.mem_of_getElem? (i := 817) (by decide +kernel)⟩
theorem lw_p33 : lw_okq (⟨"ShufflingBookModel", "item", "()Z"⟩, 31) := ⟨⟨by decide +kernel, by decide +kernel⟩, List.mem_of_getElem? (i := 674) (by decide +kernel), List.mem_of_getElem? (i := 820) (by decide +kernel), List.mem_of_getElem? (i := 821) (by decide +kernel)⟩
theorem lw_p34 : lw_okq (⟨"ShufflingBookModel", "byteAt", "(I)I"⟩, 31) := ⟨⟨by decide +kernel, by decide +kernel⟩, List.mem_of_getElem? (i := 674) (by decide +kernel), List.mem_of_getElem? (i := 824) (by decide +kernel), List.mem_of_getElem? (i := 825) (by decide +kernel)⟩
theorem lw_p35 : lw_okq (⟨"ShufflingBookModel", "figures", "(I)Z"⟩, 31) := ⟨⟨by decide +kernel, by decide +kernel⟩, List.mem_of_getElem? (i := 674) (by decide +kernel), List.mem_of_getElem? (i := 828) (by decide +kernel), List.mem_of_getElem? (i := 829) (by decide +kernel)⟩
theorem lw_p36 : lw_okq (⟨"ShufflingBookModel", "areBelow", "()Z"⟩, 31) := ⟨⟨by decide +kernel, by decide +kernel⟩, List.mem_of_getElem? (i := 674) (by decide +kernel), List.mem_of_getElem? (i := 840) (by decide +kernel), List.mem_of_getElem? (i := 841) (by decide +kernel)⟩
theorem lw_p37 : lw_okq (⟨"ShufflingBookModel", "isLeaf", "(I)Z"⟩, 31) := ⟨⟨by decide +kernel, by decide +kernel⟩, List.mem_of_getElem? (i := 674) (by decide +kernel), List.mem_of_getElem? (i := 848) (by decide +kernel), List.mem_of_getElem? (i := 849) (by decide +kernel)⟩
theorem lw_p38 : lw_okq (⟨"ShufflingBookModel", "layPower", "(J)V"⟩, 31) := ⟨⟨by decide +kernel, by decide +kernel⟩, List.mem_of_getElem? (i := 674) (by decide +kernel), List.mem_of_getElem? (i := 886) (by decide +kernel), List.mem_of_getElem? (i := 887) (by decide +kernel)⟩
theorem lw_p39 : lw_okq (⟨"ShufflingBookModel", "put", "([I[I)V"⟩, 31) := ⟨⟨by decide +kernel, by decide +kernel⟩, List.mem_of_getElem? (i := 674) (by decide +kernel), List.mem_of_getElem? (i := 890) (by decide +kernel), List.mem_of_getElem? (i := 891) (by decide +kernel)⟩
theorem lw_p40 : lw_okq (⟨"ShufflingBookModel", "placeOf", "(I)I"⟩, 31) := ⟨⟨by decide +kernel, by decide +kernel⟩, List.mem_of_getElem? (i := 674) (by decide +kernel), List.mem_of_getElem? (i := 894) (by decide +kernel), List.mem_of_getElem? (i := 895) (by decide +kernel)⟩
theorem lw_p41 : lw_okq (⟨"ShufflingBookModel", "leavesNow", "()J"⟩, 31) := ⟨⟨by decide +kernel, by decide +kernel⟩, List.mem_of_getElem? (i := 674) (by decide +kernel), List.mem_of_getElem? (i := 903) (by decide +kernel), List.mem_of_getElem? (i := 904) (by decide +kernel)⟩
theorem lw_p42 : lw_okq (⟨"ShufflingBookModel", "isAtFirst", "()Z"⟩, 31) := ⟨⟨by decide +kernel, by decide +kernel⟩, List.mem_of_getElem? (i := 674) (by decide +kernel), List.mem_of_getElem? (i := 911) (by decide +kernel), List.mem_of_getElem? (i := 912) (by decide +kernel)⟩
theorem lw_p43 : lw_okq (⟨"ShufflingBookModel", "lesser", "()I"⟩, 31) := ⟨⟨by decide +kernel, by decide +kernel⟩, List.mem_of_getElem? (i := 674) (by decide +kernel), List.mem_of_getElem? (i := 924) (by decide +kernel), List.mem_of_getElem? (i := 925) (by decide +kernel)⟩
theorem lw_p44 : lw_okq (⟨"ShufflingBookModel", "noOrder", "()V"⟩, 31) := ⟨⟨by decide +kernel, by decide +kernel⟩, List.mem_of_getElem? (i := 674) (by decide +kernel), List.mem_of_getElem? (i := 932) (by decide +kernel), List.mem_of_getElem? (i := 933) (by decide +kernel)⟩
theorem lw_p45 : lw_okq (⟨"ShufflingBookModel", "know", "(II)Z"⟩, 31) := ⟨⟨by decide +kernel, by decide +kernel⟩, List.mem_of_getElem? (i := 674) (by decide +kernel), List.mem_of_getElem? (i := 936) (by decide +kernel), List.mem_of_getElem? (i := 937) (by decide +kernel)⟩
theorem lw_p46 : lw_okq (⟨"ShufflingBookModel", "showsBy", "(II)I"⟩, 31) := ⟨⟨by decide +kernel, by decide +kernel⟩, List.mem_of_getElem? (i := 674) (by decide +kernel), List.mem_of_getElem? (i := 945) (by decide +kernel), List.mem_of_getElem? (i := 946) (by decide +kernel)⟩
theorem lw_p47 : lw_okq (⟨"ShufflingBookModel", "isSo", "()Z"⟩, 31) := ⟨⟨by decide +kernel, by decide +kernel⟩, List.mem_of_getElem? (i := 674) (by decide +kernel), List.mem_of_getElem? (i := 965) (by decide +kernel), List.mem_of_getElem? (i := 966) (by decide +kernel)⟩
def lw_privs_3 : List (MethodName × Nat) := [(⟨"ShufflingBookModel", "readAll", "()I"⟩, 31), (⟨"ShufflingBookModel", "item", "()Z"⟩, 31), (⟨"ShufflingBookModel", "byteAt", "(I)I"⟩, 31), (⟨"ShufflingBookModel", "figures", "(I)Z"⟩, 31), (⟨"ShufflingBookModel", "areBelow", "()Z"⟩, 31), (⟨"ShufflingBookModel", "isLeaf", "(I)Z"⟩, 31), (⟨"ShufflingBookModel", "layPower", "(J)V"⟩, 31), (⟨"ShufflingBookModel", "put", "([I[I)V"⟩, 31), (⟨"ShufflingBookModel", "placeOf", "(I)I"⟩, 31), (⟨"ShufflingBookModel", "leavesNow", "()J"⟩, 31), (⟨"ShufflingBookModel", "isAtFirst", "()Z"⟩, 31), (⟨"ShufflingBookModel", "lesser", "()I"⟩, 31), (⟨"ShufflingBookModel", "noOrder", "()V"⟩, 31), (⟨"ShufflingBookModel", "know", "(II)Z"⟩, 31), (⟨"ShufflingBookModel", "showsBy", "(II)I"⟩, 31), (⟨"ShufflingBookModel", "isSo", "()Z"⟩, 31)]
theorem lw_r3 : ∀ q ∈ lw_privs_3, lw_okq q := List.forall_mem_cons.mpr ⟨lw_p32, List.forall_mem_cons.mpr ⟨lw_p33, List.forall_mem_cons.mpr ⟨lw_p34, List.forall_mem_cons.mpr ⟨lw_p35, List.forall_mem_cons.mpr ⟨lw_p36, List.forall_mem_cons.mpr ⟨lw_p37, List.forall_mem_cons.mpr ⟨lw_p38, List.forall_mem_cons.mpr ⟨lw_p39, List.forall_mem_cons.mpr ⟨lw_p40, List.forall_mem_cons.mpr ⟨lw_p41, List.forall_mem_cons.mpr ⟨lw_p42, List.forall_mem_cons.mpr ⟨lw_p43, List.forall_mem_cons.mpr ⟨lw_p44, List.forall_mem_cons.mpr ⟨lw_p45, List.forall_mem_cons.mpr ⟨lw_p46, List.forall_mem_cons.mpr ⟨lw_p47, fun _ h => absurd h List.not_mem_nil⟩⟩⟩⟩⟩⟩⟩⟩⟩⟩⟩⟩⟩⟩⟩⟩
theorem lw_p48 : lw_okq (⟨"ShufflingBookModel", "pleasedBy", "(II)I"⟩, 31) := ⟨⟨by decide +kernel, by decide +kernel⟩, List.mem_of_getElem? (i := 674) (by decide +kernel), List.mem_of_getElem? (i := 987) (by decide +kernel), List.mem_of_getElem? (i := 988) (by decide +kernel)⟩
theorem lw_p49 : lw_okq (⟨"ShufflingBookModel", "copy", "(II)V"⟩, 31) := ⟨⟨by decide +kernel, by decide +kernel⟩, List.mem_of_getElem? (i := 674) (by decide +kernel), List.mem_of_getElem? (i := 995) (by decide +kernel), List.mem_of_getElem? (i := 996) (by decide +kernel)⟩
def lw_privs_4 : List (MethodName × Nat) := [(⟨"ShufflingBookModel", "pleasedBy", "(II)I"⟩, 31), (⟨"ShufflingBookModel", "copy", "(II)V"⟩, 31)]
theorem lw_r4 : ∀ q ∈ lw_privs_4, lw_okq q := List.forall_mem_cons.mpr ⟨lw_p48, List.forall_mem_cons.mpr ⟨lw_p49, fun _ h => absurd h List.not_mem_nil⟩⟩
def lw_privs : List (MethodName × Nat) := lw_privs_1 ++ (lw_privs_2 ++ (lw_privs_3 ++ (lw_privs_4)))
def lw_tbl : List Cond := k2_sels lw_privs ++ tables_1
theorem lw_privs_ok : ∀ q ∈ lw_privs, lw_okq q := by
  show ∀ q ∈ lw_privs_1 ++ (lw_privs_2 ++ (lw_privs_3 ++ (lw_privs_4))), lw_okq q
  exact List.forall_mem_append.mpr ⟨lw_r1, List.forall_mem_append.mpr ⟨lw_r2, List.forall_mem_append.mpr ⟨lw_r3, lw_r4⟩⟩⟩
-- ===== end of PART A; then your names; then what follows =====
end
section
def RX0 : String := "ShufflingBook$Guess"
def TX0 : u_T := fun k => match k with
  | 0 => ("ShufflingBook$Guess", "leaves", "LShufflingBook$Row;", true)
  | 1 => ("ShufflingBook$Guess", "places", "LShufflingBook$Row;", true)
  | 2 => ("ShufflingBook$Guess", "size", "I", false)
  | 3 => ("ShufflingBook$Guess", "bound", "I", false)
  | _ => ("ShufflingBook$Guess", "consistent", "Z", false)
def tyX0 : Nat → FieldType := fun k => match k with
  | 0 => .object "ShufflingBook$Row"
  | 1 => .object "ShufflingBook$Row"
  | 2 => .int
  | 3 => .int
  | _ => .boolean
abbrev wsX00 : List Cond := u_ws RX0 TX0 5
theorem nmX0 : ∀ a, a < 5 → ∀ b, b < 5 → a ≠ b → (TX0 a).2.1 ≠ (TX0 b).2.1 := by decide +kernel
theorem tyX0_ok : ∀ k, k < 5 → parseFieldDescriptor (TX0 k).2.2.1 = some (tyX0 k) := by decide +kernel
abbrev cX0_init : ByteArray := prog_2_method_1_code
def yX0_init : MethodName := ⟨RX0, "<init>", "()V"⟩
abbrev cX0_begin : ByteArray := prog_2_method_2_code
def yX0_begin : MethodName := ⟨RX0, "begin", "(I)V"⟩
abbrev cX0_bind : ByteArray := prog_2_method_3_code
def yX0_bind : MethodName := ⟨RX0, "bind", "(II)V"⟩
abbrev cX0_holds : ByteArray := prog_2_method_4_code
def yX0_holds : MethodName := ⟨RX0, "holds", "()Z"⟩
abbrev cX0_isAllButOne : ByteArray := prog_2_method_5_code
def yX0_isAllButOne : MethodName := ⟨RX0, "isAllButOne", "()Z"⟩
abbrev cX0_leafAt : ByteArray := prog_2_method_6_code
def yX0_leafAt : MethodName := ⟨RX0, "leafAt", "(I)I"⟩
abbrev cX0_fillUp : ByteArray := prog_2_method_7_code
def yX0_fillUp : MethodName := ⟨RX0, "fillUp", "()V"⟩
def RX1 : String := "ShufflingBook$Order"
def TX1 : u_T := fun k => match k with
  | 0 => ("ShufflingBook$Order", "leaves", "LShufflingBook$Row;", true)
  | 1 => ("ShufflingBook$Order", "lifted", "LShufflingBook$Row;", true)
  | _ => ("ShufflingBook$Order", "size", "I", false)
def tyX1 : Nat → FieldType := fun k => match k with
  | 0 => .object "ShufflingBook$Row"
  | 1 => .object "ShufflingBook$Row"
  | _ => .int
abbrev wsX10 : List Cond := u_ws RX1 TX1 3
theorem nmX1 : ∀ a, a < 3 → ∀ b, b < 3 → a ≠ b → (TX1 a).2.1 ≠ (TX1 b).2.1 := by decide +kernel
theorem tyX1_ok : ∀ k, k < 3 → parseFieldDescriptor (TX1 k).2.2.1 = some (tyX1 k) := by decide +kernel
abbrev cX1_init : ByteArray := prog_3_method_1_code
def yX1_init : MethodName := ⟨RX1, "<init>", "()V"⟩
abbrev cX1_number : ByteArray := prog_3_method_2_code
def yX1_number : MethodName := ⟨RX1, "number", "(I)V"⟩
abbrev cX1_leafAt : ByteArray := prog_3_method_3_code
def yX1_leafAt : MethodName := ⟨RX1, "leafAt", "(I)I"⟩
abbrev cX1_placeOf : ByteArray := prog_3_method_4_code
def yX1_placeOf : MethodName := ⟨RX1, "placeOf", "(I)I"⟩
abbrev cX1_swap : ByteArray := prog_3_method_5_code
def yX1_swap : MethodName := ⟨RX1, "swap", "(II)V"⟩
abbrev cX1_copyFrom : ByteArray := prog_3_method_6_code
def yX1_copyFrom : MethodName := ⟨RX1, "copyFrom", "(LShufflingBook$Order;)V"⟩
abbrev cX1_readTop : ByteArray := prog_3_method_7_code
def yX1_readTop : MethodName := ⟨RX1, "readTop", "(III)I"⟩
abbrev cX1_layTop : ByteArray := prog_3_method_8_code
def yX1_layTop : MethodName := ⟨RX1, "layTop", "(I)V"⟩
abbrev cX1_cut : ByteArray := prog_3_method_9_code
def yX1_cut : MethodName := ⟨RX1, "cut", "()V"⟩
def RX2 : String := "ShufflingBook$Pack"
def TX2 : u_T := fun k => match k with
  | 0 => ("ShufflingBook$Pack", "order", "LShufflingBook$Order;", true)
  | 1 => ("ShufflingBook$Pack", "readSoFar", "I", false)
  | _ => ("ShufflingBook$Pack", "readersDone", "I", false)
def tyX2 : Nat → FieldType := fun k => match k with
  | 0 => .object "ShufflingBook$Order"
  | 1 => .int
  | _ => .int
abbrev wsX20 : List Cond := u_ws RX2 TX2 3
theorem nmX2 : ∀ a, a < 3 → ∀ b, b < 3 → a ≠ b → (TX2 a).2.1 ≠ (TX2 b).2.1 := by decide +kernel
theorem tyX2_ok : ∀ k, k < 3 → parseFieldDescriptor (TX2 k).2.2.1 = some (tyX2 k) := by decide +kernel
abbrev cX2_init : ByteArray := prog_4_method_1_code
def yX2_init : MethodName := ⟨RX2, "<init>", "()V"⟩
abbrev cX2_startWith : ByteArray := prog_4_method_2_code
def yX2_startWith : MethodName := ⟨RX2, "startWith", "(LShufflingBook$Order;)V"⟩
abbrev cX2_copyFrom : ByteArray := prog_4_method_3_code
def yX2_copyFrom : MethodName := ⟨RX2, "copyFrom", "(LShufflingBook$Pack;)V"⟩
abbrev cX2_readOne : ByteArray := prog_4_method_4_code
def yX2_readOne : MethodName := ⟨RX2, "readOne", "(LShufflingBook$Told;)I"⟩
abbrev cX2_fall : ByteArray := prog_4_method_5_code
def yX2_fall : MethodName := ⟨RX2, "fall", "(I)V"⟩
def RX3 : String := "ShufflingBook$Readers"
def TX3 : u_T := fun k => match k with
  | 0 => ("ShufflingBook$Readers", "trial", "LShufflingBook$Order;", true)
  | 1 => ("ShufflingBook$Readers", "size", "I", false)
  | 2 => ("ShufflingBook$Readers", "placeAtTurn", "LShufflingBook$Row;", true)
  | 3 => ("ShufflingBook$Readers", "turnAtPlace", "LShufflingBook$Row;", true)
  | 4 => ("ShufflingBook$Readers", "fromAfterFirst", "LShufflingBook$Row;", true)
  | 5 => ("ShufflingBook$Readers", "ring", "LShufflingBook$Row;", true)
  | 6 => ("ShufflingBook$Readers", "ringStart", "LShufflingBook$Row;", true)
  | 7 => ("ShufflingBook$Readers", "ringLength", "LShufflingBook$Row;", true)
  | _ => ("ShufflingBook$Readers", "indexInRing", "LShufflingBook$Row;", true)
def tyX3 : Nat → FieldType := fun k => match k with
  | 0 => .object "ShufflingBook$Order"
  | 1 => .int
  | 2 => .object "ShufflingBook$Row"
  | 3 => .object "ShufflingBook$Row"
  | 4 => .object "ShufflingBook$Row"
  | 5 => .object "ShufflingBook$Row"
  | 6 => .object "ShufflingBook$Row"
  | 7 => .object "ShufflingBook$Row"
  | _ => .object "ShufflingBook$Row"
abbrev wsX30 : List Cond := u_ws RX3 TX3 9
theorem nmX3 : ∀ a, a < 9 → ∀ b, b < 9 → a ≠ b → (TX3 a).2.1 ≠ (TX3 b).2.1 := by decide +kernel
theorem tyX3_ok : ∀ k, k < 9 → parseFieldDescriptor (TX3 k).2.2.1 = some (tyX3 k) := by decide +kernel
abbrev cX3_init : ByteArray := prog_5_method_1_code
def yX3_init : MethodName := ⟨RX3, "<init>", "()V"⟩
abbrev cX3_follow : ByteArray := prog_5_method_2_code
def yX3_follow : MethodName := ⟨RX3, "follow", "(LShufflingBook$Told;)V"⟩
abbrev cX3_readOneReader : ByteArray := prog_5_method_3_code
def yX3_readOneReader : MethodName := ⟨RX3, "readOneReader", "(LShufflingBook$Told;)V"⟩
abbrev cX3_readWithoutFirst : ByteArray := prog_5_method_4_code
def yX3_readWithoutFirst : MethodName := ⟨RX3, "readWithoutFirst", "(LShufflingBook$Told;)V"⟩
abbrev cX3_layRings : ByteArray := prog_5_method_5_code
def yX3_layRings : MethodName := ⟨RX3, "layRings", "()V"⟩
abbrev cX3_layRing : ByteArray := prog_5_method_6_code
def yX3_layRing : MethodName := ⟨RX3, "layRing", "(II)I"⟩
abbrev cX3_placeInRing : ByteArray := prog_5_method_7_code
def yX3_placeInRing : MethodName := ⟨RX3, "placeInRing", "(IJ)I"⟩
abbrev cX3_placeRead : ByteArray := prog_5_method_8_code
def yX3_placeRead : MethodName := ⟨RX3, "placeRead", "(JI)I"⟩
abbrev cX3_placeFoundBy : ByteArray := prog_5_method_9_code
def yX3_placeFoundBy : MethodName := ⟨RX3, "placeFoundBy", "(JI)I"⟩
abbrev cX3_placeAfterFirstReading : ByteArray := prog_5_method_10_code
def yX3_placeAfterFirstReading : MethodName := ⟨RX3, "placeAfterFirstReading", "(JI)I"⟩
abbrev cX3_turnAt : ByteArray := prog_5_method_11_code
def yX3_turnAt : MethodName := ⟨RX3, "turnAt", "(I)I"⟩
abbrev cX3_isNeverRead : ByteArray := prog_5_method_12_code
def yX3_isNeverRead : MethodName := ⟨RX3, "isNeverRead", "(I)Z"⟩
abbrev cX3_isAlwaysRead : ByteArray := prog_5_method_13_code
def yX3_isAlwaysRead : MethodName := ⟨RX3, "isAlwaysRead", "(I)Z"⟩
abbrev cX3_readInRing : ByteArray := prog_5_method_14_code
def yX3_readInRing : MethodName := ⟨RX3, "readInRing", "(I)I"⟩
abbrev cX3_roundsTogether : ByteArray := prog_5_method_15_code
def yX3_roundsTogether : MethodName := ⟨RX3, "roundsTogether", "()I"⟩
abbrev cX3_commonMultiple : ByteArray := prog_5_method_16_code
def yX3_commonMultiple : MethodName := ⟨RX3, "commonMultiple", "(II)I"⟩
def RX4 : String := "ShufflingBook$Row"
def TX4 : u_T := fun k => match k with
  | _ => ("ShufflingBook$Row", "cells", "[I", true)
def tyX4 : Nat → FieldType := fun k => match k with
  | _ => .array .int
abbrev wsX40 : List Cond := u_ws RX4 TX4 1
theorem nmX4 : ∀ a, a < 1 → ∀ b, b < 1 → a ≠ b → (TX4 a).2.1 ≠ (TX4 b).2.1 := by decide +kernel
theorem tyX4_ok : ∀ k, k < 1 → parseFieldDescriptor (TX4 k).2.2.1 = some (tyX4 k) := by decide +kernel
abbrev cX4_init : ByteArray := prog_6_method_1_code
def yX4_init : MethodName := ⟨RX4, "<init>", "(I)V"⟩
abbrev cX4_at : ByteArray := prog_6_method_2_code
def yX4_at : MethodName := ⟨RX4, "at", "(I)I"⟩
abbrev cX4_put : ByteArray := prog_6_method_3_code
def yX4_put : MethodName := ⟨RX4, "put", "(II)V"⟩
abbrev cX4_copyFrom : ByteArray := prog_6_method_4_code
def yX4_copyFrom : MethodName := ⟨RX4, "copyFrom", "(LShufflingBook$Row;)V"⟩
abbrev cX4_fill : ByteArray := prog_6_method_5_code
def yX4_fill : MethodName := ⟨RX4, "fill", "(I)V"⟩
def RX5 : String := "ShufflingBook$Text"
def TX5 : u_T := fun k => match k with
  | 0 => ("ShufflingBook$Text", "bytes", "LShufflingBook$Row;", true)
  | _ => ("ShufflingBook$Text", "length", "I", false)
def tyX5 : Nat → FieldType := fun k => match k with
  | 0 => .object "ShufflingBook$Row"
  | _ => .int
abbrev wsX50 : List Cond := u_ws RX5 TX5 2
theorem nmX5 : ∀ a, a < 2 → ∀ b, b < 2 → a ≠ b → (TX5 a).2.1 ≠ (TX5 b).2.1 := by decide +kernel
theorem tyX5_ok : ∀ k, k < 2 → parseFieldDescriptor (TX5 k).2.2.1 = some (tyX5 k) := by decide +kernel
abbrev cX5_init : ByteArray := prog_7_method_1_code
def yX5_init : MethodName := ⟨RX5, "<init>", "()V"⟩
abbrev cX5_size : ByteArray := prog_7_method_2_code
def yX5_size : MethodName := ⟨RX5, "size", "()I"⟩
abbrev cX5_byteAt : ByteArray := prog_7_method_3_code
def yX5_byteAt : MethodName := ⟨RX5, "byteAt", "(I)I"⟩
abbrev cX5_append : ByteArray := prog_7_method_4_code
def yX5_append : MethodName := ⟨RX5, "append", "(IJ)V"⟩
abbrev cX5_clear : ByteArray := prog_7_method_5_code
def yX5_clear : MethodName := ⟨RX5, "clear", "()I"⟩
abbrev cX5_figuresFrom : ByteArray := prog_7_method_6_code
def yX5_figuresFrom : MethodName := ⟨RX5, "figuresFrom", "(I)I"⟩
abbrev cX5_numberAt : ByteArray := prog_7_method_7_code
def yX5_numberAt : MethodName := ⟨RX5, "numberAt", "(II)I"⟩
abbrev cX5_isFigure : ByteArray := prog_7_method_8_code
def yX5_isFigure : MethodName := ⟨RX5, "isFigure", "(I)Z"⟩
def RX6 : String := "ShufflingBook$Told"
def TX6 : u_T := fun k => match k with
  | 0 => ("ShufflingBook$Told", "leafCount", "I", false)
  | 1 => ("ShufflingBook$Told", "perReader", "I", false)
  | 2 => ("ShufflingBook$Told", "kind", "I", false)
  | 3 => ("ShufflingBook$Told", "reach", "I", false)
  | 4 => ("ShufflingBook$Told", "swapFrom", "LShufflingBook$Row;", true)
  | 5 => ("ShufflingBook$Told", "swapTo", "LShufflingBook$Row;", true)
  | 6 => ("ShufflingBook$Told", "swapCount", "I", false)
  | 7 => ("ShufflingBook$Told", "tale", "LShufflingBook$Row;", true)
  | 8 => ("ShufflingBook$Told", "taleLength", "I", false)
  | _ => ("ShufflingBook$Told", "numbers", "LShufflingBook$Row;", true)
def tyX6 : Nat → FieldType := fun k => match k with
  | 0 => .int
  | 1 => .int
  | 2 => .int
  | 3 => .int
  | 4 => .object "ShufflingBook$Row"
  | 5 => .object "ShufflingBook$Row"
  | 6 => .int
  | 7 => .object "ShufflingBook$Row"
  | 8 => .int
  | _ => .object "ShufflingBook$Row"
abbrev wsX60 : List Cond := u_ws RX6 TX6 10
theorem nmX6 : ∀ a, a < 10 → ∀ b, b < 10 → a ≠ b → (TX6 a).2.1 ≠ (TX6 b).2.1 := by decide +kernel
theorem tyX6_ok : ∀ k, k < 10 → parseFieldDescriptor (TX6 k).2.2.1 = some (tyX6 k) := by decide +kernel
abbrev cX6_init : ByteArray := prog_8_method_1_code
def yX6_init : MethodName := ⟨RX6, "<init>", "()V"⟩
abbrev cX6_tellNothing : ByteArray := prog_8_method_2_code
def yX6_tellNothing : MethodName := ⟨RX6, "tellNothing", "()V"⟩
abbrev cX6_scan : ByteArray := prog_8_method_3_code
def yX6_scan : MethodName := ⟨RX6, "scan", "(LShufflingBook$Text;)I"⟩
abbrev cX6_scanItem : ByteArray := prog_8_method_4_code
def yX6_scanItem : MethodName := ⟨RX6, "scanItem", "(LShufflingBook$Text;I)I"⟩
abbrev cX6_numbersWanted : ByteArray := prog_8_method_5_code
def yX6_numbersWanted : MethodName := ⟨RX6, "numbersWanted", "(I)I"⟩
abbrev cX6_takeIn : ByteArray := prog_8_method_6_code
def yX6_takeIn : MethodName := ⟨RX6, "takeIn", "(III)Z"⟩
abbrev cX6_takeLeafCount : ByteArray := prog_8_method_7_code
def yX6_takeLeafCount : MethodName := ⟨RX6, "takeLeafCount", "(I)Z"⟩
abbrev cX6_takePerReader : ByteArray := prog_8_method_8_code
def yX6_takePerReader : MethodName := ⟨RX6, "takePerReader", "(I)Z"⟩
abbrev cX6_takeLaw : ByteArray := prog_8_method_9_code
def yX6_takeLaw : MethodName := ⟨RX6, "takeLaw", "(II)Z"⟩
abbrev cX6_takeSwap : ByteArray := prog_8_method_10_code
def yX6_takeSwap : MethodName := ⟨RX6, "takeSwap", "(II)Z"⟩
abbrev cX6_takeTaleLeaf : ByteArray := prog_8_method_11_code
def yX6_takeTaleLeaf : MethodName := ⟨RX6, "takeTaleLeaf", "(I)Z"⟩
abbrev cX6_fitsItsLeaves : ByteArray := prog_8_method_12_code
def yX6_fitsItsLeaves : MethodName := ⟨RX6, "fitsItsLeaves", "()Z"⟩
abbrev cX6_orderFirst : ByteArray := prog_8_method_13_code
def yX6_orderFirst : MethodName := ⟨RX6, "orderFirst", "(LShufflingBook$Order;)V"⟩
abbrev cX6_toldTurns : ByteArray := prog_8_method_14_code
def yX6_toldTurns : MethodName := ⟨RX6, "toldTurns", "()I"⟩
abbrev cX6_taleLeaf : ByteArray := prog_8_method_15_code
def yX6_taleLeaf : MethodName := ⟨RX6, "taleLeaf", "(I)I"⟩
def RX7 : String := "ShufflingBook"
def TX7 : u_T := fun k => match k with
  | 0 => ("ShufflingBook", "text", "LShufflingBook$Text;", true)
  | 1 => ("ShufflingBook", "draft", "LShufflingBook$Told;", false)
  | 2 => ("ShufflingBook", "laid", "LShufflingBook$Told;", false)
  | 3 => ("ShufflingBook", "firstOrder", "LShufflingBook$Order;", true)
  | 4 => ("ShufflingBook", "trial", "LShufflingBook$Order;", true)
  | 5 => ("ShufflingBook", "readers", "LShufflingBook$Readers;", true)
  | 6 => ("ShufflingBook", "guess", "LShufflingBook$Guess;", true)
  | 7 => ("ShufflingBook", "seenPlace", "LShufflingBook$Row;", true)
  | 8 => ("ShufflingBook", "seenLeaf", "LShufflingBook$Row;", true)
  | 9 => ("ShufflingBook", "seenCount", "I", false)
  | 10 => ("ShufflingBook", "pack", "LShufflingBook$Pack;", true)
  | 11 => ("ShufflingBook", "olderKept", "LShufflingBook$Pack;", true)
  | 12 => ("ShufflingBook", "newerKept", "LShufflingBook$Pack;", true)
  | _ => ("ShufflingBook", "keptCount", "I", false)
def tyX7 : Nat → FieldType := fun k => match k with
  | 0 => .object "ShufflingBook$Text"
  | 1 => .object "ShufflingBook$Told"
  | 2 => .object "ShufflingBook$Told"
  | 3 => .object "ShufflingBook$Order"
  | 4 => .object "ShufflingBook$Order"
  | 5 => .object "ShufflingBook$Readers"
  | 6 => .object "ShufflingBook$Guess"
  | 7 => .object "ShufflingBook$Row"
  | 8 => .object "ShufflingBook$Row"
  | 9 => .int
  | 10 => .object "ShufflingBook$Pack"
  | 11 => .object "ShufflingBook$Pack"
  | 12 => .object "ShufflingBook$Pack"
  | _ => .int
abbrev wsX70 : List Cond := u_ws RX7 TX7 14
theorem nmX7 : ∀ a, a < 14 → ∀ b, b < 14 → a ≠ b → (TX7 a).2.1 ≠ (TX7 b).2.1 := by decide +kernel
theorem tyX7_ok : ∀ k, k < 14 → parseFieldDescriptor (TX7 k).2.2.1 = some (tyX7 k) := by decide +kernel
abbrev cX7_init : ByteArray := prog_1_method_1_code
def yX7_init : MethodName := ⟨RX7, "<init>", "()V"⟩
abbrev cX7_write : ByteArray := prog_1_method_2_code
def yX7_write : MethodName := ⟨RX7, "write", "(IJ)I"⟩
abbrev cX7_wipe : ByteArray := prog_1_method_3_code
def yX7_wipe : MethodName := ⟨RX7, "wipe", "()I"⟩
abbrev cX7_fault : ByteArray := prog_1_method_4_code
def yX7_fault : MethodName := ⟨RX7, "fault", "()I"⟩
abbrev cX7_lay : ByteArray := prog_1_method_5_code
def yX7_lay : MethodName := ⟨RX7, "lay", "()I"⟩
abbrev cX7_leaf : ByteArray := prog_1_method_6_code
def yX7_leaf : MethodName := ⟨RX7, "leaf", "(II)I"⟩
abbrev cX7_where : ByteArray := prog_1_method_7_code
def yX7_where : MethodName := ⟨RX7, "where", "(I)I"⟩
abbrev cX7_read : ByteArray := prog_1_method_8_code
def yX7_read : MethodName := ⟨RX7, "read", "()I"⟩
abbrev cX7_finish : ByteArray := prog_1_method_9_code
def yX7_finish : MethodName := ⟨RX7, "finish", "()I"⟩
abbrev cX7_change : ByteArray := prog_1_method_10_code
def yX7_change : MethodName := ⟨RX7, "change", "(II)I"⟩
abbrev cX7_drop : ByteArray := prog_1_method_11_code
def yX7_drop : MethodName := ⟨RX7, "drop", "(I)I"⟩
abbrev cX7_has : ByteArray := prog_1_method_12_code
def yX7_has : MethodName := ⟨RX7, "has", "(JI)I"⟩
abbrev cX7_leaves : ByteArray := prog_1_method_13_code
def yX7_leaves : MethodName := ⟨RX7, "leaves", "(J)J"⟩
abbrev cX7_period : ByteArray := prog_1_method_14_code
def yX7_period : MethodName := ⟨RX7, "period", "()I"⟩
abbrev cX7_ever : ByteArray := prog_1_method_15_code
def yX7_ever : MethodName := ⟨RX7, "ever", "(I)J"⟩
abbrev cX7_right : ByteArray := prog_1_method_16_code
def yX7_right : MethodName := ⟨RX7, "right", "(J)I"⟩
abbrev cX7_order : ByteArray := prog_1_method_17_code
def yX7_order : MethodName := ⟨RX7, "order", "(JI)I"⟩
abbrev cX7_shows : ByteArray := prog_1_method_18_code
def yX7_shows : MethodName := ⟨RX7, "shows", "(II)I"⟩
abbrev cX7_quickest : ByteArray := prog_1_method_19_code
def yX7_quickest : MethodName := ⟨RX7, "quickest", "(I)I"⟩
abbrev cX7_seen : ByteArray := prog_1_method_20_code
def yX7_seen : MethodName := ⟨RX7, "seen", "(JII)I"⟩
abbrev cX7_forget : ByteArray := prog_1_method_21_code
def yX7_forget : MethodName := ⟨RX7, "forget", "()I"⟩
abbrev cX7_so : ByteArray := prog_1_method_22_code
def yX7_so : MethodName := ⟨RX7, "so", "()I"⟩
abbrev cX7_sure : ByteArray := prog_1_method_23_code
def yX7_sure : MethodName := ⟨RX7, "sure", "(I)I"⟩
abbrev cX7_lacks : ByteArray := prog_1_method_24_code
def yX7_lacks : MethodName := ⟨RX7, "lacks", "(II)I"⟩
abbrev cX7_notice : ByteArray := prog_1_method_25_code
def yX7_notice : MethodName := ⟨RX7, "notice", "(III)I"⟩
abbrev cX7_pleased : ByteArray := prog_1_method_26_code
def yX7_pleased : MethodName := ⟨RX7, "pleased", "(II)I"⟩
abbrev cX7_keep : ByteArray := prog_1_method_27_code
def yX7_keep : MethodName := ⟨RX7, "keep", "()I"⟩
abbrev cX7_back : ByteArray := prog_1_method_28_code
def yX7_back : MethodName := ⟨RX7, "back", "()I"⟩
abbrev cX7_count : ByteArray := prog_1_method_29_code
def yX7_count : MethodName := ⟨RX7, "count", "(I)I"⟩
abbrev cX7_startAnew : ByteArray := prog_1_method_30_code
def yX7_startAnew : MethodName := ⟨RX7, "startAnew", "()V"⟩
abbrev cX7_keptPack : ByteArray := prog_1_method_31_code
def yX7_keptPack : MethodName := ⟨RX7, "keptPack", "(I)LShufflingBook$Pack;"⟩
abbrev cX7_isBelowCount : ByteArray := prog_1_method_32_code
def yX7_isBelowCount : MethodName := ⟨RX7, "isBelowCount", "(I)Z"⟩
abbrev cX7_isTurn : ByteArray := prog_1_method_33_code
def yX7_isTurn : MethodName := ⟨RX7, "isTurn", "(I)Z"⟩
abbrev cX7_leafHad : ByteArray := prog_1_method_34_code
def yX7_leafHad : MethodName := ⟨RX7, "leafHad", "(JI)I"⟩
abbrev cX7_leavesHad : ByteArray := prog_1_method_35_code
def yX7_leavesHad : MethodName := ⟨RX7, "leavesHad", "(J)J"⟩
abbrev cX7_isReadBy : ByteArray := prog_1_method_36_code
def yX7_isReadBy : MethodName := ⟨RX7, "isReadBy", "(II)Z"⟩
abbrev cX7_guessFromSeen : ByteArray := prog_1_method_37_code
def yX7_guessFromSeen : MethodName := ⟨RX7, "guessFromSeen", "()V"⟩
abbrev cX7_readingsToShowAll : ByteArray := prog_1_method_38_code
def yX7_readingsToShowAll : MethodName := ⟨RX7, "readingsToShowAll", "(II)I"⟩
abbrev cX7_rightWhenLaidAt : ByteArray := prog_1_method_39_code
def yX7_rightWhenLaidAt : MethodName := ⟨RX7, "rightWhenLaidAt", "(II)I"⟩
abbrev cX7_placeBeforeLaying : ByteArray := prog_1_method_40_code
def yX7_placeBeforeLaying : MethodName := ⟨RX7, "placeBeforeLaying", "(II)I"⟩
abbrev cX7_isReader : ByteArray := prog_1_method_41_code
def yX7_isReader : MethodName := ⟨RX7, "isReader", "(J)Z"⟩
abbrev cX7_within : ByteArray := prog_1_method_42_code
def yX7_within : MethodName := ⟨RX7, "within", "(III)Z"⟩
abbrev cX7_bit : ByteArray := prog_1_method_43_code
def yX7_bit : MethodName := ⟨RX7, "bit", "(I)J"⟩
def RX8 : String := "ShufflingBookModel"
def TX8 : u_T := fun k => match k with
  | 0 => ("ShufflingBookModel", "length", "I", false)
  | 1 => ("ShufflingBookModel", "text", "[I", true)
  | 2 => ("ShufflingBookModel", "leafMany", "[I", true)
  | 3 => ("ShufflingBookModel", "reads", "[I", true)
  | 4 => ("ShufflingBookModel", "kind", "[I", true)
  | 5 => ("ShufflingBookModel", "above", "[I", true)
  | 6 => ("ShufflingBookModel", "swapMany", "[I", true)
  | 7 => ("ShufflingBookModel", "swaps", "[I", true)
  | 8 => ("ShufflingBookModel", "taleMany", "[I", true)
  | 9 => ("ShufflingBookModel", "tale", "[I", true)
  | 10 => ("ShufflingBookModel", "first", "[I", true)
  | 11 => ("ShufflingBookModel", "pack", "[I", true)
  | 12 => ("ShufflingBookModel", "readMany", "[I", true)
  | 13 => ("ShufflingBookModel", "doneMany", "[I", true)
  | 14 => ("ShufflingBookModel", "keptMany", "I", false)
  | 15 => ("ShufflingBookModel", "seenMany", "I", false)
  | 16 => ("ShufflingBookModel", "seenBy", "[J", true)
  | 17 => ("ShufflingBookModel", "seenAs", "[I", true)
  | 18 => ("ShufflingBookModel", "seenLeaf", "[I", true)
  | 19 => ("ShufflingBookModel", "place", "I", false)
  | 20 => ("ShufflingBookModel", "told", "[I", true)
  | 21 => ("ShufflingBookModel", "half", "[I", true)
  | 22 => ("ShufflingBookModel", "from", "[I", true)
  | 23 => ("ShufflingBookModel", "ends", "[I", true)
  | 24 => ("ShufflingBookModel", "power", "[I", true)
  | 25 => ("ShufflingBookModel", "square", "[I", true)
  | 26 => ("ShufflingBookModel", "spare", "[I", true)
  | 27 => ("ShufflingBookModel", "leafAt", "[I", true)
  | 28 => ("ShufflingBookModel", "placeAt", "[I", true)
  | 29 => ("ShufflingBookModel", "knownMany", "I", false)
  | _ => ("ShufflingBookModel", "tried", "[I", true)
def tyX8 : Nat → FieldType := fun k => match k with
  | 0 => .int
  | 1 => .array .int
  | 2 => .array .int
  | 3 => .array .int
  | 4 => .array .int
  | 5 => .array .int
  | 6 => .array .int
  | 7 => .array .int
  | 8 => .array .int
  | 9 => .array .int
  | 10 => .array .int
  | 11 => .array .int
  | 12 => .array .int
  | 13 => .array .int
  | 14 => .int
  | 15 => .int
  | 16 => .array .long
  | 17 => .array .int
  | 18 => .array .int
  | 19 => .int
  | 20 => .array .int
  | 21 => .array .int
  | 22 => .array .int
  | 23 => .array .int
  | 24 => .array .int
  | 25 => .array .int
  | 26 => .array .int
  | 27 => .array .int
  | 28 => .array .int
  | 29 => .int
  | _ => .array .int
abbrev wsX80 : List Cond := u_ws RX8 TX8 31
theorem nmX8 : ∀ a, a < 31 → ∀ b, b < 31 → a ≠ b → (TX8 a).2.1 ≠ (TX8 b).2.1 := by decide +kernel
theorem tyX8_ok : ∀ k, k < 31 → parseFieldDescriptor (TX8 k).2.2.1 = some (tyX8 k) := by decide +kernel
abbrev cX8_init : ByteArray := prog_10_method_1_code
def yX8_init : MethodName := ⟨RX8, "<init>", "()V"⟩
abbrev cX8_in : ByteArray := prog_10_method_2_code
def yX8_in : MethodName := ⟨RX8, "in", "(JJJ)Z"⟩
abbrev cX8_noBook : ByteArray := prog_10_method_3_code
def yX8_noBook : MethodName := ⟨RX8, "noBook", "(I)V"⟩
abbrev cX8_write : ByteArray := prog_10_method_4_code
def yX8_write : MethodName := ⟨RX8, "write", "(IJ)I"⟩
abbrev cX8_wipe : ByteArray := prog_10_method_5_code
def yX8_wipe : MethodName := ⟨RX8, "wipe", "()I"⟩
abbrev cX8_byteAt : ByteArray := prog_10_method_6_code
def yX8_byteAt : MethodName := ⟨RX8, "byteAt", "(I)I"⟩
abbrev cX8_figures : ByteArray := prog_10_method_7_code
def yX8_figures : MethodName := ⟨RX8, "figures", "(I)Z"⟩
abbrev cX8_item : ByteArray := prog_10_method_8_code
def yX8_item : MethodName := ⟨RX8, "item", "()Z"⟩
abbrev cX8_readAll : ByteArray := prog_10_method_9_code
def yX8_readAll : MethodName := ⟨RX8, "readAll", "()I"⟩
abbrev cX8_fault : ByteArray := prog_10_method_10_code
def yX8_fault : MethodName := ⟨RX8, "fault", "()I"⟩
abbrev cX8_areBelow : ByteArray := prog_10_method_11_code
def yX8_areBelow : MethodName := ⟨RX8, "areBelow", "()Z"⟩
abbrev cX8_layBook : ByteArray := prog_10_method_12_code
def yX8_layBook : MethodName := ⟨RX8, "layBook", "()V"⟩
abbrev cX8_lay : ByteArray := prog_10_method_13_code
def yX8_lay : MethodName := ⟨RX8, "lay", "()I"⟩
abbrev cX8_isLeaf : ByteArray := prog_10_method_14_code
def yX8_isLeaf : MethodName := ⟨RX8, "isLeaf", "(I)Z"⟩
abbrev cX8_layBelow : ByteArray := prog_10_method_15_code
def yX8_layBelow : MethodName := ⟨RX8, "layBelow", "([III)V"⟩
abbrev cX8_cut : ByteArray := prog_10_method_16_code
def yX8_cut : MethodName := ⟨RX8, "cut", "([II)V"⟩
abbrev cX8_goRead : ByteArray := prog_10_method_17_code
def yX8_goRead : MethodName := ⟨RX8, "goRead", "([IIIII)V"⟩
abbrev cX8_leaf : ByteArray := prog_10_method_18_code
def yX8_leaf : MethodName := ⟨RX8, "leaf", "(II)I"⟩
abbrev cX8_where : ByteArray := prog_10_method_19_code
def yX8_where : MethodName := ⟨RX8, "where", "(I)I"⟩
abbrev cX8_read : ByteArray := prog_10_method_20_code
def yX8_read : MethodName := ⟨RX8, "read", "()I"⟩
abbrev cX8_finish : ByteArray := prog_10_method_21_code
def yX8_finish : MethodName := ⟨RX8, "finish", "()I"⟩
abbrev cX8_change : ByteArray := prog_10_method_22_code
def yX8_change : MethodName := ⟨RX8, "change", "(II)I"⟩
abbrev cX8_drop : ByteArray := prog_10_method_23_code
def yX8_drop : MethodName := ⟨RX8, "drop", "(I)I"⟩
abbrev cX8_layOne : ByteArray := prog_10_method_24_code
def yX8_layOne : MethodName := ⟨RX8, "layOne", "()V"⟩
abbrev cX8_put : ByteArray := prog_10_method_25_code
def yX8_put : MethodName := ⟨RX8, "put", "([I[I)V"⟩
abbrev cX8_layPower : ByteArray := prog_10_method_26_code
def yX8_layPower : MethodName := ⟨RX8, "layPower", "(J)V"⟩
abbrev cX8_placeOf : ByteArray := prog_10_method_27_code
def yX8_placeOf : MethodName := ⟨RX8, "placeOf", "(I)I"⟩
abbrev cX8_isReader : ByteArray := prog_10_method_28_code
def yX8_isReader : MethodName := ⟨RX8, "isReader", "(J)Z"⟩
abbrev cX8_has : ByteArray := prog_10_method_29_code
def yX8_has : MethodName := ⟨RX8, "has", "(JI)I"⟩
abbrev cX8_leavesNow : ByteArray := prog_10_method_30_code
def yX8_leavesNow : MethodName := ⟨RX8, "leavesNow", "()J"⟩
abbrev cX8_leaves : ByteArray := prog_10_method_31_code
def yX8_leaves : MethodName := ⟨RX8, "leaves", "(J)J"⟩
abbrev cX8_isAtFirst : ByteArray := prog_10_method_32_code
def yX8_isAtFirst : MethodName := ⟨RX8, "isAtFirst", "()Z"⟩
abbrev cX8_period : ByteArray := prog_10_method_33_code
def yX8_period : MethodName := ⟨RX8, "period", "()I"⟩
abbrev cX8_ever : ByteArray := prog_10_method_34_code
def yX8_ever : MethodName := ⟨RX8, "ever", "(I)J"⟩
abbrev cX8_lesser : ByteArray := prog_10_method_35_code
def yX8_lesser : MethodName := ⟨RX8, "lesser", "()I"⟩
abbrev cX8_right : ByteArray := prog_10_method_36_code
def yX8_right : MethodName := ⟨RX8, "right", "(J)I"⟩
abbrev cX8_noOrder : ByteArray := prog_10_method_37_code
def yX8_noOrder : MethodName := ⟨RX8, "noOrder", "()V"⟩
abbrev cX8_know : ByteArray := prog_10_method_38_code
def yX8_know : MethodName := ⟨RX8, "know", "(II)Z"⟩
abbrev cX8_order : ByteArray := prog_10_method_39_code
def yX8_order : MethodName := ⟨RX8, "order", "(JI)I"⟩
abbrev cX8_showsBy : ByteArray := prog_10_method_40_code
def yX8_showsBy : MethodName := ⟨RX8, "showsBy", "(II)I"⟩
abbrev cX8_shows : ByteArray := prog_10_method_41_code
def yX8_shows : MethodName := ⟨RX8, "shows", "(II)I"⟩
abbrev cX8_quickest : ByteArray := prog_10_method_42_code
def yX8_quickest : MethodName := ⟨RX8, "quickest", "(I)I"⟩
abbrev cX8_seen : ByteArray := prog_10_method_43_code
def yX8_seen : MethodName := ⟨RX8, "seen", "(JII)I"⟩
abbrev cX8_forget : ByteArray := prog_10_method_44_code
def yX8_forget : MethodName := ⟨RX8, "forget", "()I"⟩
abbrev cX8_isSo : ByteArray := prog_10_method_45_code
def yX8_isSo : MethodName := ⟨RX8, "isSo", "()Z"⟩
abbrev cX8_so : ByteArray := prog_10_method_46_code
def yX8_so : MethodName := ⟨RX8, "so", "()I"⟩
abbrev cX8_sure : ByteArray := prog_10_method_47_code
def yX8_sure : MethodName := ⟨RX8, "sure", "(I)I"⟩
abbrev cX8_lacks : ByteArray := prog_10_method_48_code
def yX8_lacks : MethodName := ⟨RX8, "lacks", "(II)I"⟩
abbrev cX8_notice : ByteArray := prog_10_method_49_code
def yX8_notice : MethodName := ⟨RX8, "notice", "(III)I"⟩
abbrev cX8_pleasedBy : ByteArray := prog_10_method_50_code
def yX8_pleasedBy : MethodName := ⟨RX8, "pleasedBy", "(II)I"⟩
abbrev cX8_pleased : ByteArray := prog_10_method_51_code
def yX8_pleased : MethodName := ⟨RX8, "pleased", "(II)I"⟩
abbrev cX8_copy : ByteArray := prog_10_method_52_code
def yX8_copy : MethodName := ⟨RX8, "copy", "(II)V"⟩
abbrev cX8_keep : ByteArray := prog_10_method_53_code
def yX8_keep : MethodName := ⟨RX8, "keep", "()I"⟩
abbrev cX8_back : ByteArray := prog_10_method_54_code
def yX8_back : MethodName := ⟨RX8, "back", "()I"⟩
abbrev cX8_count : ByteArray := prog_10_method_55_code
def yX8_count : MethodName := ⟨RX8, "count", "(I)I"⟩
def RJ9 : String := "java/lang/Math"
def TJ9 : u_T := fun k => match k with
  | _ => ("", "", "", false)
def tyJ9 : Nat → FieldType := fun k => match k with
  | _ => .int
abbrev cJ9_floorMod_f86c9 : ByteArray := prog_11_method_52_code
def yJ9_floorMod_f86c9 : MethodName := ⟨RJ9, "floorMod", "(JJ)J"⟩
abbrev cJ9_max_7cf53 : ByteArray := prog_11_method_65_code
def yJ9_max_7cf53 : MethodName := ⟨RJ9, "max", "(II)I"⟩
abbrev cJ9_min_7cf53 : ByteArray := prog_11_method_69_code
def yJ9_min_7cf53 : MethodName := ⟨RJ9, "min", "(II)I"⟩
def RL : String := "ShufflingBookLaw"
abbrev cL_law : ByteArray := code
def yL_law : MethodName := ⟨RL, "law", "([I)Z"⟩
abbrev vwCl : List vw_C := [(RX0, TX0, 5), (RX1, TX1, 3), (RX2, TX2, 3), (RX3, TX3, 9), (RX4, TX4, 1), (RX5, TX5, 2), (RX6, TX6, 10), (RX7, TX7, 14), (RX8, TX8, 31)]
end
section
theorem dX0_init_0 : decode cX0_init 0 = .ok (.aload_n 0, 1) := by decide +kernel
theorem dX0_init_1 : decode cX0_init 1 = .ok (.invokespecial 3, 3) := by decide +kernel
theorem dX0_init_4 : decode cX0_init 4 = .ok (.aload_n 0, 1) := by decide +kernel
theorem dX0_init_5 : decode cX0_init 5 = .ok (.new 9, 3) := by decide +kernel
theorem dX0_init_8 : decode cX0_init 8 = .ok (.dup, 1) := by decide +kernel
theorem dX0_init_9 : decode cX0_init 9 = .ok (.bipush 40, 2) := by decide +kernel
theorem dX0_init_11 : decode cX0_init 11 = .ok (.invokespecial 11, 3) := by decide +kernel
theorem dX0_init_14 : decode cX0_init 14 = .ok (.putfield 14, 3) := by decide +kernel
theorem dX0_init_17 : decode cX0_init 17 = .ok (.aload_n 0, 1) := by decide +kernel
theorem dX0_init_18 : decode cX0_init 18 = .ok (.new 9, 3) := by decide +kernel
theorem dX0_init_21 : decode cX0_init 21 = .ok (.dup, 1) := by decide +kernel
theorem dX0_init_22 : decode cX0_init 22 = .ok (.bipush 40, 2) := by decide +kernel
theorem dX0_init_24 : decode cX0_init 24 = .ok (.invokespecial 11, 3) := by decide +kernel
theorem dX0_init_27 : decode cX0_init 27 = .ok (.putfield 20, 3) := by decide +kernel
theorem dX0_init_30 : decode cX0_init 30 = .ok (.return_, 1) := by decide +kernel
theorem dX0_begin_0 : decode cX0_begin 0 = .ok (.aload_n 0, 1) := by decide +kernel
theorem dX0_begin_1 : decode cX0_begin 1 = .ok (.iload_n 1, 1) := by decide +kernel
theorem dX0_begin_2 : decode cX0_begin 2 = .ok (.putfield 23, 3) := by decide +kernel
theorem dX0_begin_5 : decode cX0_begin 5 = .ok (.aload_n 0, 1) := by decide +kernel
theorem dX0_begin_6 : decode cX0_begin 6 = .ok (.iconst 0, 1) := by decide +kernel
theorem dX0_begin_7 : decode cX0_begin 7 = .ok (.putfield 27, 3) := by decide +kernel
theorem dX0_begin_10 : decode cX0_begin 10 = .ok (.aload_n 0, 1) := by decide +kernel
theorem dX0_begin_11 : decode cX0_begin 11 = .ok (.iconst 1, 1) := by decide +kernel
theorem dX0_begin_12 : decode cX0_begin 12 = .ok (.putfield 30, 3) := by decide +kernel
theorem dX0_begin_15 : decode cX0_begin 15 = .ok (.aload_n 0, 1) := by decide +kernel
theorem dX0_begin_16 : decode cX0_begin 16 = .ok (.getfield 14, 3) := by decide +kernel
theorem dX0_begin_19 : decode cX0_begin 19 = .ok (.bipush (-4), 2) := by decide +kernel
theorem dX0_begin_21 : decode cX0_begin 21 = .ok (.invokevirtual 34, 3) := by decide +kernel
theorem dX0_begin_24 : decode cX0_begin 24 = .ok (.aload_n 0, 1) := by decide +kernel
theorem dX0_begin_25 : decode cX0_begin 25 = .ok (.getfield 20, 3) := by decide +kernel
theorem dX0_begin_28 : decode cX0_begin 28 = .ok (.bipush (-4), 2) := by decide +kernel
theorem dX0_begin_30 : decode cX0_begin 30 = .ok (.invokevirtual 34, 3) := by decide +kernel
theorem dX0_begin_33 : decode cX0_begin 33 = .ok (.return_, 1) := by decide +kernel
theorem dX0_bind_0 : decode cX0_bind 0 = .ok (.aload_n 0, 1) := by decide +kernel
theorem dX0_bind_1 : decode cX0_bind 1 = .ok (.getfield 14, 3) := by decide +kernel
theorem dX0_bind_4 : decode cX0_bind 4 = .ok (.iload_n 1, 1) := by decide +kernel
theorem dX0_bind_5 : decode cX0_bind 5 = .ok (.invokevirtual 37, 3) := by decide +kernel
theorem dX0_bind_8 : decode cX0_bind 8 = .ok (.istore_n 3, 1) := by decide +kernel
theorem dX0_bind_9 : decode cX0_bind 9 = .ok (.aload_n 0, 1) := by decide +kernel
theorem dX0_bind_10 : decode cX0_bind 10 = .ok (.getfield 20, 3) := by decide +kernel
theorem dX0_bind_13 : decode cX0_bind 13 = .ok (.iload_n 2, 1) := by decide +kernel
theorem dX0_bind_14 : decode cX0_bind 14 = .ok (.invokevirtual 37, 3) := by decide +kernel
theorem dX0_bind_17 : decode cX0_bind 17 = .ok (.istore 4, 2) := by decide +kernel
theorem dX0_bind_19 : decode cX0_bind 19 = .ok (.iload_n 3, 1) := by decide +kernel
theorem dX0_bind_20 : decode cX0_bind 20 = .ok (.bipush (-4), 2) := by decide +kernel
theorem dX0_bind_22 : decode cX0_bind 22 = .ok (.if_icmp .ne 41, 3) := by decide +kernel
theorem dX0_bind_25 : decode cX0_bind 25 = .ok (.iload 4, 2) := by decide +kernel
theorem dX0_bind_27 : decode cX0_bind 27 = .ok (.bipush (-4), 2) := by decide +kernel
theorem dX0_bind_29 : decode cX0_bind 29 = .ok (.if_icmp .ne 34, 3) := by decide +kernel
theorem dX0_bind_32 : decode cX0_bind 32 = .ok (.aload_n 0, 1) := by decide +kernel
theorem dX0_bind_33 : decode cX0_bind 33 = .ok (.getfield 14, 3) := by decide +kernel
theorem dX0_bind_36 : decode cX0_bind 36 = .ok (.iload_n 1, 1) := by decide +kernel
theorem dX0_bind_37 : decode cX0_bind 37 = .ok (.iload_n 2, 1) := by decide +kernel
theorem dX0_bind_38 : decode cX0_bind 38 = .ok (.invokevirtual 41, 3) := by decide +kernel
theorem dX0_bind_41 : decode cX0_bind 41 = .ok (.aload_n 0, 1) := by decide +kernel
theorem dX0_bind_42 : decode cX0_bind 42 = .ok (.getfield 20, 3) := by decide +kernel
theorem dX0_bind_45 : decode cX0_bind 45 = .ok (.iload_n 2, 1) := by decide +kernel
theorem dX0_bind_46 : decode cX0_bind 46 = .ok (.iload_n 1, 1) := by decide +kernel
theorem dX0_bind_47 : decode cX0_bind 47 = .ok (.invokevirtual 41, 3) := by decide +kernel
theorem dX0_bind_50 : decode cX0_bind 50 = .ok (.aload_n 0, 1) := by decide +kernel
theorem dX0_bind_51 : decode cX0_bind 51 = .ok (.dup, 1) := by decide +kernel
theorem dX0_bind_52 : decode cX0_bind 52 = .ok (.getfield 27, 3) := by decide +kernel
theorem dX0_bind_55 : decode cX0_bind 55 = .ok (.iconst 1, 1) := by decide +kernel
theorem dX0_bind_56 : decode cX0_bind 56 = .ok (.iadd, 1) := by decide +kernel
theorem dX0_bind_57 : decode cX0_bind 57 = .ok (.putfield 27, 3) := by decide +kernel
theorem dX0_bind_60 : decode cX0_bind 60 = .ok (.goto 13, 3) := by decide +kernel
theorem dX0_bind_63 : decode cX0_bind 63 = .ok (.iload_n 3, 1) := by decide +kernel
theorem dX0_bind_64 : decode cX0_bind 64 = .ok (.iload_n 2, 1) := by decide +kernel
theorem dX0_bind_65 : decode cX0_bind 65 = .ok (.if_icmp .eq 8, 3) := by decide +kernel
theorem dX0_bind_68 : decode cX0_bind 68 = .ok (.aload_n 0, 1) := by decide +kernel
theorem dX0_bind_69 : decode cX0_bind 69 = .ok (.iconst 0, 1) := by decide +kernel
theorem dX0_bind_70 : decode cX0_bind 70 = .ok (.putfield 30, 3) := by decide +kernel
theorem dX0_bind_73 : decode cX0_bind 73 = .ok (.return_, 1) := by decide +kernel
theorem dX0_holds_0 : decode cX0_holds 0 = .ok (.aload_n 0, 1) := by decide +kernel
theorem dX0_holds_1 : decode cX0_holds 1 = .ok (.getfield 30, 3) := by decide +kernel
theorem dX0_holds_4 : decode cX0_holds 4 = .ok (.ireturn, 1) := by decide +kernel
theorem dX0_isAllButOne_0 : decode cX0_isAllButOne 0 = .ok (.aload_n 0, 1) := by decide +kernel
theorem dX0_isAllButOne_1 : decode cX0_isAllButOne 1 = .ok (.getfield 27, 3) := by decide +kernel
theorem dX0_isAllButOne_4 : decode cX0_isAllButOne 4 = .ok (.aload_n 0, 1) := by decide +kernel
theorem dX0_isAllButOne_5 : decode cX0_isAllButOne 5 = .ok (.getfield 23, 3) := by decide +kernel
theorem dX0_isAllButOne_8 : decode cX0_isAllButOne 8 = .ok (.iconst 1, 1) := by decide +kernel
theorem dX0_isAllButOne_9 : decode cX0_isAllButOne 9 = .ok (.isub, 1) := by decide +kernel
theorem dX0_isAllButOne_10 : decode cX0_isAllButOne 10 = .ok (.if_icmp .ne 7, 3) := by decide +kernel
theorem dX0_isAllButOne_13 : decode cX0_isAllButOne 13 = .ok (.iconst 1, 1) := by decide +kernel
theorem dX0_isAllButOne_14 : decode cX0_isAllButOne 14 = .ok (.goto 4, 3) := by decide +kernel
theorem dX0_isAllButOne_17 : decode cX0_isAllButOne 17 = .ok (.iconst 0, 1) := by decide +kernel
theorem dX0_isAllButOne_18 : decode cX0_isAllButOne 18 = .ok (.ireturn, 1) := by decide +kernel
theorem dX0_leafAt_0 : decode cX0_leafAt 0 = .ok (.aload_n 0, 1) := by decide +kernel
theorem dX0_leafAt_1 : decode cX0_leafAt 1 = .ok (.getfield 14, 3) := by decide +kernel
theorem dX0_leafAt_4 : decode cX0_leafAt 4 = .ok (.iload_n 1, 1) := by decide +kernel
theorem dX0_leafAt_5 : decode cX0_leafAt 5 = .ok (.invokevirtual 37, 3) := by decide +kernel
theorem dX0_leafAt_8 : decode cX0_leafAt 8 = .ok (.ireturn, 1) := by decide +kernel
theorem dX0_fillUp_0 : decode cX0_fillUp 0 = .ok (.iconst 0, 1) := by decide +kernel
theorem dX0_fillUp_1 : decode cX0_fillUp 1 = .ok (.istore_n 1, 1) := by decide +kernel
theorem dX0_fillUp_2 : decode cX0_fillUp 2 = .ok (.iconst 0, 1) := by decide +kernel
theorem dX0_fillUp_3 : decode cX0_fillUp 3 = .ok (.istore_n 2, 1) := by decide +kernel
theorem dX0_fillUp_4 : decode cX0_fillUp 4 = .ok (.iload_n 2, 1) := by decide +kernel
theorem dX0_fillUp_5 : decode cX0_fillUp 5 = .ok (.aload_n 0, 1) := by decide +kernel
theorem dX0_fillUp_6 : decode cX0_fillUp 6 = .ok (.getfield 23, 3) := by decide +kernel
theorem dX0_fillUp_9 : decode cX0_fillUp 9 = .ok (.if_icmp .ge 55, 3) := by decide +kernel
theorem dX0_fillUp_12 : decode cX0_fillUp 12 = .ok (.aload_n 0, 1) := by decide +kernel
theorem dX0_fillUp_13 : decode cX0_fillUp 13 = .ok (.getfield 20, 3) := by decide +kernel
theorem dX0_fillUp_16 : decode cX0_fillUp 16 = .ok (.iload_n 2, 1) := by decide +kernel
theorem dX0_fillUp_17 : decode cX0_fillUp 17 = .ok (.invokevirtual 37, 3) := by decide +kernel
theorem dX0_fillUp_20 : decode cX0_fillUp 20 = .ok (.bipush (-4), 2) := by decide +kernel
theorem dX0_fillUp_22 : decode cX0_fillUp 22 = .ok (.if_icmp .ne 36, 3) := by decide +kernel
theorem dX0_fillUp_25 : decode cX0_fillUp 25 = .ok (.iload_n 1, 1) := by decide +kernel
theorem dX0_fillUp_26 : decode cX0_fillUp 26 = .ok (.aload_n 0, 1) := by decide +kernel
theorem dX0_fillUp_27 : decode cX0_fillUp 27 = .ok (.getfield 23, 3) := by decide +kernel
theorem dX0_fillUp_30 : decode cX0_fillUp 30 = .ok (.if_icmp .ge 22, 3) := by decide +kernel
theorem dX0_fillUp_33 : decode cX0_fillUp 33 = .ok (.aload_n 0, 1) := by decide +kernel
theorem dX0_fillUp_34 : decode cX0_fillUp 34 = .ok (.getfield 14, 3) := by decide +kernel
theorem dX0_fillUp_37 : decode cX0_fillUp 37 = .ok (.iload_n 1, 1) := by decide +kernel
theorem dX0_fillUp_38 : decode cX0_fillUp 38 = .ok (.invokevirtual 37, 3) := by decide +kernel
theorem dX0_fillUp_41 : decode cX0_fillUp 41 = .ok (.bipush (-4), 2) := by decide +kernel
theorem dX0_fillUp_43 : decode cX0_fillUp 43 = .ok (.if_icmp .eq 9, 3) := by decide +kernel
theorem dX0_fillUp_46 : decode cX0_fillUp 46 = .ok (.iinc 1 1, 3) := by decide +kernel
theorem dX0_fillUp_49 : decode cX0_fillUp 49 = .ok (.goto (-24), 3) := by decide +kernel
theorem dX0_fillUp_52 : decode cX0_fillUp 52 = .ok (.aload_n 0, 1) := by decide +kernel
theorem dX0_fillUp_53 : decode cX0_fillUp 53 = .ok (.iload_n 1, 1) := by decide +kernel
theorem dX0_fillUp_54 : decode cX0_fillUp 54 = .ok (.iload_n 2, 1) := by decide +kernel
theorem dX0_fillUp_55 : decode cX0_fillUp 55 = .ok (.invokevirtual 45, 3) := by decide +kernel
theorem dX0_fillUp_58 : decode cX0_fillUp 58 = .ok (.iinc 2 1, 3) := by decide +kernel
theorem dX0_fillUp_61 : decode cX0_fillUp 61 = .ok (.goto (-57), 3) := by decide +kernel
theorem dX0_fillUp_64 : decode cX0_fillUp 64 = .ok (.return_, 1) := by decide +kernel
theorem dX1_init_0 : decode cX1_init 0 = .ok (.aload_n 0, 1) := by decide +kernel
theorem dX1_init_1 : decode cX1_init 1 = .ok (.invokespecial 3, 3) := by decide +kernel
theorem dX1_init_4 : decode cX1_init 4 = .ok (.aload_n 0, 1) := by decide +kernel
theorem dX1_init_5 : decode cX1_init 5 = .ok (.new 9, 3) := by decide +kernel
theorem dX1_init_8 : decode cX1_init 8 = .ok (.dup, 1) := by decide +kernel
theorem dX1_init_9 : decode cX1_init 9 = .ok (.bipush 40, 2) := by decide +kernel
theorem dX1_init_11 : decode cX1_init 11 = .ok (.invokespecial 11, 3) := by decide +kernel
theorem dX1_init_14 : decode cX1_init 14 = .ok (.putfield 14, 3) := by decide +kernel
theorem dX1_init_17 : decode cX1_init 17 = .ok (.aload_n 0, 1) := by decide +kernel
theorem dX1_init_18 : decode cX1_init 18 = .ok (.new 9, 3) := by decide +kernel
theorem dX1_init_21 : decode cX1_init 21 = .ok (.dup, 1) := by decide +kernel
theorem dX1_init_22 : decode cX1_init 22 = .ok (.bipush 40, 2) := by decide +kernel
theorem dX1_init_24 : decode cX1_init 24 = .ok (.invokespecial 11, 3) := by decide +kernel
theorem dX1_init_27 : decode cX1_init 27 = .ok (.putfield 20, 3) := by decide +kernel
theorem dX1_init_30 : decode cX1_init 30 = .ok (.return_, 1) := by decide +kernel
theorem dX1_number_0 : decode cX1_number 0 = .ok (.aload_n 0, 1) := by decide +kernel
theorem dX1_number_1 : decode cX1_number 1 = .ok (.iload_n 1, 1) := by decide +kernel
theorem dX1_number_2 : decode cX1_number 2 = .ok (.putfield 23, 3) := by decide +kernel
theorem dX1_number_5 : decode cX1_number 5 = .ok (.iconst 0, 1) := by decide +kernel
theorem dX1_number_6 : decode cX1_number 6 = .ok (.istore_n 2, 1) := by decide +kernel
theorem dX1_number_7 : decode cX1_number 7 = .ok (.iload_n 2, 1) := by decide +kernel
theorem dX1_number_8 : decode cX1_number 8 = .ok (.iload_n 1, 1) := by decide +kernel
theorem dX1_number_9 : decode cX1_number 9 = .ok (.if_icmp .ge 18, 3) := by decide +kernel
theorem dX1_number_12 : decode cX1_number 12 = .ok (.aload_n 0, 1) := by decide +kernel
theorem dX1_number_13 : decode cX1_number 13 = .ok (.getfield 14, 3) := by decide +kernel
theorem dX1_number_16 : decode cX1_number 16 = .ok (.iload_n 2, 1) := by decide +kernel
theorem dX1_number_17 : decode cX1_number 17 = .ok (.iload_n 2, 1) := by decide +kernel
theorem dX1_number_18 : decode cX1_number 18 = .ok (.invokevirtual 27, 3) := by decide +kernel
theorem dX1_number_21 : decode cX1_number 21 = .ok (.iinc 2 1, 3) := by decide +kernel
theorem dX1_number_24 : decode cX1_number 24 = .ok (.goto (-17), 3) := by decide +kernel
theorem dX1_number_27 : decode cX1_number 27 = .ok (.return_, 1) := by decide +kernel
theorem dX1_leafAt_0 : decode cX1_leafAt 0 = .ok (.aload_n 0, 1) := by decide +kernel
theorem dX1_leafAt_1 : decode cX1_leafAt 1 = .ok (.getfield 14, 3) := by decide +kernel
theorem dX1_leafAt_4 : decode cX1_leafAt 4 = .ok (.iload_n 1, 1) := by decide +kernel
theorem dX1_leafAt_5 : decode cX1_leafAt 5 = .ok (.invokevirtual 31, 3) := by decide +kernel
theorem dX1_leafAt_8 : decode cX1_leafAt 8 = .ok (.ireturn, 1) := by decide +kernel
theorem dX1_placeOf_0 : decode cX1_placeOf 0 = .ok (.iconst 0, 1) := by decide +kernel
theorem dX1_placeOf_1 : decode cX1_placeOf 1 = .ok (.istore_n 2, 1) := by decide +kernel
theorem dX1_placeOf_2 : decode cX1_placeOf 2 = .ok (.iload_n 2, 1) := by decide +kernel
theorem dX1_placeOf_3 : decode cX1_placeOf 3 = .ok (.aload_n 0, 1) := by decide +kernel
theorem dX1_placeOf_4 : decode cX1_placeOf 4 = .ok (.getfield 23, 3) := by decide +kernel
theorem dX1_placeOf_7 : decode cX1_placeOf 7 = .ok (.if_icmp .ge 23, 3) := by decide +kernel
theorem dX1_placeOf_10 : decode cX1_placeOf 10 = .ok (.aload_n 0, 1) := by decide +kernel
theorem dX1_placeOf_11 : decode cX1_placeOf 11 = .ok (.getfield 14, 3) := by decide +kernel
theorem dX1_placeOf_14 : decode cX1_placeOf 14 = .ok (.iload_n 2, 1) := by decide +kernel
theorem dX1_placeOf_15 : decode cX1_placeOf 15 = .ok (.invokevirtual 31, 3) := by decide +kernel
theorem dX1_placeOf_18 : decode cX1_placeOf 18 = .ok (.iload_n 1, 1) := by decide +kernel
theorem dX1_placeOf_19 : decode cX1_placeOf 19 = .ok (.if_icmp .ne 5, 3) := by decide +kernel
theorem dX1_placeOf_22 : decode cX1_placeOf 22 = .ok (.iload_n 2, 1) := by decide +kernel
theorem dX1_placeOf_23 : decode cX1_placeOf 23 = .ok (.ireturn, 1) := by decide +kernel
theorem dX1_placeOf_24 : decode cX1_placeOf 24 = .ok (.iinc 2 1, 3) := by decide +kernel
theorem dX1_placeOf_27 : decode cX1_placeOf 27 = .ok (.goto (-25), 3) := by decide +kernel
theorem dX1_placeOf_30 : decode cX1_placeOf 30 = .ok (.bipush (-4), 2) := by decide +kernel
theorem dX1_placeOf_32 : decode cX1_placeOf 32 = .ok (.ireturn, 1) := by decide +kernel
theorem dX1_swap_0 : decode cX1_swap 0 = .ok (.aload_n 0, 1) := by decide +kernel
theorem dX1_swap_1 : decode cX1_swap 1 = .ok (.getfield 14, 3) := by decide +kernel
theorem dX1_swap_4 : decode cX1_swap 4 = .ok (.iload_n 1, 1) := by decide +kernel
theorem dX1_swap_5 : decode cX1_swap 5 = .ok (.invokevirtual 31, 3) := by decide +kernel
theorem dX1_swap_8 : decode cX1_swap 8 = .ok (.istore_n 3, 1) := by decide +kernel
theorem dX1_swap_9 : decode cX1_swap 9 = .ok (.aload_n 0, 1) := by decide +kernel
theorem dX1_swap_10 : decode cX1_swap 10 = .ok (.getfield 14, 3) := by decide +kernel
theorem dX1_swap_13 : decode cX1_swap 13 = .ok (.iload_n 1, 1) := by decide +kernel
theorem dX1_swap_14 : decode cX1_swap 14 = .ok (.aload_n 0, 1) := by decide +kernel
theorem dX1_swap_15 : decode cX1_swap 15 = .ok (.getfield 14, 3) := by decide +kernel
theorem dX1_swap_18 : decode cX1_swap 18 = .ok (.iload_n 2, 1) := by decide +kernel
theorem dX1_swap_19 : decode cX1_swap 19 = .ok (.invokevirtual 31, 3) := by decide +kernel
theorem dX1_swap_22 : decode cX1_swap 22 = .ok (.invokevirtual 27, 3) := by decide +kernel
theorem dX1_swap_25 : decode cX1_swap 25 = .ok (.aload_n 0, 1) := by decide +kernel
theorem dX1_swap_26 : decode cX1_swap 26 = .ok (.getfield 14, 3) := by decide +kernel
theorem dX1_swap_29 : decode cX1_swap 29 = .ok (.iload_n 2, 1) := by decide +kernel
theorem dX1_swap_30 : decode cX1_swap 30 = .ok (.iload_n 3, 1) := by decide +kernel
theorem dX1_swap_31 : decode cX1_swap 31 = .ok (.invokevirtual 27, 3) := by decide +kernel
theorem dX1_swap_34 : decode cX1_swap 34 = .ok (.return_, 1) := by decide +kernel
theorem dX1_copyFrom_0 : decode cX1_copyFrom 0 = .ok (.aload_n 0, 1) := by decide +kernel
theorem dX1_copyFrom_1 : decode cX1_copyFrom 1 = .ok (.aload_n 1, 1) := by decide +kernel
theorem dX1_copyFrom_2 : decode cX1_copyFrom 2 = .ok (.getfield 23, 3) := by decide +kernel
theorem dX1_copyFrom_5 : decode cX1_copyFrom 5 = .ok (.putfield 23, 3) := by decide +kernel
theorem dX1_copyFrom_8 : decode cX1_copyFrom 8 = .ok (.aload_n 0, 1) := by decide +kernel
theorem dX1_copyFrom_9 : decode cX1_copyFrom 9 = .ok (.getfield 14, 3) := by decide +kernel
theorem dX1_copyFrom_12 : decode cX1_copyFrom 12 = .ok (.aload_n 1, 1) := by decide +kernel
theorem dX1_copyFrom_13 : decode cX1_copyFrom 13 = .ok (.getfield 14, 3) := by decide +kernel
theorem dX1_copyFrom_16 : decode cX1_copyFrom 16 = .ok (.invokevirtual 35, 3) := by decide +kernel
theorem dX1_copyFrom_19 : decode cX1_copyFrom 19 = .ok (.return_, 1) := by decide +kernel
theorem dX1_readTop_0 : decode cX1_readTop 0 = .ok (.aload_n 0, 1) := by decide +kernel
theorem dX1_readTop_1 : decode cX1_readTop 1 = .ok (.getfield 14, 3) := by decide +kernel
theorem dX1_readTop_4 : decode cX1_readTop 4 = .ok (.iconst 0, 1) := by decide +kernel
theorem dX1_readTop_5 : decode cX1_readTop 5 = .ok (.invokevirtual 31, 3) := by decide +kernel
theorem dX1_readTop_8 : decode cX1_readTop 8 = .ok (.istore 4, 2) := by decide +kernel
theorem dX1_readTop_10 : decode cX1_readTop 10 = .ok (.iload_n 1, 1) := by decide +kernel
theorem dX1_readTop_11 : decode cX1_readTop 11 = .ok (.iconst 3, 1) := by decide +kernel
theorem dX1_readTop_12 : decode cX1_readTop 12 = .ok (.if_icmp .ne 10, 3) := by decide +kernel
theorem dX1_readTop_15 : decode cX1_readTop 15 = .ok (.aload_n 0, 1) := by decide +kernel
theorem dX1_readTop_16 : decode cX1_readTop 16 = .ok (.invokevirtual 39, 3) := by decide +kernel
theorem dX1_readTop_19 : decode cX1_readTop 19 = .ok (.goto 46, 3) := by decide +kernel
theorem dX1_readTop_22 : decode cX1_readTop 22 = .ok (.iload_n 1, 1) := by decide +kernel
theorem dX1_readTop_23 : decode cX1_readTop 23 = .ok (.iconst 1, 1) := by decide +kernel
theorem dX1_readTop_24 : decode cX1_readTop 24 = .ok (.if_icmp .eq 14, 3) := by decide +kernel
theorem dX1_readTop_27 : decode cX1_readTop 27 = .ok (.iload_n 1, 1) := by decide +kernel
theorem dX1_readTop_28 : decode cX1_readTop 28 = .ok (.iconst 2, 1) := by decide +kernel
theorem dX1_readTop_29 : decode cX1_readTop 29 = .ok (.if_icmp .ne 22, 3) := by decide +kernel
theorem dX1_readTop_32 : decode cX1_readTop 32 = .ok (.iload_n 3, 1) := by decide +kernel
theorem dX1_readTop_33 : decode cX1_readTop 33 = .ok (.iconst 2, 1) := by decide +kernel
theorem dX1_readTop_34 : decode cX1_readTop 34 = .ok (.irem, 1) := by decide +kernel
theorem dX1_readTop_35 : decode cX1_readTop 35 = .ok (.ifCond .eq 16, 3) := by decide +kernel
theorem dX1_readTop_38 : decode cX1_readTop 38 = .ok (.aload_n 0, 1) := by decide +kernel
theorem dX1_readTop_39 : decode cX1_readTop 39 = .ok (.aload_n 0, 1) := by decide +kernel
theorem dX1_readTop_40 : decode cX1_readTop 40 = .ok (.getfield 23, 3) := by decide +kernel
theorem dX1_readTop_43 : decode cX1_readTop 43 = .ok (.iconst 1, 1) := by decide +kernel
theorem dX1_readTop_44 : decode cX1_readTop 44 = .ok (.isub, 1) := by decide +kernel
theorem dX1_readTop_45 : decode cX1_readTop 45 = .ok (.invokevirtual 42, 3) := by decide +kernel
theorem dX1_readTop_48 : decode cX1_readTop 48 = .ok (.goto 17, 3) := by decide +kernel
theorem dX1_readTop_51 : decode cX1_readTop 51 = .ok (.aload_n 0, 1) := by decide +kernel
theorem dX1_readTop_52 : decode cX1_readTop 52 = .ok (.iload_n 2, 1) := by decide +kernel
theorem dX1_readTop_53 : decode cX1_readTop 53 = .ok (.aload_n 0, 1) := by decide +kernel
theorem dX1_readTop_54 : decode cX1_readTop 54 = .ok (.getfield 23, 3) := by decide +kernel
theorem dX1_readTop_57 : decode cX1_readTop 57 = .ok (.iconst 1, 1) := by decide +kernel
theorem dX1_readTop_58 : decode cX1_readTop 58 = .ok (.isub, 1) := by decide +kernel
theorem dX1_readTop_59 : decode cX1_readTop 59 = .ok (.invokestatic 45, 3) := by decide +kernel
theorem dX1_readTop_62 : decode cX1_readTop 62 = .ok (.invokevirtual 42, 3) := by decide +kernel
theorem dX1_readTop_65 : decode cX1_readTop 65 = .ok (.iload 4, 2) := by decide +kernel
theorem dX1_readTop_67 : decode cX1_readTop 67 = .ok (.ireturn, 1) := by decide +kernel
theorem dX1_layTop_0 : decode cX1_layTop 0 = .ok (.aload_n 0, 1) := by decide +kernel
theorem dX1_layTop_1 : decode cX1_layTop 1 = .ok (.getfield 14, 3) := by decide +kernel
theorem dX1_layTop_4 : decode cX1_layTop 4 = .ok (.iconst 0, 1) := by decide +kernel
theorem dX1_layTop_5 : decode cX1_layTop 5 = .ok (.invokevirtual 31, 3) := by decide +kernel
theorem dX1_layTop_8 : decode cX1_layTop 8 = .ok (.istore_n 2, 1) := by decide +kernel
theorem dX1_layTop_9 : decode cX1_layTop 9 = .ok (.iconst 0, 1) := by decide +kernel
theorem dX1_layTop_10 : decode cX1_layTop 10 = .ok (.istore_n 3, 1) := by decide +kernel
theorem dX1_layTop_11 : decode cX1_layTop 11 = .ok (.iload_n 3, 1) := by decide +kernel
theorem dX1_layTop_12 : decode cX1_layTop 12 = .ok (.iload_n 1, 1) := by decide +kernel
theorem dX1_layTop_13 : decode cX1_layTop 13 = .ok (.if_icmp .ge 27, 3) := by decide +kernel
theorem dX1_layTop_16 : decode cX1_layTop 16 = .ok (.aload_n 0, 1) := by decide +kernel
theorem dX1_layTop_17 : decode cX1_layTop 17 = .ok (.getfield 14, 3) := by decide +kernel
theorem dX1_layTop_20 : decode cX1_layTop 20 = .ok (.iload_n 3, 1) := by decide +kernel
theorem dX1_layTop_21 : decode cX1_layTop 21 = .ok (.aload_n 0, 1) := by decide +kernel
theorem dX1_layTop_22 : decode cX1_layTop 22 = .ok (.getfield 14, 3) := by decide +kernel
theorem dX1_layTop_25 : decode cX1_layTop 25 = .ok (.iload_n 3, 1) := by decide +kernel
theorem dX1_layTop_26 : decode cX1_layTop 26 = .ok (.iconst 1, 1) := by decide +kernel
theorem dX1_layTop_27 : decode cX1_layTop 27 = .ok (.iadd, 1) := by decide +kernel
theorem dX1_layTop_28 : decode cX1_layTop 28 = .ok (.invokevirtual 31, 3) := by decide +kernel
theorem dX1_layTop_31 : decode cX1_layTop 31 = .ok (.invokevirtual 27, 3) := by decide +kernel
theorem dX1_layTop_34 : decode cX1_layTop 34 = .ok (.iinc 3 1, 3) := by decide +kernel
theorem dX1_layTop_37 : decode cX1_layTop 37 = .ok (.goto (-26), 3) := by decide +kernel
theorem dX1_layTop_40 : decode cX1_layTop 40 = .ok (.aload_n 0, 1) := by decide +kernel
theorem dX1_layTop_41 : decode cX1_layTop 41 = .ok (.getfield 14, 3) := by decide +kernel
theorem dX1_layTop_44 : decode cX1_layTop 44 = .ok (.iload_n 1, 1) := by decide +kernel
theorem dX1_layTop_45 : decode cX1_layTop 45 = .ok (.iload_n 2, 1) := by decide +kernel
theorem dX1_layTop_46 : decode cX1_layTop 46 = .ok (.invokevirtual 27, 3) := by decide +kernel
theorem dX1_layTop_49 : decode cX1_layTop 49 = .ok (.return_, 1) := by decide +kernel
theorem dX1_cut_0 : decode cX1_cut 0 = .ok (.aload_n 0, 1) := by decide +kernel
theorem dX1_cut_1 : decode cX1_cut 1 = .ok (.getfield 23, 3) := by decide +kernel
theorem dX1_cut_4 : decode cX1_cut 4 = .ok (.iconst 2, 1) := by decide +kernel
theorem dX1_cut_5 : decode cX1_cut 5 = .ok (.idiv, 1) := by decide +kernel
theorem dX1_cut_6 : decode cX1_cut 6 = .ok (.istore_n 1, 1) := by decide +kernel
theorem dX1_cut_7 : decode cX1_cut 7 = .ok (.aload_n 0, 1) := by decide +kernel
theorem dX1_cut_8 : decode cX1_cut 8 = .ok (.getfield 20, 3) := by decide +kernel
theorem dX1_cut_11 : decode cX1_cut 11 = .ok (.aload_n 0, 1) := by decide +kernel
theorem dX1_cut_12 : decode cX1_cut 12 = .ok (.getfield 14, 3) := by decide +kernel
theorem dX1_cut_15 : decode cX1_cut 15 = .ok (.invokevirtual 35, 3) := by decide +kernel
theorem dX1_cut_18 : decode cX1_cut 18 = .ok (.iconst 0, 1) := by decide +kernel
theorem dX1_cut_19 : decode cX1_cut 19 = .ok (.istore_n 2, 1) := by decide +kernel
theorem dX1_cut_20 : decode cX1_cut 20 = .ok (.iload_n 2, 1) := by decide +kernel
theorem dX1_cut_21 : decode cX1_cut 21 = .ok (.aload_n 0, 1) := by decide +kernel
theorem dX1_cut_22 : decode cX1_cut 22 = .ok (.getfield 23, 3) := by decide +kernel
theorem dX1_cut_25 : decode cX1_cut 25 = .ok (.if_icmp .ge 46, 3) := by decide +kernel
theorem dX1_cut_28 : decode cX1_cut 28 = .ok (.iload_n 2, 1) := by decide +kernel
theorem dX1_cut_29 : decode cX1_cut 29 = .ok (.iload_n 1, 1) := by decide +kernel
theorem dX1_cut_30 : decode cX1_cut 30 = .ok (.iadd, 1) := by decide +kernel
theorem dX1_cut_31 : decode cX1_cut 31 = .ok (.istore_n 3, 1) := by decide +kernel
theorem dX1_cut_32 : decode cX1_cut 32 = .ok (.aload_n 0, 1) := by decide +kernel
theorem dX1_cut_33 : decode cX1_cut 33 = .ok (.getfield 14, 3) := by decide +kernel
theorem dX1_cut_36 : decode cX1_cut 36 = .ok (.iload_n 2, 1) := by decide +kernel
theorem dX1_cut_37 : decode cX1_cut 37 = .ok (.aload_n 0, 1) := by decide +kernel
theorem dX1_cut_38 : decode cX1_cut 38 = .ok (.getfield 20, 3) := by decide +kernel
theorem dX1_cut_41 : decode cX1_cut 41 = .ok (.iload_n 3, 1) := by decide +kernel
theorem dX1_cut_42 : decode cX1_cut 42 = .ok (.aload_n 0, 1) := by decide +kernel
theorem dX1_cut_43 : decode cX1_cut 43 = .ok (.getfield 23, 3) := by decide +kernel
theorem dX1_cut_46 : decode cX1_cut 46 = .ok (.if_icmp .ge 7, 3) := by decide +kernel
theorem dX1_cut_49 : decode cX1_cut 49 = .ok (.iload_n 3, 1) := by decide +kernel
theorem dX1_cut_50 : decode cX1_cut 50 = .ok (.goto 9, 3) := by decide +kernel
theorem dX1_cut_53 : decode cX1_cut 53 = .ok (.iload_n 3, 1) := by decide +kernel
theorem dX1_cut_54 : decode cX1_cut 54 = .ok (.aload_n 0, 1) := by decide +kernel
theorem dX1_cut_55 : decode cX1_cut 55 = .ok (.getfield 23, 3) := by decide +kernel
theorem dX1_cut_58 : decode cX1_cut 58 = .ok (.isub, 1) := by decide +kernel
theorem dX1_cut_59 : decode cX1_cut 59 = .ok (.invokevirtual 31, 3) := by decide +kernel
theorem dX1_cut_62 : decode cX1_cut 62 = .ok (.invokevirtual 27, 3) := by decide +kernel
theorem dX1_cut_65 : decode cX1_cut 65 = .ok (.iinc 2 1, 3) := by decide +kernel
theorem dX1_cut_68 : decode cX1_cut 68 = .ok (.goto (-48), 3) := by decide +kernel
theorem dX1_cut_71 : decode cX1_cut 71 = .ok (.return_, 1) := by decide +kernel
theorem dX2_init_0 : decode cX2_init 0 = .ok (.aload_n 0, 1) := by decide +kernel
theorem dX2_init_1 : decode cX2_init 1 = .ok (.invokespecial 1, 3) := by decide +kernel
theorem dX2_init_4 : decode cX2_init 4 = .ok (.aload_n 0, 1) := by decide +kernel
theorem dX2_init_5 : decode cX2_init 5 = .ok (.new 7, 3) := by decide +kernel
theorem dX2_init_8 : decode cX2_init 8 = .ok (.dup, 1) := by decide +kernel
theorem dX2_init_9 : decode cX2_init 9 = .ok (.invokespecial 9, 3) := by decide +kernel
theorem dX2_init_12 : decode cX2_init 12 = .ok (.putfield 10, 3) := by decide +kernel
theorem dX2_init_15 : decode cX2_init 15 = .ok (.return_, 1) := by decide +kernel
theorem dX2_startWith_0 : decode cX2_startWith 0 = .ok (.aload_n 0, 1) := by decide +kernel
theorem dX2_startWith_1 : decode cX2_startWith 1 = .ok (.getfield 10, 3) := by decide +kernel
theorem dX2_startWith_4 : decode cX2_startWith 4 = .ok (.aload_n 1, 1) := by decide +kernel
theorem dX2_startWith_5 : decode cX2_startWith 5 = .ok (.invokevirtual 16, 3) := by decide +kernel
theorem dX2_startWith_8 : decode cX2_startWith 8 = .ok (.aload_n 0, 1) := by decide +kernel
theorem dX2_startWith_9 : decode cX2_startWith 9 = .ok (.iconst 0, 1) := by decide +kernel
theorem dX2_startWith_10 : decode cX2_startWith 10 = .ok (.putfield 20, 3) := by decide +kernel
theorem dX2_startWith_13 : decode cX2_startWith 13 = .ok (.aload_n 0, 1) := by decide +kernel
theorem dX2_startWith_14 : decode cX2_startWith 14 = .ok (.iconst 0, 1) := by decide +kernel
theorem dX2_startWith_15 : decode cX2_startWith 15 = .ok (.putfield 24, 3) := by decide +kernel
theorem dX2_startWith_18 : decode cX2_startWith 18 = .ok (.return_, 1) := by decide +kernel
theorem dX2_copyFrom_0 : decode cX2_copyFrom 0 = .ok (.aload_n 0, 1) := by decide +kernel
theorem dX2_copyFrom_1 : decode cX2_copyFrom 1 = .ok (.getfield 10, 3) := by decide +kernel
theorem dX2_copyFrom_4 : decode cX2_copyFrom 4 = .ok (.aload_n 1, 1) := by decide +kernel
theorem dX2_copyFrom_5 : decode cX2_copyFrom 5 = .ok (.getfield 10, 3) := by decide +kernel
theorem dX2_copyFrom_8 : decode cX2_copyFrom 8 = .ok (.invokevirtual 16, 3) := by decide +kernel
theorem dX2_copyFrom_11 : decode cX2_copyFrom 11 = .ok (.aload_n 0, 1) := by decide +kernel
theorem dX2_copyFrom_12 : decode cX2_copyFrom 12 = .ok (.aload_n 1, 1) := by decide +kernel
theorem dX2_copyFrom_13 : decode cX2_copyFrom 13 = .ok (.getfield 20, 3) := by decide +kernel
theorem dX2_copyFrom_16 : decode cX2_copyFrom 16 = .ok (.putfield 20, 3) := by decide +kernel
theorem dX2_copyFrom_19 : decode cX2_copyFrom 19 = .ok (.aload_n 0, 1) := by decide +kernel
theorem dX2_copyFrom_20 : decode cX2_copyFrom 20 = .ok (.aload_n 1, 1) := by decide +kernel
theorem dX2_copyFrom_21 : decode cX2_copyFrom 21 = .ok (.getfield 24, 3) := by decide +kernel
theorem dX2_copyFrom_24 : decode cX2_copyFrom 24 = .ok (.putfield 24, 3) := by decide +kernel
theorem dX2_copyFrom_27 : decode cX2_copyFrom 27 = .ok (.return_, 1) := by decide +kernel
theorem dX2_readOne_0 : decode cX2_readOne 0 = .ok (.aload_n 0, 1) := by decide +kernel
theorem dX2_readOne_1 : decode cX2_readOne 1 = .ok (.getfield 10, 3) := by decide +kernel
theorem dX2_readOne_4 : decode cX2_readOne 4 = .ok (.aload_n 1, 1) := by decide +kernel
theorem dX2_readOne_5 : decode cX2_readOne 5 = .ok (.getfield 27, 3) := by decide +kernel
theorem dX2_readOne_8 : decode cX2_readOne 8 = .ok (.aload_n 1, 1) := by decide +kernel
theorem dX2_readOne_9 : decode cX2_readOne 9 = .ok (.getfield 32, 3) := by decide +kernel
theorem dX2_readOne_12 : decode cX2_readOne 12 = .ok (.aload_n 0, 1) := by decide +kernel
theorem dX2_readOne_13 : decode cX2_readOne 13 = .ok (.getfield 20, 3) := by decide +kernel
theorem dX2_readOne_16 : decode cX2_readOne 16 = .ok (.invokevirtual 35, 3) := by decide +kernel
theorem dX2_readOne_19 : decode cX2_readOne 19 = .ok (.istore_n 2, 1) := by decide +kernel
theorem dX2_readOne_20 : decode cX2_readOne 20 = .ok (.aload_n 0, 1) := by decide +kernel
theorem dX2_readOne_21 : decode cX2_readOne 21 = .ok (.dup, 1) := by decide +kernel
theorem dX2_readOne_22 : decode cX2_readOne 22 = .ok (.getfield 20, 3) := by decide +kernel
theorem dX2_readOne_25 : decode cX2_readOne 25 = .ok (.iconst 1, 1) := by decide +kernel
theorem dX2_readOne_26 : decode cX2_readOne 26 = .ok (.iadd, 1) := by decide +kernel
theorem dX2_readOne_27 : decode cX2_readOne 27 = .ok (.putfield 20, 3) := by decide +kernel
theorem dX2_readOne_30 : decode cX2_readOne 30 = .ok (.aload_n 0, 1) := by decide +kernel
theorem dX2_readOne_31 : decode cX2_readOne 31 = .ok (.getfield 20, 3) := by decide +kernel
theorem dX2_readOne_34 : decode cX2_readOne 34 = .ok (.aload_n 1, 1) := by decide +kernel
theorem dX2_readOne_35 : decode cX2_readOne 35 = .ok (.getfield 39, 3) := by decide +kernel
theorem dX2_readOne_38 : decode cX2_readOne 38 = .ok (.if_icmp .lt 18, 3) := by decide +kernel
theorem dX2_readOne_41 : decode cX2_readOne 41 = .ok (.aload_n 0, 1) := by decide +kernel
theorem dX2_readOne_42 : decode cX2_readOne 42 = .ok (.iconst 0, 1) := by decide +kernel
theorem dX2_readOne_43 : decode cX2_readOne 43 = .ok (.putfield 20, 3) := by decide +kernel
theorem dX2_readOne_46 : decode cX2_readOne 46 = .ok (.aload_n 0, 1) := by decide +kernel
theorem dX2_readOne_47 : decode cX2_readOne 47 = .ok (.dup, 1) := by decide +kernel
theorem dX2_readOne_48 : decode cX2_readOne 48 = .ok (.getfield 24, 3) := by decide +kernel
theorem dX2_readOne_51 : decode cX2_readOne 51 = .ok (.iconst 1, 1) := by decide +kernel
theorem dX2_readOne_52 : decode cX2_readOne 52 = .ok (.iadd, 1) := by decide +kernel
theorem dX2_readOne_53 : decode cX2_readOne 53 = .ok (.putfield 24, 3) := by decide +kernel
theorem dX2_readOne_56 : decode cX2_readOne 56 = .ok (.iload_n 2, 1) := by decide +kernel
theorem dX2_readOne_57 : decode cX2_readOne 57 = .ok (.ireturn, 1) := by decide +kernel
theorem dX2_fall_0 : decode cX2_fall 0 = .ok (.aload_n 0, 1) := by decide +kernel
theorem dX2_fall_1 : decode cX2_fall 1 = .ok (.getfield 10, 3) := by decide +kernel
theorem dX2_fall_4 : decode cX2_fall 4 = .ok (.getfield 42, 3) := by decide +kernel
theorem dX2_fall_7 : decode cX2_fall 7 = .ok (.iconst 1, 1) := by decide +kernel
theorem dX2_fall_8 : decode cX2_fall 8 = .ok (.isub, 1) := by decide +kernel
theorem dX2_fall_9 : decode cX2_fall 9 = .ok (.istore_n 2, 1) := by decide +kernel
theorem dX2_fall_10 : decode cX2_fall 10 = .ok (.iload_n 2, 1) := by decide +kernel
theorem dX2_fall_11 : decode cX2_fall 11 = .ok (.iconst 1, 1) := by decide +kernel
theorem dX2_fall_12 : decode cX2_fall 12 = .ok (.if_icmp .lt 46, 3) := by decide +kernel
theorem dX2_fall_15 : decode cX2_fall 15 = .ok (.ldc2_w 45, 3) := by decide +kernel
theorem dX2_fall_18 : decode cX2_fall 18 = .ok (.iload_n 1, 1) := by decide +kernel
theorem dX2_fall_19 : decode cX2_fall 19 = .ok (.i2l, 1) := by decide +kernel
theorem dX2_fall_20 : decode cX2_fall 20 = .ok (.lmul, 1) := by decide +kernel
theorem dX2_fall_21 : decode cX2_fall 21 = .ok (.ldc2_w 47, 3) := by decide +kernel
theorem dX2_fall_24 : decode cX2_fall 24 = .ok (.iload_n 2, 1) := by decide +kernel
theorem dX2_fall_25 : decode cX2_fall 25 = .ok (.i2l, 1) := by decide +kernel
theorem dX2_fall_26 : decode cX2_fall 26 = .ok (.lmul, 1) := by decide +kernel
theorem dX2_fall_27 : decode cX2_fall 27 = .ok (.ladd, 1) := by decide +kernel
theorem dX2_fall_28 : decode cX2_fall 28 = .ok (.lconst 1, 1) := by decide +kernel
theorem dX2_fall_29 : decode cX2_fall 29 = .ok (.ladd, 1) := by decide +kernel
theorem dX2_fall_30 : decode cX2_fall 30 = .ok (.lstore_n 3, 1) := by decide +kernel
theorem dX2_fall_31 : decode cX2_fall 31 = .ok (.aload_n 0, 1) := by decide +kernel
theorem dX2_fall_32 : decode cX2_fall 32 = .ok (.getfield 10, 3) := by decide +kernel
theorem dX2_fall_35 : decode cX2_fall 35 = .ok (.iload_n 2, 1) := by decide +kernel
theorem dX2_fall_36 : decode cX2_fall 36 = .ok (.lload_n 3, 1) := by decide +kernel
theorem dX2_fall_37 : decode cX2_fall 37 = .ok (.lload_n 3, 1) := by decide +kernel
theorem dX2_fall_38 : decode cX2_fall 38 = .ok (.lmul, 1) := by decide +kernel
theorem dX2_fall_39 : decode cX2_fall 39 = .ok (.ldc2_w 49, 3) := by decide +kernel
theorem dX2_fall_42 : decode cX2_fall 42 = .ok (.lrem, 1) := by decide +kernel
theorem dX2_fall_43 : decode cX2_fall 43 = .ok (.iload_n 2, 1) := by decide +kernel
theorem dX2_fall_44 : decode cX2_fall 44 = .ok (.iconst 1, 1) := by decide +kernel
theorem dX2_fall_45 : decode cX2_fall 45 = .ok (.iadd, 1) := by decide +kernel
theorem dX2_fall_46 : decode cX2_fall 46 = .ok (.i2l, 1) := by decide +kernel
theorem dX2_fall_47 : decode cX2_fall 47 = .ok (.lrem, 1) := by decide +kernel
theorem dX2_fall_48 : decode cX2_fall 48 = .ok (.l2i, 1) := by decide +kernel
theorem dX2_fall_49 : decode cX2_fall 49 = .ok (.invokevirtual 51, 3) := by decide +kernel
theorem dX2_fall_52 : decode cX2_fall 52 = .ok (.iinc 2 (-1), 3) := by decide +kernel
theorem dX2_fall_55 : decode cX2_fall 55 = .ok (.goto (-45), 3) := by decide +kernel
theorem dX2_fall_58 : decode cX2_fall 58 = .ok (.aload_n 0, 1) := by decide +kernel
theorem dX2_fall_59 : decode cX2_fall 59 = .ok (.iconst 0, 1) := by decide +kernel
theorem dX2_fall_60 : decode cX2_fall 60 = .ok (.putfield 20, 3) := by decide +kernel
theorem dX2_fall_63 : decode cX2_fall 63 = .ok (.return_, 1) := by decide +kernel
theorem dX3_init_0 : decode cX3_init 0 = .ok (.aload_n 0, 1) := by decide +kernel
theorem dX3_init_1 : decode cX3_init 1 = .ok (.invokespecial 3, 3) := by decide +kernel
theorem dX3_init_4 : decode cX3_init 4 = .ok (.aload_n 0, 1) := by decide +kernel
theorem dX3_init_5 : decode cX3_init 5 = .ok (.new 9, 3) := by decide +kernel
theorem dX3_init_8 : decode cX3_init 8 = .ok (.dup, 1) := by decide +kernel
theorem dX3_init_9 : decode cX3_init 9 = .ok (.invokespecial 11, 3) := by decide +kernel
theorem dX3_init_12 : decode cX3_init 12 = .ok (.putfield 12, 3) := by decide +kernel
theorem dX3_init_15 : decode cX3_init 15 = .ok (.aload_n 0, 1) := by decide +kernel
theorem dX3_init_16 : decode cX3_init 16 = .ok (.new 18, 3) := by decide +kernel
theorem dX3_init_19 : decode cX3_init 19 = .ok (.dup, 1) := by decide +kernel
theorem dX3_init_20 : decode cX3_init 20 = .ok (.bipush 40, 2) := by decide +kernel
theorem dX3_init_22 : decode cX3_init 22 = .ok (.invokespecial 20, 3) := by decide +kernel
theorem dX3_init_25 : decode cX3_init 25 = .ok (.putfield 23, 3) := by decide +kernel
theorem dX3_init_28 : decode cX3_init 28 = .ok (.aload_n 0, 1) := by decide +kernel
theorem dX3_init_29 : decode cX3_init 29 = .ok (.new 18, 3) := by decide +kernel
theorem dX3_init_32 : decode cX3_init 32 = .ok (.dup, 1) := by decide +kernel
theorem dX3_init_33 : decode cX3_init 33 = .ok (.bipush 40, 2) := by decide +kernel
theorem dX3_init_35 : decode cX3_init 35 = .ok (.invokespecial 20, 3) := by decide +kernel
theorem dX3_init_38 : decode cX3_init 38 = .ok (.putfield 27, 3) := by decide +kernel
theorem dX3_init_41 : decode cX3_init 41 = .ok (.aload_n 0, 1) := by decide +kernel
theorem dX3_init_42 : decode cX3_init 42 = .ok (.new 18, 3) := by decide +kernel
theorem dX3_init_45 : decode cX3_init 45 = .ok (.dup, 1) := by decide +kernel
theorem dX3_init_46 : decode cX3_init 46 = .ok (.bipush 40, 2) := by decide +kernel
theorem dX3_init_48 : decode cX3_init 48 = .ok (.invokespecial 20, 3) := by decide +kernel
theorem dX3_init_51 : decode cX3_init 51 = .ok (.putfield 30, 3) := by decide +kernel
theorem dX3_init_54 : decode cX3_init 54 = .ok (.aload_n 0, 1) := by decide +kernel
theorem dX3_init_55 : decode cX3_init 55 = .ok (.new 18, 3) := by decide +kernel
theorem dX3_init_58 : decode cX3_init 58 = .ok (.dup, 1) := by decide +kernel
theorem dX3_init_59 : decode cX3_init 59 = .ok (.bipush 40, 2) := by decide +kernel
theorem dX3_init_61 : decode cX3_init 61 = .ok (.invokespecial 20, 3) := by decide +kernel
theorem dX3_init_64 : decode cX3_init 64 = .ok (.putfield 33, 3) := by decide +kernel
theorem dX3_init_67 : decode cX3_init 67 = .ok (.aload_n 0, 1) := by decide +kernel
theorem dX3_init_68 : decode cX3_init 68 = .ok (.new 18, 3) := by decide +kernel
theorem dX3_init_71 : decode cX3_init 71 = .ok (.dup, 1) := by decide +kernel
theorem dX3_init_72 : decode cX3_init 72 = .ok (.bipush 40, 2) := by decide +kernel
theorem dX3_init_74 : decode cX3_init 74 = .ok (.invokespecial 20, 3) := by decide +kernel
theorem dX3_init_77 : decode cX3_init 77 = .ok (.putfield 36, 3) := by decide +kernel
theorem dX3_init_80 : decode cX3_init 80 = .ok (.aload_n 0, 1) := by decide +kernel
theorem dX3_init_81 : decode cX3_init 81 = .ok (.new 18, 3) := by decide +kernel
theorem dX3_init_84 : decode cX3_init 84 = .ok (.dup, 1) := by decide +kernel
theorem dX3_init_85 : decode cX3_init 85 = .ok (.bipush 40, 2) := by decide +kernel
theorem dX3_init_87 : decode cX3_init 87 = .ok (.invokespecial 20, 3) := by decide +kernel
theorem dX3_init_90 : decode cX3_init 90 = .ok (.putfield 39, 3) := by decide +kernel
theorem dX3_init_93 : decode cX3_init 93 = .ok (.aload_n 0, 1) := by decide +kernel
theorem dX3_init_94 : decode cX3_init 94 = .ok (.new 18, 3) := by decide +kernel
theorem dX3_init_97 : decode cX3_init 97 = .ok (.dup, 1) := by decide +kernel
theorem dX3_init_98 : decode cX3_init 98 = .ok (.bipush 40, 2) := by decide +kernel
theorem dX3_init_100 : decode cX3_init 100 = .ok (.invokespecial 20, 3) := by decide +kernel
theorem dX3_init_103 : decode cX3_init 103 = .ok (.putfield 42, 3) := by decide +kernel
theorem dX3_init_106 : decode cX3_init 106 = .ok (.return_, 1) := by decide +kernel
theorem dX3_follow_0 : decode cX3_follow 0 = .ok (.aload_n 0, 1) := by decide +kernel
theorem dX3_follow_1 : decode cX3_follow 1 = .ok (.aload_n 1, 1) := by decide +kernel
theorem dX3_follow_2 : decode cX3_follow 2 = .ok (.getfield 45, 3) := by decide +kernel
theorem dX3_follow_5 : decode cX3_follow 5 = .ok (.putfield 51, 3) := by decide +kernel
theorem dX3_follow_8 : decode cX3_follow 8 = .ok (.aload_n 0, 1) := by decide +kernel
theorem dX3_follow_9 : decode cX3_follow 9 = .ok (.aload_n 1, 1) := by decide +kernel
theorem dX3_follow_10 : decode cX3_follow 10 = .ok (.invokevirtual 54, 3) := by decide +kernel
theorem dX3_follow_13 : decode cX3_follow 13 = .ok (.aload_n 0, 1) := by decide +kernel
theorem dX3_follow_14 : decode cX3_follow 14 = .ok (.invokevirtual 58, 3) := by decide +kernel
theorem dX3_follow_17 : decode cX3_follow 17 = .ok (.aload_n 0, 1) := by decide +kernel
theorem dX3_follow_18 : decode cX3_follow 18 = .ok (.aload_n 1, 1) := by decide +kernel
theorem dX3_follow_19 : decode cX3_follow 19 = .ok (.invokevirtual 61, 3) := by decide +kernel
theorem dX3_follow_22 : decode cX3_follow 22 = .ok (.return_, 1) := by decide +kernel
theorem dX3_readOneReader_0 : decode cX3_readOneReader 0 = .ok (.aload_n 0, 1) := by decide +kernel
theorem dX3_readOneReader_1 : decode cX3_readOneReader 1 = .ok (.getfield 12, 3) := by decide +kernel
theorem dX3_readOneReader_4 : decode cX3_readOneReader 4 = .ok (.aload_n 0, 1) := by decide +kernel
theorem dX3_readOneReader_5 : decode cX3_readOneReader 5 = .ok (.getfield 51, 3) := by decide +kernel
theorem dX3_readOneReader_8 : decode cX3_readOneReader 8 = .ok (.invokevirtual 64, 3) := by decide +kernel
theorem dX3_readOneReader_11 : decode cX3_readOneReader 11 = .ok (.aload_n 0, 1) := by decide +kernel
theorem dX3_readOneReader_12 : decode cX3_readOneReader 12 = .ok (.getfield 27, 3) := by decide +kernel
theorem dX3_readOneReader_15 : decode cX3_readOneReader 15 = .ok (.bipush (-4), 2) := by decide +kernel
theorem dX3_readOneReader_17 : decode cX3_readOneReader 17 = .ok (.invokevirtual 67, 3) := by decide +kernel
theorem dX3_readOneReader_20 : decode cX3_readOneReader 20 = .ok (.iconst 0, 1) := by decide +kernel
theorem dX3_readOneReader_21 : decode cX3_readOneReader 21 = .ok (.istore_n 2, 1) := by decide +kernel
theorem dX3_readOneReader_22 : decode cX3_readOneReader 22 = .ok (.iload_n 2, 1) := by decide +kernel
theorem dX3_readOneReader_23 : decode cX3_readOneReader 23 = .ok (.aload_n 1, 1) := by decide +kernel
theorem dX3_readOneReader_24 : decode cX3_readOneReader 24 = .ok (.getfield 70, 3) := by decide +kernel
theorem dX3_readOneReader_27 : decode cX3_readOneReader 27 = .ok (.if_icmp .ge 57, 3) := by decide +kernel
theorem dX3_readOneReader_30 : decode cX3_readOneReader 30 = .ok (.aload_n 0, 1) := by decide +kernel
theorem dX3_readOneReader_31 : decode cX3_readOneReader 31 = .ok (.getfield 12, 3) := by decide +kernel
theorem dX3_readOneReader_34 : decode cX3_readOneReader 34 = .ok (.aload_n 1, 1) := by decide +kernel
theorem dX3_readOneReader_35 : decode cX3_readOneReader 35 = .ok (.getfield 73, 3) := by decide +kernel
theorem dX3_readOneReader_38 : decode cX3_readOneReader 38 = .ok (.aload_n 1, 1) := by decide +kernel
theorem dX3_readOneReader_39 : decode cX3_readOneReader 39 = .ok (.getfield 76, 3) := by decide +kernel
theorem dX3_readOneReader_42 : decode cX3_readOneReader 42 = .ok (.iload_n 2, 1) := by decide +kernel
theorem dX3_readOneReader_43 : decode cX3_readOneReader 43 = .ok (.invokevirtual 79, 3) := by decide +kernel
theorem dX3_readOneReader_46 : decode cX3_readOneReader 46 = .ok (.istore_n 3, 1) := by decide +kernel
theorem dX3_readOneReader_47 : decode cX3_readOneReader 47 = .ok (.aload_n 0, 1) := by decide +kernel
theorem dX3_readOneReader_48 : decode cX3_readOneReader 48 = .ok (.getfield 23, 3) := by decide +kernel
theorem dX3_readOneReader_51 : decode cX3_readOneReader 51 = .ok (.iload_n 2, 1) := by decide +kernel
theorem dX3_readOneReader_52 : decode cX3_readOneReader 52 = .ok (.iload_n 3, 1) := by decide +kernel
theorem dX3_readOneReader_53 : decode cX3_readOneReader 53 = .ok (.invokevirtual 83, 3) := by decide +kernel
theorem dX3_readOneReader_56 : decode cX3_readOneReader 56 = .ok (.aload_n 0, 1) := by decide +kernel
theorem dX3_readOneReader_57 : decode cX3_readOneReader 57 = .ok (.getfield 27, 3) := by decide +kernel
theorem dX3_readOneReader_60 : decode cX3_readOneReader 60 = .ok (.iload_n 3, 1) := by decide +kernel
theorem dX3_readOneReader_61 : decode cX3_readOneReader 61 = .ok (.invokevirtual 87, 3) := by decide +kernel
theorem dX3_readOneReader_64 : decode cX3_readOneReader 64 = .ok (.bipush (-4), 2) := by decide +kernel
theorem dX3_readOneReader_66 : decode cX3_readOneReader 66 = .ok (.if_icmp .ne 12, 3) := by decide +kernel
theorem dX3_readOneReader_69 : decode cX3_readOneReader 69 = .ok (.aload_n 0, 1) := by decide +kernel
theorem dX3_readOneReader_70 : decode cX3_readOneReader 70 = .ok (.getfield 27, 3) := by decide +kernel
theorem dX3_readOneReader_73 : decode cX3_readOneReader 73 = .ok (.iload_n 3, 1) := by decide +kernel
theorem dX3_readOneReader_74 : decode cX3_readOneReader 74 = .ok (.iload_n 2, 1) := by decide +kernel
theorem dX3_readOneReader_75 : decode cX3_readOneReader 75 = .ok (.invokevirtual 83, 3) := by decide +kernel
theorem dX3_readOneReader_78 : decode cX3_readOneReader 78 = .ok (.iinc 2 1, 3) := by decide +kernel
theorem dX3_readOneReader_81 : decode cX3_readOneReader 81 = .ok (.goto (-59), 3) := by decide +kernel
theorem dX3_readOneReader_84 : decode cX3_readOneReader 84 = .ok (.return_, 1) := by decide +kernel
theorem dX3_readWithoutFirst_0 : decode cX3_readWithoutFirst 0 = .ok (.aload_n 0, 1) := by decide +kernel
theorem dX3_readWithoutFirst_1 : decode cX3_readWithoutFirst 1 = .ok (.getfield 12, 3) := by decide +kernel
theorem dX3_readWithoutFirst_4 : decode cX3_readWithoutFirst 4 = .ok (.aload_n 0, 1) := by decide +kernel
theorem dX3_readWithoutFirst_5 : decode cX3_readWithoutFirst 5 = .ok (.getfield 51, 3) := by decide +kernel
theorem dX3_readWithoutFirst_8 : decode cX3_readWithoutFirst 8 = .ok (.invokevirtual 64, 3) := by decide +kernel
theorem dX3_readWithoutFirst_11 : decode cX3_readWithoutFirst 11 = .ok (.iconst 1, 1) := by decide +kernel
theorem dX3_readWithoutFirst_12 : decode cX3_readWithoutFirst 12 = .ok (.istore_n 2, 1) := by decide +kernel
theorem dX3_readWithoutFirst_13 : decode cX3_readWithoutFirst 13 = .ok (.iload_n 2, 1) := by decide +kernel
theorem dX3_readWithoutFirst_14 : decode cX3_readWithoutFirst 14 = .ok (.aload_n 1, 1) := by decide +kernel
theorem dX3_readWithoutFirst_15 : decode cX3_readWithoutFirst 15 = .ok (.getfield 70, 3) := by decide +kernel
theorem dX3_readWithoutFirst_18 : decode cX3_readWithoutFirst 18 = .ok (.if_icmp .ge 26, 3) := by decide +kernel
theorem dX3_readWithoutFirst_21 : decode cX3_readWithoutFirst 21 = .ok (.aload_n 0, 1) := by decide +kernel
theorem dX3_readWithoutFirst_22 : decode cX3_readWithoutFirst 22 = .ok (.getfield 12, 3) := by decide +kernel
theorem dX3_readWithoutFirst_25 : decode cX3_readWithoutFirst 25 = .ok (.aload_n 1, 1) := by decide +kernel
theorem dX3_readWithoutFirst_26 : decode cX3_readWithoutFirst 26 = .ok (.getfield 73, 3) := by decide +kernel
theorem dX3_readWithoutFirst_29 : decode cX3_readWithoutFirst 29 = .ok (.aload_n 1, 1) := by decide +kernel
theorem dX3_readWithoutFirst_30 : decode cX3_readWithoutFirst 30 = .ok (.getfield 76, 3) := by decide +kernel
theorem dX3_readWithoutFirst_33 : decode cX3_readWithoutFirst 33 = .ok (.iload_n 2, 1) := by decide +kernel
theorem dX3_readWithoutFirst_34 : decode cX3_readWithoutFirst 34 = .ok (.invokevirtual 79, 3) := by decide +kernel
theorem dX3_readWithoutFirst_37 : decode cX3_readWithoutFirst 37 = .ok (.pop, 1) := by decide +kernel
theorem dX3_readWithoutFirst_38 : decode cX3_readWithoutFirst 38 = .ok (.iinc 2 1, 3) := by decide +kernel
theorem dX3_readWithoutFirst_41 : decode cX3_readWithoutFirst 41 = .ok (.goto (-28), 3) := by decide +kernel
theorem dX3_readWithoutFirst_44 : decode cX3_readWithoutFirst 44 = .ok (.iconst 0, 1) := by decide +kernel
theorem dX3_readWithoutFirst_45 : decode cX3_readWithoutFirst 45 = .ok (.istore_n 2, 1) := by decide +kernel
theorem dX3_readWithoutFirst_46 : decode cX3_readWithoutFirst 46 = .ok (.iload_n 2, 1) := by decide +kernel
theorem dX3_readWithoutFirst_47 : decode cX3_readWithoutFirst 47 = .ok (.aload_n 0, 1) := by decide +kernel
theorem dX3_readWithoutFirst_48 : decode cX3_readWithoutFirst 48 = .ok (.getfield 51, 3) := by decide +kernel
theorem dX3_readWithoutFirst_51 : decode cX3_readWithoutFirst 51 = .ok (.if_icmp .ge 25, 3) := by decide +kernel
theorem dX3_readWithoutFirst_54 : decode cX3_readWithoutFirst 54 = .ok (.aload_n 0, 1) := by decide +kernel
theorem dX3_readWithoutFirst_55 : decode cX3_readWithoutFirst 55 = .ok (.getfield 30, 3) := by decide +kernel
theorem dX3_readWithoutFirst_58 : decode cX3_readWithoutFirst 58 = .ok (.iload_n 2, 1) := by decide +kernel
theorem dX3_readWithoutFirst_59 : decode cX3_readWithoutFirst 59 = .ok (.aload_n 0, 1) := by decide +kernel
theorem dX3_readWithoutFirst_60 : decode cX3_readWithoutFirst 60 = .ok (.getfield 12, 3) := by decide +kernel
theorem dX3_readWithoutFirst_63 : decode cX3_readWithoutFirst 63 = .ok (.iload_n 2, 1) := by decide +kernel
theorem dX3_readWithoutFirst_64 : decode cX3_readWithoutFirst 64 = .ok (.invokevirtual 91, 3) := by decide +kernel
theorem dX3_readWithoutFirst_67 : decode cX3_readWithoutFirst 67 = .ok (.invokevirtual 83, 3) := by decide +kernel
theorem dX3_readWithoutFirst_70 : decode cX3_readWithoutFirst 70 = .ok (.iinc 2 1, 3) := by decide +kernel
theorem dX3_readWithoutFirst_73 : decode cX3_readWithoutFirst 73 = .ok (.goto (-27), 3) := by decide +kernel
theorem dX3_readWithoutFirst_76 : decode cX3_readWithoutFirst 76 = .ok (.return_, 1) := by decide +kernel
theorem dX3_layRings_0 : decode cX3_layRings 0 = .ok (.aload_n 0, 1) := by decide +kernel
theorem dX3_layRings_1 : decode cX3_layRings 1 = .ok (.getfield 39, 3) := by decide +kernel
theorem dX3_layRings_4 : decode cX3_layRings 4 = .ok (.iconst 0, 1) := by decide +kernel
theorem dX3_layRings_5 : decode cX3_layRings 5 = .ok (.invokevirtual 67, 3) := by decide +kernel
theorem dX3_layRings_8 : decode cX3_layRings 8 = .ok (.iconst 0, 1) := by decide +kernel
theorem dX3_layRings_9 : decode cX3_layRings 9 = .ok (.istore_n 1, 1) := by decide +kernel
theorem dX3_layRings_10 : decode cX3_layRings 10 = .ok (.iconst 0, 1) := by decide +kernel
theorem dX3_layRings_11 : decode cX3_layRings 11 = .ok (.istore_n 2, 1) := by decide +kernel
theorem dX3_layRings_12 : decode cX3_layRings 12 = .ok (.iload_n 2, 1) := by decide +kernel
theorem dX3_layRings_13 : decode cX3_layRings 13 = .ok (.aload_n 0, 1) := by decide +kernel
theorem dX3_layRings_14 : decode cX3_layRings 14 = .ok (.getfield 51, 3) := by decide +kernel
theorem dX3_layRings_17 : decode cX3_layRings 17 = .ok (.if_icmp .ge 29, 3) := by decide +kernel
theorem dX3_layRings_20 : decode cX3_layRings 20 = .ok (.aload_n 0, 1) := by decide +kernel
theorem dX3_layRings_21 : decode cX3_layRings 21 = .ok (.getfield 39, 3) := by decide +kernel
theorem dX3_layRings_24 : decode cX3_layRings 24 = .ok (.iload_n 2, 1) := by decide +kernel
theorem dX3_layRings_25 : decode cX3_layRings 25 = .ok (.invokevirtual 87, 3) := by decide +kernel
theorem dX3_layRings_28 : decode cX3_layRings 28 = .ok (.ifCond .ne 12, 3) := by decide +kernel
theorem dX3_layRings_31 : decode cX3_layRings 31 = .ok (.iload_n 1, 1) := by decide +kernel
theorem dX3_layRings_32 : decode cX3_layRings 32 = .ok (.aload_n 0, 1) := by decide +kernel
theorem dX3_layRings_33 : decode cX3_layRings 33 = .ok (.iload_n 2, 1) := by decide +kernel
theorem dX3_layRings_34 : decode cX3_layRings 34 = .ok (.iload_n 1, 1) := by decide +kernel
theorem dX3_layRings_35 : decode cX3_layRings 35 = .ok (.invokevirtual 94, 3) := by decide +kernel
theorem dX3_layRings_38 : decode cX3_layRings 38 = .ok (.iadd, 1) := by decide +kernel
theorem dX3_layRings_39 : decode cX3_layRings 39 = .ok (.istore_n 1, 1) := by decide +kernel
theorem dX3_layRings_40 : decode cX3_layRings 40 = .ok (.iinc 2 1, 3) := by decide +kernel
theorem dX3_layRings_43 : decode cX3_layRings 43 = .ok (.goto (-31), 3) := by decide +kernel
theorem dX3_layRings_46 : decode cX3_layRings 46 = .ok (.return_, 1) := by decide +kernel
theorem dX3_layRing_0 : decode cX3_layRing 0 = .ok (.iconst 0, 1) := by decide +kernel
theorem dX3_layRing_1 : decode cX3_layRing 1 = .ok (.istore_n 3, 1) := by decide +kernel
theorem dX3_layRing_2 : decode cX3_layRing 2 = .ok (.iload_n 1, 1) := by decide +kernel
theorem dX3_layRing_3 : decode cX3_layRing 3 = .ok (.istore 4, 2) := by decide +kernel
theorem dX3_layRing_5 : decode cX3_layRing 5 = .ok (.aload_n 0, 1) := by decide +kernel
theorem dX3_layRing_6 : decode cX3_layRing 6 = .ok (.getfield 33, 3) := by decide +kernel
theorem dX3_layRing_9 : decode cX3_layRing 9 = .ok (.iload_n 2, 1) := by decide +kernel
theorem dX3_layRing_10 : decode cX3_layRing 10 = .ok (.iload_n 3, 1) := by decide +kernel
theorem dX3_layRing_11 : decode cX3_layRing 11 = .ok (.iadd, 1) := by decide +kernel
theorem dX3_layRing_12 : decode cX3_layRing 12 = .ok (.iload 4, 2) := by decide +kernel
theorem dX3_layRing_14 : decode cX3_layRing 14 = .ok (.invokevirtual 83, 3) := by decide +kernel
theorem dX3_layRing_17 : decode cX3_layRing 17 = .ok (.aload_n 0, 1) := by decide +kernel
theorem dX3_layRing_18 : decode cX3_layRing 18 = .ok (.getfield 36, 3) := by decide +kernel
theorem dX3_layRing_21 : decode cX3_layRing 21 = .ok (.iload 4, 2) := by decide +kernel
theorem dX3_layRing_23 : decode cX3_layRing 23 = .ok (.iload_n 2, 1) := by decide +kernel
theorem dX3_layRing_24 : decode cX3_layRing 24 = .ok (.invokevirtual 83, 3) := by decide +kernel
theorem dX3_layRing_27 : decode cX3_layRing 27 = .ok (.aload_n 0, 1) := by decide +kernel
theorem dX3_layRing_28 : decode cX3_layRing 28 = .ok (.getfield 42, 3) := by decide +kernel
theorem dX3_layRing_31 : decode cX3_layRing 31 = .ok (.iload 4, 2) := by decide +kernel
theorem dX3_layRing_33 : decode cX3_layRing 33 = .ok (.iload_n 3, 1) := by decide +kernel
theorem dX3_layRing_34 : decode cX3_layRing 34 = .ok (.invokevirtual 83, 3) := by decide +kernel
theorem dX3_layRing_37 : decode cX3_layRing 37 = .ok (.iinc 3 1, 3) := by decide +kernel
theorem dX3_layRing_40 : decode cX3_layRing 40 = .ok (.aload_n 0, 1) := by decide +kernel
theorem dX3_layRing_41 : decode cX3_layRing 41 = .ok (.getfield 12, 3) := by decide +kernel
theorem dX3_layRing_44 : decode cX3_layRing 44 = .ok (.iload 4, 2) := by decide +kernel
theorem dX3_layRing_46 : decode cX3_layRing 46 = .ok (.invokevirtual 91, 3) := by decide +kernel
theorem dX3_layRing_49 : decode cX3_layRing 49 = .ok (.istore 4, 2) := by decide +kernel
theorem dX3_layRing_51 : decode cX3_layRing 51 = .ok (.iload 4, 2) := by decide +kernel
theorem dX3_layRing_53 : decode cX3_layRing 53 = .ok (.iload_n 1, 1) := by decide +kernel
theorem dX3_layRing_54 : decode cX3_layRing 54 = .ok (.if_icmp .eq 11, 3) := by decide +kernel
theorem dX3_layRing_57 : decode cX3_layRing 57 = .ok (.iload_n 3, 1) := by decide +kernel
theorem dX3_layRing_58 : decode cX3_layRing 58 = .ok (.aload_n 0, 1) := by decide +kernel
theorem dX3_layRing_59 : decode cX3_layRing 59 = .ok (.getfield 51, 3) := by decide +kernel
theorem dX3_layRing_62 : decode cX3_layRing 62 = .ok (.if_icmp .lt (-57), 3) := by decide +kernel
theorem dX3_layRing_65 : decode cX3_layRing 65 = .ok (.iconst 0, 1) := by decide +kernel
theorem dX3_layRing_66 : decode cX3_layRing 66 = .ok (.istore 5, 2) := by decide +kernel
theorem dX3_layRing_68 : decode cX3_layRing 68 = .ok (.iload 5, 2) := by decide +kernel
theorem dX3_layRing_70 : decode cX3_layRing 70 = .ok (.iload_n 3, 1) := by decide +kernel
theorem dX3_layRing_71 : decode cX3_layRing 71 = .ok (.if_icmp .ge 28, 3) := by decide +kernel
theorem dX3_layRing_74 : decode cX3_layRing 74 = .ok (.aload_n 0, 1) := by decide +kernel
theorem dX3_layRing_75 : decode cX3_layRing 75 = .ok (.getfield 39, 3) := by decide +kernel
theorem dX3_layRing_78 : decode cX3_layRing 78 = .ok (.aload_n 0, 1) := by decide +kernel
theorem dX3_layRing_79 : decode cX3_layRing 79 = .ok (.getfield 33, 3) := by decide +kernel
theorem dX3_layRing_82 : decode cX3_layRing 82 = .ok (.iload_n 2, 1) := by decide +kernel
theorem dX3_layRing_83 : decode cX3_layRing 83 = .ok (.iload 5, 2) := by decide +kernel
theorem dX3_layRing_85 : decode cX3_layRing 85 = .ok (.iadd, 1) := by decide +kernel
theorem dX3_layRing_86 : decode cX3_layRing 86 = .ok (.invokevirtual 87, 3) := by decide +kernel
theorem dX3_layRing_89 : decode cX3_layRing 89 = .ok (.iload_n 3, 1) := by decide +kernel
theorem dX3_layRing_90 : decode cX3_layRing 90 = .ok (.invokevirtual 83, 3) := by decide +kernel
theorem dX3_layRing_93 : decode cX3_layRing 93 = .ok (.iinc 5 1, 3) := by decide +kernel
theorem dX3_layRing_96 : decode cX3_layRing 96 = .ok (.goto (-28), 3) := by decide +kernel
theorem dX3_layRing_99 : decode cX3_layRing 99 = .ok (.iload_n 3, 1) := by decide +kernel
theorem dX3_layRing_100 : decode cX3_layRing 100 = .ok (.ireturn, 1) := by decide +kernel
theorem dX3_placeInRing_0 : decode cX3_placeInRing 0 = .ok (.aload_n 0, 1) := by decide +kernel
theorem dX3_placeInRing_1 : decode cX3_placeInRing 1 = .ok (.getfield 39, 3) := by decide +kernel
theorem dX3_placeInRing_4 : decode cX3_placeInRing 4 = .ok (.iload_n 1, 1) := by decide +kernel
theorem dX3_placeInRing_5 : decode cX3_placeInRing 5 = .ok (.invokevirtual 87, 3) := by decide +kernel
theorem dX3_placeInRing_8 : decode cX3_placeInRing 8 = .ok (.istore 4, 2) := by decide +kernel
theorem dX3_placeInRing_10 : decode cX3_placeInRing 10 = .ok (.iload 4, 2) := by decide +kernel
theorem dX3_placeInRing_12 : decode cX3_placeInRing 12 = .ok (.ifCond .gt 5, 3) := by decide +kernel
theorem dX3_placeInRing_15 : decode cX3_placeInRing 15 = .ok (.iload_n 1, 1) := by decide +kernel
theorem dX3_placeInRing_16 : decode cX3_placeInRing 16 = .ok (.ireturn, 1) := by decide +kernel
theorem dX3_placeInRing_17 : decode cX3_placeInRing 17 = .ok (.aload_n 0, 1) := by decide +kernel
theorem dX3_placeInRing_18 : decode cX3_placeInRing 18 = .ok (.getfield 42, 3) := by decide +kernel
theorem dX3_placeInRing_21 : decode cX3_placeInRing 21 = .ok (.iload_n 1, 1) := by decide +kernel
theorem dX3_placeInRing_22 : decode cX3_placeInRing 22 = .ok (.invokevirtual 87, 3) := by decide +kernel
theorem dX3_placeInRing_25 : decode cX3_placeInRing 25 = .ok (.i2l, 1) := by decide +kernel
theorem dX3_placeInRing_26 : decode cX3_placeInRing 26 = .ok (.lload_n 2, 1) := by decide +kernel
theorem dX3_placeInRing_27 : decode cX3_placeInRing 27 = .ok (.ladd, 1) := by decide +kernel
theorem dX3_placeInRing_28 : decode cX3_placeInRing 28 = .ok (.iload 4, 2) := by decide +kernel
theorem dX3_placeInRing_30 : decode cX3_placeInRing 30 = .ok (.i2l, 1) := by decide +kernel
theorem dX3_placeInRing_31 : decode cX3_placeInRing 31 = .ok (.invokestatic 98, 3) := by decide +kernel
theorem dX3_placeInRing_34 : decode cX3_placeInRing 34 = .ok (.l2i, 1) := by decide +kernel
theorem dX3_placeInRing_35 : decode cX3_placeInRing 35 = .ok (.istore 5, 2) := by decide +kernel
theorem dX3_placeInRing_37 : decode cX3_placeInRing 37 = .ok (.aload_n 0, 1) := by decide +kernel
theorem dX3_placeInRing_38 : decode cX3_placeInRing 38 = .ok (.getfield 33, 3) := by decide +kernel
theorem dX3_placeInRing_41 : decode cX3_placeInRing 41 = .ok (.aload_n 0, 1) := by decide +kernel
theorem dX3_placeInRing_42 : decode cX3_placeInRing 42 = .ok (.getfield 36, 3) := by decide +kernel
theorem dX3_placeInRing_45 : decode cX3_placeInRing 45 = .ok (.iload_n 1, 1) := by decide +kernel
theorem dX3_placeInRing_46 : decode cX3_placeInRing 46 = .ok (.invokevirtual 87, 3) := by decide +kernel
theorem dX3_placeInRing_49 : decode cX3_placeInRing 49 = .ok (.iload 5, 2) := by decide +kernel
theorem dX3_placeInRing_51 : decode cX3_placeInRing 51 = .ok (.iadd, 1) := by decide +kernel
theorem dX3_placeInRing_52 : decode cX3_placeInRing 52 = .ok (.invokevirtual 87, 3) := by decide +kernel
theorem dX3_placeInRing_55 : decode cX3_placeInRing 55 = .ok (.ireturn, 1) := by decide +kernel
theorem dX3_placeRead_0 : decode cX3_placeRead 0 = .ok (.aload_n 0, 1) := by decide +kernel
theorem dX3_placeRead_1 : decode cX3_placeRead 1 = .ok (.aload_n 0, 1) := by decide +kernel
theorem dX3_placeRead_2 : decode cX3_placeRead 2 = .ok (.getfield 23, 3) := by decide +kernel
theorem dX3_placeRead_5 : decode cX3_placeRead 5 = .ok (.iload_n 3, 1) := by decide +kernel
theorem dX3_placeRead_6 : decode cX3_placeRead 6 = .ok (.invokevirtual 87, 3) := by decide +kernel
theorem dX3_placeRead_9 : decode cX3_placeRead 9 = .ok (.lload_n 1, 1) := by decide +kernel
theorem dX3_placeRead_10 : decode cX3_placeRead 10 = .ok (.invokevirtual 104, 3) := by decide +kernel
theorem dX3_placeRead_13 : decode cX3_placeRead 13 = .ok (.ireturn, 1) := by decide +kernel
theorem dX3_placeFoundBy_0 : decode cX3_placeFoundBy 0 = .ok (.aload_n 0, 1) := by decide +kernel
theorem dX3_placeFoundBy_1 : decode cX3_placeFoundBy 1 = .ok (.iload_n 3, 1) := by decide +kernel
theorem dX3_placeFoundBy_2 : decode cX3_placeFoundBy 2 = .ok (.lload_n 1, 1) := by decide +kernel
theorem dX3_placeFoundBy_3 : decode cX3_placeFoundBy 3 = .ok (.lneg, 1) := by decide +kernel
theorem dX3_placeFoundBy_4 : decode cX3_placeFoundBy 4 = .ok (.invokevirtual 104, 3) := by decide +kernel
theorem dX3_placeFoundBy_7 : decode cX3_placeFoundBy 7 = .ok (.ireturn, 1) := by decide +kernel
theorem dX3_placeAfterFirstReading_0 : decode cX3_placeAfterFirstReading 0 = .ok (.aload_n 0, 1) := by decide +kernel
theorem dX3_placeAfterFirstReading_1 : decode cX3_placeAfterFirstReading 1 = .ok (.getfield 30, 3) := by decide +kernel
theorem dX3_placeAfterFirstReading_4 : decode cX3_placeAfterFirstReading 4 = .ok (.aload_n 0, 1) := by decide +kernel
theorem dX3_placeAfterFirstReading_5 : decode cX3_placeAfterFirstReading 5 = .ok (.aload_n 0, 1) := by decide +kernel
theorem dX3_placeAfterFirstReading_6 : decode cX3_placeAfterFirstReading 6 = .ok (.getfield 23, 3) := by decide +kernel
theorem dX3_placeAfterFirstReading_9 : decode cX3_placeAfterFirstReading 9 = .ok (.iload_n 3, 1) := by decide +kernel
theorem dX3_placeAfterFirstReading_10 : decode cX3_placeAfterFirstReading 10 = .ok (.invokevirtual 87, 3) := by decide +kernel
theorem dX3_placeAfterFirstReading_13 : decode cX3_placeAfterFirstReading 13 = .ok (.lload_n 1, 1) := by decide +kernel
theorem dX3_placeAfterFirstReading_14 : decode cX3_placeAfterFirstReading 14 = .ok (.lconst 1, 1) := by decide +kernel
theorem dX3_placeAfterFirstReading_15 : decode cX3_placeAfterFirstReading 15 = .ok (.lsub, 1) := by decide +kernel
theorem dX3_placeAfterFirstReading_16 : decode cX3_placeAfterFirstReading 16 = .ok (.invokevirtual 104, 3) := by decide +kernel
theorem dX3_placeAfterFirstReading_19 : decode cX3_placeAfterFirstReading 19 = .ok (.invokevirtual 87, 3) := by decide +kernel
theorem dX3_placeAfterFirstReading_22 : decode cX3_placeAfterFirstReading 22 = .ok (.ireturn, 1) := by decide +kernel
theorem dX3_turnAt_0 : decode cX3_turnAt 0 = .ok (.aload_n 0, 1) := by decide +kernel
theorem dX3_turnAt_1 : decode cX3_turnAt 1 = .ok (.getfield 27, 3) := by decide +kernel
theorem dX3_turnAt_4 : decode cX3_turnAt 4 = .ok (.iload_n 1, 1) := by decide +kernel
theorem dX3_turnAt_5 : decode cX3_turnAt 5 = .ok (.invokevirtual 87, 3) := by decide +kernel
theorem dX3_turnAt_8 : decode cX3_turnAt 8 = .ok (.ireturn, 1) := by decide +kernel
theorem dX3_isNeverRead_0 : decode cX3_isNeverRead 0 = .ok (.aload_n 0, 1) := by decide +kernel
theorem dX3_isNeverRead_1 : decode cX3_isNeverRead 1 = .ok (.iload_n 1, 1) := by decide +kernel
theorem dX3_isNeverRead_2 : decode cX3_isNeverRead 2 = .ok (.invokevirtual 108, 3) := by decide +kernel
theorem dX3_isNeverRead_5 : decode cX3_isNeverRead 5 = .ok (.ifCond .ne 7, 3) := by decide +kernel
theorem dX3_isNeverRead_8 : decode cX3_isNeverRead 8 = .ok (.iconst 1, 1) := by decide +kernel
theorem dX3_isNeverRead_9 : decode cX3_isNeverRead 9 = .ok (.goto 4, 3) := by decide +kernel
theorem dX3_isNeverRead_12 : decode cX3_isNeverRead 12 = .ok (.iconst 0, 1) := by decide +kernel
theorem dX3_isNeverRead_13 : decode cX3_isNeverRead 13 = .ok (.ireturn, 1) := by decide +kernel
theorem dX3_isAlwaysRead_0 : decode cX3_isAlwaysRead 0 = .ok (.aload_n 0, 1) := by decide +kernel
theorem dX3_isAlwaysRead_1 : decode cX3_isAlwaysRead 1 = .ok (.iload_n 1, 1) := by decide +kernel
theorem dX3_isAlwaysRead_2 : decode cX3_isAlwaysRead 2 = .ok (.invokevirtual 108, 3) := by decide +kernel
theorem dX3_isAlwaysRead_5 : decode cX3_isAlwaysRead 5 = .ok (.aload_n 0, 1) := by decide +kernel
theorem dX3_isAlwaysRead_6 : decode cX3_isAlwaysRead 6 = .ok (.getfield 39, 3) := by decide +kernel
theorem dX3_isAlwaysRead_9 : decode cX3_isAlwaysRead 9 = .ok (.iload_n 1, 1) := by decide +kernel
theorem dX3_isAlwaysRead_10 : decode cX3_isAlwaysRead 10 = .ok (.invokevirtual 87, 3) := by decide +kernel
theorem dX3_isAlwaysRead_13 : decode cX3_isAlwaysRead 13 = .ok (.if_icmp .ne 7, 3) := by decide +kernel
theorem dX3_isAlwaysRead_16 : decode cX3_isAlwaysRead 16 = .ok (.iconst 1, 1) := by decide +kernel
theorem dX3_isAlwaysRead_17 : decode cX3_isAlwaysRead 17 = .ok (.goto 4, 3) := by decide +kernel
theorem dX3_isAlwaysRead_20 : decode cX3_isAlwaysRead 20 = .ok (.iconst 0, 1) := by decide +kernel
theorem dX3_isAlwaysRead_21 : decode cX3_isAlwaysRead 21 = .ok (.ireturn, 1) := by decide +kernel
theorem dX3_readInRing_0 : decode cX3_readInRing 0 = .ok (.iconst 0, 1) := by decide +kernel
theorem dX3_readInRing_1 : decode cX3_readInRing 1 = .ok (.istore_n 2, 1) := by decide +kernel
theorem dX3_readInRing_2 : decode cX3_readInRing 2 = .ok (.iconst 0, 1) := by decide +kernel
theorem dX3_readInRing_3 : decode cX3_readInRing 3 = .ok (.istore_n 3, 1) := by decide +kernel
theorem dX3_readInRing_4 : decode cX3_readInRing 4 = .ok (.iload_n 3, 1) := by decide +kernel
theorem dX3_readInRing_5 : decode cX3_readInRing 5 = .ok (.aload_n 0, 1) := by decide +kernel
theorem dX3_readInRing_6 : decode cX3_readInRing 6 = .ok (.getfield 39, 3) := by decide +kernel
theorem dX3_readInRing_9 : decode cX3_readInRing 9 = .ok (.iload_n 1, 1) := by decide +kernel
theorem dX3_readInRing_10 : decode cX3_readInRing 10 = .ok (.invokevirtual 87, 3) := by decide +kernel
theorem dX3_readInRing_13 : decode cX3_readInRing 13 = .ok (.if_icmp .ge 38, 3) := by decide +kernel
theorem dX3_readInRing_16 : decode cX3_readInRing 16 = .ok (.aload_n 0, 1) := by decide +kernel
theorem dX3_readInRing_17 : decode cX3_readInRing 17 = .ok (.aload_n 0, 1) := by decide +kernel
theorem dX3_readInRing_18 : decode cX3_readInRing 18 = .ok (.getfield 33, 3) := by decide +kernel
theorem dX3_readInRing_21 : decode cX3_readInRing 21 = .ok (.aload_n 0, 1) := by decide +kernel
theorem dX3_readInRing_22 : decode cX3_readInRing 22 = .ok (.getfield 36, 3) := by decide +kernel
theorem dX3_readInRing_25 : decode cX3_readInRing 25 = .ok (.iload_n 1, 1) := by decide +kernel
theorem dX3_readInRing_26 : decode cX3_readInRing 26 = .ok (.invokevirtual 87, 3) := by decide +kernel
theorem dX3_readInRing_29 : decode cX3_readInRing 29 = .ok (.iload_n 3, 1) := by decide +kernel
theorem dX3_readInRing_30 : decode cX3_readInRing 30 = .ok (.iadd, 1) := by decide +kernel
theorem dX3_readInRing_31 : decode cX3_readInRing 31 = .ok (.invokevirtual 87, 3) := by decide +kernel
theorem dX3_readInRing_34 : decode cX3_readInRing 34 = .ok (.invokevirtual 111, 3) := by decide +kernel
theorem dX3_readInRing_37 : decode cX3_readInRing 37 = .ok (.bipush (-4), 2) := by decide +kernel
theorem dX3_readInRing_39 : decode cX3_readInRing 39 = .ok (.if_icmp .eq 6, 3) := by decide +kernel
theorem dX3_readInRing_42 : decode cX3_readInRing 42 = .ok (.iinc 2 1, 3) := by decide +kernel
theorem dX3_readInRing_45 : decode cX3_readInRing 45 = .ok (.iinc 3 1, 3) := by decide +kernel
theorem dX3_readInRing_48 : decode cX3_readInRing 48 = .ok (.goto (-44), 3) := by decide +kernel
theorem dX3_readInRing_51 : decode cX3_readInRing 51 = .ok (.iload_n 2, 1) := by decide +kernel
theorem dX3_readInRing_52 : decode cX3_readInRing 52 = .ok (.ireturn, 1) := by decide +kernel
theorem dX3_roundsTogether_0 : decode cX3_roundsTogether 0 = .ok (.iconst 1, 1) := by decide +kernel
theorem dX3_roundsTogether_1 : decode cX3_roundsTogether 1 = .ok (.istore_n 1, 1) := by decide +kernel
theorem dX3_roundsTogether_2 : decode cX3_roundsTogether 2 = .ok (.iconst 0, 1) := by decide +kernel
theorem dX3_roundsTogether_3 : decode cX3_roundsTogether 3 = .ok (.istore_n 2, 1) := by decide +kernel
theorem dX3_roundsTogether_4 : decode cX3_roundsTogether 4 = .ok (.iload_n 2, 1) := by decide +kernel
theorem dX3_roundsTogether_5 : decode cX3_roundsTogether 5 = .ok (.aload_n 0, 1) := by decide +kernel
theorem dX3_roundsTogether_6 : decode cX3_roundsTogether 6 = .ok (.getfield 51, 3) := by decide +kernel
theorem dX3_roundsTogether_9 : decode cX3_roundsTogether 9 = .ok (.if_icmp .ge 22, 3) := by decide +kernel
theorem dX3_roundsTogether_12 : decode cX3_roundsTogether 12 = .ok (.iload_n 1, 1) := by decide +kernel
theorem dX3_roundsTogether_13 : decode cX3_roundsTogether 13 = .ok (.aload_n 0, 1) := by decide +kernel
theorem dX3_roundsTogether_14 : decode cX3_roundsTogether 14 = .ok (.getfield 39, 3) := by decide +kernel
theorem dX3_roundsTogether_17 : decode cX3_roundsTogether 17 = .ok (.iload_n 2, 1) := by decide +kernel
theorem dX3_roundsTogether_18 : decode cX3_roundsTogether 18 = .ok (.invokevirtual 87, 3) := by decide +kernel
theorem dX3_roundsTogether_21 : decode cX3_roundsTogether 21 = .ok (.invokestatic 114, 3) := by decide +kernel
theorem dX3_roundsTogether_24 : decode cX3_roundsTogether 24 = .ok (.istore_n 1, 1) := by decide +kernel
theorem dX3_roundsTogether_25 : decode cX3_roundsTogether 25 = .ok (.iinc 2 1, 3) := by decide +kernel
theorem dX3_roundsTogether_28 : decode cX3_roundsTogether 28 = .ok (.goto (-24), 3) := by decide +kernel
theorem dX3_roundsTogether_31 : decode cX3_roundsTogether 31 = .ok (.iload_n 1, 1) := by decide +kernel
theorem dX3_roundsTogether_32 : decode cX3_roundsTogether 32 = .ok (.ireturn, 1) := by decide +kernel
theorem dX3_commonMultiple_0 : decode cX3_commonMultiple 0 = .ok (.iconst 1, 1) := by decide +kernel
theorem dX3_commonMultiple_1 : decode cX3_commonMultiple 1 = .ok (.istore_n 2, 1) := by decide +kernel
theorem dX3_commonMultiple_2 : decode cX3_commonMultiple 2 = .ok (.iload_n 2, 1) := by decide +kernel
theorem dX3_commonMultiple_3 : decode cX3_commonMultiple 3 = .ok (.iload_n 1, 1) := by decide +kernel
theorem dX3_commonMultiple_4 : decode cX3_commonMultiple 4 = .ok (.if_icmp .ge 21, 3) := by decide +kernel
theorem dX3_commonMultiple_7 : decode cX3_commonMultiple 7 = .ok (.iload_n 0, 1) := by decide +kernel
theorem dX3_commonMultiple_8 : decode cX3_commonMultiple 8 = .ok (.iload_n 2, 1) := by decide +kernel
theorem dX3_commonMultiple_9 : decode cX3_commonMultiple 9 = .ok (.imul, 1) := by decide +kernel
theorem dX3_commonMultiple_10 : decode cX3_commonMultiple 10 = .ok (.iload_n 1, 1) := by decide +kernel
theorem dX3_commonMultiple_11 : decode cX3_commonMultiple 11 = .ok (.irem, 1) := by decide +kernel
theorem dX3_commonMultiple_12 : decode cX3_commonMultiple 12 = .ok (.ifCond .ne 7, 3) := by decide +kernel
theorem dX3_commonMultiple_15 : decode cX3_commonMultiple 15 = .ok (.iload_n 0, 1) := by decide +kernel
theorem dX3_commonMultiple_16 : decode cX3_commonMultiple 16 = .ok (.iload_n 2, 1) := by decide +kernel
theorem dX3_commonMultiple_17 : decode cX3_commonMultiple 17 = .ok (.imul, 1) := by decide +kernel
theorem dX3_commonMultiple_18 : decode cX3_commonMultiple 18 = .ok (.ireturn, 1) := by decide +kernel
theorem dX3_commonMultiple_19 : decode cX3_commonMultiple 19 = .ok (.iinc 2 1, 3) := by decide +kernel
theorem dX3_commonMultiple_22 : decode cX3_commonMultiple 22 = .ok (.goto (-20), 3) := by decide +kernel
theorem dX3_commonMultiple_25 : decode cX3_commonMultiple 25 = .ok (.iload_n 0, 1) := by decide +kernel
theorem dX3_commonMultiple_26 : decode cX3_commonMultiple 26 = .ok (.iload_n 1, 1) := by decide +kernel
theorem dX3_commonMultiple_27 : decode cX3_commonMultiple 27 = .ok (.imul, 1) := by decide +kernel
theorem dX3_commonMultiple_28 : decode cX3_commonMultiple 28 = .ok (.ireturn, 1) := by decide +kernel
theorem dX4_init_0 : decode cX4_init 0 = .ok (.aload_n 0, 1) := by decide +kernel
theorem dX4_init_1 : decode cX4_init 1 = .ok (.invokespecial 3, 3) := by decide +kernel
theorem dX4_init_4 : decode cX4_init 4 = .ok (.aload_n 0, 1) := by decide +kernel
theorem dX4_init_5 : decode cX4_init 5 = .ok (.iload_n 1, 1) := by decide +kernel
theorem dX4_init_6 : decode cX4_init 6 = .ok (.iconst 0, 1) := by decide +kernel
theorem dX4_init_7 : decode cX4_init 7 = .ok (.invokestatic 9, 3) := by decide +kernel
theorem dX4_init_10 : decode cX4_init 10 = .ok (.newarray .int, 2) := by decide +kernel
theorem dX4_init_12 : decode cX4_init 12 = .ok (.putfield 15, 3) := by decide +kernel
theorem dX4_init_15 : decode cX4_init 15 = .ok (.return_, 1) := by decide +kernel
theorem dX4_at_0 : decode cX4_at 0 = .ok (.iload_n 1, 1) := by decide +kernel
theorem dX4_at_1 : decode cX4_at 1 = .ok (.ifCond .lt 21, 3) := by decide +kernel
theorem dX4_at_4 : decode cX4_at 4 = .ok (.iload_n 1, 1) := by decide +kernel
theorem dX4_at_5 : decode cX4_at 5 = .ok (.aload_n 0, 1) := by decide +kernel
theorem dX4_at_6 : decode cX4_at 6 = .ok (.getfield 15, 3) := by decide +kernel
theorem dX4_at_9 : decode cX4_at 9 = .ok (.arraylength, 1) := by decide +kernel
theorem dX4_at_10 : decode cX4_at 10 = .ok (.if_icmp .ge 12, 3) := by decide +kernel
theorem dX4_at_13 : decode cX4_at 13 = .ok (.aload_n 0, 1) := by decide +kernel
theorem dX4_at_14 : decode cX4_at 14 = .ok (.getfield 15, 3) := by decide +kernel
theorem dX4_at_17 : decode cX4_at 17 = .ok (.iload_n 1, 1) := by decide +kernel
theorem dX4_at_18 : decode cX4_at 18 = .ok (.iaload, 1) := by decide +kernel
theorem dX4_at_19 : decode cX4_at 19 = .ok (.goto 5, 3) := by decide +kernel
theorem dX4_at_22 : decode cX4_at 22 = .ok (.bipush (-4), 2) := by decide +kernel
theorem dX4_at_24 : decode cX4_at 24 = .ok (.ireturn, 1) := by decide +kernel
theorem dX4_put_0 : decode cX4_put 0 = .ok (.iload_n 1, 1) := by decide +kernel
theorem dX4_put_1 : decode cX4_put 1 = .ok (.ifCond .lt 19, 3) := by decide +kernel
theorem dX4_put_4 : decode cX4_put 4 = .ok (.iload_n 1, 1) := by decide +kernel
theorem dX4_put_5 : decode cX4_put 5 = .ok (.aload_n 0, 1) := by decide +kernel
theorem dX4_put_6 : decode cX4_put 6 = .ok (.getfield 15, 3) := by decide +kernel
theorem dX4_put_9 : decode cX4_put 9 = .ok (.arraylength, 1) := by decide +kernel
theorem dX4_put_10 : decode cX4_put 10 = .ok (.if_icmp .ge 10, 3) := by decide +kernel
theorem dX4_put_13 : decode cX4_put 13 = .ok (.aload_n 0, 1) := by decide +kernel
theorem dX4_put_14 : decode cX4_put 14 = .ok (.getfield 15, 3) := by decide +kernel
theorem dX4_put_17 : decode cX4_put 17 = .ok (.iload_n 1, 1) := by decide +kernel
theorem dX4_put_18 : decode cX4_put 18 = .ok (.iload_n 2, 1) := by decide +kernel
theorem dX4_put_19 : decode cX4_put 19 = .ok (.iastore, 1) := by decide +kernel
theorem dX4_put_20 : decode cX4_put 20 = .ok (.return_, 1) := by decide +kernel
theorem dX4_copyFrom_0 : decode cX4_copyFrom 0 = .ok (.iconst 0, 1) := by decide +kernel
theorem dX4_copyFrom_1 : decode cX4_copyFrom 1 = .ok (.istore_n 2, 1) := by decide +kernel
theorem dX4_copyFrom_2 : decode cX4_copyFrom 2 = .ok (.iload_n 2, 1) := by decide +kernel
theorem dX4_copyFrom_3 : decode cX4_copyFrom 3 = .ok (.aload_n 0, 1) := by decide +kernel
theorem dX4_copyFrom_4 : decode cX4_copyFrom 4 = .ok (.getfield 15, 3) := by decide +kernel
theorem dX4_copyFrom_7 : decode cX4_copyFrom 7 = .ok (.arraylength, 1) := by decide +kernel
theorem dX4_copyFrom_8 : decode cX4_copyFrom 8 = .ok (.if_icmp .ge 20, 3) := by decide +kernel
theorem dX4_copyFrom_11 : decode cX4_copyFrom 11 = .ok (.aload_n 0, 1) := by decide +kernel
theorem dX4_copyFrom_12 : decode cX4_copyFrom 12 = .ok (.getfield 15, 3) := by decide +kernel
theorem dX4_copyFrom_15 : decode cX4_copyFrom 15 = .ok (.iload_n 2, 1) := by decide +kernel
theorem dX4_copyFrom_16 : decode cX4_copyFrom 16 = .ok (.aload_n 1, 1) := by decide +kernel
theorem dX4_copyFrom_17 : decode cX4_copyFrom 17 = .ok (.iload_n 2, 1) := by decide +kernel
theorem dX4_copyFrom_18 : decode cX4_copyFrom 18 = .ok (.invokevirtual 21, 3) := by decide +kernel
theorem dX4_copyFrom_21 : decode cX4_copyFrom 21 = .ok (.iastore, 1) := by decide +kernel
theorem dX4_copyFrom_22 : decode cX4_copyFrom 22 = .ok (.iinc 2 1, 3) := by decide +kernel
theorem dX4_copyFrom_25 : decode cX4_copyFrom 25 = .ok (.goto (-23), 3) := by decide +kernel
theorem dX4_copyFrom_28 : decode cX4_copyFrom 28 = .ok (.return_, 1) := by decide +kernel
theorem dX4_fill_0 : decode cX4_fill 0 = .ok (.iconst 0, 1) := by decide +kernel
theorem dX4_fill_1 : decode cX4_fill 1 = .ok (.istore_n 2, 1) := by decide +kernel
theorem dX4_fill_2 : decode cX4_fill 2 = .ok (.iload_n 2, 1) := by decide +kernel
theorem dX4_fill_3 : decode cX4_fill 3 = .ok (.aload_n 0, 1) := by decide +kernel
theorem dX4_fill_4 : decode cX4_fill 4 = .ok (.getfield 15, 3) := by decide +kernel
theorem dX4_fill_7 : decode cX4_fill 7 = .ok (.arraylength, 1) := by decide +kernel
theorem dX4_fill_8 : decode cX4_fill 8 = .ok (.if_icmp .ge 16, 3) := by decide +kernel
theorem dX4_fill_11 : decode cX4_fill 11 = .ok (.aload_n 0, 1) := by decide +kernel
theorem dX4_fill_12 : decode cX4_fill 12 = .ok (.getfield 15, 3) := by decide +kernel
theorem dX4_fill_15 : decode cX4_fill 15 = .ok (.iload_n 2, 1) := by decide +kernel
theorem dX4_fill_16 : decode cX4_fill 16 = .ok (.iload_n 1, 1) := by decide +kernel
theorem dX4_fill_17 : decode cX4_fill 17 = .ok (.iastore, 1) := by decide +kernel
theorem dX4_fill_18 : decode cX4_fill 18 = .ok (.iinc 2 1, 3) := by decide +kernel
theorem dX4_fill_21 : decode cX4_fill 21 = .ok (.goto (-19), 3) := by decide +kernel
theorem dX4_fill_24 : decode cX4_fill 24 = .ok (.return_, 1) := by decide +kernel
theorem dX5_init_0 : decode cX5_init 0 = .ok (.aload_n 0, 1) := by decide +kernel
theorem dX5_init_1 : decode cX5_init 1 = .ok (.invokespecial 3, 3) := by decide +kernel
theorem dX5_init_4 : decode cX5_init 4 = .ok (.aload_n 0, 1) := by decide +kernel
theorem dX5_init_5 : decode cX5_init 5 = .ok (.new 9, 3) := by decide +kernel
theorem dX5_init_8 : decode cX5_init 8 = .ok (.dup, 1) := by decide +kernel
theorem dX5_init_9 : decode cX5_init 9 = .ok (.sipush 300, 3) := by decide +kernel
theorem dX5_init_12 : decode cX5_init 12 = .ok (.invokespecial 11, 3) := by decide +kernel
theorem dX5_init_15 : decode cX5_init 15 = .ok (.putfield 14, 3) := by decide +kernel
theorem dX5_init_18 : decode cX5_init 18 = .ok (.return_, 1) := by decide +kernel
theorem dX5_size_0 : decode cX5_size 0 = .ok (.aload_n 0, 1) := by decide +kernel
theorem dX5_size_1 : decode cX5_size 1 = .ok (.getfield 20, 3) := by decide +kernel
theorem dX5_size_4 : decode cX5_size 4 = .ok (.ireturn, 1) := by decide +kernel
theorem dX5_byteAt_0 : decode cX5_byteAt 0 = .ok (.iload_n 1, 1) := by decide +kernel
theorem dX5_byteAt_1 : decode cX5_byteAt 1 = .ok (.aload_n 0, 1) := by decide +kernel
theorem dX5_byteAt_2 : decode cX5_byteAt 2 = .ok (.getfield 20, 3) := by decide +kernel
theorem dX5_byteAt_5 : decode cX5_byteAt 5 = .ok (.if_icmp .ge 14, 3) := by decide +kernel
theorem dX5_byteAt_8 : decode cX5_byteAt 8 = .ok (.aload_n 0, 1) := by decide +kernel
theorem dX5_byteAt_9 : decode cX5_byteAt 9 = .ok (.getfield 14, 3) := by decide +kernel
theorem dX5_byteAt_12 : decode cX5_byteAt 12 = .ok (.iload_n 1, 1) := by decide +kernel
theorem dX5_byteAt_13 : decode cX5_byteAt 13 = .ok (.invokevirtual 24, 3) := by decide +kernel
theorem dX5_byteAt_16 : decode cX5_byteAt 16 = .ok (.goto 5, 3) := by decide +kernel
theorem dX5_byteAt_19 : decode cX5_byteAt 19 = .ok (.bipush (-4), 2) := by decide +kernel
theorem dX5_byteAt_21 : decode cX5_byteAt 21 = .ok (.ireturn, 1) := by decide +kernel
theorem dX5_append_0 : decode cX5_append 0 = .ok (.iload_n 1, 1) := by decide +kernel
theorem dX5_append_1 : decode cX5_append 1 = .ok (.iconst 1, 1) := by decide +kernel
theorem dX5_append_2 : decode cX5_append 2 = .ok (.isub, 1) := by decide +kernel
theorem dX5_append_3 : decode cX5_append 3 = .ok (.istore 4, 2) := by decide +kernel
theorem dX5_append_5 : decode cX5_append 5 = .ok (.iload 4, 2) := by decide +kernel
theorem dX5_append_7 : decode cX5_append 7 = .ok (.ifCond .lt 42, 3) := by decide +kernel
theorem dX5_append_10 : decode cX5_append 10 = .ok (.aload_n 0, 1) := by decide +kernel
theorem dX5_append_11 : decode cX5_append 11 = .ok (.getfield 14, 3) := by decide +kernel
theorem dX5_append_14 : decode cX5_append 14 = .ok (.aload_n 0, 1) := by decide +kernel
theorem dX5_append_15 : decode cX5_append 15 = .ok (.getfield 20, 3) := by decide +kernel
theorem dX5_append_18 : decode cX5_append 18 = .ok (.lload_n 2, 1) := by decide +kernel
theorem dX5_append_19 : decode cX5_append 19 = .ok (.bipush 8, 2) := by decide +kernel
theorem dX5_append_21 : decode cX5_append 21 = .ok (.iload 4, 2) := by decide +kernel
theorem dX5_append_23 : decode cX5_append 23 = .ok (.imul, 1) := by decide +kernel
theorem dX5_append_24 : decode cX5_append 24 = .ok (.lushr, 1) := by decide +kernel
theorem dX5_append_25 : decode cX5_append 25 = .ok (.ldc2_w 28, 3) := by decide +kernel
theorem dX5_append_28 : decode cX5_append 28 = .ok (.land, 1) := by decide +kernel
theorem dX5_append_29 : decode cX5_append 29 = .ok (.l2i, 1) := by decide +kernel
theorem dX5_append_30 : decode cX5_append 30 = .ok (.invokevirtual 30, 3) := by decide +kernel
theorem dX5_append_33 : decode cX5_append 33 = .ok (.aload_n 0, 1) := by decide +kernel
theorem dX5_append_34 : decode cX5_append 34 = .ok (.dup, 1) := by decide +kernel
theorem dX5_append_35 : decode cX5_append 35 = .ok (.getfield 20, 3) := by decide +kernel
theorem dX5_append_38 : decode cX5_append 38 = .ok (.iconst 1, 1) := by decide +kernel
theorem dX5_append_39 : decode cX5_append 39 = .ok (.iadd, 1) := by decide +kernel
theorem dX5_append_40 : decode cX5_append 40 = .ok (.putfield 20, 3) := by decide +kernel
theorem dX5_append_43 : decode cX5_append 43 = .ok (.iinc 4 (-1), 3) := by decide +kernel
theorem dX5_append_46 : decode cX5_append 46 = .ok (.goto (-41), 3) := by decide +kernel
theorem dX5_append_49 : decode cX5_append 49 = .ok (.return_, 1) := by decide +kernel
theorem dX5_clear_0 : decode cX5_clear 0 = .ok (.aload_n 0, 1) := by decide +kernel
theorem dX5_clear_1 : decode cX5_clear 1 = .ok (.getfield 20, 3) := by decide +kernel
theorem dX5_clear_4 : decode cX5_clear 4 = .ok (.istore_n 1, 1) := by decide +kernel
theorem dX5_clear_5 : decode cX5_clear 5 = .ok (.aload_n 0, 1) := by decide +kernel
theorem dX5_clear_6 : decode cX5_clear 6 = .ok (.iconst 0, 1) := by decide +kernel
theorem dX5_clear_7 : decode cX5_clear 7 = .ok (.putfield 20, 3) := by decide +kernel
theorem dX5_clear_10 : decode cX5_clear 10 = .ok (.iload_n 1, 1) := by decide +kernel
theorem dX5_clear_11 : decode cX5_clear 11 = .ok (.ireturn, 1) := by decide +kernel
theorem dX5_figuresFrom_0 : decode cX5_figuresFrom 0 = .ok (.aload_n 0, 1) := by decide +kernel
theorem dX5_figuresFrom_1 : decode cX5_figuresFrom 1 = .ok (.iload_n 1, 1) := by decide +kernel
theorem dX5_figuresFrom_2 : decode cX5_figuresFrom 2 = .ok (.invokevirtual 34, 3) := by decide +kernel
theorem dX5_figuresFrom_5 : decode cX5_figuresFrom 5 = .ok (.invokestatic 37, 3) := by decide +kernel
theorem dX5_figuresFrom_8 : decode cX5_figuresFrom 8 = .ok (.ifCond .ne 5, 3) := by decide +kernel
theorem dX5_figuresFrom_11 : decode cX5_figuresFrom 11 = .ok (.iconst 0, 1) := by decide +kernel
theorem dX5_figuresFrom_12 : decode cX5_figuresFrom 12 = .ok (.ireturn, 1) := by decide +kernel
theorem dX5_figuresFrom_13 : decode cX5_figuresFrom 13 = .ok (.aload_n 0, 1) := by decide +kernel
theorem dX5_figuresFrom_14 : decode cX5_figuresFrom 14 = .ok (.iload_n 1, 1) := by decide +kernel
theorem dX5_figuresFrom_15 : decode cX5_figuresFrom 15 = .ok (.iconst 1, 1) := by decide +kernel
theorem dX5_figuresFrom_16 : decode cX5_figuresFrom 16 = .ok (.iadd, 1) := by decide +kernel
theorem dX5_figuresFrom_17 : decode cX5_figuresFrom 17 = .ok (.invokevirtual 34, 3) := by decide +kernel
theorem dX5_figuresFrom_20 : decode cX5_figuresFrom 20 = .ok (.invokestatic 37, 3) := by decide +kernel
theorem dX5_figuresFrom_23 : decode cX5_figuresFrom 23 = .ok (.ifCond .eq 7, 3) := by decide +kernel
theorem dX5_figuresFrom_26 : decode cX5_figuresFrom 26 = .ok (.iconst 2, 1) := by decide +kernel
theorem dX5_figuresFrom_27 : decode cX5_figuresFrom 27 = .ok (.goto 4, 3) := by decide +kernel
theorem dX5_figuresFrom_30 : decode cX5_figuresFrom 30 = .ok (.iconst 1, 1) := by decide +kernel
theorem dX5_figuresFrom_31 : decode cX5_figuresFrom 31 = .ok (.ireturn, 1) := by decide +kernel
theorem dX5_numberAt_0 : decode cX5_numberAt 0 = .ok (.iconst 0, 1) := by decide +kernel
theorem dX5_numberAt_1 : decode cX5_numberAt 1 = .ok (.istore_n 3, 1) := by decide +kernel
theorem dX5_numberAt_2 : decode cX5_numberAt 2 = .ok (.iconst 0, 1) := by decide +kernel
theorem dX5_numberAt_3 : decode cX5_numberAt 3 = .ok (.istore 4, 2) := by decide +kernel
theorem dX5_numberAt_5 : decode cX5_numberAt 5 = .ok (.iload 4, 2) := by decide +kernel
theorem dX5_numberAt_7 : decode cX5_numberAt 7 = .ok (.iload_n 2, 1) := by decide +kernel
theorem dX5_numberAt_8 : decode cX5_numberAt 8 = .ok (.if_icmp .ge 26, 3) := by decide +kernel
theorem dX5_numberAt_11 : decode cX5_numberAt 11 = .ok (.bipush 10, 2) := by decide +kernel
theorem dX5_numberAt_13 : decode cX5_numberAt 13 = .ok (.iload_n 3, 1) := by decide +kernel
theorem dX5_numberAt_14 : decode cX5_numberAt 14 = .ok (.imul, 1) := by decide +kernel
theorem dX5_numberAt_15 : decode cX5_numberAt 15 = .ok (.aload_n 0, 1) := by decide +kernel
theorem dX5_numberAt_16 : decode cX5_numberAt 16 = .ok (.iload_n 1, 1) := by decide +kernel
theorem dX5_numberAt_17 : decode cX5_numberAt 17 = .ok (.iload 4, 2) := by decide +kernel
theorem dX5_numberAt_19 : decode cX5_numberAt 19 = .ok (.iadd, 1) := by decide +kernel
theorem dX5_numberAt_20 : decode cX5_numberAt 20 = .ok (.invokevirtual 34, 3) := by decide +kernel
theorem dX5_numberAt_23 : decode cX5_numberAt 23 = .ok (.iadd, 1) := by decide +kernel
theorem dX5_numberAt_24 : decode cX5_numberAt 24 = .ok (.bipush 48, 2) := by decide +kernel
theorem dX5_numberAt_26 : decode cX5_numberAt 26 = .ok (.isub, 1) := by decide +kernel
theorem dX5_numberAt_27 : decode cX5_numberAt 27 = .ok (.istore_n 3, 1) := by decide +kernel
theorem dX5_numberAt_28 : decode cX5_numberAt 28 = .ok (.iinc 4 1, 3) := by decide +kernel
theorem dX5_numberAt_31 : decode cX5_numberAt 31 = .ok (.goto (-26), 3) := by decide +kernel
theorem dX5_numberAt_34 : decode cX5_numberAt 34 = .ok (.iload_n 3, 1) := by decide +kernel
theorem dX5_numberAt_35 : decode cX5_numberAt 35 = .ok (.ireturn, 1) := by decide +kernel
theorem dX5_isFigure_0 : decode cX5_isFigure 0 = .ok (.iload_n 0, 1) := by decide +kernel
theorem dX5_isFigure_1 : decode cX5_isFigure 1 = .ok (.bipush 48, 2) := by decide +kernel
theorem dX5_isFigure_3 : decode cX5_isFigure 3 = .ok (.bipush 57, 2) := by decide +kernel
theorem dX5_isFigure_5 : decode cX5_isFigure 5 = .ok (.invokestatic 41, 3) := by decide +kernel
theorem dX5_isFigure_8 : decode cX5_isFigure 8 = .ok (.ireturn, 1) := by decide +kernel
theorem dX6_init_0 : decode cX6_init 0 = .ok (.aload_n 0, 1) := by decide +kernel
theorem dX6_init_1 : decode cX6_init 1 = .ok (.invokespecial 3, 3) := by decide +kernel
theorem dX6_init_4 : decode cX6_init 4 = .ok (.aload_n 0, 1) := by decide +kernel
theorem dX6_init_5 : decode cX6_init 5 = .ok (.new 9, 3) := by decide +kernel
theorem dX6_init_8 : decode cX6_init 8 = .ok (.dup, 1) := by decide +kernel
theorem dX6_init_9 : decode cX6_init 9 = .ok (.bipush 20, 2) := by decide +kernel
theorem dX6_init_11 : decode cX6_init 11 = .ok (.invokespecial 11, 3) := by decide +kernel
theorem dX6_init_14 : decode cX6_init 14 = .ok (.putfield 14, 3) := by decide +kernel
theorem dX6_init_17 : decode cX6_init 17 = .ok (.aload_n 0, 1) := by decide +kernel
theorem dX6_init_18 : decode cX6_init 18 = .ok (.new 9, 3) := by decide +kernel
theorem dX6_init_21 : decode cX6_init 21 = .ok (.dup, 1) := by decide +kernel
theorem dX6_init_22 : decode cX6_init 22 = .ok (.bipush 20, 2) := by decide +kernel
theorem dX6_init_24 : decode cX6_init 24 = .ok (.invokespecial 11, 3) := by decide +kernel
theorem dX6_init_27 : decode cX6_init 27 = .ok (.putfield 20, 3) := by decide +kernel
theorem dX6_init_30 : decode cX6_init 30 = .ok (.aload_n 0, 1) := by decide +kernel
theorem dX6_init_31 : decode cX6_init 31 = .ok (.new 9, 3) := by decide +kernel
theorem dX6_init_34 : decode cX6_init 34 = .ok (.dup, 1) := by decide +kernel
theorem dX6_init_35 : decode cX6_init 35 = .ok (.bipush 20, 2) := by decide +kernel
theorem dX6_init_37 : decode cX6_init 37 = .ok (.invokespecial 11, 3) := by decide +kernel
theorem dX6_init_40 : decode cX6_init 40 = .ok (.putfield 23, 3) := by decide +kernel
theorem dX6_init_43 : decode cX6_init 43 = .ok (.aload_n 0, 1) := by decide +kernel
theorem dX6_init_44 : decode cX6_init 44 = .ok (.new 9, 3) := by decide +kernel
theorem dX6_init_47 : decode cX6_init 47 = .ok (.dup, 1) := by decide +kernel
theorem dX6_init_48 : decode cX6_init 48 = .ok (.iconst 2, 1) := by decide +kernel
theorem dX6_init_49 : decode cX6_init 49 = .ok (.invokespecial 11, 3) := by decide +kernel
theorem dX6_init_52 : decode cX6_init 52 = .ok (.putfield 26, 3) := by decide +kernel
theorem dX6_init_55 : decode cX6_init 55 = .ok (.aload_n 0, 1) := by decide +kernel
theorem dX6_init_56 : decode cX6_init 56 = .ok (.invokevirtual 29, 3) := by decide +kernel
theorem dX6_init_59 : decode cX6_init 59 = .ok (.return_, 1) := by decide +kernel
theorem dX6_tellNothing_0 : decode cX6_tellNothing 0 = .ok (.aload_n 0, 1) := by decide +kernel
theorem dX6_tellNothing_1 : decode cX6_tellNothing 1 = .ok (.bipush 10, 2) := by decide +kernel
theorem dX6_tellNothing_3 : decode cX6_tellNothing 3 = .ok (.putfield 32, 3) := by decide +kernel
theorem dX6_tellNothing_6 : decode cX6_tellNothing 6 = .ok (.aload_n 0, 1) := by decide +kernel
theorem dX6_tellNothing_7 : decode cX6_tellNothing 7 = .ok (.bipush 9, 2) := by decide +kernel
theorem dX6_tellNothing_9 : decode cX6_tellNothing 9 = .ok (.putfield 36, 3) := by decide +kernel
theorem dX6_tellNothing_12 : decode cX6_tellNothing 12 = .ok (.aload_n 0, 1) := by decide +kernel
theorem dX6_tellNothing_13 : decode cX6_tellNothing 13 = .ok (.iconst 0, 1) := by decide +kernel
theorem dX6_tellNothing_14 : decode cX6_tellNothing 14 = .ok (.putfield 39, 3) := by decide +kernel
theorem dX6_tellNothing_17 : decode cX6_tellNothing 17 = .ok (.aload_n 0, 1) := by decide +kernel
theorem dX6_tellNothing_18 : decode cX6_tellNothing 18 = .ok (.iconst 2, 1) := by decide +kernel
theorem dX6_tellNothing_19 : decode cX6_tellNothing 19 = .ok (.putfield 42, 3) := by decide +kernel
theorem dX6_tellNothing_22 : decode cX6_tellNothing 22 = .ok (.aload_n 0, 1) := by decide +kernel
theorem dX6_tellNothing_23 : decode cX6_tellNothing 23 = .ok (.iconst 0, 1) := by decide +kernel
theorem dX6_tellNothing_24 : decode cX6_tellNothing 24 = .ok (.putfield 45, 3) := by decide +kernel
theorem dX6_tellNothing_27 : decode cX6_tellNothing 27 = .ok (.aload_n 0, 1) := by decide +kernel
theorem dX6_tellNothing_28 : decode cX6_tellNothing 28 = .ok (.iconst 0, 1) := by decide +kernel
theorem dX6_tellNothing_29 : decode cX6_tellNothing 29 = .ok (.putfield 48, 3) := by decide +kernel
theorem dX6_tellNothing_32 : decode cX6_tellNothing 32 = .ok (.return_, 1) := by decide +kernel
theorem dX6_scan_0 : decode cX6_scan 0 = .ok (.aload_n 0, 1) := by decide +kernel
theorem dX6_scan_1 : decode cX6_scan 1 = .ok (.invokevirtual 29, 3) := by decide +kernel
theorem dX6_scan_4 : decode cX6_scan 4 = .ok (.iconst 0, 1) := by decide +kernel
theorem dX6_scan_5 : decode cX6_scan 5 = .ok (.istore_n 2, 1) := by decide +kernel
theorem dX6_scan_6 : decode cX6_scan 6 = .ok (.iload_n 2, 1) := by decide +kernel
theorem dX6_scan_7 : decode cX6_scan 7 = .ok (.aload_n 1, 1) := by decide +kernel
theorem dX6_scan_8 : decode cX6_scan 8 = .ok (.invokevirtual 51, 3) := by decide +kernel
theorem dX6_scan_11 : decode cX6_scan 11 = .ok (.if_icmp .ge 22, 3) := by decide +kernel
theorem dX6_scan_14 : decode cX6_scan 14 = .ok (.aload_n 0, 1) := by decide +kernel
theorem dX6_scan_15 : decode cX6_scan 15 = .ok (.aload_n 1, 1) := by decide +kernel
theorem dX6_scan_16 : decode cX6_scan 16 = .ok (.iload_n 2, 1) := by decide +kernel
theorem dX6_scan_17 : decode cX6_scan 17 = .ok (.invokevirtual 57, 3) := by decide +kernel
theorem dX6_scan_20 : decode cX6_scan 20 = .ok (.istore_n 3, 1) := by decide +kernel
theorem dX6_scan_21 : decode cX6_scan 21 = .ok (.iload_n 3, 1) := by decide +kernel
theorem dX6_scan_22 : decode cX6_scan 22 = .ok (.iload_n 2, 1) := by decide +kernel
theorem dX6_scan_23 : decode cX6_scan 23 = .ok (.if_icmp .gt 5, 3) := by decide +kernel
theorem dX6_scan_26 : decode cX6_scan 26 = .ok (.iload_n 2, 1) := by decide +kernel
theorem dX6_scan_27 : decode cX6_scan 27 = .ok (.ireturn, 1) := by decide +kernel
theorem dX6_scan_28 : decode cX6_scan 28 = .ok (.iload_n 3, 1) := by decide +kernel
theorem dX6_scan_29 : decode cX6_scan 29 = .ok (.istore_n 2, 1) := by decide +kernel
theorem dX6_scan_30 : decode cX6_scan 30 = .ok (.goto (-24), 3) := by decide +kernel
theorem dX6_scan_33 : decode cX6_scan 33 = .ok (.bipush (-4), 2) := by decide +kernel
theorem dX6_scan_35 : decode cX6_scan 35 = .ok (.ireturn, 1) := by decide +kernel
theorem dX6_scanItem_0 : decode cX6_scanItem 0 = .ok (.aload_n 1, 1) := by decide +kernel
theorem dX6_scanItem_1 : decode cX6_scanItem 1 = .ok (.iload_n 2, 1) := by decide +kernel
theorem dX6_scanItem_2 : decode cX6_scanItem 2 = .ok (.invokevirtual 61, 3) := by decide +kernel
theorem dX6_scanItem_5 : decode cX6_scanItem 5 = .ok (.istore_n 3, 1) := by decide +kernel
theorem dX6_scanItem_6 : decode cX6_scanItem 6 = .ok (.iload_n 3, 1) := by decide +kernel
theorem dX6_scanItem_7 : decode cX6_scanItem 7 = .ok (.invokestatic 65, 3) := by decide +kernel
theorem dX6_scanItem_10 : decode cX6_scanItem 10 = .ok (.istore 4, 2) := by decide +kernel
theorem dX6_scanItem_12 : decode cX6_scanItem 12 = .ok (.iload_n 2, 1) := by decide +kernel
theorem dX6_scanItem_13 : decode cX6_scanItem 13 = .ok (.iconst 1, 1) := by decide +kernel
theorem dX6_scanItem_14 : decode cX6_scanItem 14 = .ok (.iadd, 1) := by decide +kernel
theorem dX6_scanItem_15 : decode cX6_scanItem 15 = .ok (.istore 5, 2) := by decide +kernel
theorem dX6_scanItem_17 : decode cX6_scanItem 17 = .ok (.iconst 0, 1) := by decide +kernel
theorem dX6_scanItem_18 : decode cX6_scanItem 18 = .ok (.istore 6, 2) := by decide +kernel
theorem dX6_scanItem_20 : decode cX6_scanItem 20 = .ok (.iload 6, 2) := by decide +kernel
theorem dX6_scanItem_22 : decode cX6_scanItem 22 = .ok (.iload 4, 2) := by decide +kernel
theorem dX6_scanItem_24 : decode cX6_scanItem 24 = .ok (.if_icmp .ge 80, 3) := by decide +kernel
theorem dX6_scanItem_27 : decode cX6_scanItem 27 = .ok (.aload_n 1, 1) := by decide +kernel
theorem dX6_scanItem_28 : decode cX6_scanItem 28 = .ok (.iload 5, 2) := by decide +kernel
theorem dX6_scanItem_30 : decode cX6_scanItem 30 = .ok (.invokevirtual 68, 3) := by decide +kernel
theorem dX6_scanItem_33 : decode cX6_scanItem 33 = .ok (.istore 7, 2) := by decide +kernel
theorem dX6_scanItem_35 : decode cX6_scanItem 35 = .ok (.iload 7, 2) := by decide +kernel
theorem dX6_scanItem_37 : decode cX6_scanItem 37 = .ok (.ifCond .ne 6, 3) := by decide +kernel
theorem dX6_scanItem_40 : decode cX6_scanItem 40 = .ok (.bipush (-4), 2) := by decide +kernel
theorem dX6_scanItem_42 : decode cX6_scanItem 42 = .ok (.ireturn, 1) := by decide +kernel
theorem dX6_scanItem_43 : decode cX6_scanItem 43 = .ok (.aload_n 0, 1) := by decide +kernel
theorem dX6_scanItem_44 : decode cX6_scanItem 44 = .ok (.getfield 26, 3) := by decide +kernel
theorem dX6_scanItem_47 : decode cX6_scanItem 47 = .ok (.iload 6, 2) := by decide +kernel
theorem dX6_scanItem_49 : decode cX6_scanItem 49 = .ok (.aload_n 1, 1) := by decide +kernel
theorem dX6_scanItem_50 : decode cX6_scanItem 50 = .ok (.iload 5, 2) := by decide +kernel
theorem dX6_scanItem_52 : decode cX6_scanItem 52 = .ok (.iload 7, 2) := by decide +kernel
theorem dX6_scanItem_54 : decode cX6_scanItem 54 = .ok (.invokevirtual 71, 3) := by decide +kernel
theorem dX6_scanItem_57 : decode cX6_scanItem 57 = .ok (.invokevirtual 75, 3) := by decide +kernel
theorem dX6_scanItem_60 : decode cX6_scanItem 60 = .ok (.iload 5, 2) := by decide +kernel
theorem dX6_scanItem_62 : decode cX6_scanItem 62 = .ok (.iload 7, 2) := by decide +kernel
theorem dX6_scanItem_64 : decode cX6_scanItem 64 = .ok (.iadd, 1) := by decide +kernel
theorem dX6_scanItem_65 : decode cX6_scanItem 65 = .ok (.istore 5, 2) := by decide +kernel
theorem dX6_scanItem_67 : decode cX6_scanItem 67 = .ok (.aload_n 1, 1) := by decide +kernel
theorem dX6_scanItem_68 : decode cX6_scanItem 68 = .ok (.iload 5, 2) := by decide +kernel
theorem dX6_scanItem_70 : decode cX6_scanItem 70 = .ok (.invokevirtual 61, 3) := by decide +kernel
theorem dX6_scanItem_73 : decode cX6_scanItem 73 = .ok (.iload 6, 2) := by decide +kernel
theorem dX6_scanItem_75 : decode cX6_scanItem 75 = .ok (.iconst 1, 1) := by decide +kernel
theorem dX6_scanItem_76 : decode cX6_scanItem 76 = .ok (.iadd, 1) := by decide +kernel
theorem dX6_scanItem_77 : decode cX6_scanItem 77 = .ok (.iload 4, 2) := by decide +kernel
theorem dX6_scanItem_79 : decode cX6_scanItem 79 = .ok (.if_icmp .ge 8, 3) := by decide +kernel
theorem dX6_scanItem_82 : decode cX6_scanItem 82 = .ok (.bipush 44, 2) := by decide +kernel
theorem dX6_scanItem_84 : decode cX6_scanItem 84 = .ok (.goto 5, 3) := by decide +kernel
theorem dX6_scanItem_87 : decode cX6_scanItem 87 = .ok (.bipush 59, 2) := by decide +kernel
theorem dX6_scanItem_89 : decode cX6_scanItem 89 = .ok (.if_icmp .eq 6, 3) := by decide +kernel
theorem dX6_scanItem_92 : decode cX6_scanItem 92 = .ok (.bipush (-4), 2) := by decide +kernel
theorem dX6_scanItem_94 : decode cX6_scanItem 94 = .ok (.ireturn, 1) := by decide +kernel
theorem dX6_scanItem_95 : decode cX6_scanItem 95 = .ok (.iinc 5 1, 3) := by decide +kernel
theorem dX6_scanItem_98 : decode cX6_scanItem 98 = .ok (.iinc 6 1, 3) := by decide +kernel
theorem dX6_scanItem_101 : decode cX6_scanItem 101 = .ok (.goto (-81), 3) := by decide +kernel
theorem dX6_scanItem_104 : decode cX6_scanItem 104 = .ok (.aload_n 0, 1) := by decide +kernel
theorem dX6_scanItem_105 : decode cX6_scanItem 105 = .ok (.iload_n 3, 1) := by decide +kernel
theorem dX6_scanItem_106 : decode cX6_scanItem 106 = .ok (.aload_n 0, 1) := by decide +kernel
theorem dX6_scanItem_107 : decode cX6_scanItem 107 = .ok (.getfield 26, 3) := by decide +kernel
theorem dX6_scanItem_110 : decode cX6_scanItem 110 = .ok (.iconst 0, 1) := by decide +kernel
theorem dX6_scanItem_111 : decode cX6_scanItem 111 = .ok (.invokevirtual 79, 3) := by decide +kernel
theorem dX6_scanItem_114 : decode cX6_scanItem 114 = .ok (.aload_n 0, 1) := by decide +kernel
theorem dX6_scanItem_115 : decode cX6_scanItem 115 = .ok (.getfield 26, 3) := by decide +kernel
theorem dX6_scanItem_118 : decode cX6_scanItem 118 = .ok (.iconst 1, 1) := by decide +kernel
theorem dX6_scanItem_119 : decode cX6_scanItem 119 = .ok (.invokevirtual 79, 3) := by decide +kernel
theorem dX6_scanItem_122 : decode cX6_scanItem 122 = .ok (.invokevirtual 82, 3) := by decide +kernel
theorem dX6_scanItem_125 : decode cX6_scanItem 125 = .ok (.ifCond .eq 8, 3) := by decide +kernel
theorem dX6_scanItem_128 : decode cX6_scanItem 128 = .ok (.iload 5, 2) := by decide +kernel
theorem dX6_scanItem_130 : decode cX6_scanItem 130 = .ok (.goto 5, 3) := by decide +kernel
theorem dX6_scanItem_133 : decode cX6_scanItem 133 = .ok (.bipush (-4), 2) := by decide +kernel
theorem dX6_scanItem_135 : decode cX6_scanItem 135 = .ok (.ireturn, 1) := by decide +kernel
theorem dX6_numbersWanted_0 : decode cX6_numbersWanted 0 = .ok (.iload_n 0, 1) := by decide +kernel
theorem dX6_numbersWanted_1 : decode cX6_numbersWanted 1 = .ok (.tableswitch 55 108 116 #[53, 55, 51, 55, 55, 55, 51, 53, 51], 51) := by decide +kernel
theorem dX6_numbersWanted_52 : decode cX6_numbersWanted 52 = .ok (.iconst 1, 1) := by decide +kernel
theorem dX6_numbersWanted_53 : decode cX6_numbersWanted 53 = .ok (.ireturn, 1) := by decide +kernel
theorem dX6_numbersWanted_54 : decode cX6_numbersWanted 54 = .ok (.iconst 2, 1) := by decide +kernel
theorem dX6_numbersWanted_55 : decode cX6_numbersWanted 55 = .ok (.ireturn, 1) := by decide +kernel
theorem dX6_numbersWanted_56 : decode cX6_numbersWanted 56 = .ok (.iconst 0, 1) := by decide +kernel
theorem dX6_numbersWanted_57 : decode cX6_numbersWanted 57 = .ok (.ireturn, 1) := by decide +kernel
theorem dX6_takeIn_0 : decode cX6_takeIn 0 = .ok (.iload_n 1, 1) := by decide +kernel
theorem dX6_takeIn_1 : decode cX6_takeIn 1 = .ok (.tableswitch 83 108 116 #[63, 83, 51, 83, 83, 83, 57, 70, 77], 51) := by decide +kernel
theorem dX6_takeIn_52 : decode cX6_takeIn 52 = .ok (.aload_n 0, 1) := by decide +kernel
theorem dX6_takeIn_53 : decode cX6_takeIn 53 = .ok (.iload_n 2, 1) := by decide +kernel
theorem dX6_takeIn_54 : decode cX6_takeIn 54 = .ok (.invokevirtual 86, 3) := by decide +kernel
theorem dX6_takeIn_57 : decode cX6_takeIn 57 = .ok (.ireturn, 1) := by decide +kernel
theorem dX6_takeIn_58 : decode cX6_takeIn 58 = .ok (.aload_n 0, 1) := by decide +kernel
theorem dX6_takeIn_59 : decode cX6_takeIn 59 = .ok (.iload_n 2, 1) := by decide +kernel
theorem dX6_takeIn_60 : decode cX6_takeIn 60 = .ok (.invokevirtual 90, 3) := by decide +kernel
theorem dX6_takeIn_63 : decode cX6_takeIn 63 = .ok (.ireturn, 1) := by decide +kernel
theorem dX6_takeIn_64 : decode cX6_takeIn 64 = .ok (.aload_n 0, 1) := by decide +kernel
theorem dX6_takeIn_65 : decode cX6_takeIn 65 = .ok (.iload_n 2, 1) := by decide +kernel
theorem dX6_takeIn_66 : decode cX6_takeIn 66 = .ok (.iload_n 3, 1) := by decide +kernel
theorem dX6_takeIn_67 : decode cX6_takeIn 67 = .ok (.invokevirtual 93, 3) := by decide +kernel
theorem dX6_takeIn_70 : decode cX6_takeIn 70 = .ok (.ireturn, 1) := by decide +kernel
theorem dX6_takeIn_71 : decode cX6_takeIn 71 = .ok (.aload_n 0, 1) := by decide +kernel
theorem dX6_takeIn_72 : decode cX6_takeIn 72 = .ok (.iload_n 2, 1) := by decide +kernel
theorem dX6_takeIn_73 : decode cX6_takeIn 73 = .ok (.iload_n 3, 1) := by decide +kernel
theorem dX6_takeIn_74 : decode cX6_takeIn 74 = .ok (.invokevirtual 97, 3) := by decide +kernel
theorem dX6_takeIn_77 : decode cX6_takeIn 77 = .ok (.ireturn, 1) := by decide +kernel
theorem dX6_takeIn_78 : decode cX6_takeIn 78 = .ok (.aload_n 0, 1) := by decide +kernel
theorem dX6_takeIn_79 : decode cX6_takeIn 79 = .ok (.iload_n 2, 1) := by decide +kernel
theorem dX6_takeIn_80 : decode cX6_takeIn 80 = .ok (.invokevirtual 100, 3) := by decide +kernel
theorem dX6_takeIn_83 : decode cX6_takeIn 83 = .ok (.ireturn, 1) := by decide +kernel
theorem dX6_takeIn_84 : decode cX6_takeIn 84 = .ok (.iconst 0, 1) := by decide +kernel
theorem dX6_takeIn_85 : decode cX6_takeIn 85 = .ok (.ireturn, 1) := by decide +kernel
theorem dX6_takeLeafCount_0 : decode cX6_takeLeafCount 0 = .ok (.aload_n 0, 1) := by decide +kernel
theorem dX6_takeLeafCount_1 : decode cX6_takeLeafCount 1 = .ok (.iload_n 1, 1) := by decide +kernel
theorem dX6_takeLeafCount_2 : decode cX6_takeLeafCount 2 = .ok (.putfield 32, 3) := by decide +kernel
theorem dX6_takeLeafCount_5 : decode cX6_takeLeafCount 5 = .ok (.iload_n 1, 1) := by decide +kernel
theorem dX6_takeLeafCount_6 : decode cX6_takeLeafCount 6 = .ok (.iconst 2, 1) := by decide +kernel
theorem dX6_takeLeafCount_7 : decode cX6_takeLeafCount 7 = .ok (.bipush 40, 2) := by decide +kernel
theorem dX6_takeLeafCount_9 : decode cX6_takeLeafCount 9 = .ok (.invokestatic 103, 3) := by decide +kernel
theorem dX6_takeLeafCount_12 : decode cX6_takeLeafCount 12 = .ok (.ireturn, 1) := by decide +kernel
theorem dX6_takePerReader_0 : decode cX6_takePerReader 0 = .ok (.aload_n 0, 1) := by decide +kernel
theorem dX6_takePerReader_1 : decode cX6_takePerReader 1 = .ok (.iload_n 1, 1) := by decide +kernel
theorem dX6_takePerReader_2 : decode cX6_takePerReader 2 = .ok (.putfield 36, 3) := by decide +kernel
theorem dX6_takePerReader_5 : decode cX6_takePerReader 5 = .ok (.iload_n 1, 1) := by decide +kernel
theorem dX6_takePerReader_6 : decode cX6_takePerReader 6 = .ok (.iconst 1, 1) := by decide +kernel
theorem dX6_takePerReader_7 : decode cX6_takePerReader 7 = .ok (.bipush 40, 2) := by decide +kernel
theorem dX6_takePerReader_9 : decode cX6_takePerReader 9 = .ok (.invokestatic 103, 3) := by decide +kernel
theorem dX6_takePerReader_12 : decode cX6_takePerReader 12 = .ok (.ireturn, 1) := by decide +kernel
theorem dX6_takeLaw_0 : decode cX6_takeLaw 0 = .ok (.aload_n 0, 1) := by decide +kernel
theorem dX6_takeLaw_1 : decode cX6_takeLaw 1 = .ok (.iload_n 1, 1) := by decide +kernel
theorem dX6_takeLaw_2 : decode cX6_takeLaw 2 = .ok (.putfield 39, 3) := by decide +kernel
theorem dX6_takeLaw_5 : decode cX6_takeLaw 5 = .ok (.aload_n 0, 1) := by decide +kernel
theorem dX6_takeLaw_6 : decode cX6_takeLaw 6 = .ok (.iload_n 2, 1) := by decide +kernel
theorem dX6_takeLaw_7 : decode cX6_takeLaw 7 = .ok (.putfield 42, 3) := by decide +kernel
theorem dX6_takeLaw_10 : decode cX6_takeLaw 10 = .ok (.iload_n 1, 1) := by decide +kernel
theorem dX6_takeLaw_11 : decode cX6_takeLaw 11 = .ok (.iconst 0, 1) := by decide +kernel
theorem dX6_takeLaw_12 : decode cX6_takeLaw 12 = .ok (.iconst 3, 1) := by decide +kernel
theorem dX6_takeLaw_13 : decode cX6_takeLaw 13 = .ok (.invokestatic 103, 3) := by decide +kernel
theorem dX6_takeLaw_16 : decode cX6_takeLaw 16 = .ok (.ifCond .eq 17, 3) := by decide +kernel
theorem dX6_takeLaw_19 : decode cX6_takeLaw 19 = .ok (.iload_n 2, 1) := by decide +kernel
theorem dX6_takeLaw_20 : decode cX6_takeLaw 20 = .ok (.iconst 0, 1) := by decide +kernel
theorem dX6_takeLaw_21 : decode cX6_takeLaw 21 = .ok (.bipush 39, 2) := by decide +kernel
theorem dX6_takeLaw_23 : decode cX6_takeLaw 23 = .ok (.invokestatic 103, 3) := by decide +kernel
theorem dX6_takeLaw_26 : decode cX6_takeLaw 26 = .ok (.ifCond .eq 7, 3) := by decide +kernel
theorem dX6_takeLaw_29 : decode cX6_takeLaw 29 = .ok (.iconst 1, 1) := by decide +kernel
theorem dX6_takeLaw_30 : decode cX6_takeLaw 30 = .ok (.goto 4, 3) := by decide +kernel
theorem dX6_takeLaw_33 : decode cX6_takeLaw 33 = .ok (.iconst 0, 1) := by decide +kernel
theorem dX6_takeLaw_34 : decode cX6_takeLaw 34 = .ok (.ireturn, 1) := by decide +kernel
theorem dX6_takeSwap_0 : decode cX6_takeSwap 0 = .ok (.aload_n 0, 1) := by decide +kernel
theorem dX6_takeSwap_1 : decode cX6_takeSwap 1 = .ok (.getfield 45, 3) := by decide +kernel
theorem dX6_takeSwap_4 : decode cX6_takeSwap 4 = .ok (.bipush 20, 2) := by decide +kernel
theorem dX6_takeSwap_6 : decode cX6_takeSwap 6 = .ok (.if_icmp .lt 5, 3) := by decide +kernel
theorem dX6_takeSwap_9 : decode cX6_takeSwap 9 = .ok (.iconst 0, 1) := by decide +kernel
theorem dX6_takeSwap_10 : decode cX6_takeSwap 10 = .ok (.ireturn, 1) := by decide +kernel
theorem dX6_takeSwap_11 : decode cX6_takeSwap 11 = .ok (.aload_n 0, 1) := by decide +kernel
theorem dX6_takeSwap_12 : decode cX6_takeSwap 12 = .ok (.getfield 14, 3) := by decide +kernel
theorem dX6_takeSwap_15 : decode cX6_takeSwap 15 = .ok (.aload_n 0, 1) := by decide +kernel
theorem dX6_takeSwap_16 : decode cX6_takeSwap 16 = .ok (.getfield 45, 3) := by decide +kernel
theorem dX6_takeSwap_19 : decode cX6_takeSwap 19 = .ok (.iload_n 1, 1) := by decide +kernel
theorem dX6_takeSwap_20 : decode cX6_takeSwap 20 = .ok (.invokevirtual 75, 3) := by decide +kernel
theorem dX6_takeSwap_23 : decode cX6_takeSwap 23 = .ok (.aload_n 0, 1) := by decide +kernel
theorem dX6_takeSwap_24 : decode cX6_takeSwap 24 = .ok (.getfield 20, 3) := by decide +kernel
theorem dX6_takeSwap_27 : decode cX6_takeSwap 27 = .ok (.aload_n 0, 1) := by decide +kernel
theorem dX6_takeSwap_28 : decode cX6_takeSwap 28 = .ok (.getfield 45, 3) := by decide +kernel
theorem dX6_takeSwap_31 : decode cX6_takeSwap 31 = .ok (.iload_n 2, 1) := by decide +kernel
theorem dX6_takeSwap_32 : decode cX6_takeSwap 32 = .ok (.invokevirtual 75, 3) := by decide +kernel
theorem dX6_takeSwap_35 : decode cX6_takeSwap 35 = .ok (.aload_n 0, 1) := by decide +kernel
theorem dX6_takeSwap_36 : decode cX6_takeSwap 36 = .ok (.dup, 1) := by decide +kernel
theorem dX6_takeSwap_37 : decode cX6_takeSwap 37 = .ok (.getfield 45, 3) := by decide +kernel
theorem dX6_takeSwap_40 : decode cX6_takeSwap 40 = .ok (.iconst 1, 1) := by decide +kernel
theorem dX6_takeSwap_41 : decode cX6_takeSwap 41 = .ok (.iadd, 1) := by decide +kernel
theorem dX6_takeSwap_42 : decode cX6_takeSwap 42 = .ok (.putfield 45, 3) := by decide +kernel
theorem dX6_takeSwap_45 : decode cX6_takeSwap 45 = .ok (.iload_n 1, 1) := by decide +kernel
theorem dX6_takeSwap_46 : decode cX6_takeSwap 46 = .ok (.iconst 0, 1) := by decide +kernel
theorem dX6_takeSwap_47 : decode cX6_takeSwap 47 = .ok (.bipush 39, 2) := by decide +kernel
theorem dX6_takeSwap_49 : decode cX6_takeSwap 49 = .ok (.invokestatic 103, 3) := by decide +kernel
theorem dX6_takeSwap_52 : decode cX6_takeSwap 52 = .ok (.ifCond .eq 17, 3) := by decide +kernel
theorem dX6_takeSwap_55 : decode cX6_takeSwap 55 = .ok (.iload_n 2, 1) := by decide +kernel
theorem dX6_takeSwap_56 : decode cX6_takeSwap 56 = .ok (.iconst 0, 1) := by decide +kernel
theorem dX6_takeSwap_57 : decode cX6_takeSwap 57 = .ok (.bipush 39, 2) := by decide +kernel
theorem dX6_takeSwap_59 : decode cX6_takeSwap 59 = .ok (.invokestatic 103, 3) := by decide +kernel
theorem dX6_takeSwap_62 : decode cX6_takeSwap 62 = .ok (.ifCond .eq 7, 3) := by decide +kernel
theorem dX6_takeSwap_65 : decode cX6_takeSwap 65 = .ok (.iconst 1, 1) := by decide +kernel
theorem dX6_takeSwap_66 : decode cX6_takeSwap 66 = .ok (.goto 4, 3) := by decide +kernel
theorem dX6_takeSwap_69 : decode cX6_takeSwap 69 = .ok (.iconst 0, 1) := by decide +kernel
theorem dX6_takeSwap_70 : decode cX6_takeSwap 70 = .ok (.ireturn, 1) := by decide +kernel
theorem dX6_takeTaleLeaf_0 : decode cX6_takeTaleLeaf 0 = .ok (.aload_n 0, 1) := by decide +kernel
theorem dX6_takeTaleLeaf_1 : decode cX6_takeTaleLeaf 1 = .ok (.getfield 48, 3) := by decide +kernel
theorem dX6_takeTaleLeaf_4 : decode cX6_takeTaleLeaf 4 = .ok (.bipush 20, 2) := by decide +kernel
theorem dX6_takeTaleLeaf_6 : decode cX6_takeTaleLeaf 6 = .ok (.if_icmp .lt 5, 3) := by decide +kernel
theorem dX6_takeTaleLeaf_9 : decode cX6_takeTaleLeaf 9 = .ok (.iconst 0, 1) := by decide +kernel
theorem dX6_takeTaleLeaf_10 : decode cX6_takeTaleLeaf 10 = .ok (.ireturn, 1) := by decide +kernel
theorem dX6_takeTaleLeaf_11 : decode cX6_takeTaleLeaf 11 = .ok (.aload_n 0, 1) := by decide +kernel
theorem dX6_takeTaleLeaf_12 : decode cX6_takeTaleLeaf 12 = .ok (.getfield 23, 3) := by decide +kernel
theorem dX6_takeTaleLeaf_15 : decode cX6_takeTaleLeaf 15 = .ok (.aload_n 0, 1) := by decide +kernel
theorem dX6_takeTaleLeaf_16 : decode cX6_takeTaleLeaf 16 = .ok (.getfield 48, 3) := by decide +kernel
theorem dX6_takeTaleLeaf_19 : decode cX6_takeTaleLeaf 19 = .ok (.iload_n 1, 1) := by decide +kernel
theorem dX6_takeTaleLeaf_20 : decode cX6_takeTaleLeaf 20 = .ok (.invokevirtual 75, 3) := by decide +kernel
theorem dX6_takeTaleLeaf_23 : decode cX6_takeTaleLeaf 23 = .ok (.aload_n 0, 1) := by decide +kernel
theorem dX6_takeTaleLeaf_24 : decode cX6_takeTaleLeaf 24 = .ok (.dup, 1) := by decide +kernel
theorem dX6_takeTaleLeaf_25 : decode cX6_takeTaleLeaf 25 = .ok (.getfield 48, 3) := by decide +kernel
theorem dX6_takeTaleLeaf_28 : decode cX6_takeTaleLeaf 28 = .ok (.iconst 1, 1) := by decide +kernel
theorem dX6_takeTaleLeaf_29 : decode cX6_takeTaleLeaf 29 = .ok (.iadd, 1) := by decide +kernel
theorem dX6_takeTaleLeaf_30 : decode cX6_takeTaleLeaf 30 = .ok (.putfield 48, 3) := by decide +kernel
theorem dX6_takeTaleLeaf_33 : decode cX6_takeTaleLeaf 33 = .ok (.iload_n 1, 1) := by decide +kernel
theorem dX6_takeTaleLeaf_34 : decode cX6_takeTaleLeaf 34 = .ok (.iconst 0, 1) := by decide +kernel
theorem dX6_takeTaleLeaf_35 : decode cX6_takeTaleLeaf 35 = .ok (.bipush 39, 2) := by decide +kernel
theorem dX6_takeTaleLeaf_37 : decode cX6_takeTaleLeaf 37 = .ok (.invokestatic 103, 3) := by decide +kernel
theorem dX6_takeTaleLeaf_40 : decode cX6_takeTaleLeaf 40 = .ok (.ireturn, 1) := by decide +kernel
theorem dX6_fitsItsLeaves_0 : decode cX6_fitsItsLeaves 0 = .ok (.iconst 0, 1) := by decide +kernel
theorem dX6_fitsItsLeaves_1 : decode cX6_fitsItsLeaves 1 = .ok (.istore_n 1, 1) := by decide +kernel
theorem dX6_fitsItsLeaves_2 : decode cX6_fitsItsLeaves 2 = .ok (.iload_n 1, 1) := by decide +kernel
theorem dX6_fitsItsLeaves_3 : decode cX6_fitsItsLeaves 3 = .ok (.aload_n 0, 1) := by decide +kernel
theorem dX6_fitsItsLeaves_4 : decode cX6_fitsItsLeaves 4 = .ok (.getfield 45, 3) := by decide +kernel
theorem dX6_fitsItsLeaves_7 : decode cX6_fitsItsLeaves 7 = .ok (.if_icmp .ge 41, 3) := by decide +kernel
theorem dX6_fitsItsLeaves_10 : decode cX6_fitsItsLeaves 10 = .ok (.aload_n 0, 1) := by decide +kernel
theorem dX6_fitsItsLeaves_11 : decode cX6_fitsItsLeaves 11 = .ok (.getfield 14, 3) := by decide +kernel
theorem dX6_fitsItsLeaves_14 : decode cX6_fitsItsLeaves 14 = .ok (.iload_n 1, 1) := by decide +kernel
theorem dX6_fitsItsLeaves_15 : decode cX6_fitsItsLeaves 15 = .ok (.invokevirtual 79, 3) := by decide +kernel
theorem dX6_fitsItsLeaves_18 : decode cX6_fitsItsLeaves 18 = .ok (.aload_n 0, 1) := by decide +kernel
theorem dX6_fitsItsLeaves_19 : decode cX6_fitsItsLeaves 19 = .ok (.getfield 32, 3) := by decide +kernel
theorem dX6_fitsItsLeaves_22 : decode cX6_fitsItsLeaves 22 = .ok (.if_icmp .ge 18, 3) := by decide +kernel
theorem dX6_fitsItsLeaves_25 : decode cX6_fitsItsLeaves 25 = .ok (.aload_n 0, 1) := by decide +kernel
theorem dX6_fitsItsLeaves_26 : decode cX6_fitsItsLeaves 26 = .ok (.getfield 20, 3) := by decide +kernel
theorem dX6_fitsItsLeaves_29 : decode cX6_fitsItsLeaves 29 = .ok (.iload_n 1, 1) := by decide +kernel
theorem dX6_fitsItsLeaves_30 : decode cX6_fitsItsLeaves 30 = .ok (.invokevirtual 79, 3) := by decide +kernel
theorem dX6_fitsItsLeaves_33 : decode cX6_fitsItsLeaves 33 = .ok (.aload_n 0, 1) := by decide +kernel
theorem dX6_fitsItsLeaves_34 : decode cX6_fitsItsLeaves 34 = .ok (.getfield 32, 3) := by decide +kernel
theorem dX6_fitsItsLeaves_37 : decode cX6_fitsItsLeaves 37 = .ok (.if_icmp .lt 5, 3) := by decide +kernel
theorem dX6_fitsItsLeaves_40 : decode cX6_fitsItsLeaves 40 = .ok (.iconst 0, 1) := by decide +kernel
theorem dX6_fitsItsLeaves_41 : decode cX6_fitsItsLeaves 41 = .ok (.ireturn, 1) := by decide +kernel
theorem dX6_fitsItsLeaves_42 : decode cX6_fitsItsLeaves 42 = .ok (.iinc 1 1, 3) := by decide +kernel
theorem dX6_fitsItsLeaves_45 : decode cX6_fitsItsLeaves 45 = .ok (.goto (-43), 3) := by decide +kernel
theorem dX6_fitsItsLeaves_48 : decode cX6_fitsItsLeaves 48 = .ok (.iconst 0, 1) := by decide +kernel
theorem dX6_fitsItsLeaves_49 : decode cX6_fitsItsLeaves 49 = .ok (.istore_n 1, 1) := by decide +kernel
theorem dX6_fitsItsLeaves_50 : decode cX6_fitsItsLeaves 50 = .ok (.iload_n 1, 1) := by decide +kernel
theorem dX6_fitsItsLeaves_51 : decode cX6_fitsItsLeaves 51 = .ok (.aload_n 0, 1) := by decide +kernel
theorem dX6_fitsItsLeaves_52 : decode cX6_fitsItsLeaves 52 = .ok (.getfield 48, 3) := by decide +kernel
theorem dX6_fitsItsLeaves_55 : decode cX6_fitsItsLeaves 55 = .ok (.if_icmp .ge 26, 3) := by decide +kernel
theorem dX6_fitsItsLeaves_58 : decode cX6_fitsItsLeaves 58 = .ok (.aload_n 0, 1) := by decide +kernel
theorem dX6_fitsItsLeaves_59 : decode cX6_fitsItsLeaves 59 = .ok (.getfield 23, 3) := by decide +kernel
theorem dX6_fitsItsLeaves_62 : decode cX6_fitsItsLeaves 62 = .ok (.iload_n 1, 1) := by decide +kernel
theorem dX6_fitsItsLeaves_63 : decode cX6_fitsItsLeaves 63 = .ok (.invokevirtual 79, 3) := by decide +kernel
theorem dX6_fitsItsLeaves_66 : decode cX6_fitsItsLeaves 66 = .ok (.aload_n 0, 1) := by decide +kernel
theorem dX6_fitsItsLeaves_67 : decode cX6_fitsItsLeaves 67 = .ok (.getfield 32, 3) := by decide +kernel
theorem dX6_fitsItsLeaves_70 : decode cX6_fitsItsLeaves 70 = .ok (.if_icmp .lt 5, 3) := by decide +kernel
theorem dX6_fitsItsLeaves_73 : decode cX6_fitsItsLeaves 73 = .ok (.iconst 0, 1) := by decide +kernel
theorem dX6_fitsItsLeaves_74 : decode cX6_fitsItsLeaves 74 = .ok (.ireturn, 1) := by decide +kernel
theorem dX6_fitsItsLeaves_75 : decode cX6_fitsItsLeaves 75 = .ok (.iinc 1 1, 3) := by decide +kernel
theorem dX6_fitsItsLeaves_78 : decode cX6_fitsItsLeaves 78 = .ok (.goto (-28), 3) := by decide +kernel
theorem dX6_fitsItsLeaves_81 : decode cX6_fitsItsLeaves 81 = .ok (.iconst 1, 1) := by decide +kernel
theorem dX6_fitsItsLeaves_82 : decode cX6_fitsItsLeaves 82 = .ok (.ireturn, 1) := by decide +kernel
theorem dX6_orderFirst_0 : decode cX6_orderFirst 0 = .ok (.aload_n 1, 1) := by decide +kernel
theorem dX6_orderFirst_1 : decode cX6_orderFirst 1 = .ok (.aload_n 0, 1) := by decide +kernel
theorem dX6_orderFirst_2 : decode cX6_orderFirst 2 = .ok (.getfield 32, 3) := by decide +kernel
theorem dX6_orderFirst_5 : decode cX6_orderFirst 5 = .ok (.invokevirtual 106, 3) := by decide +kernel
theorem dX6_orderFirst_8 : decode cX6_orderFirst 8 = .ok (.iconst 0, 1) := by decide +kernel
theorem dX6_orderFirst_9 : decode cX6_orderFirst 9 = .ok (.istore_n 2, 1) := by decide +kernel
theorem dX6_orderFirst_10 : decode cX6_orderFirst 10 = .ok (.iload_n 2, 1) := by decide +kernel
theorem dX6_orderFirst_11 : decode cX6_orderFirst 11 = .ok (.aload_n 0, 1) := by decide +kernel
theorem dX6_orderFirst_12 : decode cX6_orderFirst 12 = .ok (.getfield 45, 3) := by decide +kernel
theorem dX6_orderFirst_15 : decode cX6_orderFirst 15 = .ok (.if_icmp .ge 29, 3) := by decide +kernel
theorem dX6_orderFirst_18 : decode cX6_orderFirst 18 = .ok (.aload_n 1, 1) := by decide +kernel
theorem dX6_orderFirst_19 : decode cX6_orderFirst 19 = .ok (.aload_n 0, 1) := by decide +kernel
theorem dX6_orderFirst_20 : decode cX6_orderFirst 20 = .ok (.getfield 14, 3) := by decide +kernel
theorem dX6_orderFirst_23 : decode cX6_orderFirst 23 = .ok (.iload_n 2, 1) := by decide +kernel
theorem dX6_orderFirst_24 : decode cX6_orderFirst 24 = .ok (.invokevirtual 79, 3) := by decide +kernel
theorem dX6_orderFirst_27 : decode cX6_orderFirst 27 = .ok (.aload_n 0, 1) := by decide +kernel
theorem dX6_orderFirst_28 : decode cX6_orderFirst 28 = .ok (.getfield 20, 3) := by decide +kernel
theorem dX6_orderFirst_31 : decode cX6_orderFirst 31 = .ok (.iload_n 2, 1) := by decide +kernel
theorem dX6_orderFirst_32 : decode cX6_orderFirst 32 = .ok (.invokevirtual 79, 3) := by decide +kernel
theorem dX6_orderFirst_35 : decode cX6_orderFirst 35 = .ok (.invokevirtual 111, 3) := by decide +kernel
theorem dX6_orderFirst_38 : decode cX6_orderFirst 38 = .ok (.iinc 2 1, 3) := by decide +kernel
theorem dX6_orderFirst_41 : decode cX6_orderFirst 41 = .ok (.goto (-31), 3) := by decide +kernel
theorem dX6_orderFirst_44 : decode cX6_orderFirst 44 = .ok (.return_, 1) := by decide +kernel
theorem dX6_toldTurns_0 : decode cX6_toldTurns 0 = .ok (.aload_n 0, 1) := by decide +kernel
theorem dX6_toldTurns_1 : decode cX6_toldTurns 1 = .ok (.getfield 36, 3) := by decide +kernel
theorem dX6_toldTurns_4 : decode cX6_toldTurns 4 = .ok (.aload_n 0, 1) := by decide +kernel
theorem dX6_toldTurns_5 : decode cX6_toldTurns 5 = .ok (.getfield 48, 3) := by decide +kernel
theorem dX6_toldTurns_8 : decode cX6_toldTurns 8 = .ok (.invokestatic 114, 3) := by decide +kernel
theorem dX6_toldTurns_11 : decode cX6_toldTurns 11 = .ok (.ireturn, 1) := by decide +kernel
theorem dX6_taleLeaf_0 : decode cX6_taleLeaf 0 = .ok (.aload_n 0, 1) := by decide +kernel
theorem dX6_taleLeaf_1 : decode cX6_taleLeaf 1 = .ok (.getfield 23, 3) := by decide +kernel
theorem dX6_taleLeaf_4 : decode cX6_taleLeaf 4 = .ok (.iload_n 1, 1) := by decide +kernel
theorem dX6_taleLeaf_5 : decode cX6_taleLeaf 5 = .ok (.invokevirtual 79, 3) := by decide +kernel
theorem dX6_taleLeaf_8 : decode cX6_taleLeaf 8 = .ok (.ireturn, 1) := by decide +kernel
theorem dX7_init_0 : decode cX7_init 0 = .ok (.aload_n 0, 1) := by decide +kernel
theorem dX7_init_1 : decode cX7_init 1 = .ok (.invokespecial 1, 3) := by decide +kernel
theorem dX7_init_4 : decode cX7_init 4 = .ok (.aload_n 0, 1) := by decide +kernel
theorem dX7_init_5 : decode cX7_init 5 = .ok (.new 7, 3) := by decide +kernel
theorem dX7_init_8 : decode cX7_init 8 = .ok (.dup, 1) := by decide +kernel
theorem dX7_init_9 : decode cX7_init 9 = .ok (.invokespecial 9, 3) := by decide +kernel
theorem dX7_init_12 : decode cX7_init 12 = .ok (.putfield 10, 3) := by decide +kernel
theorem dX7_init_15 : decode cX7_init 15 = .ok (.aload_n 0, 1) := by decide +kernel
theorem dX7_init_16 : decode cX7_init 16 = .ok (.new 16, 3) := by decide +kernel
theorem dX7_init_19 : decode cX7_init 19 = .ok (.dup, 1) := by decide +kernel
theorem dX7_init_20 : decode cX7_init 20 = .ok (.invokespecial 18, 3) := by decide +kernel
theorem dX7_init_23 : decode cX7_init 23 = .ok (.putfield 19, 3) := by decide +kernel
theorem dX7_init_26 : decode cX7_init 26 = .ok (.aload_n 0, 1) := by decide +kernel
theorem dX7_init_27 : decode cX7_init 27 = .ok (.new 16, 3) := by decide +kernel
theorem dX7_init_30 : decode cX7_init 30 = .ok (.dup, 1) := by decide +kernel
theorem dX7_init_31 : decode cX7_init 31 = .ok (.invokespecial 18, 3) := by decide +kernel
theorem dX7_init_34 : decode cX7_init 34 = .ok (.putfield 23, 3) := by decide +kernel
theorem dX7_init_37 : decode cX7_init 37 = .ok (.aload_n 0, 1) := by decide +kernel
theorem dX7_init_38 : decode cX7_init 38 = .ok (.new 26, 3) := by decide +kernel
theorem dX7_init_41 : decode cX7_init 41 = .ok (.dup, 1) := by decide +kernel
theorem dX7_init_42 : decode cX7_init 42 = .ok (.invokespecial 28, 3) := by decide +kernel
theorem dX7_init_45 : decode cX7_init 45 = .ok (.putfield 29, 3) := by decide +kernel
theorem dX7_init_48 : decode cX7_init 48 = .ok (.aload_n 0, 1) := by decide +kernel
theorem dX7_init_49 : decode cX7_init 49 = .ok (.new 26, 3) := by decide +kernel
theorem dX7_init_52 : decode cX7_init 52 = .ok (.dup, 1) := by decide +kernel
theorem dX7_init_53 : decode cX7_init 53 = .ok (.invokespecial 28, 3) := by decide +kernel
theorem dX7_init_56 : decode cX7_init 56 = .ok (.putfield 33, 3) := by decide +kernel
theorem dX7_init_59 : decode cX7_init 59 = .ok (.aload_n 0, 1) := by decide +kernel
theorem dX7_init_60 : decode cX7_init 60 = .ok (.new 36, 3) := by decide +kernel
theorem dX7_init_63 : decode cX7_init 63 = .ok (.dup, 1) := by decide +kernel
theorem dX7_init_64 : decode cX7_init 64 = .ok (.invokespecial 38, 3) := by decide +kernel
theorem dX7_init_67 : decode cX7_init 67 = .ok (.putfield 39, 3) := by decide +kernel
theorem dX7_init_70 : decode cX7_init 70 = .ok (.aload_n 0, 1) := by decide +kernel
theorem dX7_init_71 : decode cX7_init 71 = .ok (.new 43, 3) := by decide +kernel
theorem dX7_init_74 : decode cX7_init 74 = .ok (.dup, 1) := by decide +kernel
theorem dX7_init_75 : decode cX7_init 75 = .ok (.invokespecial 45, 3) := by decide +kernel
theorem dX7_init_78 : decode cX7_init 78 = .ok (.putfield 46, 3) := by decide +kernel
theorem dX7_init_81 : decode cX7_init 81 = .ok (.aload_n 0, 1) := by decide +kernel
theorem dX7_init_82 : decode cX7_init 82 = .ok (.new 50, 3) := by decide +kernel
theorem dX7_init_85 : decode cX7_init 85 = .ok (.dup, 1) := by decide +kernel
theorem dX7_init_86 : decode cX7_init 86 = .ok (.bipush 12, 2) := by decide +kernel
theorem dX7_init_88 : decode cX7_init 88 = .ok (.invokespecial 52, 3) := by decide +kernel
theorem dX7_init_91 : decode cX7_init 91 = .ok (.putfield 55, 3) := by decide +kernel
theorem dX7_init_94 : decode cX7_init 94 = .ok (.aload_n 0, 1) := by decide +kernel
theorem dX7_init_95 : decode cX7_init 95 = .ok (.new 50, 3) := by decide +kernel
theorem dX7_init_98 : decode cX7_init 98 = .ok (.dup, 1) := by decide +kernel
theorem dX7_init_99 : decode cX7_init 99 = .ok (.bipush 12, 2) := by decide +kernel
theorem dX7_init_101 : decode cX7_init 101 = .ok (.invokespecial 52, 3) := by decide +kernel
theorem dX7_init_104 : decode cX7_init 104 = .ok (.putfield 59, 3) := by decide +kernel
theorem dX7_init_107 : decode cX7_init 107 = .ok (.aload_n 0, 1) := by decide +kernel
theorem dX7_init_108 : decode cX7_init 108 = .ok (.new 62, 3) := by decide +kernel
theorem dX7_init_111 : decode cX7_init 111 = .ok (.dup, 1) := by decide +kernel
theorem dX7_init_112 : decode cX7_init 112 = .ok (.invokespecial 64, 3) := by decide +kernel
theorem dX7_init_115 : decode cX7_init 115 = .ok (.putfield 65, 3) := by decide +kernel
theorem dX7_init_118 : decode cX7_init 118 = .ok (.aload_n 0, 1) := by decide +kernel
theorem dX7_init_119 : decode cX7_init 119 = .ok (.new 62, 3) := by decide +kernel
theorem dX7_init_122 : decode cX7_init 122 = .ok (.dup, 1) := by decide +kernel
theorem dX7_init_123 : decode cX7_init 123 = .ok (.invokespecial 64, 3) := by decide +kernel
theorem dX7_init_126 : decode cX7_init 126 = .ok (.putfield 69, 3) := by decide +kernel
theorem dX7_init_129 : decode cX7_init 129 = .ok (.aload_n 0, 1) := by decide +kernel
theorem dX7_init_130 : decode cX7_init 130 = .ok (.new 62, 3) := by decide +kernel
theorem dX7_init_133 : decode cX7_init 133 = .ok (.dup, 1) := by decide +kernel
theorem dX7_init_134 : decode cX7_init 134 = .ok (.invokespecial 64, 3) := by decide +kernel
theorem dX7_init_137 : decode cX7_init 137 = .ok (.putfield 72, 3) := by decide +kernel
theorem dX7_init_140 : decode cX7_init 140 = .ok (.aload_n 0, 1) := by decide +kernel
theorem dX7_init_141 : decode cX7_init 141 = .ok (.invokevirtual 75, 3) := by decide +kernel
theorem dX7_init_144 : decode cX7_init 144 = .ok (.return_, 1) := by decide +kernel
theorem dX7_write_0 : decode cX7_write 0 = .ok (.iload_n 1, 1) := by decide +kernel
theorem dX7_write_1 : decode cX7_write 1 = .ok (.iconst 1, 1) := by decide +kernel
theorem dX7_write_2 : decode cX7_write 2 = .ok (.bipush 8, 2) := by decide +kernel
theorem dX7_write_4 : decode cX7_write 4 = .ok (.invokestatic 78, 3) := by decide +kernel
theorem dX7_write_7 : decode cX7_write 7 = .ok (.ifCond .ne 5, 3) := by decide +kernel
theorem dX7_write_10 : decode cX7_write 10 = .ok (.iconst (-1), 1) := by decide +kernel
theorem dX7_write_11 : decode cX7_write 11 = .ok (.ireturn, 1) := by decide +kernel
theorem dX7_write_12 : decode cX7_write 12 = .ok (.aload_n 0, 1) := by decide +kernel
theorem dX7_write_13 : decode cX7_write 13 = .ok (.getfield 10, 3) := by decide +kernel
theorem dX7_write_16 : decode cX7_write 16 = .ok (.invokevirtual 82, 3) := by decide +kernel
theorem dX7_write_19 : decode cX7_write 19 = .ok (.iload_n 1, 1) := by decide +kernel
theorem dX7_write_20 : decode cX7_write 20 = .ok (.iadd, 1) := by decide +kernel
theorem dX7_write_21 : decode cX7_write 21 = .ok (.sipush 300, 3) := by decide +kernel
theorem dX7_write_24 : decode cX7_write 24 = .ok (.if_icmp .le 6, 3) := by decide +kernel
theorem dX7_write_27 : decode cX7_write 27 = .ok (.bipush (-3), 2) := by decide +kernel
theorem dX7_write_29 : decode cX7_write 29 = .ok (.ireturn, 1) := by decide +kernel
theorem dX7_write_30 : decode cX7_write 30 = .ok (.aload_n 0, 1) := by decide +kernel
theorem dX7_write_31 : decode cX7_write 31 = .ok (.getfield 10, 3) := by decide +kernel
theorem dX7_write_34 : decode cX7_write 34 = .ok (.iload_n 1, 1) := by decide +kernel
theorem dX7_write_35 : decode cX7_write 35 = .ok (.lload_n 2, 1) := by decide +kernel
theorem dX7_write_36 : decode cX7_write 36 = .ok (.invokevirtual 86, 3) := by decide +kernel
theorem dX7_write_39 : decode cX7_write 39 = .ok (.aload_n 0, 1) := by decide +kernel
theorem dX7_write_40 : decode cX7_write 40 = .ok (.getfield 10, 3) := by decide +kernel
theorem dX7_write_43 : decode cX7_write 43 = .ok (.invokevirtual 82, 3) := by decide +kernel
theorem dX7_write_46 : decode cX7_write 46 = .ok (.ireturn, 1) := by decide +kernel
theorem dX7_wipe_0 : decode cX7_wipe 0 = .ok (.aload_n 0, 1) := by decide +kernel
theorem dX7_wipe_1 : decode cX7_wipe 1 = .ok (.getfield 10, 3) := by decide +kernel
theorem dX7_wipe_4 : decode cX7_wipe 4 = .ok (.invokevirtual 90, 3) := by decide +kernel
theorem dX7_wipe_7 : decode cX7_wipe 7 = .ok (.ireturn, 1) := by decide +kernel
theorem dX7_fault_0 : decode cX7_fault 0 = .ok (.aload_n 0, 1) := by decide +kernel
theorem dX7_fault_1 : decode cX7_fault 1 = .ok (.getfield 19, 3) := by decide +kernel
theorem dX7_fault_4 : decode cX7_fault 4 = .ok (.aload_n 0, 1) := by decide +kernel
theorem dX7_fault_5 : decode cX7_fault 5 = .ok (.getfield 10, 3) := by decide +kernel
theorem dX7_fault_8 : decode cX7_fault 8 = .ok (.invokevirtual 93, 3) := by decide +kernel
theorem dX7_fault_11 : decode cX7_fault 11 = .ok (.ireturn, 1) := by decide +kernel
theorem dX7_lay_0 : decode cX7_lay 0 = .ok (.aload_n 0, 1) := by decide +kernel
theorem dX7_lay_1 : decode cX7_lay 1 = .ok (.getfield 19, 3) := by decide +kernel
theorem dX7_lay_4 : decode cX7_lay 4 = .ok (.aload_n 0, 1) := by decide +kernel
theorem dX7_lay_5 : decode cX7_lay 5 = .ok (.getfield 10, 3) := by decide +kernel
theorem dX7_lay_8 : decode cX7_lay 8 = .ok (.invokevirtual 93, 3) := by decide +kernel
theorem dX7_lay_11 : decode cX7_lay 11 = .ok (.bipush (-4), 2) := by decide +kernel
theorem dX7_lay_13 : decode cX7_lay 13 = .ok (.if_icmp .ne 13, 3) := by decide +kernel
theorem dX7_lay_16 : decode cX7_lay 16 = .ok (.aload_n 0, 1) := by decide +kernel
theorem dX7_lay_17 : decode cX7_lay 17 = .ok (.getfield 19, 3) := by decide +kernel
theorem dX7_lay_20 : decode cX7_lay 20 = .ok (.invokevirtual 97, 3) := by decide +kernel
theorem dX7_lay_23 : decode cX7_lay 23 = .ok (.ifCond .ne 6, 3) := by decide +kernel
theorem dX7_lay_26 : decode cX7_lay 26 = .ok (.bipush (-2), 2) := by decide +kernel
theorem dX7_lay_28 : decode cX7_lay 28 = .ok (.ireturn, 1) := by decide +kernel
theorem dX7_lay_29 : decode cX7_lay 29 = .ok (.aload_n 0, 1) := by decide +kernel
theorem dX7_lay_30 : decode cX7_lay 30 = .ok (.getfield 23, 3) := by decide +kernel
theorem dX7_lay_33 : decode cX7_lay 33 = .ok (.astore_n 1, 1) := by decide +kernel
theorem dX7_lay_34 : decode cX7_lay 34 = .ok (.aload_n 0, 1) := by decide +kernel
theorem dX7_lay_35 : decode cX7_lay 35 = .ok (.aload_n 0, 1) := by decide +kernel
theorem dX7_lay_36 : decode cX7_lay 36 = .ok (.getfield 19, 3) := by decide +kernel
theorem dX7_lay_39 : decode cX7_lay 39 = .ok (.putfield 23, 3) := by decide +kernel
theorem dX7_lay_42 : decode cX7_lay 42 = .ok (.aload_n 0, 1) := by decide +kernel
theorem dX7_lay_43 : decode cX7_lay 43 = .ok (.aload_n 1, 1) := by decide +kernel
theorem dX7_lay_44 : decode cX7_lay 44 = .ok (.putfield 19, 3) := by decide +kernel
theorem dX7_lay_47 : decode cX7_lay 47 = .ok (.aload_n 0, 1) := by decide +kernel
theorem dX7_lay_48 : decode cX7_lay 48 = .ok (.invokevirtual 75, 3) := by decide +kernel
theorem dX7_lay_51 : decode cX7_lay 51 = .ok (.aload_n 0, 1) := by decide +kernel
theorem dX7_lay_52 : decode cX7_lay 52 = .ok (.getfield 23, 3) := by decide +kernel
theorem dX7_lay_55 : decode cX7_lay 55 = .ok (.getfield 101, 3) := by decide +kernel
theorem dX7_lay_58 : decode cX7_lay 58 = .ok (.ireturn, 1) := by decide +kernel
theorem dX7_leaf_0 : decode cX7_leaf 0 = .ok (.aload_n 0, 1) := by decide +kernel
theorem dX7_leaf_1 : decode cX7_leaf 1 = .ok (.iload_n 1, 1) := by decide +kernel
theorem dX7_leaf_2 : decode cX7_leaf 2 = .ok (.invokevirtual 105, 3) := by decide +kernel
theorem dX7_leaf_5 : decode cX7_leaf 5 = .ok (.ifCond .eq 12, 3) := by decide +kernel
theorem dX7_leaf_8 : decode cX7_leaf 8 = .ok (.iload_n 2, 1) := by decide +kernel
theorem dX7_leaf_9 : decode cX7_leaf 9 = .ok (.iconst 0, 1) := by decide +kernel
theorem dX7_leaf_10 : decode cX7_leaf 10 = .ok (.iconst 1, 1) := by decide +kernel
theorem dX7_leaf_11 : decode cX7_leaf 11 = .ok (.invokestatic 78, 3) := by decide +kernel
theorem dX7_leaf_14 : decode cX7_leaf 14 = .ok (.ifCond .ne 5, 3) := by decide +kernel
theorem dX7_leaf_17 : decode cX7_leaf 17 = .ok (.iconst (-1), 1) := by decide +kernel
theorem dX7_leaf_18 : decode cX7_leaf 18 = .ok (.ireturn, 1) := by decide +kernel
theorem dX7_leaf_19 : decode cX7_leaf 19 = .ok (.iload_n 2, 1) := by decide +kernel
theorem dX7_leaf_20 : decode cX7_leaf 20 = .ok (.ifCond .ne 17, 3) := by decide +kernel
theorem dX7_leaf_23 : decode cX7_leaf 23 = .ok (.aload_n 0, 1) := by decide +kernel
theorem dX7_leaf_24 : decode cX7_leaf 24 = .ok (.getfield 65, 3) := by decide +kernel
theorem dX7_leaf_27 : decode cX7_leaf 27 = .ok (.getfield 109, 3) := by decide +kernel
theorem dX7_leaf_30 : decode cX7_leaf 30 = .ok (.iload_n 1, 1) := by decide +kernel
theorem dX7_leaf_31 : decode cX7_leaf 31 = .ok (.invokevirtual 112, 3) := by decide +kernel
theorem dX7_leaf_34 : decode cX7_leaf 34 = .ok (.goto 11, 3) := by decide +kernel
theorem dX7_leaf_37 : decode cX7_leaf 37 = .ok (.aload_n 0, 1) := by decide +kernel
theorem dX7_leaf_38 : decode cX7_leaf 38 = .ok (.getfield 29, 3) := by decide +kernel
theorem dX7_leaf_41 : decode cX7_leaf 41 = .ok (.iload_n 1, 1) := by decide +kernel
theorem dX7_leaf_42 : decode cX7_leaf 42 = .ok (.invokevirtual 112, 3) := by decide +kernel
theorem dX7_leaf_45 : decode cX7_leaf 45 = .ok (.ireturn, 1) := by decide +kernel
theorem dX7_where_0 : decode cX7_where 0 = .ok (.aload_n 0, 1) := by decide +kernel
theorem dX7_where_1 : decode cX7_where 1 = .ok (.iload_n 1, 1) := by decide +kernel
theorem dX7_where_2 : decode cX7_where 2 = .ok (.invokevirtual 105, 3) := by decide +kernel
theorem dX7_where_5 : decode cX7_where 5 = .ok (.ifCond .eq 17, 3) := by decide +kernel
theorem dX7_where_8 : decode cX7_where 8 = .ok (.aload_n 0, 1) := by decide +kernel
theorem dX7_where_9 : decode cX7_where 9 = .ok (.getfield 65, 3) := by decide +kernel
theorem dX7_where_12 : decode cX7_where 12 = .ok (.getfield 109, 3) := by decide +kernel
theorem dX7_where_15 : decode cX7_where 15 = .ok (.iload_n 1, 1) := by decide +kernel
theorem dX7_where_16 : decode cX7_where 16 = .ok (.invokevirtual 116, 3) := by decide +kernel
theorem dX7_where_19 : decode cX7_where 19 = .ok (.goto 4, 3) := by decide +kernel
theorem dX7_where_22 : decode cX7_where 22 = .ok (.iconst (-1), 1) := by decide +kernel
theorem dX7_where_23 : decode cX7_where 23 = .ok (.ireturn, 1) := by decide +kernel
theorem dX7_read_0 : decode cX7_read 0 = .ok (.aload_n 0, 1) := by decide +kernel
theorem dX7_read_1 : decode cX7_read 1 = .ok (.getfield 65, 3) := by decide +kernel
theorem dX7_read_4 : decode cX7_read 4 = .ok (.aload_n 0, 1) := by decide +kernel
theorem dX7_read_5 : decode cX7_read 5 = .ok (.getfield 23, 3) := by decide +kernel
theorem dX7_read_8 : decode cX7_read 8 = .ok (.invokevirtual 119, 3) := by decide +kernel
theorem dX7_read_11 : decode cX7_read 11 = .ok (.ireturn, 1) := by decide +kernel
theorem dX7_finish_0 : decode cX7_finish 0 = .ok (.aload_n 0, 1) := by decide +kernel
theorem dX7_finish_1 : decode cX7_finish 1 = .ok (.getfield 23, 3) := by decide +kernel
theorem dX7_finish_4 : decode cX7_finish 4 = .ok (.getfield 123, 3) := by decide +kernel
theorem dX7_finish_7 : decode cX7_finish 7 = .ok (.aload_n 0, 1) := by decide +kernel
theorem dX7_finish_8 : decode cX7_finish 8 = .ok (.getfield 65, 3) := by decide +kernel
theorem dX7_finish_11 : decode cX7_finish 11 = .ok (.getfield 126, 3) := by decide +kernel
theorem dX7_finish_14 : decode cX7_finish 14 = .ok (.isub, 1) := by decide +kernel
theorem dX7_finish_15 : decode cX7_finish 15 = .ok (.istore_n 1, 1) := by decide +kernel
theorem dX7_finish_16 : decode cX7_finish 16 = .ok (.iconst 0, 1) := by decide +kernel
theorem dX7_finish_17 : decode cX7_finish 17 = .ok (.istore_n 2, 1) := by decide +kernel
theorem dX7_finish_18 : decode cX7_finish 18 = .ok (.iload_n 2, 1) := by decide +kernel
theorem dX7_finish_19 : decode cX7_finish 19 = .ok (.iload_n 1, 1) := by decide +kernel
theorem dX7_finish_20 : decode cX7_finish 20 = .ok (.if_icmp .ge 21, 3) := by decide +kernel
theorem dX7_finish_23 : decode cX7_finish 23 = .ok (.aload_n 0, 1) := by decide +kernel
theorem dX7_finish_24 : decode cX7_finish 24 = .ok (.getfield 65, 3) := by decide +kernel
theorem dX7_finish_27 : decode cX7_finish 27 = .ok (.aload_n 0, 1) := by decide +kernel
theorem dX7_finish_28 : decode cX7_finish 28 = .ok (.getfield 23, 3) := by decide +kernel
theorem dX7_finish_31 : decode cX7_finish 31 = .ok (.invokevirtual 119, 3) := by decide +kernel
theorem dX7_finish_34 : decode cX7_finish 34 = .ok (.pop, 1) := by decide +kernel
theorem dX7_finish_35 : decode cX7_finish 35 = .ok (.iinc 2 1, 3) := by decide +kernel
theorem dX7_finish_38 : decode cX7_finish 38 = .ok (.goto (-20), 3) := by decide +kernel
theorem dX7_finish_41 : decode cX7_finish 41 = .ok (.iload_n 1, 1) := by decide +kernel
theorem dX7_finish_42 : decode cX7_finish 42 = .ok (.ireturn, 1) := by decide +kernel
theorem dX7_change_0 : decode cX7_change 0 = .ok (.aload_n 0, 1) := by decide +kernel
theorem dX7_change_1 : decode cX7_change 1 = .ok (.iload_n 1, 1) := by decide +kernel
theorem dX7_change_2 : decode cX7_change 2 = .ok (.invokevirtual 105, 3) := by decide +kernel
theorem dX7_change_5 : decode cX7_change 5 = .ok (.ifCond .eq 11, 3) := by decide +kernel
theorem dX7_change_8 : decode cX7_change 8 = .ok (.aload_n 0, 1) := by decide +kernel
theorem dX7_change_9 : decode cX7_change 9 = .ok (.iload_n 2, 1) := by decide +kernel
theorem dX7_change_10 : decode cX7_change 10 = .ok (.invokevirtual 105, 3) := by decide +kernel
theorem dX7_change_13 : decode cX7_change 13 = .ok (.ifCond .ne 5, 3) := by decide +kernel
theorem dX7_change_16 : decode cX7_change 16 = .ok (.iconst (-1), 1) := by decide +kernel
theorem dX7_change_17 : decode cX7_change 17 = .ok (.ireturn, 1) := by decide +kernel
theorem dX7_change_18 : decode cX7_change 18 = .ok (.aload_n 0, 1) := by decide +kernel
theorem dX7_change_19 : decode cX7_change 19 = .ok (.getfield 65, 3) := by decide +kernel
theorem dX7_change_22 : decode cX7_change 22 = .ok (.getfield 109, 3) := by decide +kernel
theorem dX7_change_25 : decode cX7_change 25 = .ok (.iload_n 1, 1) := by decide +kernel
theorem dX7_change_26 : decode cX7_change 26 = .ok (.iload_n 2, 1) := by decide +kernel
theorem dX7_change_27 : decode cX7_change 27 = .ok (.invokevirtual 129, 3) := by decide +kernel
theorem dX7_change_30 : decode cX7_change 30 = .ok (.aload_n 0, 1) := by decide +kernel
theorem dX7_change_31 : decode cX7_change 31 = .ok (.getfield 65, 3) := by decide +kernel
theorem dX7_change_34 : decode cX7_change 34 = .ok (.getfield 109, 3) := by decide +kernel
theorem dX7_change_37 : decode cX7_change 37 = .ok (.iload_n 1, 1) := by decide +kernel
theorem dX7_change_38 : decode cX7_change 38 = .ok (.invokevirtual 112, 3) := by decide +kernel
theorem dX7_change_41 : decode cX7_change 41 = .ok (.ireturn, 1) := by decide +kernel
theorem dX7_drop_0 : decode cX7_drop 0 = .ok (.iload_n 1, 1) := by decide +kernel
theorem dX7_drop_1 : decode cX7_drop 1 = .ok (.iconst 0, 1) := by decide +kernel
theorem dX7_drop_2 : decode cX7_drop 2 = .ok (.sipush 9999, 3) := by decide +kernel
theorem dX7_drop_5 : decode cX7_drop 5 = .ok (.invokestatic 78, 3) := by decide +kernel
theorem dX7_drop_8 : decode cX7_drop 8 = .ok (.ifCond .ne 5, 3) := by decide +kernel
theorem dX7_drop_11 : decode cX7_drop 11 = .ok (.iconst (-1), 1) := by decide +kernel
theorem dX7_drop_12 : decode cX7_drop 12 = .ok (.ireturn, 1) := by decide +kernel
theorem dX7_drop_13 : decode cX7_drop 13 = .ok (.aload_n 0, 1) := by decide +kernel
theorem dX7_drop_14 : decode cX7_drop 14 = .ok (.getfield 65, 3) := by decide +kernel
theorem dX7_drop_17 : decode cX7_drop 17 = .ok (.iload_n 1, 1) := by decide +kernel
theorem dX7_drop_18 : decode cX7_drop 18 = .ok (.invokevirtual 133, 3) := by decide +kernel
theorem dX7_drop_21 : decode cX7_drop 21 = .ok (.aload_n 0, 1) := by decide +kernel
theorem dX7_drop_22 : decode cX7_drop 22 = .ok (.getfield 65, 3) := by decide +kernel
theorem dX7_drop_25 : decode cX7_drop 25 = .ok (.getfield 109, 3) := by decide +kernel
theorem dX7_drop_28 : decode cX7_drop 28 = .ok (.iconst 0, 1) := by decide +kernel
theorem dX7_drop_29 : decode cX7_drop 29 = .ok (.invokevirtual 112, 3) := by decide +kernel
theorem dX7_drop_32 : decode cX7_drop 32 = .ok (.ireturn, 1) := by decide +kernel
theorem dX7_has_0 : decode cX7_has 0 = .ok (.lload_n 1, 1) := by decide +kernel
theorem dX7_has_1 : decode cX7_has 1 = .ok (.invokestatic 136, 3) := by decide +kernel
theorem dX7_has_4 : decode cX7_has 4 = .ok (.ifCond .eq 11, 3) := by decide +kernel
theorem dX7_has_7 : decode cX7_has 7 = .ok (.aload_n 0, 1) := by decide +kernel
theorem dX7_has_8 : decode cX7_has 8 = .ok (.iload_n 3, 1) := by decide +kernel
theorem dX7_has_9 : decode cX7_has 9 = .ok (.invokevirtual 140, 3) := by decide +kernel
theorem dX7_has_12 : decode cX7_has 12 = .ok (.ifCond .ne 5, 3) := by decide +kernel
theorem dX7_has_15 : decode cX7_has 15 = .ok (.iconst (-1), 1) := by decide +kernel
theorem dX7_has_16 : decode cX7_has 16 = .ok (.ireturn, 1) := by decide +kernel
theorem dX7_has_17 : decode cX7_has 17 = .ok (.aload_n 0, 1) := by decide +kernel
theorem dX7_has_18 : decode cX7_has 18 = .ok (.lload_n 1, 1) := by decide +kernel
theorem dX7_has_19 : decode cX7_has 19 = .ok (.iload_n 3, 1) := by decide +kernel
theorem dX7_has_20 : decode cX7_has 20 = .ok (.invokevirtual 143, 3) := by decide +kernel
theorem dX7_has_23 : decode cX7_has 23 = .ok (.ireturn, 1) := by decide +kernel
theorem dX7_leaves_0 : decode cX7_leaves 0 = .ok (.lload_n 1, 1) := by decide +kernel
theorem dX7_leaves_1 : decode cX7_leaves 1 = .ok (.invokestatic 136, 3) := by decide +kernel
theorem dX7_leaves_4 : decode cX7_leaves 4 = .ok (.ifCond .eq 11, 3) := by decide +kernel
theorem dX7_leaves_7 : decode cX7_leaves 7 = .ok (.aload_n 0, 1) := by decide +kernel
theorem dX7_leaves_8 : decode cX7_leaves 8 = .ok (.lload_n 1, 1) := by decide +kernel
theorem dX7_leaves_9 : decode cX7_leaves 9 = .ok (.invokevirtual 147, 3) := by decide +kernel
theorem dX7_leaves_12 : decode cX7_leaves 12 = .ok (.goto 6, 3) := by decide +kernel
theorem dX7_leaves_15 : decode cX7_leaves 15 = .ok (.ldc2_w 151, 3) := by decide +kernel
theorem dX7_leaves_18 : decode cX7_leaves 18 = .ok (.lreturn, 1) := by decide +kernel
theorem dX7_period_0 : decode cX7_period 0 = .ok (.aload_n 0, 1) := by decide +kernel
theorem dX7_period_1 : decode cX7_period 1 = .ok (.getfield 39, 3) := by decide +kernel
theorem dX7_period_4 : decode cX7_period 4 = .ok (.invokevirtual 153, 3) := by decide +kernel
theorem dX7_period_7 : decode cX7_period 7 = .ok (.ireturn, 1) := by decide +kernel
theorem dX7_ever_0 : decode cX7_ever 0 = .ok (.iload_n 1, 1) := by decide +kernel
theorem dX7_ever_1 : decode cX7_ever 1 = .ok (.iconst 0, 1) := by decide +kernel
theorem dX7_ever_2 : decode cX7_ever 2 = .ok (.iconst 1, 1) := by decide +kernel
theorem dX7_ever_3 : decode cX7_ever 3 = .ok (.invokestatic 78, 3) := by decide +kernel
theorem dX7_ever_6 : decode cX7_ever 6 = .ok (.ifCond .ne 7, 3) := by decide +kernel
theorem dX7_ever_9 : decode cX7_ever 9 = .ok (.ldc2_w 151, 3) := by decide +kernel
theorem dX7_ever_12 : decode cX7_ever 12 = .ok (.lreturn, 1) := by decide +kernel
theorem dX7_ever_13 : decode cX7_ever 13 = .ok (.lconst 0, 1) := by decide +kernel
theorem dX7_ever_14 : decode cX7_ever 14 = .ok (.lstore_n 2, 1) := by decide +kernel
theorem dX7_ever_15 : decode cX7_ever 15 = .ok (.iconst 0, 1) := by decide +kernel
theorem dX7_ever_16 : decode cX7_ever 16 = .ok (.istore 4, 2) := by decide +kernel
theorem dX7_ever_18 : decode cX7_ever 18 = .ok (.iload 4, 2) := by decide +kernel
theorem dX7_ever_20 : decode cX7_ever 20 = .ok (.aload_n 0, 1) := by decide +kernel
theorem dX7_ever_21 : decode cX7_ever 21 = .ok (.getfield 23, 3) := by decide +kernel
theorem dX7_ever_24 : decode cX7_ever 24 = .ok (.getfield 101, 3) := by decide +kernel
theorem dX7_ever_27 : decode cX7_ever 27 = .ok (.if_icmp .ge 56, 3) := by decide +kernel
theorem dX7_ever_30 : decode cX7_ever 30 = .ok (.iload_n 1, 1) := by decide +kernel
theorem dX7_ever_31 : decode cX7_ever 31 = .ok (.ifCond .ne 15, 3) := by decide +kernel
theorem dX7_ever_34 : decode cX7_ever 34 = .ok (.aload_n 0, 1) := by decide +kernel
theorem dX7_ever_35 : decode cX7_ever 35 = .ok (.getfield 39, 3) := by decide +kernel
theorem dX7_ever_38 : decode cX7_ever 38 = .ok (.iload 4, 2) := by decide +kernel
theorem dX7_ever_40 : decode cX7_ever 40 = .ok (.invokevirtual 156, 3) := by decide +kernel
theorem dX7_ever_43 : decode cX7_ever 43 = .ok (.goto 12, 3) := by decide +kernel
theorem dX7_ever_46 : decode cX7_ever 46 = .ok (.aload_n 0, 1) := by decide +kernel
theorem dX7_ever_47 : decode cX7_ever 47 = .ok (.getfield 39, 3) := by decide +kernel
theorem dX7_ever_50 : decode cX7_ever 50 = .ok (.iload 4, 2) := by decide +kernel
theorem dX7_ever_52 : decode cX7_ever 52 = .ok (.invokevirtual 159, 3) := by decide +kernel
theorem dX7_ever_55 : decode cX7_ever 55 = .ok (.istore 5, 2) := by decide +kernel
theorem dX7_ever_57 : decode cX7_ever 57 = .ok (.iload 5, 2) := by decide +kernel
theorem dX7_ever_59 : decode cX7_ever 59 = .ok (.ifCond .eq 18, 3) := by decide +kernel
theorem dX7_ever_62 : decode cX7_ever 62 = .ok (.lload_n 2, 1) := by decide +kernel
theorem dX7_ever_63 : decode cX7_ever 63 = .ok (.aload_n 0, 1) := by decide +kernel
theorem dX7_ever_64 : decode cX7_ever 64 = .ok (.getfield 29, 3) := by decide +kernel
theorem dX7_ever_67 : decode cX7_ever 67 = .ok (.iload 4, 2) := by decide +kernel
theorem dX7_ever_69 : decode cX7_ever 69 = .ok (.invokevirtual 112, 3) := by decide +kernel
theorem dX7_ever_72 : decode cX7_ever 72 = .ok (.invokestatic 162, 3) := by decide +kernel
theorem dX7_ever_75 : decode cX7_ever 75 = .ok (.lor, 1) := by decide +kernel
theorem dX7_ever_76 : decode cX7_ever 76 = .ok (.lstore_n 2, 1) := by decide +kernel
theorem dX7_ever_77 : decode cX7_ever 77 = .ok (.iinc 4 1, 3) := by decide +kernel
theorem dX7_ever_80 : decode cX7_ever 80 = .ok (.goto (-62), 3) := by decide +kernel
theorem dX7_ever_83 : decode cX7_ever 83 = .ok (.lload_n 2, 1) := by decide +kernel
theorem dX7_ever_84 : decode cX7_ever 84 = .ok (.lreturn, 1) := by decide +kernel
theorem dX7_right_0 : decode cX7_right 0 = .ok (.lload_n 1, 1) := by decide +kernel
theorem dX7_right_1 : decode cX7_right 1 = .ok (.invokestatic 136, 3) := by decide +kernel
theorem dX7_right_4 : decode cX7_right 4 = .ok (.ifCond .ne 5, 3) := by decide +kernel
theorem dX7_right_7 : decode cX7_right 7 = .ok (.iconst (-1), 1) := by decide +kernel
theorem dX7_right_8 : decode cX7_right 8 = .ok (.ireturn, 1) := by decide +kernel
theorem dX7_right_9 : decode cX7_right 9 = .ok (.iconst 0, 1) := by decide +kernel
theorem dX7_right_10 : decode cX7_right 10 = .ok (.istore_n 3, 1) := by decide +kernel
theorem dX7_right_11 : decode cX7_right 11 = .ok (.iconst 0, 1) := by decide +kernel
theorem dX7_right_12 : decode cX7_right 12 = .ok (.istore 4, 2) := by decide +kernel
theorem dX7_right_14 : decode cX7_right 14 = .ok (.iload 4, 2) := by decide +kernel
theorem dX7_right_16 : decode cX7_right 16 = .ok (.aload_n 0, 1) := by decide +kernel
theorem dX7_right_17 : decode cX7_right 17 = .ok (.getfield 23, 3) := by decide +kernel
theorem dX7_right_20 : decode cX7_right 20 = .ok (.invokevirtual 166, 3) := by decide +kernel
theorem dX7_right_23 : decode cX7_right 23 = .ok (.if_icmp .ge 31, 3) := by decide +kernel
theorem dX7_right_26 : decode cX7_right 26 = .ok (.aload_n 0, 1) := by decide +kernel
theorem dX7_right_27 : decode cX7_right 27 = .ok (.lload_n 1, 1) := by decide +kernel
theorem dX7_right_28 : decode cX7_right 28 = .ok (.iload 4, 2) := by decide +kernel
theorem dX7_right_30 : decode cX7_right 30 = .ok (.invokevirtual 143, 3) := by decide +kernel
theorem dX7_right_33 : decode cX7_right 33 = .ok (.aload_n 0, 1) := by decide +kernel
theorem dX7_right_34 : decode cX7_right 34 = .ok (.getfield 23, 3) := by decide +kernel
theorem dX7_right_37 : decode cX7_right 37 = .ok (.iload 4, 2) := by decide +kernel
theorem dX7_right_39 : decode cX7_right 39 = .ok (.invokevirtual 169, 3) := by decide +kernel
theorem dX7_right_42 : decode cX7_right 42 = .ok (.if_icmp .ne 6, 3) := by decide +kernel
theorem dX7_right_45 : decode cX7_right 45 = .ok (.iinc 3 1, 3) := by decide +kernel
theorem dX7_right_48 : decode cX7_right 48 = .ok (.iinc 4 1, 3) := by decide +kernel
theorem dX7_right_51 : decode cX7_right 51 = .ok (.goto (-37), 3) := by decide +kernel
theorem dX7_right_54 : decode cX7_right 54 = .ok (.iload_n 3, 1) := by decide +kernel
theorem dX7_right_55 : decode cX7_right 55 = .ok (.ireturn, 1) := by decide +kernel
theorem dX7_order_0 : decode cX7_order 0 = .ok (.lload_n 1, 1) := by decide +kernel
theorem dX7_order_1 : decode cX7_order 1 = .ok (.invokestatic 136, 3) := by decide +kernel
theorem dX7_order_4 : decode cX7_order 4 = .ok (.ifCond .eq 11, 3) := by decide +kernel
theorem dX7_order_7 : decode cX7_order 7 = .ok (.aload_n 0, 1) := by decide +kernel
theorem dX7_order_8 : decode cX7_order 8 = .ok (.iload_n 3, 1) := by decide +kernel
theorem dX7_order_9 : decode cX7_order 9 = .ok (.invokevirtual 105, 3) := by decide +kernel
theorem dX7_order_12 : decode cX7_order 12 = .ok (.ifCond .ne 5, 3) := by decide +kernel
theorem dX7_order_15 : decode cX7_order 15 = .ok (.iconst (-1), 1) := by decide +kernel
theorem dX7_order_16 : decode cX7_order 16 = .ok (.ireturn, 1) := by decide +kernel
theorem dX7_order_17 : decode cX7_order 17 = .ok (.aload_n 0, 1) := by decide +kernel
theorem dX7_order_18 : decode cX7_order 18 = .ok (.getfield 46, 3) := by decide +kernel
theorem dX7_order_21 : decode cX7_order 21 = .ok (.aload_n 0, 1) := by decide +kernel
theorem dX7_order_22 : decode cX7_order 22 = .ok (.getfield 23, 3) := by decide +kernel
theorem dX7_order_25 : decode cX7_order 25 = .ok (.getfield 101, 3) := by decide +kernel
theorem dX7_order_28 : decode cX7_order 28 = .ok (.invokevirtual 172, 3) := by decide +kernel
theorem dX7_order_31 : decode cX7_order 31 = .ok (.iconst 0, 1) := by decide +kernel
theorem dX7_order_32 : decode cX7_order 32 = .ok (.istore 4, 2) := by decide +kernel
theorem dX7_order_34 : decode cX7_order 34 = .ok (.iload 4, 2) := by decide +kernel
theorem dX7_order_36 : decode cX7_order 36 = .ok (.aload_n 0, 1) := by decide +kernel
theorem dX7_order_37 : decode cX7_order 37 = .ok (.getfield 23, 3) := by decide +kernel
theorem dX7_order_40 : decode cX7_order 40 = .ok (.invokevirtual 166, 3) := by decide +kernel
theorem dX7_order_43 : decode cX7_order 43 = .ok (.if_icmp .ge 35, 3) := by decide +kernel
theorem dX7_order_46 : decode cX7_order 46 = .ok (.aload_n 0, 1) := by decide +kernel
theorem dX7_order_47 : decode cX7_order 47 = .ok (.getfield 46, 3) := by decide +kernel
theorem dX7_order_50 : decode cX7_order 50 = .ok (.aload_n 0, 1) := by decide +kernel
theorem dX7_order_51 : decode cX7_order 51 = .ok (.getfield 39, 3) := by decide +kernel
theorem dX7_order_54 : decode cX7_order 54 = .ok (.lload_n 1, 1) := by decide +kernel
theorem dX7_order_55 : decode cX7_order 55 = .ok (.iload 4, 2) := by decide +kernel
theorem dX7_order_57 : decode cX7_order 57 = .ok (.invokevirtual 175, 3) := by decide +kernel
theorem dX7_order_60 : decode cX7_order 60 = .ok (.aload_n 0, 1) := by decide +kernel
theorem dX7_order_61 : decode cX7_order 61 = .ok (.getfield 23, 3) := by decide +kernel
theorem dX7_order_64 : decode cX7_order 64 = .ok (.iload 4, 2) := by decide +kernel
theorem dX7_order_66 : decode cX7_order 66 = .ok (.invokevirtual 169, 3) := by decide +kernel
theorem dX7_order_69 : decode cX7_order 69 = .ok (.invokevirtual 178, 3) := by decide +kernel
theorem dX7_order_72 : decode cX7_order 72 = .ok (.iinc 4 1, 3) := by decide +kernel
theorem dX7_order_75 : decode cX7_order 75 = .ok (.goto (-41), 3) := by decide +kernel
theorem dX7_order_78 : decode cX7_order 78 = .ok (.aload_n 0, 1) := by decide +kernel
theorem dX7_order_79 : decode cX7_order 79 = .ok (.getfield 46, 3) := by decide +kernel
theorem dX7_order_82 : decode cX7_order 82 = .ok (.invokevirtual 181, 3) := by decide +kernel
theorem dX7_order_85 : decode cX7_order 85 = .ok (.ifCond .ne 6, 3) := by decide +kernel
theorem dX7_order_88 : decode cX7_order 88 = .ok (.bipush (-4), 2) := by decide +kernel
theorem dX7_order_90 : decode cX7_order 90 = .ok (.ireturn, 1) := by decide +kernel
theorem dX7_order_91 : decode cX7_order 91 = .ok (.aload_n 0, 1) := by decide +kernel
theorem dX7_order_92 : decode cX7_order 92 = .ok (.getfield 46, 3) := by decide +kernel
theorem dX7_order_95 : decode cX7_order 95 = .ok (.invokevirtual 184, 3) := by decide +kernel
theorem dX7_order_98 : decode cX7_order 98 = .ok (.aload_n 0, 1) := by decide +kernel
theorem dX7_order_99 : decode cX7_order 99 = .ok (.getfield 46, 3) := by decide +kernel
theorem dX7_order_102 : decode cX7_order 102 = .ok (.iload_n 3, 1) := by decide +kernel
theorem dX7_order_103 : decode cX7_order 103 = .ok (.invokevirtual 187, 3) := by decide +kernel
theorem dX7_order_106 : decode cX7_order 106 = .ok (.ireturn, 1) := by decide +kernel
theorem dX7_shows_0 : decode cX7_shows 0 = .ok (.iload_n 1, 1) := by decide +kernel
theorem dX7_shows_1 : decode cX7_shows 1 = .ok (.iconst 0, 1) := by decide +kernel
theorem dX7_shows_2 : decode cX7_shows 2 = .ok (.iconst 3, 1) := by decide +kernel
theorem dX7_shows_3 : decode cX7_shows 3 = .ok (.invokestatic 78, 3) := by decide +kernel
theorem dX7_shows_6 : decode cX7_shows 6 = .ok (.ifCond .eq 11, 3) := by decide +kernel
theorem dX7_shows_9 : decode cX7_shows 9 = .ok (.aload_n 0, 1) := by decide +kernel
theorem dX7_shows_10 : decode cX7_shows 10 = .ok (.iload_n 2, 1) := by decide +kernel
theorem dX7_shows_11 : decode cX7_shows 11 = .ok (.invokevirtual 105, 3) := by decide +kernel
theorem dX7_shows_14 : decode cX7_shows 14 = .ok (.ifCond .ne 5, 3) := by decide +kernel
theorem dX7_shows_17 : decode cX7_shows 17 = .ok (.iconst (-1), 1) := by decide +kernel
theorem dX7_shows_18 : decode cX7_shows 18 = .ok (.ireturn, 1) := by decide +kernel
theorem dX7_shows_19 : decode cX7_shows 19 = .ok (.aload_n 0, 1) := by decide +kernel
theorem dX7_shows_20 : decode cX7_shows 20 = .ok (.iload_n 1, 1) := by decide +kernel
theorem dX7_shows_21 : decode cX7_shows 21 = .ok (.iload_n 2, 1) := by decide +kernel
theorem dX7_shows_22 : decode cX7_shows 22 = .ok (.invokevirtual 188, 3) := by decide +kernel
theorem dX7_shows_25 : decode cX7_shows 25 = .ok (.ireturn, 1) := by decide +kernel
theorem dX7_quickest_0 : decode cX7_quickest 0 = .ok (.iload_n 1, 1) := by decide +kernel
theorem dX7_quickest_1 : decode cX7_quickest 1 = .ok (.iconst 0, 1) := by decide +kernel
theorem dX7_quickest_2 : decode cX7_quickest 2 = .ok (.iconst 2, 1) := by decide +kernel
theorem dX7_quickest_3 : decode cX7_quickest 3 = .ok (.invokestatic 78, 3) := by decide +kernel
theorem dX7_quickest_6 : decode cX7_quickest 6 = .ok (.ifCond .ne 5, 3) := by decide +kernel
theorem dX7_quickest_9 : decode cX7_quickest 9 = .ok (.iconst (-1), 1) := by decide +kernel
theorem dX7_quickest_10 : decode cX7_quickest 10 = .ok (.ireturn, 1) := by decide +kernel
theorem dX7_quickest_11 : decode cX7_quickest 11 = .ok (.iload_n 1, 1) := by decide +kernel
theorem dX7_quickest_12 : decode cX7_quickest 12 = .ok (.ifCond .ne 5, 3) := by decide +kernel
theorem dX7_quickest_15 : decode cX7_quickest 15 = .ok (.iconst 0, 1) := by decide +kernel
theorem dX7_quickest_16 : decode cX7_quickest 16 = .ok (.ireturn, 1) := by decide +kernel
theorem dX7_quickest_17 : decode cX7_quickest 17 = .ok (.iload_n 1, 1) := by decide +kernel
theorem dX7_quickest_18 : decode cX7_quickest 18 = .ok (.iconst 1, 1) := by decide +kernel
theorem dX7_quickest_19 : decode cX7_quickest 19 = .ok (.if_icmp .ne 15, 3) := by decide +kernel
theorem dX7_quickest_22 : decode cX7_quickest 22 = .ok (.aload_n 0, 1) := by decide +kernel
theorem dX7_quickest_23 : decode cX7_quickest 23 = .ok (.getfield 23, 3) := by decide +kernel
theorem dX7_quickest_26 : decode cX7_quickest 26 = .ok (.getfield 101, 3) := by decide +kernel
theorem dX7_quickest_29 : decode cX7_quickest 29 = .ok (.iconst 1, 1) := by decide +kernel
theorem dX7_quickest_30 : decode cX7_quickest 30 = .ok (.isub, 1) := by decide +kernel
theorem dX7_quickest_31 : decode cX7_quickest 31 = .ok (.goto 10, 3) := by decide +kernel
theorem dX7_quickest_34 : decode cX7_quickest 34 = .ok (.aload_n 0, 1) := by decide +kernel
theorem dX7_quickest_35 : decode cX7_quickest 35 = .ok (.getfield 23, 3) := by decide +kernel
theorem dX7_quickest_38 : decode cX7_quickest 38 = .ok (.getfield 101, 3) := by decide +kernel
theorem dX7_quickest_41 : decode cX7_quickest 41 = .ok (.ireturn, 1) := by decide +kernel
theorem dX7_seen_0 : decode cX7_seen 0 = .ok (.lload_n 1, 1) := by decide +kernel
theorem dX7_seen_1 : decode cX7_seen 1 = .ok (.invokestatic 136, 3) := by decide +kernel
theorem dX7_seen_4 : decode cX7_seen 4 = .ok (.ifCond .eq 20, 3) := by decide +kernel
theorem dX7_seen_7 : decode cX7_seen 7 = .ok (.aload_n 0, 1) := by decide +kernel
theorem dX7_seen_8 : decode cX7_seen 8 = .ok (.iload_n 3, 1) := by decide +kernel
theorem dX7_seen_9 : decode cX7_seen 9 = .ok (.invokevirtual 140, 3) := by decide +kernel
theorem dX7_seen_12 : decode cX7_seen 12 = .ok (.ifCond .eq 12, 3) := by decide +kernel
theorem dX7_seen_15 : decode cX7_seen 15 = .ok (.aload_n 0, 1) := by decide +kernel
theorem dX7_seen_16 : decode cX7_seen 16 = .ok (.iload 4, 2) := by decide +kernel
theorem dX7_seen_18 : decode cX7_seen 18 = .ok (.invokevirtual 105, 3) := by decide +kernel
theorem dX7_seen_21 : decode cX7_seen 21 = .ok (.ifCond .ne 5, 3) := by decide +kernel
theorem dX7_seen_24 : decode cX7_seen 24 = .ok (.iconst (-1), 1) := by decide +kernel
theorem dX7_seen_25 : decode cX7_seen 25 = .ok (.ireturn, 1) := by decide +kernel
theorem dX7_seen_26 : decode cX7_seen 26 = .ok (.aload_n 0, 1) := by decide +kernel
theorem dX7_seen_27 : decode cX7_seen 27 = .ok (.getfield 192, 3) := by decide +kernel
theorem dX7_seen_30 : decode cX7_seen 30 = .ok (.bipush 12, 2) := by decide +kernel
theorem dX7_seen_32 : decode cX7_seen 32 = .ok (.if_icmp .lt 6, 3) := by decide +kernel
theorem dX7_seen_35 : decode cX7_seen 35 = .ok (.bipush (-3), 2) := by decide +kernel
theorem dX7_seen_37 : decode cX7_seen 37 = .ok (.ireturn, 1) := by decide +kernel
theorem dX7_seen_38 : decode cX7_seen 38 = .ok (.aload_n 0, 1) := by decide +kernel
theorem dX7_seen_39 : decode cX7_seen 39 = .ok (.getfield 55, 3) := by decide +kernel
theorem dX7_seen_42 : decode cX7_seen 42 = .ok (.aload_n 0, 1) := by decide +kernel
theorem dX7_seen_43 : decode cX7_seen 43 = .ok (.getfield 192, 3) := by decide +kernel
theorem dX7_seen_46 : decode cX7_seen 46 = .ok (.aload_n 0, 1) := by decide +kernel
theorem dX7_seen_47 : decode cX7_seen 47 = .ok (.getfield 39, 3) := by decide +kernel
theorem dX7_seen_50 : decode cX7_seen 50 = .ok (.lload_n 1, 1) := by decide +kernel
theorem dX7_seen_51 : decode cX7_seen 51 = .ok (.iload_n 3, 1) := by decide +kernel
theorem dX7_seen_52 : decode cX7_seen 52 = .ok (.invokevirtual 175, 3) := by decide +kernel
theorem dX7_seen_55 : decode cX7_seen 55 = .ok (.invokevirtual 195, 3) := by decide +kernel
theorem dX7_seen_58 : decode cX7_seen 58 = .ok (.aload_n 0, 1) := by decide +kernel
theorem dX7_seen_59 : decode cX7_seen 59 = .ok (.getfield 59, 3) := by decide +kernel
theorem dX7_seen_62 : decode cX7_seen 62 = .ok (.aload_n 0, 1) := by decide +kernel
theorem dX7_seen_63 : decode cX7_seen 63 = .ok (.getfield 192, 3) := by decide +kernel
theorem dX7_seen_66 : decode cX7_seen 66 = .ok (.iload 4, 2) := by decide +kernel
theorem dX7_seen_68 : decode cX7_seen 68 = .ok (.invokevirtual 195, 3) := by decide +kernel
theorem dX7_seen_71 : decode cX7_seen 71 = .ok (.aload_n 0, 1) := by decide +kernel
theorem dX7_seen_72 : decode cX7_seen 72 = .ok (.dup, 1) := by decide +kernel
theorem dX7_seen_73 : decode cX7_seen 73 = .ok (.getfield 192, 3) := by decide +kernel
theorem dX7_seen_76 : decode cX7_seen 76 = .ok (.iconst 1, 1) := by decide +kernel
theorem dX7_seen_77 : decode cX7_seen 77 = .ok (.iadd, 1) := by decide +kernel
theorem dX7_seen_78 : decode cX7_seen 78 = .ok (.putfield 192, 3) := by decide +kernel
theorem dX7_seen_81 : decode cX7_seen 81 = .ok (.aload_n 0, 1) := by decide +kernel
theorem dX7_seen_82 : decode cX7_seen 82 = .ok (.getfield 192, 3) := by decide +kernel
theorem dX7_seen_85 : decode cX7_seen 85 = .ok (.ireturn, 1) := by decide +kernel
theorem dX7_forget_0 : decode cX7_forget 0 = .ok (.aload_n 0, 1) := by decide +kernel
theorem dX7_forget_1 : decode cX7_forget 1 = .ok (.getfield 192, 3) := by decide +kernel
theorem dX7_forget_4 : decode cX7_forget 4 = .ok (.istore_n 1, 1) := by decide +kernel
theorem dX7_forget_5 : decode cX7_forget 5 = .ok (.aload_n 0, 1) := by decide +kernel
theorem dX7_forget_6 : decode cX7_forget 6 = .ok (.iconst 0, 1) := by decide +kernel
theorem dX7_forget_7 : decode cX7_forget 7 = .ok (.putfield 192, 3) := by decide +kernel
theorem dX7_forget_10 : decode cX7_forget 10 = .ok (.iload_n 1, 1) := by decide +kernel
theorem dX7_forget_11 : decode cX7_forget 11 = .ok (.ireturn, 1) := by decide +kernel
theorem dX7_so_0 : decode cX7_so 0 = .ok (.aload_n 0, 1) := by decide +kernel
theorem dX7_so_1 : decode cX7_so 1 = .ok (.invokevirtual 198, 3) := by decide +kernel
theorem dX7_so_4 : decode cX7_so 4 = .ok (.aload_n 0, 1) := by decide +kernel
theorem dX7_so_5 : decode cX7_so 5 = .ok (.getfield 46, 3) := by decide +kernel
theorem dX7_so_8 : decode cX7_so 8 = .ok (.invokevirtual 181, 3) := by decide +kernel
theorem dX7_so_11 : decode cX7_so 11 = .ok (.ifCond .eq 7, 3) := by decide +kernel
theorem dX7_so_14 : decode cX7_so 14 = .ok (.iconst 1, 1) := by decide +kernel
theorem dX7_so_15 : decode cX7_so 15 = .ok (.goto 4, 3) := by decide +kernel
theorem dX7_so_18 : decode cX7_so 18 = .ok (.iconst 0, 1) := by decide +kernel
theorem dX7_so_19 : decode cX7_so 19 = .ok (.ireturn, 1) := by decide +kernel
theorem dX7_sure_0 : decode cX7_sure 0 = .ok (.aload_n 0, 1) := by decide +kernel
theorem dX7_sure_1 : decode cX7_sure 1 = .ok (.iload_n 1, 1) := by decide +kernel
theorem dX7_sure_2 : decode cX7_sure 2 = .ok (.invokevirtual 105, 3) := by decide +kernel
theorem dX7_sure_5 : decode cX7_sure 5 = .ok (.ifCond .ne 5, 3) := by decide +kernel
theorem dX7_sure_8 : decode cX7_sure 8 = .ok (.iconst (-1), 1) := by decide +kernel
theorem dX7_sure_9 : decode cX7_sure 9 = .ok (.ireturn, 1) := by decide +kernel
theorem dX7_sure_10 : decode cX7_sure 10 = .ok (.aload_n 0, 1) := by decide +kernel
theorem dX7_sure_11 : decode cX7_sure 11 = .ok (.invokevirtual 198, 3) := by decide +kernel
theorem dX7_sure_14 : decode cX7_sure 14 = .ok (.aload_n 0, 1) := by decide +kernel
theorem dX7_sure_15 : decode cX7_sure 15 = .ok (.getfield 46, 3) := by decide +kernel
theorem dX7_sure_18 : decode cX7_sure 18 = .ok (.invokevirtual 181, 3) := by decide +kernel
theorem dX7_sure_21 : decode cX7_sure 21 = .ok (.ifCond .ne 6, 3) := by decide +kernel
theorem dX7_sure_24 : decode cX7_sure 24 = .ok (.bipush (-4), 2) := by decide +kernel
theorem dX7_sure_26 : decode cX7_sure 26 = .ok (.ireturn, 1) := by decide +kernel
theorem dX7_sure_27 : decode cX7_sure 27 = .ok (.aload_n 0, 1) := by decide +kernel
theorem dX7_sure_28 : decode cX7_sure 28 = .ok (.getfield 46, 3) := by decide +kernel
theorem dX7_sure_31 : decode cX7_sure 31 = .ok (.invokevirtual 201, 3) := by decide +kernel
theorem dX7_sure_34 : decode cX7_sure 34 = .ok (.ifCond .eq 10, 3) := by decide +kernel
theorem dX7_sure_37 : decode cX7_sure 37 = .ok (.aload_n 0, 1) := by decide +kernel
theorem dX7_sure_38 : decode cX7_sure 38 = .ok (.getfield 46, 3) := by decide +kernel
theorem dX7_sure_41 : decode cX7_sure 41 = .ok (.invokevirtual 184, 3) := by decide +kernel
theorem dX7_sure_44 : decode cX7_sure 44 = .ok (.aload_n 0, 1) := by decide +kernel
theorem dX7_sure_45 : decode cX7_sure 45 = .ok (.getfield 46, 3) := by decide +kernel
theorem dX7_sure_48 : decode cX7_sure 48 = .ok (.iload_n 1, 1) := by decide +kernel
theorem dX7_sure_49 : decode cX7_sure 49 = .ok (.invokevirtual 187, 3) := by decide +kernel
theorem dX7_sure_52 : decode cX7_sure 52 = .ok (.ireturn, 1) := by decide +kernel
theorem dX7_lacks_0 : decode cX7_lacks 0 = .ok (.aload_n 0, 1) := by decide +kernel
theorem dX7_lacks_1 : decode cX7_lacks 1 = .ok (.iload_n 1, 1) := by decide +kernel
theorem dX7_lacks_2 : decode cX7_lacks 2 = .ok (.invokevirtual 105, 3) := by decide +kernel
theorem dX7_lacks_5 : decode cX7_lacks 5 = .ok (.ifCond .eq 12, 3) := by decide +kernel
theorem dX7_lacks_8 : decode cX7_lacks 8 = .ok (.iload_n 2, 1) := by decide +kernel
theorem dX7_lacks_9 : decode cX7_lacks 9 = .ok (.iconst 0, 1) := by decide +kernel
theorem dX7_lacks_10 : decode cX7_lacks 10 = .ok (.iconst 1, 1) := by decide +kernel
theorem dX7_lacks_11 : decode cX7_lacks 11 = .ok (.invokestatic 78, 3) := by decide +kernel
theorem dX7_lacks_14 : decode cX7_lacks 14 = .ok (.ifCond .ne 5, 3) := by decide +kernel
theorem dX7_lacks_17 : decode cX7_lacks 17 = .ok (.iconst (-1), 1) := by decide +kernel
theorem dX7_lacks_18 : decode cX7_lacks 18 = .ok (.ireturn, 1) := by decide +kernel
theorem dX7_lacks_19 : decode cX7_lacks 19 = .ok (.aload_n 0, 1) := by decide +kernel
theorem dX7_lacks_20 : decode cX7_lacks 20 = .ok (.getfield 29, 3) := by decide +kernel
theorem dX7_lacks_23 : decode cX7_lacks 23 = .ok (.iload_n 1, 1) := by decide +kernel
theorem dX7_lacks_24 : decode cX7_lacks 24 = .ok (.invokevirtual 116, 3) := by decide +kernel
theorem dX7_lacks_27 : decode cX7_lacks 27 = .ok (.istore_n 3, 1) := by decide +kernel
theorem dX7_lacks_28 : decode cX7_lacks 28 = .ok (.iconst 0, 1) := by decide +kernel
theorem dX7_lacks_29 : decode cX7_lacks 29 = .ok (.istore 4, 2) := by decide +kernel
theorem dX7_lacks_31 : decode cX7_lacks 31 = .ok (.iload 4, 2) := by decide +kernel
theorem dX7_lacks_33 : decode cX7_lacks 33 = .ok (.bipush 40, 2) := by decide +kernel
theorem dX7_lacks_35 : decode cX7_lacks 35 = .ok (.if_icmp .ge 48, 3) := by decide +kernel
theorem dX7_lacks_38 : decode cX7_lacks 38 = .ok (.aload_n 0, 1) := by decide +kernel
theorem dX7_lacks_39 : decode cX7_lacks 39 = .ok (.getfield 39, 3) := by decide +kernel
theorem dX7_lacks_42 : decode cX7_lacks 42 = .ok (.aload_n 0, 1) := by decide +kernel
theorem dX7_lacks_43 : decode cX7_lacks 43 = .ok (.getfield 39, 3) := by decide +kernel
theorem dX7_lacks_46 : decode cX7_lacks 46 = .ok (.iload 4, 2) := by decide +kernel
theorem dX7_lacks_48 : decode cX7_lacks 48 = .ok (.i2l, 1) := by decide +kernel
theorem dX7_lacks_49 : decode cX7_lacks 49 = .ok (.iload_n 3, 1) := by decide +kernel
theorem dX7_lacks_50 : decode cX7_lacks 50 = .ok (.invokevirtual 204, 3) := by decide +kernel
theorem dX7_lacks_53 : decode cX7_lacks 53 = .ok (.invokevirtual 207, 3) := by decide +kernel
theorem dX7_lacks_56 : decode cX7_lacks 56 = .ok (.istore 5, 2) := by decide +kernel
theorem dX7_lacks_58 : decode cX7_lacks 58 = .ok (.iload 5, 2) := by decide +kernel
theorem dX7_lacks_60 : decode cX7_lacks 60 = .ok (.bipush (-4), 2) := by decide +kernel
theorem dX7_lacks_62 : decode cX7_lacks 62 = .ok (.if_icmp .eq 15, 3) := by decide +kernel
theorem dX7_lacks_65 : decode cX7_lacks 65 = .ok (.iload_n 2, 1) := by decide +kernel
theorem dX7_lacks_66 : decode cX7_lacks 66 = .ok (.ifCond .ne 8, 3) := by decide +kernel
theorem dX7_lacks_69 : decode cX7_lacks 69 = .ok (.iload 4, 2) := by decide +kernel
theorem dX7_lacks_71 : decode cX7_lacks 71 = .ok (.goto 5, 3) := by decide +kernel
theorem dX7_lacks_74 : decode cX7_lacks 74 = .ok (.iload 5, 2) := by decide +kernel
theorem dX7_lacks_76 : decode cX7_lacks 76 = .ok (.ireturn, 1) := by decide +kernel
theorem dX7_lacks_77 : decode cX7_lacks 77 = .ok (.iinc 4 1, 3) := by decide +kernel
theorem dX7_lacks_80 : decode cX7_lacks 80 = .ok (.goto (-49), 3) := by decide +kernel
theorem dX7_lacks_83 : decode cX7_lacks 83 = .ok (.bipush (-4), 2) := by decide +kernel
theorem dX7_lacks_85 : decode cX7_lacks 85 = .ok (.ireturn, 1) := by decide +kernel
theorem dX7_notice_0 : decode cX7_notice 0 = .ok (.aload_n 0, 1) := by decide +kernel
theorem dX7_notice_1 : decode cX7_notice 1 = .ok (.iload_n 1, 1) := by decide +kernel
theorem dX7_notice_2 : decode cX7_notice 2 = .ok (.invokevirtual 105, 3) := by decide +kernel
theorem dX7_notice_5 : decode cX7_notice 5 = .ok (.ifCond .eq 22, 3) := by decide +kernel
theorem dX7_notice_8 : decode cX7_notice 8 = .ok (.aload_n 0, 1) := by decide +kernel
theorem dX7_notice_9 : decode cX7_notice 9 = .ok (.iload_n 2, 1) := by decide +kernel
theorem dX7_notice_10 : decode cX7_notice 10 = .ok (.invokevirtual 105, 3) := by decide +kernel
theorem dX7_notice_13 : decode cX7_notice 13 = .ok (.ifCond .eq 14, 3) := by decide +kernel
theorem dX7_notice_16 : decode cX7_notice 16 = .ok (.iload_n 3, 1) := by decide +kernel
theorem dX7_notice_17 : decode cX7_notice 17 = .ok (.iconst 0, 1) := by decide +kernel
theorem dX7_notice_18 : decode cX7_notice 18 = .ok (.sipush 1000, 3) := by decide +kernel
theorem dX7_notice_21 : decode cX7_notice 21 = .ok (.invokestatic 78, 3) := by decide +kernel
theorem dX7_notice_24 : decode cX7_notice 24 = .ok (.ifCond .ne 5, 3) := by decide +kernel
theorem dX7_notice_27 : decode cX7_notice 27 = .ok (.iconst (-1), 1) := by decide +kernel
theorem dX7_notice_28 : decode cX7_notice 28 = .ok (.ireturn, 1) := by decide +kernel
theorem dX7_notice_29 : decode cX7_notice 29 = .ok (.iload_n 1, 1) := by decide +kernel
theorem dX7_notice_30 : decode cX7_notice 30 = .ok (.iload_n 2, 1) := by decide +kernel
theorem dX7_notice_31 : decode cX7_notice 31 = .ok (.if_icmp .ne 5, 3) := by decide +kernel
theorem dX7_notice_34 : decode cX7_notice 34 = .ok (.iconst 0, 1) := by decide +kernel
theorem dX7_notice_35 : decode cX7_notice 35 = .ok (.ireturn, 1) := by decide +kernel
theorem dX7_notice_36 : decode cX7_notice 36 = .ok (.aload_n 0, 1) := by decide +kernel
theorem dX7_notice_37 : decode cX7_notice 37 = .ok (.getfield 29, 3) := by decide +kernel
theorem dX7_notice_40 : decode cX7_notice 40 = .ok (.iload_n 1, 1) := by decide +kernel
theorem dX7_notice_41 : decode cX7_notice 41 = .ok (.invokevirtual 116, 3) := by decide +kernel
theorem dX7_notice_44 : decode cX7_notice 44 = .ok (.istore 4, 2) := by decide +kernel
theorem dX7_notice_46 : decode cX7_notice 46 = .ok (.aload_n 0, 1) := by decide +kernel
theorem dX7_notice_47 : decode cX7_notice 47 = .ok (.getfield 29, 3) := by decide +kernel
theorem dX7_notice_50 : decode cX7_notice 50 = .ok (.iload_n 2, 1) := by decide +kernel
theorem dX7_notice_51 : decode cX7_notice 51 = .ok (.invokevirtual 116, 3) := by decide +kernel
theorem dX7_notice_54 : decode cX7_notice 54 = .ok (.istore 5, 2) := by decide +kernel
theorem dX7_notice_56 : decode cX7_notice 56 = .ok (.iconst 0, 1) := by decide +kernel
theorem dX7_notice_57 : decode cX7_notice 57 = .ok (.istore 6, 2) := by decide +kernel
theorem dX7_notice_59 : decode cX7_notice 59 = .ok (.iconst 0, 1) := by decide +kernel
theorem dX7_notice_60 : decode cX7_notice 60 = .ok (.istore 7, 2) := by decide +kernel
theorem dX7_notice_62 : decode cX7_notice 62 = .ok (.iload 7, 2) := by decide +kernel
theorem dX7_notice_64 : decode cX7_notice 64 = .ok (.iload_n 3, 1) := by decide +kernel
theorem dX7_notice_65 : decode cX7_notice 65 = .ok (.if_icmp .ge 34, 3) := by decide +kernel
theorem dX7_notice_68 : decode cX7_notice 68 = .ok (.aload_n 0, 1) := by decide +kernel
theorem dX7_notice_69 : decode cX7_notice 69 = .ok (.iload 7, 2) := by decide +kernel
theorem dX7_notice_71 : decode cX7_notice 71 = .ok (.iload 4, 2) := by decide +kernel
theorem dX7_notice_73 : decode cX7_notice 73 = .ok (.invokevirtual 210, 3) := by decide +kernel
theorem dX7_notice_76 : decode cX7_notice 76 = .ok (.ifCond .ne 14, 3) := by decide +kernel
theorem dX7_notice_79 : decode cX7_notice 79 = .ok (.aload_n 0, 1) := by decide +kernel
theorem dX7_notice_80 : decode cX7_notice 80 = .ok (.iload 7, 2) := by decide +kernel
theorem dX7_notice_82 : decode cX7_notice 82 = .ok (.iload 5, 2) := by decide +kernel
theorem dX7_notice_84 : decode cX7_notice 84 = .ok (.invokevirtual 210, 3) := by decide +kernel
theorem dX7_notice_87 : decode cX7_notice 87 = .ok (.ifCond .eq 6, 3) := by decide +kernel
theorem dX7_notice_90 : decode cX7_notice 90 = .ok (.iinc 6 1, 3) := by decide +kernel
theorem dX7_notice_93 : decode cX7_notice 93 = .ok (.iinc 7 1, 3) := by decide +kernel
theorem dX7_notice_96 : decode cX7_notice 96 = .ok (.goto (-34), 3) := by decide +kernel
theorem dX7_notice_99 : decode cX7_notice 99 = .ok (.iload 6, 2) := by decide +kernel
theorem dX7_notice_101 : decode cX7_notice 101 = .ok (.ireturn, 1) := by decide +kernel
theorem dX7_pleased_0 : decode cX7_pleased 0 = .ok (.iload_n 1, 1) := by decide +kernel
theorem dX7_pleased_1 : decode cX7_pleased 1 = .ok (.iconst 1, 1) := by decide +kernel
theorem dX7_pleased_2 : decode cX7_pleased 2 = .ok (.bipush 100, 2) := by decide +kernel
theorem dX7_pleased_4 : decode cX7_pleased 4 = .ok (.invokestatic 78, 3) := by decide +kernel
theorem dX7_pleased_7 : decode cX7_pleased 7 = .ok (.ifCond .eq 12, 3) := by decide +kernel
theorem dX7_pleased_10 : decode cX7_pleased 10 = .ok (.iload_n 2, 1) := by decide +kernel
theorem dX7_pleased_11 : decode cX7_pleased 11 = .ok (.iconst 0, 1) := by decide +kernel
theorem dX7_pleased_12 : decode cX7_pleased 12 = .ok (.iconst 1, 1) := by decide +kernel
theorem dX7_pleased_13 : decode cX7_pleased 13 = .ok (.invokestatic 78, 3) := by decide +kernel
theorem dX7_pleased_16 : decode cX7_pleased 16 = .ok (.ifCond .ne 5, 3) := by decide +kernel
theorem dX7_pleased_19 : decode cX7_pleased 19 = .ok (.iconst (-1), 1) := by decide +kernel
theorem dX7_pleased_20 : decode cX7_pleased 20 = .ok (.ireturn, 1) := by decide +kernel
theorem dX7_pleased_21 : decode cX7_pleased 21 = .ok (.iconst 0, 1) := by decide +kernel
theorem dX7_pleased_22 : decode cX7_pleased 22 = .ok (.istore_n 3, 1) := by decide +kernel
theorem dX7_pleased_23 : decode cX7_pleased 23 = .ok (.bipush (-4), 2) := by decide +kernel
theorem dX7_pleased_25 : decode cX7_pleased 25 = .ok (.istore 4, 2) := by decide +kernel
theorem dX7_pleased_27 : decode cX7_pleased 27 = .ok (.iconst 0, 1) := by decide +kernel
theorem dX7_pleased_28 : decode cX7_pleased 28 = .ok (.istore 5, 2) := by decide +kernel
theorem dX7_pleased_30 : decode cX7_pleased 30 = .ok (.iload 5, 2) := by decide +kernel
theorem dX7_pleased_32 : decode cX7_pleased 32 = .ok (.aload_n 0, 1) := by decide +kernel
theorem dX7_pleased_33 : decode cX7_pleased 33 = .ok (.getfield 23, 3) := by decide +kernel
theorem dX7_pleased_36 : decode cX7_pleased 36 = .ok (.getfield 101, 3) := by decide +kernel
theorem dX7_pleased_39 : decode cX7_pleased 39 = .ok (.if_icmp .ge 32, 3) := by decide +kernel
theorem dX7_pleased_42 : decode cX7_pleased 42 = .ok (.aload_n 0, 1) := by decide +kernel
theorem dX7_pleased_43 : decode cX7_pleased 43 = .ok (.iload 5, 2) := by decide +kernel
theorem dX7_pleased_45 : decode cX7_pleased 45 = .ok (.iload_n 1, 1) := by decide +kernel
theorem dX7_pleased_46 : decode cX7_pleased 46 = .ok (.invokevirtual 214, 3) := by decide +kernel
theorem dX7_pleased_49 : decode cX7_pleased 49 = .ok (.istore 6, 2) := by decide +kernel
theorem dX7_pleased_51 : decode cX7_pleased 51 = .ok (.iload 6, 2) := by decide +kernel
theorem dX7_pleased_53 : decode cX7_pleased 53 = .ok (.iload 4, 2) := by decide +kernel
theorem dX7_pleased_55 : decode cX7_pleased 55 = .ok (.if_icmp .le 10, 3) := by decide +kernel
theorem dX7_pleased_58 : decode cX7_pleased 58 = .ok (.iload 5, 2) := by decide +kernel
theorem dX7_pleased_60 : decode cX7_pleased 60 = .ok (.istore_n 3, 1) := by decide +kernel
theorem dX7_pleased_61 : decode cX7_pleased 61 = .ok (.iload 6, 2) := by decide +kernel
theorem dX7_pleased_63 : decode cX7_pleased 63 = .ok (.istore 4, 2) := by decide +kernel
theorem dX7_pleased_65 : decode cX7_pleased 65 = .ok (.iinc 5 1, 3) := by decide +kernel
theorem dX7_pleased_68 : decode cX7_pleased 68 = .ok (.goto (-38), 3) := by decide +kernel
theorem dX7_pleased_71 : decode cX7_pleased 71 = .ok (.iload_n 2, 1) := by decide +kernel
theorem dX7_pleased_72 : decode cX7_pleased 72 = .ok (.ifCond .ne 7, 3) := by decide +kernel
theorem dX7_pleased_75 : decode cX7_pleased 75 = .ok (.iload_n 3, 1) := by decide +kernel
theorem dX7_pleased_76 : decode cX7_pleased 76 = .ok (.goto 5, 3) := by decide +kernel
theorem dX7_pleased_79 : decode cX7_pleased 79 = .ok (.iload 4, 2) := by decide +kernel
theorem dX7_pleased_81 : decode cX7_pleased 81 = .ok (.ireturn, 1) := by decide +kernel
theorem dX7_keep_0 : decode cX7_keep 0 = .ok (.aload_n 0, 1) := by decide +kernel
theorem dX7_keep_1 : decode cX7_keep 1 = .ok (.getfield 217, 3) := by decide +kernel
theorem dX7_keep_4 : decode cX7_keep 4 = .ok (.iconst 2, 1) := by decide +kernel
theorem dX7_keep_5 : decode cX7_keep 5 = .ok (.if_icmp .lt 6, 3) := by decide +kernel
theorem dX7_keep_8 : decode cX7_keep 8 = .ok (.bipush (-3), 2) := by decide +kernel
theorem dX7_keep_10 : decode cX7_keep 10 = .ok (.ireturn, 1) := by decide +kernel
theorem dX7_keep_11 : decode cX7_keep 11 = .ok (.aload_n 0, 1) := by decide +kernel
theorem dX7_keep_12 : decode cX7_keep 12 = .ok (.aload_n 0, 1) := by decide +kernel
theorem dX7_keep_13 : decode cX7_keep 13 = .ok (.getfield 217, 3) := by decide +kernel
theorem dX7_keep_16 : decode cX7_keep 16 = .ok (.invokevirtual 220, 3) := by decide +kernel
theorem dX7_keep_19 : decode cX7_keep 19 = .ok (.aload_n 0, 1) := by decide +kernel
theorem dX7_keep_20 : decode cX7_keep 20 = .ok (.getfield 65, 3) := by decide +kernel
theorem dX7_keep_23 : decode cX7_keep 23 = .ok (.invokevirtual 224, 3) := by decide +kernel
theorem dX7_keep_26 : decode cX7_keep 26 = .ok (.aload_n 0, 1) := by decide +kernel
theorem dX7_keep_27 : decode cX7_keep 27 = .ok (.dup, 1) := by decide +kernel
theorem dX7_keep_28 : decode cX7_keep 28 = .ok (.getfield 217, 3) := by decide +kernel
theorem dX7_keep_31 : decode cX7_keep 31 = .ok (.iconst 1, 1) := by decide +kernel
theorem dX7_keep_32 : decode cX7_keep 32 = .ok (.iadd, 1) := by decide +kernel
theorem dX7_keep_33 : decode cX7_keep 33 = .ok (.putfield 217, 3) := by decide +kernel
theorem dX7_keep_36 : decode cX7_keep 36 = .ok (.aload_n 0, 1) := by decide +kernel
theorem dX7_keep_37 : decode cX7_keep 37 = .ok (.getfield 217, 3) := by decide +kernel
theorem dX7_keep_40 : decode cX7_keep 40 = .ok (.ireturn, 1) := by decide +kernel
theorem dX7_back_0 : decode cX7_back 0 = .ok (.aload_n 0, 1) := by decide +kernel
theorem dX7_back_1 : decode cX7_back 1 = .ok (.getfield 217, 3) := by decide +kernel
theorem dX7_back_4 : decode cX7_back 4 = .ok (.ifCond .gt 6, 3) := by decide +kernel
theorem dX7_back_7 : decode cX7_back 7 = .ok (.bipush (-2), 2) := by decide +kernel
theorem dX7_back_9 : decode cX7_back 9 = .ok (.ireturn, 1) := by decide +kernel
theorem dX7_back_10 : decode cX7_back 10 = .ok (.aload_n 0, 1) := by decide +kernel
theorem dX7_back_11 : decode cX7_back 11 = .ok (.dup, 1) := by decide +kernel
theorem dX7_back_12 : decode cX7_back 12 = .ok (.getfield 217, 3) := by decide +kernel
theorem dX7_back_15 : decode cX7_back 15 = .ok (.iconst 1, 1) := by decide +kernel
theorem dX7_back_16 : decode cX7_back 16 = .ok (.isub, 1) := by decide +kernel
theorem dX7_back_17 : decode cX7_back 17 = .ok (.putfield 217, 3) := by decide +kernel
theorem dX7_back_20 : decode cX7_back 20 = .ok (.aload_n 0, 1) := by decide +kernel
theorem dX7_back_21 : decode cX7_back 21 = .ok (.getfield 65, 3) := by decide +kernel
theorem dX7_back_24 : decode cX7_back 24 = .ok (.aload_n 0, 1) := by decide +kernel
theorem dX7_back_25 : decode cX7_back 25 = .ok (.aload_n 0, 1) := by decide +kernel
theorem dX7_back_26 : decode cX7_back 26 = .ok (.getfield 217, 3) := by decide +kernel
theorem dX7_back_29 : decode cX7_back 29 = .ok (.invokevirtual 220, 3) := by decide +kernel
theorem dX7_back_32 : decode cX7_back 32 = .ok (.invokevirtual 224, 3) := by decide +kernel
theorem dX7_back_35 : decode cX7_back 35 = .ok (.aload_n 0, 1) := by decide +kernel
theorem dX7_back_36 : decode cX7_back 36 = .ok (.getfield 217, 3) := by decide +kernel
theorem dX7_back_39 : decode cX7_back 39 = .ok (.ireturn, 1) := by decide +kernel
theorem dX7_count_0 : decode cX7_count 0 = .ok (.iload_n 1, 1) := by decide +kernel
theorem dX7_count_1 : decode cX7_count 1 = .ok (.iconst 0, 1) := by decide +kernel
theorem dX7_count_2 : decode cX7_count 2 = .ok (.bipush 7, 2) := by decide +kernel
theorem dX7_count_4 : decode cX7_count 4 = .ok (.invokestatic 78, 3) := by decide +kernel
theorem dX7_count_7 : decode cX7_count 7 = .ok (.ifCond .ne 5, 3) := by decide +kernel
theorem dX7_count_10 : decode cX7_count 10 = .ok (.iconst (-1), 1) := by decide +kernel
theorem dX7_count_11 : decode cX7_count 11 = .ok (.ireturn, 1) := by decide +kernel
theorem dX7_count_12 : decode cX7_count 12 = .ok (.iload_n 1, 1) := by decide +kernel
theorem dX7_count_13 : decode cX7_count 13 = .ok (.tableswitch 93 0 6 #[43, 51, 59, 67, 75, 83, 88], 43) := by decide +kernel
theorem dX7_count_56 : decode cX7_count 56 = .ok (.aload_n 0, 1) := by decide +kernel
theorem dX7_count_57 : decode cX7_count 57 = .ok (.getfield 23, 3) := by decide +kernel
theorem dX7_count_60 : decode cX7_count 60 = .ok (.getfield 101, 3) := by decide +kernel
theorem dX7_count_63 : decode cX7_count 63 = .ok (.ireturn, 1) := by decide +kernel
theorem dX7_count_64 : decode cX7_count 64 = .ok (.aload_n 0, 1) := by decide +kernel
theorem dX7_count_65 : decode cX7_count 65 = .ok (.getfield 23, 3) := by decide +kernel
theorem dX7_count_68 : decode cX7_count 68 = .ok (.getfield 123, 3) := by decide +kernel
theorem dX7_count_71 : decode cX7_count 71 = .ok (.ireturn, 1) := by decide +kernel
theorem dX7_count_72 : decode cX7_count 72 = .ok (.aload_n 0, 1) := by decide +kernel
theorem dX7_count_73 : decode cX7_count 73 = .ok (.getfield 23, 3) := by decide +kernel
theorem dX7_count_76 : decode cX7_count 76 = .ok (.getfield 228, 3) := by decide +kernel
theorem dX7_count_79 : decode cX7_count 79 = .ok (.ireturn, 1) := by decide +kernel
theorem dX7_count_80 : decode cX7_count 80 = .ok (.aload_n 0, 1) := by decide +kernel
theorem dX7_count_81 : decode cX7_count 81 = .ok (.getfield 65, 3) := by decide +kernel
theorem dX7_count_84 : decode cX7_count 84 = .ok (.getfield 126, 3) := by decide +kernel
theorem dX7_count_87 : decode cX7_count 87 = .ok (.ireturn, 1) := by decide +kernel
theorem dX7_count_88 : decode cX7_count 88 = .ok (.aload_n 0, 1) := by decide +kernel
theorem dX7_count_89 : decode cX7_count 89 = .ok (.getfield 65, 3) := by decide +kernel
theorem dX7_count_92 : decode cX7_count 92 = .ok (.getfield 231, 3) := by decide +kernel
theorem dX7_count_95 : decode cX7_count 95 = .ok (.ireturn, 1) := by decide +kernel
theorem dX7_count_96 : decode cX7_count 96 = .ok (.aload_n 0, 1) := by decide +kernel
theorem dX7_count_97 : decode cX7_count 97 = .ok (.getfield 192, 3) := by decide +kernel
theorem dX7_count_100 : decode cX7_count 100 = .ok (.ireturn, 1) := by decide +kernel
theorem dX7_count_101 : decode cX7_count 101 = .ok (.aload_n 0, 1) := by decide +kernel
theorem dX7_count_102 : decode cX7_count 102 = .ok (.getfield 217, 3) := by decide +kernel
theorem dX7_count_105 : decode cX7_count 105 = .ok (.ireturn, 1) := by decide +kernel
theorem dX7_count_106 : decode cX7_count 106 = .ok (.aload_n 0, 1) := by decide +kernel
theorem dX7_count_107 : decode cX7_count 107 = .ok (.getfield 10, 3) := by decide +kernel
theorem dX7_count_110 : decode cX7_count 110 = .ok (.invokevirtual 82, 3) := by decide +kernel
theorem dX7_count_113 : decode cX7_count 113 = .ok (.ireturn, 1) := by decide +kernel
theorem dX7_startAnew_0 : decode cX7_startAnew 0 = .ok (.aload_n 0, 1) := by decide +kernel
theorem dX7_startAnew_1 : decode cX7_startAnew 1 = .ok (.getfield 23, 3) := by decide +kernel
theorem dX7_startAnew_4 : decode cX7_startAnew 4 = .ok (.aload_n 0, 1) := by decide +kernel
theorem dX7_startAnew_5 : decode cX7_startAnew 5 = .ok (.getfield 29, 3) := by decide +kernel
theorem dX7_startAnew_8 : decode cX7_startAnew 8 = .ok (.invokevirtual 234, 3) := by decide +kernel
theorem dX7_startAnew_11 : decode cX7_startAnew 11 = .ok (.aload_n 0, 1) := by decide +kernel
theorem dX7_startAnew_12 : decode cX7_startAnew 12 = .ok (.getfield 39, 3) := by decide +kernel
theorem dX7_startAnew_15 : decode cX7_startAnew 15 = .ok (.aload_n 0, 1) := by decide +kernel
theorem dX7_startAnew_16 : decode cX7_startAnew 16 = .ok (.getfield 23, 3) := by decide +kernel
theorem dX7_startAnew_19 : decode cX7_startAnew 19 = .ok (.invokevirtual 238, 3) := by decide +kernel
theorem dX7_startAnew_22 : decode cX7_startAnew 22 = .ok (.aload_n 0, 1) := by decide +kernel
theorem dX7_startAnew_23 : decode cX7_startAnew 23 = .ok (.getfield 65, 3) := by decide +kernel
theorem dX7_startAnew_26 : decode cX7_startAnew 26 = .ok (.aload_n 0, 1) := by decide +kernel
theorem dX7_startAnew_27 : decode cX7_startAnew 27 = .ok (.getfield 29, 3) := by decide +kernel
theorem dX7_startAnew_30 : decode cX7_startAnew 30 = .ok (.invokevirtual 242, 3) := by decide +kernel
theorem dX7_startAnew_33 : decode cX7_startAnew 33 = .ok (.aload_n 0, 1) := by decide +kernel
theorem dX7_startAnew_34 : decode cX7_startAnew 34 = .ok (.iconst 0, 1) := by decide +kernel
theorem dX7_startAnew_35 : decode cX7_startAnew 35 = .ok (.putfield 192, 3) := by decide +kernel
theorem dX7_startAnew_38 : decode cX7_startAnew 38 = .ok (.aload_n 0, 1) := by decide +kernel
theorem dX7_startAnew_39 : decode cX7_startAnew 39 = .ok (.iconst 0, 1) := by decide +kernel
theorem dX7_startAnew_40 : decode cX7_startAnew 40 = .ok (.putfield 217, 3) := by decide +kernel
theorem dX7_startAnew_43 : decode cX7_startAnew 43 = .ok (.return_, 1) := by decide +kernel
theorem dX7_keptPack_0 : decode cX7_keptPack 0 = .ok (.iload_n 1, 1) := by decide +kernel
theorem dX7_keptPack_1 : decode cX7_keptPack 1 = .ok (.ifCond .ne 10, 3) := by decide +kernel
theorem dX7_keptPack_4 : decode cX7_keptPack 4 = .ok (.aload_n 0, 1) := by decide +kernel
theorem dX7_keptPack_5 : decode cX7_keptPack 5 = .ok (.getfield 69, 3) := by decide +kernel
theorem dX7_keptPack_8 : decode cX7_keptPack 8 = .ok (.goto 7, 3) := by decide +kernel
theorem dX7_keptPack_11 : decode cX7_keptPack 11 = .ok (.aload_n 0, 1) := by decide +kernel
theorem dX7_keptPack_12 : decode cX7_keptPack 12 = .ok (.getfield 72, 3) := by decide +kernel
theorem dX7_keptPack_15 : decode cX7_keptPack 15 = .ok (.areturn, 1) := by decide +kernel
theorem dX7_isBelowCount_0 : decode cX7_isBelowCount 0 = .ok (.iload_n 1, 1) := by decide +kernel
theorem dX7_isBelowCount_1 : decode cX7_isBelowCount 1 = .ok (.iconst 0, 1) := by decide +kernel
theorem dX7_isBelowCount_2 : decode cX7_isBelowCount 2 = .ok (.aload_n 0, 1) := by decide +kernel
theorem dX7_isBelowCount_3 : decode cX7_isBelowCount 3 = .ok (.getfield 23, 3) := by decide +kernel
theorem dX7_isBelowCount_6 : decode cX7_isBelowCount 6 = .ok (.getfield 101, 3) := by decide +kernel
theorem dX7_isBelowCount_9 : decode cX7_isBelowCount 9 = .ok (.iconst 1, 1) := by decide +kernel
theorem dX7_isBelowCount_10 : decode cX7_isBelowCount 10 = .ok (.isub, 1) := by decide +kernel
theorem dX7_isBelowCount_11 : decode cX7_isBelowCount 11 = .ok (.invokestatic 78, 3) := by decide +kernel
theorem dX7_isBelowCount_14 : decode cX7_isBelowCount 14 = .ok (.ireturn, 1) := by decide +kernel
theorem dX7_isTurn_0 : decode cX7_isTurn 0 = .ok (.iload_n 1, 1) := by decide +kernel
theorem dX7_isTurn_1 : decode cX7_isTurn 1 = .ok (.iconst 0, 1) := by decide +kernel
theorem dX7_isTurn_2 : decode cX7_isTurn 2 = .ok (.aload_n 0, 1) := by decide +kernel
theorem dX7_isTurn_3 : decode cX7_isTurn 3 = .ok (.getfield 23, 3) := by decide +kernel
theorem dX7_isTurn_6 : decode cX7_isTurn 6 = .ok (.getfield 123, 3) := by decide +kernel
theorem dX7_isTurn_9 : decode cX7_isTurn 9 = .ok (.iconst 1, 1) := by decide +kernel
theorem dX7_isTurn_10 : decode cX7_isTurn 10 = .ok (.isub, 1) := by decide +kernel
theorem dX7_isTurn_11 : decode cX7_isTurn 11 = .ok (.invokestatic 78, 3) := by decide +kernel
theorem dX7_isTurn_14 : decode cX7_isTurn 14 = .ok (.ireturn, 1) := by decide +kernel
theorem dX7_leafHad_0 : decode cX7_leafHad 0 = .ok (.aload_n 0, 1) := by decide +kernel
theorem dX7_leafHad_1 : decode cX7_leafHad 1 = .ok (.getfield 29, 3) := by decide +kernel
theorem dX7_leafHad_4 : decode cX7_leafHad 4 = .ok (.aload_n 0, 1) := by decide +kernel
theorem dX7_leafHad_5 : decode cX7_leafHad 5 = .ok (.getfield 39, 3) := by decide +kernel
theorem dX7_leafHad_8 : decode cX7_leafHad 8 = .ok (.lload_n 1, 1) := by decide +kernel
theorem dX7_leafHad_9 : decode cX7_leafHad 9 = .ok (.iload_n 3, 1) := by decide +kernel
theorem dX7_leafHad_10 : decode cX7_leafHad 10 = .ok (.invokevirtual 175, 3) := by decide +kernel
theorem dX7_leafHad_13 : decode cX7_leafHad 13 = .ok (.invokevirtual 112, 3) := by decide +kernel
theorem dX7_leafHad_16 : decode cX7_leafHad 16 = .ok (.ireturn, 1) := by decide +kernel
theorem dX7_leavesHad_0 : decode cX7_leavesHad 0 = .ok (.lconst 0, 1) := by decide +kernel
theorem dX7_leavesHad_1 : decode cX7_leavesHad 1 = .ok (.lstore_n 3, 1) := by decide +kernel
theorem dX7_leavesHad_2 : decode cX7_leavesHad 2 = .ok (.iconst 0, 1) := by decide +kernel
theorem dX7_leavesHad_3 : decode cX7_leavesHad 3 = .ok (.istore 5, 2) := by decide +kernel
theorem dX7_leavesHad_5 : decode cX7_leavesHad 5 = .ok (.iload 5, 2) := by decide +kernel
theorem dX7_leavesHad_7 : decode cX7_leavesHad 7 = .ok (.aload_n 0, 1) := by decide +kernel
theorem dX7_leavesHad_8 : decode cX7_leavesHad 8 = .ok (.getfield 23, 3) := by decide +kernel
theorem dX7_leavesHad_11 : decode cX7_leavesHad 11 = .ok (.getfield 123, 3) := by decide +kernel
theorem dX7_leavesHad_14 : decode cX7_leavesHad 14 = .ok (.if_icmp .ge 22, 3) := by decide +kernel
theorem dX7_leavesHad_17 : decode cX7_leavesHad 17 = .ok (.lload_n 3, 1) := by decide +kernel
theorem dX7_leavesHad_18 : decode cX7_leavesHad 18 = .ok (.aload_n 0, 1) := by decide +kernel
theorem dX7_leavesHad_19 : decode cX7_leavesHad 19 = .ok (.lload_n 1, 1) := by decide +kernel
theorem dX7_leavesHad_20 : decode cX7_leavesHad 20 = .ok (.iload 5, 2) := by decide +kernel
theorem dX7_leavesHad_22 : decode cX7_leavesHad 22 = .ok (.invokevirtual 143, 3) := by decide +kernel
theorem dX7_leavesHad_25 : decode cX7_leavesHad 25 = .ok (.invokestatic 162, 3) := by decide +kernel
theorem dX7_leavesHad_28 : decode cX7_leavesHad 28 = .ok (.lor, 1) := by decide +kernel
theorem dX7_leavesHad_29 : decode cX7_leavesHad 29 = .ok (.lstore_n 3, 1) := by decide +kernel
theorem dX7_leavesHad_30 : decode cX7_leavesHad 30 = .ok (.iinc 5 1, 3) := by decide +kernel
theorem dX7_leavesHad_33 : decode cX7_leavesHad 33 = .ok (.goto (-28), 3) := by decide +kernel
theorem dX7_leavesHad_36 : decode cX7_leavesHad 36 = .ok (.lload_n 3, 1) := by decide +kernel
theorem dX7_leavesHad_37 : decode cX7_leavesHad 37 = .ok (.lreturn, 1) := by decide +kernel
theorem dX7_isReadBy_0 : decode cX7_isReadBy 0 = .ok (.aload_n 0, 1) := by decide +kernel
theorem dX7_isReadBy_1 : decode cX7_isReadBy 1 = .ok (.getfield 39, 3) := by decide +kernel
theorem dX7_isReadBy_4 : decode cX7_isReadBy 4 = .ok (.aload_n 0, 1) := by decide +kernel
theorem dX7_isReadBy_5 : decode cX7_isReadBy 5 = .ok (.getfield 39, 3) := by decide +kernel
theorem dX7_isReadBy_8 : decode cX7_isReadBy 8 = .ok (.iload_n 1, 1) := by decide +kernel
theorem dX7_isReadBy_9 : decode cX7_isReadBy 9 = .ok (.i2l, 1) := by decide +kernel
theorem dX7_isReadBy_10 : decode cX7_isReadBy 10 = .ok (.iload_n 2, 1) := by decide +kernel
theorem dX7_isReadBy_11 : decode cX7_isReadBy 11 = .ok (.invokevirtual 204, 3) := by decide +kernel
theorem dX7_isReadBy_14 : decode cX7_isReadBy 14 = .ok (.invokevirtual 207, 3) := by decide +kernel
theorem dX7_isReadBy_17 : decode cX7_isReadBy 17 = .ok (.bipush (-4), 2) := by decide +kernel
theorem dX7_isReadBy_19 : decode cX7_isReadBy 19 = .ok (.if_icmp .eq 7, 3) := by decide +kernel
theorem dX7_isReadBy_22 : decode cX7_isReadBy 22 = .ok (.iconst 1, 1) := by decide +kernel
theorem dX7_isReadBy_23 : decode cX7_isReadBy 23 = .ok (.goto 4, 3) := by decide +kernel
theorem dX7_isReadBy_26 : decode cX7_isReadBy 26 = .ok (.iconst 0, 1) := by decide +kernel
theorem dX7_isReadBy_27 : decode cX7_isReadBy 27 = .ok (.ireturn, 1) := by decide +kernel
theorem dX7_guessFromSeen_0 : decode cX7_guessFromSeen 0 = .ok (.aload_n 0, 1) := by decide +kernel
theorem dX7_guessFromSeen_1 : decode cX7_guessFromSeen 1 = .ok (.getfield 46, 3) := by decide +kernel
theorem dX7_guessFromSeen_4 : decode cX7_guessFromSeen 4 = .ok (.aload_n 0, 1) := by decide +kernel
theorem dX7_guessFromSeen_5 : decode cX7_guessFromSeen 5 = .ok (.getfield 23, 3) := by decide +kernel
theorem dX7_guessFromSeen_8 : decode cX7_guessFromSeen 8 = .ok (.getfield 101, 3) := by decide +kernel
theorem dX7_guessFromSeen_11 : decode cX7_guessFromSeen 11 = .ok (.invokevirtual 172, 3) := by decide +kernel
theorem dX7_guessFromSeen_14 : decode cX7_guessFromSeen 14 = .ok (.iconst 0, 1) := by decide +kernel
theorem dX7_guessFromSeen_15 : decode cX7_guessFromSeen 15 = .ok (.istore_n 1, 1) := by decide +kernel
theorem dX7_guessFromSeen_16 : decode cX7_guessFromSeen 16 = .ok (.iload_n 1, 1) := by decide +kernel
theorem dX7_guessFromSeen_17 : decode cX7_guessFromSeen 17 = .ok (.aload_n 0, 1) := by decide +kernel
theorem dX7_guessFromSeen_18 : decode cX7_guessFromSeen 18 = .ok (.getfield 192, 3) := by decide +kernel
theorem dX7_guessFromSeen_21 : decode cX7_guessFromSeen 21 = .ok (.if_icmp .ge 32, 3) := by decide +kernel
theorem dX7_guessFromSeen_24 : decode cX7_guessFromSeen 24 = .ok (.aload_n 0, 1) := by decide +kernel
theorem dX7_guessFromSeen_25 : decode cX7_guessFromSeen 25 = .ok (.getfield 46, 3) := by decide +kernel
theorem dX7_guessFromSeen_28 : decode cX7_guessFromSeen 28 = .ok (.aload_n 0, 1) := by decide +kernel
theorem dX7_guessFromSeen_29 : decode cX7_guessFromSeen 29 = .ok (.getfield 55, 3) := by decide +kernel
theorem dX7_guessFromSeen_32 : decode cX7_guessFromSeen 32 = .ok (.iload_n 1, 1) := by decide +kernel
theorem dX7_guessFromSeen_33 : decode cX7_guessFromSeen 33 = .ok (.invokevirtual 245, 3) := by decide +kernel
theorem dX7_guessFromSeen_36 : decode cX7_guessFromSeen 36 = .ok (.aload_n 0, 1) := by decide +kernel
theorem dX7_guessFromSeen_37 : decode cX7_guessFromSeen 37 = .ok (.getfield 59, 3) := by decide +kernel
theorem dX7_guessFromSeen_40 : decode cX7_guessFromSeen 40 = .ok (.iload_n 1, 1) := by decide +kernel
theorem dX7_guessFromSeen_41 : decode cX7_guessFromSeen 41 = .ok (.invokevirtual 245, 3) := by decide +kernel
theorem dX7_guessFromSeen_44 : decode cX7_guessFromSeen 44 = .ok (.invokevirtual 178, 3) := by decide +kernel
theorem dX7_guessFromSeen_47 : decode cX7_guessFromSeen 47 = .ok (.iinc 1 1, 3) := by decide +kernel
theorem dX7_guessFromSeen_50 : decode cX7_guessFromSeen 50 = .ok (.goto (-34), 3) := by decide +kernel
theorem dX7_guessFromSeen_53 : decode cX7_guessFromSeen 53 = .ok (.return_, 1) := by decide +kernel
theorem dX7_readingsToShowAll_0 : decode cX7_readingsToShowAll 0 = .ok (.aload_n 0, 1) := by decide +kernel
theorem dX7_readingsToShowAll_1 : decode cX7_readingsToShowAll 1 = .ok (.getfield 23, 3) := by decide +kernel
theorem dX7_readingsToShowAll_4 : decode cX7_readingsToShowAll 4 = .ok (.getfield 101, 3) := by decide +kernel
theorem dX7_readingsToShowAll_7 : decode cX7_readingsToShowAll 7 = .ok (.invokestatic 162, 3) := by decide +kernel
theorem dX7_readingsToShowAll_10 : decode cX7_readingsToShowAll 10 = .ok (.lconst 1, 1) := by decide +kernel
theorem dX7_readingsToShowAll_11 : decode cX7_readingsToShowAll 11 = .ok (.lsub, 1) := by decide +kernel
theorem dX7_readingsToShowAll_12 : decode cX7_readingsToShowAll 12 = .ok (.lstore_n 3, 1) := by decide +kernel
theorem dX7_readingsToShowAll_13 : decode cX7_readingsToShowAll 13 = .ok (.aload_n 0, 1) := by decide +kernel
theorem dX7_readingsToShowAll_14 : decode cX7_readingsToShowAll 14 = .ok (.getfield 33, 3) := by decide +kernel
theorem dX7_readingsToShowAll_17 : decode cX7_readingsToShowAll 17 = .ok (.aload_n 0, 1) := by decide +kernel
theorem dX7_readingsToShowAll_18 : decode cX7_readingsToShowAll 18 = .ok (.getfield 23, 3) := by decide +kernel
theorem dX7_readingsToShowAll_21 : decode cX7_readingsToShowAll 21 = .ok (.getfield 101, 3) := by decide +kernel
theorem dX7_readingsToShowAll_24 : decode cX7_readingsToShowAll 24 = .ok (.invokevirtual 248, 3) := by decide +kernel
theorem dX7_readingsToShowAll_27 : decode cX7_readingsToShowAll 27 = .ok (.iconst 0, 1) := by decide +kernel
theorem dX7_readingsToShowAll_28 : decode cX7_readingsToShowAll 28 = .ok (.istore 5, 2) := by decide +kernel
theorem dX7_readingsToShowAll_30 : decode cX7_readingsToShowAll 30 = .ok (.iload 5, 2) := by decide +kernel
theorem dX7_readingsToShowAll_32 : decode cX7_readingsToShowAll 32 = .ok (.iconst 2, 1) := by decide +kernel
theorem dX7_readingsToShowAll_33 : decode cX7_readingsToShowAll 33 = .ok (.aload_n 0, 1) := by decide +kernel
theorem dX7_readingsToShowAll_34 : decode cX7_readingsToShowAll 34 = .ok (.getfield 23, 3) := by decide +kernel
theorem dX7_readingsToShowAll_37 : decode cX7_readingsToShowAll 37 = .ok (.getfield 101, 3) := by decide +kernel
theorem dX7_readingsToShowAll_40 : decode cX7_readingsToShowAll 40 = .ok (.imul, 1) := by decide +kernel
theorem dX7_readingsToShowAll_41 : decode cX7_readingsToShowAll 41 = .ok (.if_icmp .ge 41, 3) := by decide +kernel
theorem dX7_readingsToShowAll_44 : decode cX7_readingsToShowAll 44 = .ok (.lload_n 3, 1) := by decide +kernel
theorem dX7_readingsToShowAll_45 : decode cX7_readingsToShowAll 45 = .ok (.aload_n 0, 1) := by decide +kernel
theorem dX7_readingsToShowAll_46 : decode cX7_readingsToShowAll 46 = .ok (.getfield 33, 3) := by decide +kernel
theorem dX7_readingsToShowAll_49 : decode cX7_readingsToShowAll 49 = .ok (.iload_n 1, 1) := by decide +kernel
theorem dX7_readingsToShowAll_50 : decode cX7_readingsToShowAll 50 = .ok (.iload_n 2, 1) := by decide +kernel
theorem dX7_readingsToShowAll_51 : decode cX7_readingsToShowAll 51 = .ok (.iload 5, 2) := by decide +kernel
theorem dX7_readingsToShowAll_53 : decode cX7_readingsToShowAll 53 = .ok (.invokevirtual 251, 3) := by decide +kernel
theorem dX7_readingsToShowAll_56 : decode cX7_readingsToShowAll 56 = .ok (.invokestatic 162, 3) := by decide +kernel
theorem dX7_readingsToShowAll_59 : decode cX7_readingsToShowAll 59 = .ok (.ldc2_w 151, 3) := by decide +kernel
theorem dX7_readingsToShowAll_62 : decode cX7_readingsToShowAll 62 = .ok (.lxor, 1) := by decide +kernel
theorem dX7_readingsToShowAll_63 : decode cX7_readingsToShowAll 63 = .ok (.land, 1) := by decide +kernel
theorem dX7_readingsToShowAll_64 : decode cX7_readingsToShowAll 64 = .ok (.lstore_n 3, 1) := by decide +kernel
theorem dX7_readingsToShowAll_65 : decode cX7_readingsToShowAll 65 = .ok (.lload_n 3, 1) := by decide +kernel
theorem dX7_readingsToShowAll_66 : decode cX7_readingsToShowAll 66 = .ok (.lconst 0, 1) := by decide +kernel
theorem dX7_readingsToShowAll_67 : decode cX7_readingsToShowAll 67 = .ok (.lcmp, 1) := by decide +kernel
theorem dX7_readingsToShowAll_68 : decode cX7_readingsToShowAll 68 = .ok (.ifCond .ne 8, 3) := by decide +kernel
theorem dX7_readingsToShowAll_71 : decode cX7_readingsToShowAll 71 = .ok (.iload 5, 2) := by decide +kernel
theorem dX7_readingsToShowAll_73 : decode cX7_readingsToShowAll 73 = .ok (.iconst 1, 1) := by decide +kernel
theorem dX7_readingsToShowAll_74 : decode cX7_readingsToShowAll 74 = .ok (.iadd, 1) := by decide +kernel
theorem dX7_readingsToShowAll_75 : decode cX7_readingsToShowAll 75 = .ok (.ireturn, 1) := by decide +kernel
theorem dX7_readingsToShowAll_76 : decode cX7_readingsToShowAll 76 = .ok (.iinc 5 1, 3) := by decide +kernel
theorem dX7_readingsToShowAll_79 : decode cX7_readingsToShowAll 79 = .ok (.goto (-49), 3) := by decide +kernel
theorem dX7_readingsToShowAll_82 : decode cX7_readingsToShowAll 82 = .ok (.bipush (-4), 2) := by decide +kernel
theorem dX7_readingsToShowAll_84 : decode cX7_readingsToShowAll 84 = .ok (.ireturn, 1) := by decide +kernel
theorem dX7_rightWhenLaidAt_0 : decode cX7_rightWhenLaidAt 0 = .ok (.iconst 0, 1) := by decide +kernel
theorem dX7_rightWhenLaidAt_1 : decode cX7_rightWhenLaidAt 1 = .ok (.istore_n 3, 1) := by decide +kernel
theorem dX7_rightWhenLaidAt_2 : decode cX7_rightWhenLaidAt 2 = .ok (.iconst 0, 1) := by decide +kernel
theorem dX7_rightWhenLaidAt_3 : decode cX7_rightWhenLaidAt 3 = .ok (.istore 4, 2) := by decide +kernel
theorem dX7_rightWhenLaidAt_5 : decode cX7_rightWhenLaidAt 5 = .ok (.iload 4, 2) := by decide +kernel
theorem dX7_rightWhenLaidAt_7 : decode cX7_rightWhenLaidAt 7 = .ok (.aload_n 0, 1) := by decide +kernel
theorem dX7_rightWhenLaidAt_8 : decode cX7_rightWhenLaidAt 8 = .ok (.getfield 23, 3) := by decide +kernel
theorem dX7_rightWhenLaidAt_11 : decode cX7_rightWhenLaidAt 11 = .ok (.invokevirtual 166, 3) := by decide +kernel
theorem dX7_rightWhenLaidAt_14 : decode cX7_rightWhenLaidAt 14 = .ok (.if_icmp .ge 50, 3) := by decide +kernel
theorem dX7_rightWhenLaidAt_17 : decode cX7_rightWhenLaidAt 17 = .ok (.aload_n 0, 1) := by decide +kernel
theorem dX7_rightWhenLaidAt_18 : decode cX7_rightWhenLaidAt 18 = .ok (.getfield 39, 3) := by decide +kernel
theorem dX7_rightWhenLaidAt_21 : decode cX7_rightWhenLaidAt 21 = .ok (.iload_n 2, 1) := by decide +kernel
theorem dX7_rightWhenLaidAt_22 : decode cX7_rightWhenLaidAt 22 = .ok (.i2l, 1) := by decide +kernel
theorem dX7_rightWhenLaidAt_23 : decode cX7_rightWhenLaidAt 23 = .ok (.iload 4, 2) := by decide +kernel
theorem dX7_rightWhenLaidAt_25 : decode cX7_rightWhenLaidAt 25 = .ok (.invokevirtual 255, 3) := by decide +kernel
theorem dX7_rightWhenLaidAt_28 : decode cX7_rightWhenLaidAt 28 = .ok (.istore 5, 2) := by decide +kernel
theorem dX7_rightWhenLaidAt_30 : decode cX7_rightWhenLaidAt 30 = .ok (.aload_n 0, 1) := by decide +kernel
theorem dX7_rightWhenLaidAt_31 : decode cX7_rightWhenLaidAt 31 = .ok (.getfield 29, 3) := by decide +kernel
theorem dX7_rightWhenLaidAt_34 : decode cX7_rightWhenLaidAt 34 = .ok (.iload 5, 2) := by decide +kernel
theorem dX7_rightWhenLaidAt_36 : decode cX7_rightWhenLaidAt 36 = .ok (.iload_n 1, 1) := by decide +kernel
theorem dX7_rightWhenLaidAt_37 : decode cX7_rightWhenLaidAt 37 = .ok (.invokestatic 258, 3) := by decide +kernel
theorem dX7_rightWhenLaidAt_40 : decode cX7_rightWhenLaidAt 40 = .ok (.invokevirtual 112, 3) := by decide +kernel
theorem dX7_rightWhenLaidAt_43 : decode cX7_rightWhenLaidAt 43 = .ok (.aload_n 0, 1) := by decide +kernel
theorem dX7_rightWhenLaidAt_44 : decode cX7_rightWhenLaidAt 44 = .ok (.getfield 23, 3) := by decide +kernel
theorem dX7_rightWhenLaidAt_47 : decode cX7_rightWhenLaidAt 47 = .ok (.iload 4, 2) := by decide +kernel
theorem dX7_rightWhenLaidAt_49 : decode cX7_rightWhenLaidAt 49 = .ok (.invokevirtual 169, 3) := by decide +kernel
theorem dX7_rightWhenLaidAt_52 : decode cX7_rightWhenLaidAt 52 = .ok (.if_icmp .ne 6, 3) := by decide +kernel
theorem dX7_rightWhenLaidAt_55 : decode cX7_rightWhenLaidAt 55 = .ok (.iinc 3 1, 3) := by decide +kernel
theorem dX7_rightWhenLaidAt_58 : decode cX7_rightWhenLaidAt 58 = .ok (.iinc 4 1, 3) := by decide +kernel
theorem dX7_rightWhenLaidAt_61 : decode cX7_rightWhenLaidAt 61 = .ok (.goto (-56), 3) := by decide +kernel
theorem dX7_rightWhenLaidAt_64 : decode cX7_rightWhenLaidAt 64 = .ok (.iload_n 3, 1) := by decide +kernel
theorem dX7_rightWhenLaidAt_65 : decode cX7_rightWhenLaidAt 65 = .ok (.ireturn, 1) := by decide +kernel
theorem dX7_placeBeforeLaying_0 : decode cX7_placeBeforeLaying 0 = .ok (.iload_n 0, 1) := by decide +kernel
theorem dX7_placeBeforeLaying_1 : decode cX7_placeBeforeLaying 1 = .ok (.iload_n 1, 1) := by decide +kernel
theorem dX7_placeBeforeLaying_2 : decode cX7_placeBeforeLaying 2 = .ok (.if_icmp .ne 5, 3) := by decide +kernel
theorem dX7_placeBeforeLaying_5 : decode cX7_placeBeforeLaying 5 = .ok (.iconst 0, 1) := by decide +kernel
theorem dX7_placeBeforeLaying_6 : decode cX7_placeBeforeLaying 6 = .ok (.ireturn, 1) := by decide +kernel
theorem dX7_placeBeforeLaying_7 : decode cX7_placeBeforeLaying 7 = .ok (.iload_n 0, 1) := by decide +kernel
theorem dX7_placeBeforeLaying_8 : decode cX7_placeBeforeLaying 8 = .ok (.iload_n 1, 1) := by decide +kernel
theorem dX7_placeBeforeLaying_9 : decode cX7_placeBeforeLaying 9 = .ok (.if_icmp .ge 9, 3) := by decide +kernel
theorem dX7_placeBeforeLaying_12 : decode cX7_placeBeforeLaying 12 = .ok (.iload_n 0, 1) := by decide +kernel
theorem dX7_placeBeforeLaying_13 : decode cX7_placeBeforeLaying 13 = .ok (.iconst 1, 1) := by decide +kernel
theorem dX7_placeBeforeLaying_14 : decode cX7_placeBeforeLaying 14 = .ok (.iadd, 1) := by decide +kernel
theorem dX7_placeBeforeLaying_15 : decode cX7_placeBeforeLaying 15 = .ok (.goto 4, 3) := by decide +kernel
theorem dX7_placeBeforeLaying_18 : decode cX7_placeBeforeLaying 18 = .ok (.iload_n 0, 1) := by decide +kernel
theorem dX7_placeBeforeLaying_19 : decode cX7_placeBeforeLaying 19 = .ok (.ireturn, 1) := by decide +kernel
theorem dX7_isReader_0 : decode cX7_isReader 0 = .ok (.lload_n 0, 1) := by decide +kernel
theorem dX7_isReader_1 : decode cX7_isReader 1 = .ok (.lconst 0, 1) := by decide +kernel
theorem dX7_isReader_2 : decode cX7_isReader 2 = .ok (.lcmp, 1) := by decide +kernel
theorem dX7_isReader_3 : decode cX7_isReader 3 = .ok (.ifCond .lt 15, 3) := by decide +kernel
theorem dX7_isReader_6 : decode cX7_isReader 6 = .ok (.lload_n 0, 1) := by decide +kernel
theorem dX7_isReader_7 : decode cX7_isReader 7 = .ok (.ldc2_w 261, 3) := by decide +kernel
theorem dX7_isReader_10 : decode cX7_isReader 10 = .ok (.lcmp, 1) := by decide +kernel
theorem dX7_isReader_11 : decode cX7_isReader 11 = .ok (.ifCond .gt 7, 3) := by decide +kernel
theorem dX7_isReader_14 : decode cX7_isReader 14 = .ok (.iconst 1, 1) := by decide +kernel
theorem dX7_isReader_15 : decode cX7_isReader 15 = .ok (.goto 4, 3) := by decide +kernel
theorem dX7_isReader_18 : decode cX7_isReader 18 = .ok (.iconst 0, 1) := by decide +kernel
theorem dX7_isReader_19 : decode cX7_isReader 19 = .ok (.ireturn, 1) := by decide +kernel
theorem dX7_within_0 : decode cX7_within 0 = .ok (.iload_n 0, 1) := by decide +kernel
theorem dX7_within_1 : decode cX7_within 1 = .ok (.iload_n 1, 1) := by decide +kernel
theorem dX7_within_2 : decode cX7_within 2 = .ok (.if_icmp .lt 12, 3) := by decide +kernel
theorem dX7_within_5 : decode cX7_within 5 = .ok (.iload_n 0, 1) := by decide +kernel
theorem dX7_within_6 : decode cX7_within 6 = .ok (.iload_n 2, 1) := by decide +kernel
theorem dX7_within_7 : decode cX7_within 7 = .ok (.if_icmp .gt 7, 3) := by decide +kernel
theorem dX7_within_10 : decode cX7_within 10 = .ok (.iconst 1, 1) := by decide +kernel
theorem dX7_within_11 : decode cX7_within 11 = .ok (.goto 4, 3) := by decide +kernel
theorem dX7_within_14 : decode cX7_within 14 = .ok (.iconst 0, 1) := by decide +kernel
theorem dX7_within_15 : decode cX7_within 15 = .ok (.ireturn, 1) := by decide +kernel
theorem dX7_bit_0 : decode cX7_bit 0 = .ok (.lconst 1, 1) := by decide +kernel
theorem dX7_bit_1 : decode cX7_bit 1 = .ok (.iload_n 0, 1) := by decide +kernel
theorem dX7_bit_2 : decode cX7_bit 2 = .ok (.lshl, 1) := by decide +kernel
theorem dX7_bit_3 : decode cX7_bit 3 = .ok (.lreturn, 1) := by decide +kernel
theorem dJ9_floorMod_f86c9_0 : decode cJ9_floorMod_f86c9 0 = .ok (.lload_n 0, 1) := by decide +kernel
theorem dJ9_floorMod_f86c9_1 : decode cJ9_floorMod_f86c9 1 = .ok (.lload_n 2, 1) := by decide +kernel
theorem dJ9_floorMod_f86c9_2 : decode cJ9_floorMod_f86c9 2 = .ok (.lrem, 1) := by decide +kernel
theorem dJ9_floorMod_f86c9_3 : decode cJ9_floorMod_f86c9 3 = .ok (.lstore 4, 2) := by decide +kernel
theorem dJ9_floorMod_f86c9_5 : decode cJ9_floorMod_f86c9 5 = .ok (.lload_n 0, 1) := by decide +kernel
theorem dJ9_floorMod_f86c9_6 : decode cJ9_floorMod_f86c9 6 = .ok (.lload_n 2, 1) := by decide +kernel
theorem dJ9_floorMod_f86c9_7 : decode cJ9_floorMod_f86c9 7 = .ok (.lxor, 1) := by decide +kernel
theorem dJ9_floorMod_f86c9_8 : decode cJ9_floorMod_f86c9 8 = .ok (.lconst 0, 1) := by decide +kernel
theorem dJ9_floorMod_f86c9_9 : decode cJ9_floorMod_f86c9 9 = .ok (.lcmp, 1) := by decide +kernel
theorem dJ9_floorMod_f86c9_10 : decode cJ9_floorMod_f86c9 10 = .ok (.ifCond .ge 15, 3) := by decide +kernel
theorem dJ9_floorMod_f86c9_13 : decode cJ9_floorMod_f86c9 13 = .ok (.lload 4, 2) := by decide +kernel
theorem dJ9_floorMod_f86c9_15 : decode cJ9_floorMod_f86c9 15 = .ok (.lconst 0, 1) := by decide +kernel
theorem dJ9_floorMod_f86c9_16 : decode cJ9_floorMod_f86c9 16 = .ok (.lcmp, 1) := by decide +kernel
theorem dJ9_floorMod_f86c9_17 : decode cJ9_floorMod_f86c9 17 = .ok (.ifCond .eq 8, 3) := by decide +kernel
theorem dJ9_floorMod_f86c9_20 : decode cJ9_floorMod_f86c9 20 = .ok (.lload 4, 2) := by decide +kernel
theorem dJ9_floorMod_f86c9_22 : decode cJ9_floorMod_f86c9 22 = .ok (.lload_n 2, 1) := by decide +kernel
theorem dJ9_floorMod_f86c9_23 : decode cJ9_floorMod_f86c9 23 = .ok (.ladd, 1) := by decide +kernel
theorem dJ9_floorMod_f86c9_24 : decode cJ9_floorMod_f86c9 24 = .ok (.lreturn, 1) := by decide +kernel
theorem dJ9_floorMod_f86c9_25 : decode cJ9_floorMod_f86c9 25 = .ok (.lload 4, 2) := by decide +kernel
theorem dJ9_floorMod_f86c9_27 : decode cJ9_floorMod_f86c9 27 = .ok (.lreturn, 1) := by decide +kernel
theorem dJ9_max_7cf53_0 : decode cJ9_max_7cf53 0 = .ok (.iload_n 0, 1) := by decide +kernel
theorem dJ9_max_7cf53_1 : decode cJ9_max_7cf53 1 = .ok (.iload_n 1, 1) := by decide +kernel
theorem dJ9_max_7cf53_2 : decode cJ9_max_7cf53 2 = .ok (.if_icmp .lt 7, 3) := by decide +kernel
theorem dJ9_max_7cf53_5 : decode cJ9_max_7cf53 5 = .ok (.iload_n 0, 1) := by decide +kernel
theorem dJ9_max_7cf53_6 : decode cJ9_max_7cf53 6 = .ok (.goto 4, 3) := by decide +kernel
theorem dJ9_max_7cf53_9 : decode cJ9_max_7cf53 9 = .ok (.iload_n 1, 1) := by decide +kernel
theorem dJ9_max_7cf53_10 : decode cJ9_max_7cf53 10 = .ok (.ireturn, 1) := by decide +kernel
theorem dJ9_min_7cf53_0 : decode cJ9_min_7cf53 0 = .ok (.iload_n 0, 1) := by decide +kernel
theorem dJ9_min_7cf53_1 : decode cJ9_min_7cf53 1 = .ok (.iload_n 1, 1) := by decide +kernel
theorem dJ9_min_7cf53_2 : decode cJ9_min_7cf53 2 = .ok (.if_icmp .gt 7, 3) := by decide +kernel
theorem dJ9_min_7cf53_5 : decode cJ9_min_7cf53 5 = .ok (.iload_n 0, 1) := by decide +kernel
theorem dJ9_min_7cf53_6 : decode cJ9_min_7cf53 6 = .ok (.goto 4, 3) := by decide +kernel
theorem dJ9_min_7cf53_9 : decode cJ9_min_7cf53 9 = .ok (.iload_n 1, 1) := by decide +kernel
theorem dJ9_min_7cf53_10 : decode cJ9_min_7cf53 10 = .ok (.ireturn, 1) := by decide +kernel
end
section
theorem dX8_init_0 : decode cX8_init 0 = .ok (.aload_n 0, 1) := by decide +kernel
theorem dX8_init_1 : decode cX8_init 1 = .ok (.invokespecial 1, 3) := by decide +kernel
theorem dX8_init_4 : decode cX8_init 4 = .ok (.aload_n 0, 1) := by decide +kernel
theorem dX8_init_5 : decode cX8_init 5 = .ok (.sipush 300, 3) := by decide +kernel
theorem dX8_init_8 : decode cX8_init 8 = .ok (.newarray .int, 2) := by decide +kernel
theorem dX8_init_10 : decode cX8_init 10 = .ok (.putfield 7, 3) := by decide +kernel
theorem dX8_init_13 : decode cX8_init 13 = .ok (.aload_n 0, 1) := by decide +kernel
theorem dX8_init_14 : decode cX8_init 14 = .ok (.iconst 2, 1) := by decide +kernel
theorem dX8_init_15 : decode cX8_init 15 = .ok (.newarray .int, 2) := by decide +kernel
theorem dX8_init_17 : decode cX8_init 17 = .ok (.putfield 13, 3) := by decide +kernel
theorem dX8_init_20 : decode cX8_init 20 = .ok (.aload_n 0, 1) := by decide +kernel
theorem dX8_init_21 : decode cX8_init 21 = .ok (.iconst 2, 1) := by decide +kernel
theorem dX8_init_22 : decode cX8_init 22 = .ok (.newarray .int, 2) := by decide +kernel
theorem dX8_init_24 : decode cX8_init 24 = .ok (.putfield 16, 3) := by decide +kernel
theorem dX8_init_27 : decode cX8_init 27 = .ok (.aload_n 0, 1) := by decide +kernel
theorem dX8_init_28 : decode cX8_init 28 = .ok (.iconst 2, 1) := by decide +kernel
theorem dX8_init_29 : decode cX8_init 29 = .ok (.newarray .int, 2) := by decide +kernel
theorem dX8_init_31 : decode cX8_init 31 = .ok (.putfield 19, 3) := by decide +kernel
theorem dX8_init_34 : decode cX8_init 34 = .ok (.aload_n 0, 1) := by decide +kernel
theorem dX8_init_35 : decode cX8_init 35 = .ok (.iconst 2, 1) := by decide +kernel
theorem dX8_init_36 : decode cX8_init 36 = .ok (.newarray .int, 2) := by decide +kernel
theorem dX8_init_38 : decode cX8_init 38 = .ok (.putfield 22, 3) := by decide +kernel
theorem dX8_init_41 : decode cX8_init 41 = .ok (.aload_n 0, 1) := by decide +kernel
theorem dX8_init_42 : decode cX8_init 42 = .ok (.iconst 2, 1) := by decide +kernel
theorem dX8_init_43 : decode cX8_init 43 = .ok (.newarray .int, 2) := by decide +kernel
theorem dX8_init_45 : decode cX8_init 45 = .ok (.putfield 25, 3) := by decide +kernel
theorem dX8_init_48 : decode cX8_init 48 = .ok (.aload_n 0, 1) := by decide +kernel
theorem dX8_init_49 : decode cX8_init 49 = .ok (.bipush 80, 2) := by decide +kernel
theorem dX8_init_51 : decode cX8_init 51 = .ok (.newarray .int, 2) := by decide +kernel
theorem dX8_init_53 : decode cX8_init 53 = .ok (.putfield 28, 3) := by decide +kernel
theorem dX8_init_56 : decode cX8_init 56 = .ok (.aload_n 0, 1) := by decide +kernel
theorem dX8_init_57 : decode cX8_init 57 = .ok (.iconst 2, 1) := by decide +kernel
theorem dX8_init_58 : decode cX8_init 58 = .ok (.newarray .int, 2) := by decide +kernel
theorem dX8_init_60 : decode cX8_init 60 = .ok (.putfield 31, 3) := by decide +kernel
theorem dX8_init_63 : decode cX8_init 63 = .ok (.aload_n 0, 1) := by decide +kernel
theorem dX8_init_64 : decode cX8_init 64 = .ok (.bipush 40, 2) := by decide +kernel
theorem dX8_init_66 : decode cX8_init 66 = .ok (.newarray .int, 2) := by decide +kernel
theorem dX8_init_68 : decode cX8_init 68 = .ok (.putfield 34, 3) := by decide +kernel
theorem dX8_init_71 : decode cX8_init 71 = .ok (.aload_n 0, 1) := by decide +kernel
theorem dX8_init_72 : decode cX8_init 72 = .ok (.bipush 40, 2) := by decide +kernel
theorem dX8_init_74 : decode cX8_init 74 = .ok (.newarray .int, 2) := by decide +kernel
theorem dX8_init_76 : decode cX8_init 76 = .ok (.putfield 37, 3) := by decide +kernel
theorem dX8_init_79 : decode cX8_init 79 = .ok (.aload_n 0, 1) := by decide +kernel
theorem dX8_init_80 : decode cX8_init 80 = .ok (.bipush 120, 2) := by decide +kernel
theorem dX8_init_82 : decode cX8_init 82 = .ok (.newarray .int, 2) := by decide +kernel
theorem dX8_init_84 : decode cX8_init 84 = .ok (.putfield 40, 3) := by decide +kernel
theorem dX8_init_87 : decode cX8_init 87 = .ok (.aload_n 0, 1) := by decide +kernel
theorem dX8_init_88 : decode cX8_init 88 = .ok (.iconst 3, 1) := by decide +kernel
theorem dX8_init_89 : decode cX8_init 89 = .ok (.newarray .int, 2) := by decide +kernel
theorem dX8_init_91 : decode cX8_init 91 = .ok (.putfield 43, 3) := by decide +kernel
theorem dX8_init_94 : decode cX8_init 94 = .ok (.aload_n 0, 1) := by decide +kernel
theorem dX8_init_95 : decode cX8_init 95 = .ok (.iconst 3, 1) := by decide +kernel
theorem dX8_init_96 : decode cX8_init 96 = .ok (.newarray .int, 2) := by decide +kernel
theorem dX8_init_98 : decode cX8_init 98 = .ok (.putfield 46, 3) := by decide +kernel
theorem dX8_init_101 : decode cX8_init 101 = .ok (.aload_n 0, 1) := by decide +kernel
theorem dX8_init_102 : decode cX8_init 102 = .ok (.bipush 12, 2) := by decide +kernel
theorem dX8_init_104 : decode cX8_init 104 = .ok (.newarray .long, 2) := by decide +kernel
theorem dX8_init_106 : decode cX8_init 106 = .ok (.putfield 49, 3) := by decide +kernel
theorem dX8_init_109 : decode cX8_init 109 = .ok (.aload_n 0, 1) := by decide +kernel
theorem dX8_init_110 : decode cX8_init 110 = .ok (.bipush 12, 2) := by decide +kernel
theorem dX8_init_112 : decode cX8_init 112 = .ok (.newarray .int, 2) := by decide +kernel
theorem dX8_init_114 : decode cX8_init 114 = .ok (.putfield 53, 3) := by decide +kernel
theorem dX8_init_117 : decode cX8_init 117 = .ok (.aload_n 0, 1) := by decide +kernel
theorem dX8_init_118 : decode cX8_init 118 = .ok (.bipush 12, 2) := by decide +kernel
theorem dX8_init_120 : decode cX8_init 120 = .ok (.newarray .int, 2) := by decide +kernel
theorem dX8_init_122 : decode cX8_init 122 = .ok (.putfield 56, 3) := by decide +kernel
theorem dX8_init_125 : decode cX8_init 125 = .ok (.aload_n 0, 1) := by decide +kernel
theorem dX8_init_126 : decode cX8_init 126 = .ok (.iconst 2, 1) := by decide +kernel
theorem dX8_init_127 : decode cX8_init 127 = .ok (.newarray .int, 2) := by decide +kernel
theorem dX8_init_129 : decode cX8_init 129 = .ok (.putfield 59, 3) := by decide +kernel
theorem dX8_init_132 : decode cX8_init 132 = .ok (.aload_n 0, 1) := by decide +kernel
theorem dX8_init_133 : decode cX8_init 133 = .ok (.bipush 40, 2) := by decide +kernel
theorem dX8_init_135 : decode cX8_init 135 = .ok (.newarray .int, 2) := by decide +kernel
theorem dX8_init_137 : decode cX8_init 137 = .ok (.putfield 62, 3) := by decide +kernel
theorem dX8_init_140 : decode cX8_init 140 = .ok (.aload_n 0, 1) := by decide +kernel
theorem dX8_init_141 : decode cX8_init 141 = .ok (.bipush 40, 2) := by decide +kernel
theorem dX8_init_143 : decode cX8_init 143 = .ok (.newarray .int, 2) := by decide +kernel
theorem dX8_init_145 : decode cX8_init 145 = .ok (.putfield 65, 3) := by decide +kernel
theorem dX8_init_148 : decode cX8_init 148 = .ok (.aload_n 0, 1) := by decide +kernel
theorem dX8_init_149 : decode cX8_init 149 = .ok (.bipush 40, 2) := by decide +kernel
theorem dX8_init_151 : decode cX8_init 151 = .ok (.newarray .int, 2) := by decide +kernel
theorem dX8_init_153 : decode cX8_init 153 = .ok (.putfield 68, 3) := by decide +kernel
theorem dX8_init_156 : decode cX8_init 156 = .ok (.aload_n 0, 1) := by decide +kernel
theorem dX8_init_157 : decode cX8_init 157 = .ok (.bipush 40, 2) := by decide +kernel
theorem dX8_init_159 : decode cX8_init 159 = .ok (.newarray .int, 2) := by decide +kernel
theorem dX8_init_161 : decode cX8_init 161 = .ok (.putfield 71, 3) := by decide +kernel
theorem dX8_init_164 : decode cX8_init 164 = .ok (.aload_n 0, 1) := by decide +kernel
theorem dX8_init_165 : decode cX8_init 165 = .ok (.bipush 40, 2) := by decide +kernel
theorem dX8_init_167 : decode cX8_init 167 = .ok (.newarray .int, 2) := by decide +kernel
theorem dX8_init_169 : decode cX8_init 169 = .ok (.putfield 74, 3) := by decide +kernel
theorem dX8_init_172 : decode cX8_init 172 = .ok (.aload_n 0, 1) := by decide +kernel
theorem dX8_init_173 : decode cX8_init 173 = .ok (.bipush 40, 2) := by decide +kernel
theorem dX8_init_175 : decode cX8_init 175 = .ok (.newarray .int, 2) := by decide +kernel
theorem dX8_init_177 : decode cX8_init 177 = .ok (.putfield 77, 3) := by decide +kernel
theorem dX8_init_180 : decode cX8_init 180 = .ok (.aload_n 0, 1) := by decide +kernel
theorem dX8_init_181 : decode cX8_init 181 = .ok (.bipush 40, 2) := by decide +kernel
theorem dX8_init_183 : decode cX8_init 183 = .ok (.newarray .int, 2) := by decide +kernel
theorem dX8_init_185 : decode cX8_init 185 = .ok (.putfield 80, 3) := by decide +kernel
theorem dX8_init_188 : decode cX8_init 188 = .ok (.aload_n 0, 1) := by decide +kernel
theorem dX8_init_189 : decode cX8_init 189 = .ok (.bipush 40, 2) := by decide +kernel
theorem dX8_init_191 : decode cX8_init 191 = .ok (.newarray .int, 2) := by decide +kernel
theorem dX8_init_193 : decode cX8_init 193 = .ok (.putfield 83, 3) := by decide +kernel
theorem dX8_init_196 : decode cX8_init 196 = .ok (.aload_n 0, 1) := by decide +kernel
theorem dX8_init_197 : decode cX8_init 197 = .ok (.bipush 40, 2) := by decide +kernel
theorem dX8_init_199 : decode cX8_init 199 = .ok (.newarray .int, 2) := by decide +kernel
theorem dX8_init_201 : decode cX8_init 201 = .ok (.putfield 86, 3) := by decide +kernel
theorem dX8_init_204 : decode cX8_init 204 = .ok (.aload_n 0, 1) := by decide +kernel
theorem dX8_init_205 : decode cX8_init 205 = .ok (.iconst 0, 1) := by decide +kernel
theorem dX8_init_206 : decode cX8_init 206 = .ok (.invokevirtual 89, 3) := by decide +kernel
theorem dX8_init_209 : decode cX8_init 209 = .ok (.aload_n 0, 1) := by decide +kernel
theorem dX8_init_210 : decode cX8_init 210 = .ok (.invokevirtual 93, 3) := by decide +kernel
theorem dX8_init_213 : decode cX8_init 213 = .ok (.return_, 1) := by decide +kernel
theorem dX8_in_0 : decode cX8_in 0 = .ok (.lload_n 0, 1) := by decide +kernel
theorem dX8_in_1 : decode cX8_in 1 = .ok (.lload_n 2, 1) := by decide +kernel
theorem dX8_in_2 : decode cX8_in 2 = .ok (.lcmp, 1) := by decide +kernel
theorem dX8_in_3 : decode cX8_in 3 = .ok (.ifCond .lt 14, 3) := by decide +kernel
theorem dX8_in_6 : decode cX8_in 6 = .ok (.lload_n 0, 1) := by decide +kernel
theorem dX8_in_7 : decode cX8_in 7 = .ok (.lload 4, 2) := by decide +kernel
theorem dX8_in_9 : decode cX8_in 9 = .ok (.lcmp, 1) := by decide +kernel
theorem dX8_in_10 : decode cX8_in 10 = .ok (.ifCond .gt 7, 3) := by decide +kernel
theorem dX8_in_13 : decode cX8_in 13 = .ok (.iconst 1, 1) := by decide +kernel
theorem dX8_in_14 : decode cX8_in 14 = .ok (.goto 4, 3) := by decide +kernel
theorem dX8_in_17 : decode cX8_in 17 = .ok (.iconst 0, 1) := by decide +kernel
theorem dX8_in_18 : decode cX8_in 18 = .ok (.ireturn, 1) := by decide +kernel
theorem dX8_noBook_0 : decode cX8_noBook 0 = .ok (.aload_n 0, 1) := by decide +kernel
theorem dX8_noBook_1 : decode cX8_noBook 1 = .ok (.getfield 13, 3) := by decide +kernel
theorem dX8_noBook_4 : decode cX8_noBook 4 = .ok (.iload_n 1, 1) := by decide +kernel
theorem dX8_noBook_5 : decode cX8_noBook 5 = .ok (.bipush 10, 2) := by decide +kernel
theorem dX8_noBook_7 : decode cX8_noBook 7 = .ok (.iastore, 1) := by decide +kernel
theorem dX8_noBook_8 : decode cX8_noBook 8 = .ok (.aload_n 0, 1) := by decide +kernel
theorem dX8_noBook_9 : decode cX8_noBook 9 = .ok (.getfield 16, 3) := by decide +kernel
theorem dX8_noBook_12 : decode cX8_noBook 12 = .ok (.iload_n 1, 1) := by decide +kernel
theorem dX8_noBook_13 : decode cX8_noBook 13 = .ok (.bipush 9, 2) := by decide +kernel
theorem dX8_noBook_15 : decode cX8_noBook 15 = .ok (.iastore, 1) := by decide +kernel
theorem dX8_noBook_16 : decode cX8_noBook 16 = .ok (.aload_n 0, 1) := by decide +kernel
theorem dX8_noBook_17 : decode cX8_noBook 17 = .ok (.getfield 19, 3) := by decide +kernel
theorem dX8_noBook_20 : decode cX8_noBook 20 = .ok (.iload_n 1, 1) := by decide +kernel
theorem dX8_noBook_21 : decode cX8_noBook 21 = .ok (.iconst 0, 1) := by decide +kernel
theorem dX8_noBook_22 : decode cX8_noBook 22 = .ok (.iastore, 1) := by decide +kernel
theorem dX8_noBook_23 : decode cX8_noBook 23 = .ok (.aload_n 0, 1) := by decide +kernel
theorem dX8_noBook_24 : decode cX8_noBook 24 = .ok (.getfield 22, 3) := by decide +kernel
theorem dX8_noBook_27 : decode cX8_noBook 27 = .ok (.iload_n 1, 1) := by decide +kernel
theorem dX8_noBook_28 : decode cX8_noBook 28 = .ok (.iconst 2, 1) := by decide +kernel
theorem dX8_noBook_29 : decode cX8_noBook 29 = .ok (.iastore, 1) := by decide +kernel
theorem dX8_noBook_30 : decode cX8_noBook 30 = .ok (.aload_n 0, 1) := by decide +kernel
theorem dX8_noBook_31 : decode cX8_noBook 31 = .ok (.getfield 25, 3) := by decide +kernel
theorem dX8_noBook_34 : decode cX8_noBook 34 = .ok (.iload_n 1, 1) := by decide +kernel
theorem dX8_noBook_35 : decode cX8_noBook 35 = .ok (.iconst 0, 1) := by decide +kernel
theorem dX8_noBook_36 : decode cX8_noBook 36 = .ok (.iastore, 1) := by decide +kernel
theorem dX8_noBook_37 : decode cX8_noBook 37 = .ok (.aload_n 0, 1) := by decide +kernel
theorem dX8_noBook_38 : decode cX8_noBook 38 = .ok (.getfield 31, 3) := by decide +kernel
theorem dX8_noBook_41 : decode cX8_noBook 41 = .ok (.iload_n 1, 1) := by decide +kernel
theorem dX8_noBook_42 : decode cX8_noBook 42 = .ok (.iconst 0, 1) := by decide +kernel
theorem dX8_noBook_43 : decode cX8_noBook 43 = .ok (.iastore, 1) := by decide +kernel
theorem dX8_noBook_44 : decode cX8_noBook 44 = .ok (.return_, 1) := by decide +kernel
theorem dX8_write_0 : decode cX8_write 0 = .ok (.iload_n 1, 1) := by decide +kernel
theorem dX8_write_1 : decode cX8_write 1 = .ok (.i2l, 1) := by decide +kernel
theorem dX8_write_2 : decode cX8_write 2 = .ok (.lconst 1, 1) := by decide +kernel
theorem dX8_write_3 : decode cX8_write 3 = .ok (.ldc2_w 96, 3) := by decide +kernel
theorem dX8_write_6 : decode cX8_write 6 = .ok (.invokestatic 98, 3) := by decide +kernel
theorem dX8_write_9 : decode cX8_write 9 = .ok (.ifCond .ne 5, 3) := by decide +kernel
theorem dX8_write_12 : decode cX8_write 12 = .ok (.iconst (-1), 1) := by decide +kernel
theorem dX8_write_13 : decode cX8_write 13 = .ok (.ireturn, 1) := by decide +kernel
theorem dX8_write_14 : decode cX8_write 14 = .ok (.aload_n 0, 1) := by decide +kernel
theorem dX8_write_15 : decode cX8_write 15 = .ok (.getfield 102, 3) := by decide +kernel
theorem dX8_write_18 : decode cX8_write 18 = .ok (.iload_n 1, 1) := by decide +kernel
theorem dX8_write_19 : decode cX8_write 19 = .ok (.iadd, 1) := by decide +kernel
theorem dX8_write_20 : decode cX8_write 20 = .ok (.sipush 300, 3) := by decide +kernel
theorem dX8_write_23 : decode cX8_write 23 = .ok (.if_icmp .le 6, 3) := by decide +kernel
theorem dX8_write_26 : decode cX8_write 26 = .ok (.bipush (-3), 2) := by decide +kernel
theorem dX8_write_28 : decode cX8_write 28 = .ok (.ireturn, 1) := by decide +kernel
theorem dX8_write_29 : decode cX8_write 29 = .ok (.iload_n 1, 1) := by decide +kernel
theorem dX8_write_30 : decode cX8_write 30 = .ok (.iconst 1, 1) := by decide +kernel
theorem dX8_write_31 : decode cX8_write 31 = .ok (.isub, 1) := by decide +kernel
theorem dX8_write_32 : decode cX8_write 32 = .ok (.istore 4, 2) := by decide +kernel
theorem dX8_write_34 : decode cX8_write 34 = .ok (.iload 4, 2) := by decide +kernel
theorem dX8_write_36 : decode cX8_write 36 = .ok (.ifCond .lt 40, 3) := by decide +kernel
theorem dX8_write_39 : decode cX8_write 39 = .ok (.aload_n 0, 1) := by decide +kernel
theorem dX8_write_40 : decode cX8_write 40 = .ok (.getfield 7, 3) := by decide +kernel
theorem dX8_write_43 : decode cX8_write 43 = .ok (.aload_n 0, 1) := by decide +kernel
theorem dX8_write_44 : decode cX8_write 44 = .ok (.getfield 102, 3) := by decide +kernel
theorem dX8_write_47 : decode cX8_write 47 = .ok (.lload_n 2, 1) := by decide +kernel
theorem dX8_write_48 : decode cX8_write 48 = .ok (.bipush 8, 2) := by decide +kernel
theorem dX8_write_50 : decode cX8_write 50 = .ok (.iload 4, 2) := by decide +kernel
theorem dX8_write_52 : decode cX8_write 52 = .ok (.imul, 1) := by decide +kernel
theorem dX8_write_53 : decode cX8_write 53 = .ok (.lshr, 1) := by decide +kernel
theorem dX8_write_54 : decode cX8_write 54 = .ok (.ldc2_w 106, 3) := by decide +kernel
theorem dX8_write_57 : decode cX8_write 57 = .ok (.land, 1) := by decide +kernel
theorem dX8_write_58 : decode cX8_write 58 = .ok (.l2i, 1) := by decide +kernel
theorem dX8_write_59 : decode cX8_write 59 = .ok (.iastore, 1) := by decide +kernel
theorem dX8_write_60 : decode cX8_write 60 = .ok (.aload_n 0, 1) := by decide +kernel
theorem dX8_write_61 : decode cX8_write 61 = .ok (.dup, 1) := by decide +kernel
theorem dX8_write_62 : decode cX8_write 62 = .ok (.getfield 102, 3) := by decide +kernel
theorem dX8_write_65 : decode cX8_write 65 = .ok (.iconst 1, 1) := by decide +kernel
theorem dX8_write_66 : decode cX8_write 66 = .ok (.iadd, 1) := by decide +kernel
theorem dX8_write_67 : decode cX8_write 67 = .ok (.putfield 102, 3) := by decide +kernel
theorem dX8_write_70 : decode cX8_write 70 = .ok (.iinc 4 (-1), 3) := by decide +kernel
theorem dX8_write_73 : decode cX8_write 73 = .ok (.goto (-39), 3) := by decide +kernel
theorem dX8_write_76 : decode cX8_write 76 = .ok (.aload_n 0, 1) := by decide +kernel
theorem dX8_write_77 : decode cX8_write 77 = .ok (.getfield 102, 3) := by decide +kernel
theorem dX8_write_80 : decode cX8_write 80 = .ok (.ireturn, 1) := by decide +kernel
theorem dX8_wipe_0 : decode cX8_wipe 0 = .ok (.aload_n 0, 1) := by decide +kernel
theorem dX8_wipe_1 : decode cX8_wipe 1 = .ok (.getfield 102, 3) := by decide +kernel
theorem dX8_wipe_4 : decode cX8_wipe 4 = .ok (.istore_n 1, 1) := by decide +kernel
theorem dX8_wipe_5 : decode cX8_wipe 5 = .ok (.aload_n 0, 1) := by decide +kernel
theorem dX8_wipe_6 : decode cX8_wipe 6 = .ok (.iconst 0, 1) := by decide +kernel
theorem dX8_wipe_7 : decode cX8_wipe 7 = .ok (.putfield 102, 3) := by decide +kernel
theorem dX8_wipe_10 : decode cX8_wipe 10 = .ok (.iload_n 1, 1) := by decide +kernel
theorem dX8_wipe_11 : decode cX8_wipe 11 = .ok (.ireturn, 1) := by decide +kernel
theorem dX8_byteAt_0 : decode cX8_byteAt 0 = .ok (.iload_n 1, 1) := by decide +kernel
theorem dX8_byteAt_1 : decode cX8_byteAt 1 = .ok (.aload_n 0, 1) := by decide +kernel
theorem dX8_byteAt_2 : decode cX8_byteAt 2 = .ok (.getfield 102, 3) := by decide +kernel
theorem dX8_byteAt_5 : decode cX8_byteAt 5 = .ok (.if_icmp .ge 12, 3) := by decide +kernel
theorem dX8_byteAt_8 : decode cX8_byteAt 8 = .ok (.aload_n 0, 1) := by decide +kernel
theorem dX8_byteAt_9 : decode cX8_byteAt 9 = .ok (.getfield 7, 3) := by decide +kernel
theorem dX8_byteAt_12 : decode cX8_byteAt 12 = .ok (.iload_n 1, 1) := by decide +kernel
theorem dX8_byteAt_13 : decode cX8_byteAt 13 = .ok (.iaload, 1) := by decide +kernel
theorem dX8_byteAt_14 : decode cX8_byteAt 14 = .ok (.goto 4, 3) := by decide +kernel
theorem dX8_byteAt_17 : decode cX8_byteAt 17 = .ok (.iconst 0, 1) := by decide +kernel
theorem dX8_byteAt_18 : decode cX8_byteAt 18 = .ok (.ireturn, 1) := by decide +kernel
theorem dX8_figures_0 : decode cX8_figures 0 = .ok (.iconst 0, 1) := by decide +kernel
theorem dX8_figures_1 : decode cX8_figures 1 = .ok (.istore_n 2, 1) := by decide +kernel
theorem dX8_figures_2 : decode cX8_figures 2 = .ok (.iload_n 2, 1) := by decide +kernel
theorem dX8_figures_3 : decode cX8_figures 3 = .ok (.iload_n 1, 1) := by decide +kernel
theorem dX8_figures_4 : decode cX8_figures 4 = .ok (.if_icmp .ge 132, 3) := by decide +kernel
theorem dX8_figures_7 : decode cX8_figures 7 = .ok (.iconst 0, 1) := by decide +kernel
theorem dX8_figures_8 : decode cX8_figures 8 = .ok (.istore_n 3, 1) := by decide +kernel
theorem dX8_figures_9 : decode cX8_figures 9 = .ok (.iconst 0, 1) := by decide +kernel
theorem dX8_figures_10 : decode cX8_figures 10 = .ok (.istore 4, 2) := by decide +kernel
theorem dX8_figures_12 : decode cX8_figures 12 = .ok (.aload_n 0, 1) := by decide +kernel
theorem dX8_figures_13 : decode cX8_figures 13 = .ok (.aload_n 0, 1) := by decide +kernel
theorem dX8_figures_14 : decode cX8_figures 14 = .ok (.getfield 108, 3) := by decide +kernel
theorem dX8_figures_17 : decode cX8_figures 17 = .ok (.invokevirtual 111, 3) := by decide +kernel
theorem dX8_figures_20 : decode cX8_figures 20 = .ok (.i2l, 1) := by decide +kernel
theorem dX8_figures_21 : decode cX8_figures 21 = .ok (.ldc2_w 115, 3) := by decide +kernel
theorem dX8_figures_24 : decode cX8_figures 24 = .ok (.ldc2_w 117, 3) := by decide +kernel
theorem dX8_figures_27 : decode cX8_figures 27 = .ok (.invokestatic 98, 3) := by decide +kernel
theorem dX8_figures_30 : decode cX8_figures 30 = .ok (.ifCond .eq 43, 3) := by decide +kernel
theorem dX8_figures_33 : decode cX8_figures 33 = .ok (.iload_n 3, 1) := by decide +kernel
theorem dX8_figures_34 : decode cX8_figures 34 = .ok (.iconst 3, 1) := by decide +kernel
theorem dX8_figures_35 : decode cX8_figures 35 = .ok (.if_icmp .ge 38, 3) := by decide +kernel
theorem dX8_figures_38 : decode cX8_figures 38 = .ok (.bipush 10, 2) := by decide +kernel
theorem dX8_figures_40 : decode cX8_figures 40 = .ok (.iload 4, 2) := by decide +kernel
theorem dX8_figures_42 : decode cX8_figures 42 = .ok (.imul, 1) := by decide +kernel
theorem dX8_figures_43 : decode cX8_figures 43 = .ok (.aload_n 0, 1) := by decide +kernel
theorem dX8_figures_44 : decode cX8_figures 44 = .ok (.aload_n 0, 1) := by decide +kernel
theorem dX8_figures_45 : decode cX8_figures 45 = .ok (.getfield 108, 3) := by decide +kernel
theorem dX8_figures_48 : decode cX8_figures 48 = .ok (.invokevirtual 111, 3) := by decide +kernel
theorem dX8_figures_51 : decode cX8_figures 51 = .ok (.iadd, 1) := by decide +kernel
theorem dX8_figures_52 : decode cX8_figures 52 = .ok (.bipush 48, 2) := by decide +kernel
theorem dX8_figures_54 : decode cX8_figures 54 = .ok (.isub, 1) := by decide +kernel
theorem dX8_figures_55 : decode cX8_figures 55 = .ok (.istore 4, 2) := by decide +kernel
theorem dX8_figures_57 : decode cX8_figures 57 = .ok (.iinc 3 1, 3) := by decide +kernel
theorem dX8_figures_60 : decode cX8_figures 60 = .ok (.aload_n 0, 1) := by decide +kernel
theorem dX8_figures_61 : decode cX8_figures 61 = .ok (.dup, 1) := by decide +kernel
theorem dX8_figures_62 : decode cX8_figures 62 = .ok (.getfield 108, 3) := by decide +kernel
theorem dX8_figures_65 : decode cX8_figures 65 = .ok (.iconst 1, 1) := by decide +kernel
theorem dX8_figures_66 : decode cX8_figures 66 = .ok (.iadd, 1) := by decide +kernel
theorem dX8_figures_67 : decode cX8_figures 67 = .ok (.putfield 108, 3) := by decide +kernel
theorem dX8_figures_70 : decode cX8_figures 70 = .ok (.goto (-58), 3) := by decide +kernel
theorem dX8_figures_73 : decode cX8_figures 73 = .ok (.iload_n 3, 1) := by decide +kernel
theorem dX8_figures_74 : decode cX8_figures 74 = .ok (.i2l, 1) := by decide +kernel
theorem dX8_figures_75 : decode cX8_figures 75 = .ok (.lconst 1, 1) := by decide +kernel
theorem dX8_figures_76 : decode cX8_figures 76 = .ok (.ldc2_w 119, 3) := by decide +kernel
theorem dX8_figures_79 : decode cX8_figures 79 = .ok (.invokestatic 98, 3) := by decide +kernel
theorem dX8_figures_82 : decode cX8_figures 82 = .ok (.ifCond .eq 28, 3) := by decide +kernel
theorem dX8_figures_85 : decode cX8_figures 85 = .ok (.aload_n 0, 1) := by decide +kernel
theorem dX8_figures_86 : decode cX8_figures 86 = .ok (.aload_n 0, 1) := by decide +kernel
theorem dX8_figures_87 : decode cX8_figures 87 = .ok (.getfield 108, 3) := by decide +kernel
theorem dX8_figures_90 : decode cX8_figures 90 = .ok (.invokevirtual 111, 3) := by decide +kernel
theorem dX8_figures_93 : decode cX8_figures 93 = .ok (.iload_n 2, 1) := by decide +kernel
theorem dX8_figures_94 : decode cX8_figures 94 = .ok (.iload_n 1, 1) := by decide +kernel
theorem dX8_figures_95 : decode cX8_figures 95 = .ok (.iconst 1, 1) := by decide +kernel
theorem dX8_figures_96 : decode cX8_figures 96 = .ok (.isub, 1) := by decide +kernel
theorem dX8_figures_97 : decode cX8_figures 97 = .ok (.if_icmp .ge 8, 3) := by decide +kernel
theorem dX8_figures_100 : decode cX8_figures 100 = .ok (.bipush 44, 2) := by decide +kernel
theorem dX8_figures_102 : decode cX8_figures 102 = .ok (.goto 5, 3) := by decide +kernel
theorem dX8_figures_105 : decode cX8_figures 105 = .ok (.bipush 59, 2) := by decide +kernel
theorem dX8_figures_107 : decode cX8_figures 107 = .ok (.if_icmp .eq 5, 3) := by decide +kernel
theorem dX8_figures_110 : decode cX8_figures 110 = .ok (.iconst 0, 1) := by decide +kernel
theorem dX8_figures_111 : decode cX8_figures 111 = .ok (.ireturn, 1) := by decide +kernel
theorem dX8_figures_112 : decode cX8_figures 112 = .ok (.aload_n 0, 1) := by decide +kernel
theorem dX8_figures_113 : decode cX8_figures 113 = .ok (.getfield 59, 3) := by decide +kernel
theorem dX8_figures_116 : decode cX8_figures 116 = .ok (.iload_n 2, 1) := by decide +kernel
theorem dX8_figures_117 : decode cX8_figures 117 = .ok (.iload 4, 2) := by decide +kernel
theorem dX8_figures_119 : decode cX8_figures 119 = .ok (.iastore, 1) := by decide +kernel
theorem dX8_figures_120 : decode cX8_figures 120 = .ok (.aload_n 0, 1) := by decide +kernel
theorem dX8_figures_121 : decode cX8_figures 121 = .ok (.dup, 1) := by decide +kernel
theorem dX8_figures_122 : decode cX8_figures 122 = .ok (.getfield 108, 3) := by decide +kernel
theorem dX8_figures_125 : decode cX8_figures 125 = .ok (.iconst 1, 1) := by decide +kernel
theorem dX8_figures_126 : decode cX8_figures 126 = .ok (.iadd, 1) := by decide +kernel
theorem dX8_figures_127 : decode cX8_figures 127 = .ok (.putfield 108, 3) := by decide +kernel
theorem dX8_figures_130 : decode cX8_figures 130 = .ok (.iinc 2 1, 3) := by decide +kernel
theorem dX8_figures_133 : decode cX8_figures 133 = .ok (.goto (-131), 3) := by decide +kernel
theorem dX8_figures_136 : decode cX8_figures 136 = .ok (.iconst 1, 1) := by decide +kernel
theorem dX8_figures_137 : decode cX8_figures 137 = .ok (.ireturn, 1) := by decide +kernel
theorem dX8_item_0 : decode cX8_item 0 = .ok (.aload_n 0, 1) := by decide +kernel
theorem dX8_item_1 : decode cX8_item 1 = .ok (.aload_n 0, 1) := by decide +kernel
theorem dX8_item_2 : decode cX8_item 2 = .ok (.getfield 108, 3) := by decide +kernel
theorem dX8_item_5 : decode cX8_item 5 = .ok (.invokevirtual 111, 3) := by decide +kernel
theorem dX8_item_8 : decode cX8_item 8 = .ok (.istore_n 1, 1) := by decide +kernel
theorem dX8_item_9 : decode cX8_item 9 = .ok (.aload_n 0, 1) := by decide +kernel
theorem dX8_item_10 : decode cX8_item 10 = .ok (.dup, 1) := by decide +kernel
theorem dX8_item_11 : decode cX8_item 11 = .ok (.getfield 108, 3) := by decide +kernel
theorem dX8_item_14 : decode cX8_item 14 = .ok (.iconst 1, 1) := by decide +kernel
theorem dX8_item_15 : decode cX8_item 15 = .ok (.iadd, 1) := by decide +kernel
theorem dX8_item_16 : decode cX8_item 16 = .ok (.putfield 108, 3) := by decide +kernel
theorem dX8_item_19 : decode cX8_item 19 = .ok (.iload_n 1, 1) := by decide +kernel
theorem dX8_item_20 : decode cX8_item 20 = .ok (.tableswitch 356 108 116 #[136, 356, 52, 356, 356, 356, 95, 193, 292], 52) := by decide +kernel
theorem dX8_item_72 : decode cX8_item 72 = .ok (.aload_n 0, 1) := by decide +kernel
theorem dX8_item_73 : decode cX8_item 73 = .ok (.iconst 1, 1) := by decide +kernel
theorem dX8_item_74 : decode cX8_item 74 = .ok (.invokevirtual 121, 3) := by decide +kernel
theorem dX8_item_77 : decode cX8_item 77 = .ok (.ifCond .eq 22, 3) := by decide +kernel
theorem dX8_item_80 : decode cX8_item 80 = .ok (.aload_n 0, 1) := by decide +kernel
theorem dX8_item_81 : decode cX8_item 81 = .ok (.getfield 59, 3) := by decide +kernel
theorem dX8_item_84 : decode cX8_item 84 = .ok (.iconst 0, 1) := by decide +kernel
theorem dX8_item_85 : decode cX8_item 85 = .ok (.iaload, 1) := by decide +kernel
theorem dX8_item_86 : decode cX8_item 86 = .ok (.i2l, 1) := by decide +kernel
theorem dX8_item_87 : decode cX8_item 87 = .ok (.ldc2_w 119, 3) := by decide +kernel
theorem dX8_item_90 : decode cX8_item 90 = .ok (.ldc2_w 125, 3) := by decide +kernel
theorem dX8_item_93 : decode cX8_item 93 = .ok (.invokestatic 98, 3) := by decide +kernel
theorem dX8_item_96 : decode cX8_item 96 = .ok (.ifCond .ne 5, 3) := by decide +kernel
theorem dX8_item_99 : decode cX8_item 99 = .ok (.iconst 0, 1) := by decide +kernel
theorem dX8_item_100 : decode cX8_item 100 = .ok (.ireturn, 1) := by decide +kernel
theorem dX8_item_101 : decode cX8_item 101 = .ok (.aload_n 0, 1) := by decide +kernel
theorem dX8_item_102 : decode cX8_item 102 = .ok (.getfield 13, 3) := by decide +kernel
theorem dX8_item_105 : decode cX8_item 105 = .ok (.iconst 1, 1) := by decide +kernel
theorem dX8_item_106 : decode cX8_item 106 = .ok (.aload_n 0, 1) := by decide +kernel
theorem dX8_item_107 : decode cX8_item 107 = .ok (.getfield 59, 3) := by decide +kernel
theorem dX8_item_110 : decode cX8_item 110 = .ok (.iconst 0, 1) := by decide +kernel
theorem dX8_item_111 : decode cX8_item 111 = .ok (.iaload, 1) := by decide +kernel
theorem dX8_item_112 : decode cX8_item 112 = .ok (.iastore, 1) := by decide +kernel
theorem dX8_item_113 : decode cX8_item 113 = .ok (.iconst 1, 1) := by decide +kernel
theorem dX8_item_114 : decode cX8_item 114 = .ok (.ireturn, 1) := by decide +kernel
theorem dX8_item_115 : decode cX8_item 115 = .ok (.aload_n 0, 1) := by decide +kernel
theorem dX8_item_116 : decode cX8_item 116 = .ok (.iconst 1, 1) := by decide +kernel
theorem dX8_item_117 : decode cX8_item 117 = .ok (.invokevirtual 121, 3) := by decide +kernel
theorem dX8_item_120 : decode cX8_item 120 = .ok (.ifCond .eq 20, 3) := by decide +kernel
theorem dX8_item_123 : decode cX8_item 123 = .ok (.aload_n 0, 1) := by decide +kernel
theorem dX8_item_124 : decode cX8_item 124 = .ok (.getfield 59, 3) := by decide +kernel
theorem dX8_item_127 : decode cX8_item 127 = .ok (.iconst 0, 1) := by decide +kernel
theorem dX8_item_128 : decode cX8_item 128 = .ok (.iaload, 1) := by decide +kernel
theorem dX8_item_129 : decode cX8_item 129 = .ok (.i2l, 1) := by decide +kernel
theorem dX8_item_130 : decode cX8_item 130 = .ok (.lconst 1, 1) := by decide +kernel
theorem dX8_item_131 : decode cX8_item 131 = .ok (.ldc2_w 125, 3) := by decide +kernel
theorem dX8_item_134 : decode cX8_item 134 = .ok (.invokestatic 98, 3) := by decide +kernel
theorem dX8_item_137 : decode cX8_item 137 = .ok (.ifCond .ne 5, 3) := by decide +kernel
theorem dX8_item_140 : decode cX8_item 140 = .ok (.iconst 0, 1) := by decide +kernel
theorem dX8_item_141 : decode cX8_item 141 = .ok (.ireturn, 1) := by decide +kernel
theorem dX8_item_142 : decode cX8_item 142 = .ok (.aload_n 0, 1) := by decide +kernel
theorem dX8_item_143 : decode cX8_item 143 = .ok (.getfield 16, 3) := by decide +kernel
theorem dX8_item_146 : decode cX8_item 146 = .ok (.iconst 1, 1) := by decide +kernel
theorem dX8_item_147 : decode cX8_item 147 = .ok (.aload_n 0, 1) := by decide +kernel
theorem dX8_item_148 : decode cX8_item 148 = .ok (.getfield 59, 3) := by decide +kernel
theorem dX8_item_151 : decode cX8_item 151 = .ok (.iconst 0, 1) := by decide +kernel
theorem dX8_item_152 : decode cX8_item 152 = .ok (.iaload, 1) := by decide +kernel
theorem dX8_item_153 : decode cX8_item 153 = .ok (.iastore, 1) := by decide +kernel
theorem dX8_item_154 : decode cX8_item 154 = .ok (.iconst 1, 1) := by decide +kernel
theorem dX8_item_155 : decode cX8_item 155 = .ok (.ireturn, 1) := by decide +kernel
theorem dX8_item_156 : decode cX8_item 156 = .ok (.aload_n 0, 1) := by decide +kernel
theorem dX8_item_157 : decode cX8_item 157 = .ok (.iconst 2, 1) := by decide +kernel
theorem dX8_item_158 : decode cX8_item 158 = .ok (.invokevirtual 121, 3) := by decide +kernel
theorem dX8_item_161 : decode cX8_item 161 = .ok (.ifCond .eq 24, 3) := by decide +kernel
theorem dX8_item_164 : decode cX8_item 164 = .ok (.aload_n 0, 1) := by decide +kernel
theorem dX8_item_165 : decode cX8_item 165 = .ok (.getfield 59, 3) := by decide +kernel
theorem dX8_item_168 : decode cX8_item 168 = .ok (.iconst 0, 1) := by decide +kernel
theorem dX8_item_169 : decode cX8_item 169 = .ok (.iaload, 1) := by decide +kernel
theorem dX8_item_170 : decode cX8_item 170 = .ok (.iconst 3, 1) := by decide +kernel
theorem dX8_item_171 : decode cX8_item 171 = .ok (.if_icmp .gt 14, 3) := by decide +kernel
theorem dX8_item_174 : decode cX8_item 174 = .ok (.aload_n 0, 1) := by decide +kernel
theorem dX8_item_175 : decode cX8_item 175 = .ok (.getfield 59, 3) := by decide +kernel
theorem dX8_item_178 : decode cX8_item 178 = .ok (.iconst 1, 1) := by decide +kernel
theorem dX8_item_179 : decode cX8_item 179 = .ok (.iaload, 1) := by decide +kernel
theorem dX8_item_180 : decode cX8_item 180 = .ok (.bipush 39, 2) := by decide +kernel
theorem dX8_item_182 : decode cX8_item 182 = .ok (.if_icmp .le 5, 3) := by decide +kernel
theorem dX8_item_185 : decode cX8_item 185 = .ok (.iconst 0, 1) := by decide +kernel
theorem dX8_item_186 : decode cX8_item 186 = .ok (.ireturn, 1) := by decide +kernel
theorem dX8_item_187 : decode cX8_item 187 = .ok (.aload_n 0, 1) := by decide +kernel
theorem dX8_item_188 : decode cX8_item 188 = .ok (.getfield 19, 3) := by decide +kernel
theorem dX8_item_191 : decode cX8_item 191 = .ok (.iconst 1, 1) := by decide +kernel
theorem dX8_item_192 : decode cX8_item 192 = .ok (.aload_n 0, 1) := by decide +kernel
theorem dX8_item_193 : decode cX8_item 193 = .ok (.getfield 59, 3) := by decide +kernel
theorem dX8_item_196 : decode cX8_item 196 = .ok (.iconst 0, 1) := by decide +kernel
theorem dX8_item_197 : decode cX8_item 197 = .ok (.iaload, 1) := by decide +kernel
theorem dX8_item_198 : decode cX8_item 198 = .ok (.iastore, 1) := by decide +kernel
theorem dX8_item_199 : decode cX8_item 199 = .ok (.aload_n 0, 1) := by decide +kernel
theorem dX8_item_200 : decode cX8_item 200 = .ok (.getfield 22, 3) := by decide +kernel
theorem dX8_item_203 : decode cX8_item 203 = .ok (.iconst 1, 1) := by decide +kernel
theorem dX8_item_204 : decode cX8_item 204 = .ok (.aload_n 0, 1) := by decide +kernel
theorem dX8_item_205 : decode cX8_item 205 = .ok (.getfield 59, 3) := by decide +kernel
theorem dX8_item_208 : decode cX8_item 208 = .ok (.iconst 1, 1) := by decide +kernel
theorem dX8_item_209 : decode cX8_item 209 = .ok (.iaload, 1) := by decide +kernel
theorem dX8_item_210 : decode cX8_item 210 = .ok (.iastore, 1) := by decide +kernel
theorem dX8_item_211 : decode cX8_item 211 = .ok (.iconst 1, 1) := by decide +kernel
theorem dX8_item_212 : decode cX8_item 212 = .ok (.ireturn, 1) := by decide +kernel
theorem dX8_item_213 : decode cX8_item 213 = .ok (.aload_n 0, 1) := by decide +kernel
theorem dX8_item_214 : decode cX8_item 214 = .ok (.iconst 2, 1) := by decide +kernel
theorem dX8_item_215 : decode cX8_item 215 = .ok (.invokevirtual 121, 3) := by decide +kernel
theorem dX8_item_218 : decode cX8_item 218 = .ok (.ifCond .eq 36, 3) := by decide +kernel
theorem dX8_item_221 : decode cX8_item 221 = .ok (.aload_n 0, 1) := by decide +kernel
theorem dX8_item_222 : decode cX8_item 222 = .ok (.getfield 59, 3) := by decide +kernel
theorem dX8_item_225 : decode cX8_item 225 = .ok (.iconst 0, 1) := by decide +kernel
theorem dX8_item_226 : decode cX8_item 226 = .ok (.iaload, 1) := by decide +kernel
theorem dX8_item_227 : decode cX8_item 227 = .ok (.bipush 39, 2) := by decide +kernel
theorem dX8_item_229 : decode cX8_item 229 = .ok (.if_icmp .gt 25, 3) := by decide +kernel
theorem dX8_item_232 : decode cX8_item 232 = .ok (.aload_n 0, 1) := by decide +kernel
theorem dX8_item_233 : decode cX8_item 233 = .ok (.getfield 59, 3) := by decide +kernel
theorem dX8_item_236 : decode cX8_item 236 = .ok (.iconst 1, 1) := by decide +kernel
theorem dX8_item_237 : decode cX8_item 237 = .ok (.iaload, 1) := by decide +kernel
theorem dX8_item_238 : decode cX8_item 238 = .ok (.bipush 39, 2) := by decide +kernel
theorem dX8_item_240 : decode cX8_item 240 = .ok (.if_icmp .gt 14, 3) := by decide +kernel
theorem dX8_item_243 : decode cX8_item 243 = .ok (.aload_n 0, 1) := by decide +kernel
theorem dX8_item_244 : decode cX8_item 244 = .ok (.getfield 25, 3) := by decide +kernel
theorem dX8_item_247 : decode cX8_item 247 = .ok (.iconst 1, 1) := by decide +kernel
theorem dX8_item_248 : decode cX8_item 248 = .ok (.iaload, 1) := by decide +kernel
theorem dX8_item_249 : decode cX8_item 249 = .ok (.bipush 20, 2) := by decide +kernel
theorem dX8_item_251 : decode cX8_item 251 = .ok (.if_icmp .ne 5, 3) := by decide +kernel
theorem dX8_item_254 : decode cX8_item 254 = .ok (.iconst 0, 1) := by decide +kernel
theorem dX8_item_255 : decode cX8_item 255 = .ok (.ireturn, 1) := by decide +kernel
theorem dX8_item_256 : decode cX8_item 256 = .ok (.aload_n 0, 1) := by decide +kernel
theorem dX8_item_257 : decode cX8_item 257 = .ok (.getfield 28, 3) := by decide +kernel
theorem dX8_item_260 : decode cX8_item 260 = .ok (.bipush 40, 2) := by decide +kernel
theorem dX8_item_262 : decode cX8_item 262 = .ok (.iconst 2, 1) := by decide +kernel
theorem dX8_item_263 : decode cX8_item 263 = .ok (.aload_n 0, 1) := by decide +kernel
theorem dX8_item_264 : decode cX8_item 264 = .ok (.getfield 25, 3) := by decide +kernel
theorem dX8_item_267 : decode cX8_item 267 = .ok (.iconst 1, 1) := by decide +kernel
theorem dX8_item_268 : decode cX8_item 268 = .ok (.iaload, 1) := by decide +kernel
theorem dX8_item_269 : decode cX8_item 269 = .ok (.imul, 1) := by decide +kernel
theorem dX8_item_270 : decode cX8_item 270 = .ok (.iadd, 1) := by decide +kernel
theorem dX8_item_271 : decode cX8_item 271 = .ok (.aload_n 0, 1) := by decide +kernel
theorem dX8_item_272 : decode cX8_item 272 = .ok (.getfield 59, 3) := by decide +kernel
theorem dX8_item_275 : decode cX8_item 275 = .ok (.iconst 0, 1) := by decide +kernel
theorem dX8_item_276 : decode cX8_item 276 = .ok (.iaload, 1) := by decide +kernel
theorem dX8_item_277 : decode cX8_item 277 = .ok (.iastore, 1) := by decide +kernel
theorem dX8_item_278 : decode cX8_item 278 = .ok (.aload_n 0, 1) := by decide +kernel
theorem dX8_item_279 : decode cX8_item 279 = .ok (.getfield 28, 3) := by decide +kernel
theorem dX8_item_282 : decode cX8_item 282 = .ok (.bipush 41, 2) := by decide +kernel
theorem dX8_item_284 : decode cX8_item 284 = .ok (.iconst 2, 1) := by decide +kernel
theorem dX8_item_285 : decode cX8_item 285 = .ok (.aload_n 0, 1) := by decide +kernel
theorem dX8_item_286 : decode cX8_item 286 = .ok (.getfield 25, 3) := by decide +kernel
theorem dX8_item_289 : decode cX8_item 289 = .ok (.iconst 1, 1) := by decide +kernel
theorem dX8_item_290 : decode cX8_item 290 = .ok (.iaload, 1) := by decide +kernel
theorem dX8_item_291 : decode cX8_item 291 = .ok (.imul, 1) := by decide +kernel
theorem dX8_item_292 : decode cX8_item 292 = .ok (.iadd, 1) := by decide +kernel
theorem dX8_item_293 : decode cX8_item 293 = .ok (.aload_n 0, 1) := by decide +kernel
theorem dX8_item_294 : decode cX8_item 294 = .ok (.getfield 59, 3) := by decide +kernel
theorem dX8_item_297 : decode cX8_item 297 = .ok (.iconst 1, 1) := by decide +kernel
theorem dX8_item_298 : decode cX8_item 298 = .ok (.iaload, 1) := by decide +kernel
theorem dX8_item_299 : decode cX8_item 299 = .ok (.iastore, 1) := by decide +kernel
theorem dX8_item_300 : decode cX8_item 300 = .ok (.aload_n 0, 1) := by decide +kernel
theorem dX8_item_301 : decode cX8_item 301 = .ok (.getfield 25, 3) := by decide +kernel
theorem dX8_item_304 : decode cX8_item 304 = .ok (.iconst 1, 1) := by decide +kernel
theorem dX8_item_305 : decode cX8_item 305 = .ok (.dup2, 1) := by decide +kernel
theorem dX8_item_306 : decode cX8_item 306 = .ok (.iaload, 1) := by decide +kernel
theorem dX8_item_307 : decode cX8_item 307 = .ok (.iconst 1, 1) := by decide +kernel
theorem dX8_item_308 : decode cX8_item 308 = .ok (.iadd, 1) := by decide +kernel
theorem dX8_item_309 : decode cX8_item 309 = .ok (.iastore, 1) := by decide +kernel
theorem dX8_item_310 : decode cX8_item 310 = .ok (.iconst 1, 1) := by decide +kernel
theorem dX8_item_311 : decode cX8_item 311 = .ok (.ireturn, 1) := by decide +kernel
theorem dX8_item_312 : decode cX8_item 312 = .ok (.aload_n 0, 1) := by decide +kernel
theorem dX8_item_313 : decode cX8_item 313 = .ok (.iconst 1, 1) := by decide +kernel
theorem dX8_item_314 : decode cX8_item 314 = .ok (.invokevirtual 121, 3) := by decide +kernel
theorem dX8_item_317 : decode cX8_item 317 = .ok (.ifCond .eq 25, 3) := by decide +kernel
theorem dX8_item_320 : decode cX8_item 320 = .ok (.aload_n 0, 1) := by decide +kernel
theorem dX8_item_321 : decode cX8_item 321 = .ok (.getfield 59, 3) := by decide +kernel
theorem dX8_item_324 : decode cX8_item 324 = .ok (.iconst 0, 1) := by decide +kernel
theorem dX8_item_325 : decode cX8_item 325 = .ok (.iaload, 1) := by decide +kernel
theorem dX8_item_326 : decode cX8_item 326 = .ok (.bipush 39, 2) := by decide +kernel
theorem dX8_item_328 : decode cX8_item 328 = .ok (.if_icmp .gt 14, 3) := by decide +kernel
theorem dX8_item_331 : decode cX8_item 331 = .ok (.aload_n 0, 1) := by decide +kernel
theorem dX8_item_332 : decode cX8_item 332 = .ok (.getfield 31, 3) := by decide +kernel
theorem dX8_item_335 : decode cX8_item 335 = .ok (.iconst 1, 1) := by decide +kernel
theorem dX8_item_336 : decode cX8_item 336 = .ok (.iaload, 1) := by decide +kernel
theorem dX8_item_337 : decode cX8_item 337 = .ok (.bipush 20, 2) := by decide +kernel
theorem dX8_item_339 : decode cX8_item 339 = .ok (.if_icmp .ne 5, 3) := by decide +kernel
theorem dX8_item_342 : decode cX8_item 342 = .ok (.iconst 0, 1) := by decide +kernel
theorem dX8_item_343 : decode cX8_item 343 = .ok (.ireturn, 1) := by decide +kernel
theorem dX8_item_344 : decode cX8_item 344 = .ok (.aload_n 0, 1) := by decide +kernel
theorem dX8_item_345 : decode cX8_item 345 = .ok (.getfield 34, 3) := by decide +kernel
theorem dX8_item_348 : decode cX8_item 348 = .ok (.bipush 20, 2) := by decide +kernel
theorem dX8_item_350 : decode cX8_item 350 = .ok (.aload_n 0, 1) := by decide +kernel
theorem dX8_item_351 : decode cX8_item 351 = .ok (.getfield 31, 3) := by decide +kernel
theorem dX8_item_354 : decode cX8_item 354 = .ok (.iconst 1, 1) := by decide +kernel
theorem dX8_item_355 : decode cX8_item 355 = .ok (.iaload, 1) := by decide +kernel
theorem dX8_item_356 : decode cX8_item 356 = .ok (.iadd, 1) := by decide +kernel
theorem dX8_item_357 : decode cX8_item 357 = .ok (.aload_n 0, 1) := by decide +kernel
theorem dX8_item_358 : decode cX8_item 358 = .ok (.getfield 59, 3) := by decide +kernel
theorem dX8_item_361 : decode cX8_item 361 = .ok (.iconst 0, 1) := by decide +kernel
theorem dX8_item_362 : decode cX8_item 362 = .ok (.iaload, 1) := by decide +kernel
theorem dX8_item_363 : decode cX8_item 363 = .ok (.iastore, 1) := by decide +kernel
theorem dX8_item_364 : decode cX8_item 364 = .ok (.aload_n 0, 1) := by decide +kernel
theorem dX8_item_365 : decode cX8_item 365 = .ok (.getfield 31, 3) := by decide +kernel
theorem dX8_item_368 : decode cX8_item 368 = .ok (.iconst 1, 1) := by decide +kernel
theorem dX8_item_369 : decode cX8_item 369 = .ok (.dup2, 1) := by decide +kernel
theorem dX8_item_370 : decode cX8_item 370 = .ok (.iaload, 1) := by decide +kernel
theorem dX8_item_371 : decode cX8_item 371 = .ok (.iconst 1, 1) := by decide +kernel
theorem dX8_item_372 : decode cX8_item 372 = .ok (.iadd, 1) := by decide +kernel
theorem dX8_item_373 : decode cX8_item 373 = .ok (.iastore, 1) := by decide +kernel
theorem dX8_item_374 : decode cX8_item 374 = .ok (.iconst 1, 1) := by decide +kernel
theorem dX8_item_375 : decode cX8_item 375 = .ok (.ireturn, 1) := by decide +kernel
theorem dX8_item_376 : decode cX8_item 376 = .ok (.iconst 0, 1) := by decide +kernel
theorem dX8_item_377 : decode cX8_item 377 = .ok (.ireturn, 1) := by decide +kernel
theorem dX8_readAll_0 : decode cX8_readAll 0 = .ok (.aload_n 0, 1) := by decide +kernel
theorem dX8_readAll_1 : decode cX8_readAll 1 = .ok (.iconst 1, 1) := by decide +kernel
theorem dX8_readAll_2 : decode cX8_readAll 2 = .ok (.invokevirtual 89, 3) := by decide +kernel
theorem dX8_readAll_5 : decode cX8_readAll 5 = .ok (.aload_n 0, 1) := by decide +kernel
theorem dX8_readAll_6 : decode cX8_readAll 6 = .ok (.iconst 0, 1) := by decide +kernel
theorem dX8_readAll_7 : decode cX8_readAll 7 = .ok (.putfield 108, 3) := by decide +kernel
theorem dX8_readAll_10 : decode cX8_readAll 10 = .ok (.aload_n 0, 1) := by decide +kernel
theorem dX8_readAll_11 : decode cX8_readAll 11 = .ok (.getfield 108, 3) := by decide +kernel
theorem dX8_readAll_14 : decode cX8_readAll 14 = .ok (.aload_n 0, 1) := by decide +kernel
theorem dX8_readAll_15 : decode cX8_readAll 15 = .ok (.getfield 102, 3) := by decide +kernel
theorem dX8_readAll_18 : decode cX8_readAll 18 = .ok (.if_icmp .ge 20, 3) := by decide +kernel
theorem dX8_readAll_21 : decode cX8_readAll 21 = .ok (.aload_n 0, 1) := by decide +kernel
theorem dX8_readAll_22 : decode cX8_readAll 22 = .ok (.getfield 108, 3) := by decide +kernel
theorem dX8_readAll_25 : decode cX8_readAll 25 = .ok (.istore_n 1, 1) := by decide +kernel
theorem dX8_readAll_26 : decode cX8_readAll 26 = .ok (.aload_n 0, 1) := by decide +kernel
theorem dX8_readAll_27 : decode cX8_readAll 27 = .ok (.invokevirtual 127, 3) := by decide +kernel
theorem dX8_readAll_30 : decode cX8_readAll 30 = .ok (.ifCond .ne 5, 3) := by decide +kernel
theorem dX8_readAll_33 : decode cX8_readAll 33 = .ok (.iload_n 1, 1) := by decide +kernel
theorem dX8_readAll_34 : decode cX8_readAll 34 = .ok (.ireturn, 1) := by decide +kernel
theorem dX8_readAll_35 : decode cX8_readAll 35 = .ok (.goto (-25), 3) := by decide +kernel
theorem dX8_readAll_38 : decode cX8_readAll 38 = .ok (.bipush (-4), 2) := by decide +kernel
theorem dX8_readAll_40 : decode cX8_readAll 40 = .ok (.ireturn, 1) := by decide +kernel
theorem dX8_fault_0 : decode cX8_fault 0 = .ok (.aload_n 0, 1) := by decide +kernel
theorem dX8_fault_1 : decode cX8_fault 1 = .ok (.invokevirtual 131, 3) := by decide +kernel
theorem dX8_fault_4 : decode cX8_fault 4 = .ok (.ireturn, 1) := by decide +kernel
theorem dX8_areBelow_0 : decode cX8_areBelow 0 = .ok (.iconst 1, 1) := by decide +kernel
theorem dX8_areBelow_1 : decode cX8_areBelow 1 = .ok (.istore_n 1, 1) := by decide +kernel
theorem dX8_areBelow_2 : decode cX8_areBelow 2 = .ok (.iconst 0, 1) := by decide +kernel
theorem dX8_areBelow_3 : decode cX8_areBelow 3 = .ok (.istore_n 2, 1) := by decide +kernel
theorem dX8_areBelow_4 : decode cX8_areBelow 4 = .ok (.iload_n 2, 1) := by decide +kernel
theorem dX8_areBelow_5 : decode cX8_areBelow 5 = .ok (.iconst 2, 1) := by decide +kernel
theorem dX8_areBelow_6 : decode cX8_areBelow 6 = .ok (.aload_n 0, 1) := by decide +kernel
theorem dX8_areBelow_7 : decode cX8_areBelow 7 = .ok (.getfield 25, 3) := by decide +kernel
theorem dX8_areBelow_10 : decode cX8_areBelow 10 = .ok (.iconst 1, 1) := by decide +kernel
theorem dX8_areBelow_11 : decode cX8_areBelow 11 = .ok (.iaload, 1) := by decide +kernel
theorem dX8_areBelow_12 : decode cX8_areBelow 12 = .ok (.imul, 1) := by decide +kernel
theorem dX8_areBelow_13 : decode cX8_areBelow 13 = .ok (.if_icmp .ge 37, 3) := by decide +kernel
theorem dX8_areBelow_16 : decode cX8_areBelow 16 = .ok (.iload_n 1, 1) := by decide +kernel
theorem dX8_areBelow_17 : decode cX8_areBelow 17 = .ok (.ifCond .eq 25, 3) := by decide +kernel
theorem dX8_areBelow_20 : decode cX8_areBelow 20 = .ok (.aload_n 0, 1) := by decide +kernel
theorem dX8_areBelow_21 : decode cX8_areBelow 21 = .ok (.getfield 28, 3) := by decide +kernel
theorem dX8_areBelow_24 : decode cX8_areBelow 24 = .ok (.bipush 40, 2) := by decide +kernel
theorem dX8_areBelow_26 : decode cX8_areBelow 26 = .ok (.iload_n 2, 1) := by decide +kernel
theorem dX8_areBelow_27 : decode cX8_areBelow 27 = .ok (.iadd, 1) := by decide +kernel
theorem dX8_areBelow_28 : decode cX8_areBelow 28 = .ok (.iaload, 1) := by decide +kernel
theorem dX8_areBelow_29 : decode cX8_areBelow 29 = .ok (.aload_n 0, 1) := by decide +kernel
theorem dX8_areBelow_30 : decode cX8_areBelow 30 = .ok (.getfield 13, 3) := by decide +kernel
theorem dX8_areBelow_33 : decode cX8_areBelow 33 = .ok (.iconst 1, 1) := by decide +kernel
theorem dX8_areBelow_34 : decode cX8_areBelow 34 = .ok (.iaload, 1) := by decide +kernel
theorem dX8_areBelow_35 : decode cX8_areBelow 35 = .ok (.if_icmp .ge 7, 3) := by decide +kernel
theorem dX8_areBelow_38 : decode cX8_areBelow 38 = .ok (.iconst 1, 1) := by decide +kernel
theorem dX8_areBelow_39 : decode cX8_areBelow 39 = .ok (.goto 4, 3) := by decide +kernel
theorem dX8_areBelow_42 : decode cX8_areBelow 42 = .ok (.iconst 0, 1) := by decide +kernel
theorem dX8_areBelow_43 : decode cX8_areBelow 43 = .ok (.istore_n 1, 1) := by decide +kernel
theorem dX8_areBelow_44 : decode cX8_areBelow 44 = .ok (.iinc 2 1, 3) := by decide +kernel
theorem dX8_areBelow_47 : decode cX8_areBelow 47 = .ok (.goto (-43), 3) := by decide +kernel
theorem dX8_areBelow_50 : decode cX8_areBelow 50 = .ok (.iconst 0, 1) := by decide +kernel
theorem dX8_areBelow_51 : decode cX8_areBelow 51 = .ok (.istore_n 2, 1) := by decide +kernel
theorem dX8_areBelow_52 : decode cX8_areBelow 52 = .ok (.iload_n 2, 1) := by decide +kernel
theorem dX8_areBelow_53 : decode cX8_areBelow 53 = .ok (.aload_n 0, 1) := by decide +kernel
theorem dX8_areBelow_54 : decode cX8_areBelow 54 = .ok (.getfield 31, 3) := by decide +kernel
theorem dX8_areBelow_57 : decode cX8_areBelow 57 = .ok (.iconst 1, 1) := by decide +kernel
theorem dX8_areBelow_58 : decode cX8_areBelow 58 = .ok (.iaload, 1) := by decide +kernel
theorem dX8_areBelow_59 : decode cX8_areBelow 59 = .ok (.if_icmp .ge 37, 3) := by decide +kernel
theorem dX8_areBelow_62 : decode cX8_areBelow 62 = .ok (.iload_n 1, 1) := by decide +kernel
theorem dX8_areBelow_63 : decode cX8_areBelow 63 = .ok (.ifCond .eq 25, 3) := by decide +kernel
theorem dX8_areBelow_66 : decode cX8_areBelow 66 = .ok (.aload_n 0, 1) := by decide +kernel
theorem dX8_areBelow_67 : decode cX8_areBelow 67 = .ok (.getfield 34, 3) := by decide +kernel
theorem dX8_areBelow_70 : decode cX8_areBelow 70 = .ok (.bipush 20, 2) := by decide +kernel
theorem dX8_areBelow_72 : decode cX8_areBelow 72 = .ok (.iload_n 2, 1) := by decide +kernel
theorem dX8_areBelow_73 : decode cX8_areBelow 73 = .ok (.iadd, 1) := by decide +kernel
theorem dX8_areBelow_74 : decode cX8_areBelow 74 = .ok (.iaload, 1) := by decide +kernel
theorem dX8_areBelow_75 : decode cX8_areBelow 75 = .ok (.aload_n 0, 1) := by decide +kernel
theorem dX8_areBelow_76 : decode cX8_areBelow 76 = .ok (.getfield 13, 3) := by decide +kernel
theorem dX8_areBelow_79 : decode cX8_areBelow 79 = .ok (.iconst 1, 1) := by decide +kernel
theorem dX8_areBelow_80 : decode cX8_areBelow 80 = .ok (.iaload, 1) := by decide +kernel
theorem dX8_areBelow_81 : decode cX8_areBelow 81 = .ok (.if_icmp .ge 7, 3) := by decide +kernel
theorem dX8_areBelow_84 : decode cX8_areBelow 84 = .ok (.iconst 1, 1) := by decide +kernel
theorem dX8_areBelow_85 : decode cX8_areBelow 85 = .ok (.goto 4, 3) := by decide +kernel
theorem dX8_areBelow_88 : decode cX8_areBelow 88 = .ok (.iconst 0, 1) := by decide +kernel
theorem dX8_areBelow_89 : decode cX8_areBelow 89 = .ok (.istore_n 1, 1) := by decide +kernel
theorem dX8_areBelow_90 : decode cX8_areBelow 90 = .ok (.iinc 2 1, 3) := by decide +kernel
theorem dX8_areBelow_93 : decode cX8_areBelow 93 = .ok (.goto (-41), 3) := by decide +kernel
theorem dX8_areBelow_96 : decode cX8_areBelow 96 = .ok (.iload_n 1, 1) := by decide +kernel
theorem dX8_areBelow_97 : decode cX8_areBelow 97 = .ok (.ireturn, 1) := by decide +kernel
theorem dX8_layBook_0 : decode cX8_layBook 0 = .ok (.iconst 0, 1) := by decide +kernel
theorem dX8_layBook_1 : decode cX8_layBook 1 = .ok (.istore_n 1, 1) := by decide +kernel
theorem dX8_layBook_2 : decode cX8_layBook 2 = .ok (.iload_n 1, 1) := by decide +kernel
theorem dX8_layBook_3 : decode cX8_layBook 3 = .ok (.bipush 40, 2) := by decide +kernel
theorem dX8_layBook_5 : decode cX8_layBook 5 = .ok (.if_icmp .ge 16, 3) := by decide +kernel
theorem dX8_layBook_8 : decode cX8_layBook 8 = .ok (.aload_n 0, 1) := by decide +kernel
theorem dX8_layBook_9 : decode cX8_layBook 9 = .ok (.getfield 37, 3) := by decide +kernel
theorem dX8_layBook_12 : decode cX8_layBook 12 = .ok (.iload_n 1, 1) := by decide +kernel
theorem dX8_layBook_13 : decode cX8_layBook 13 = .ok (.iload_n 1, 1) := by decide +kernel
theorem dX8_layBook_14 : decode cX8_layBook 14 = .ok (.iastore, 1) := by decide +kernel
theorem dX8_layBook_15 : decode cX8_layBook 15 = .ok (.iinc 1 1, 3) := by decide +kernel
theorem dX8_layBook_18 : decode cX8_layBook 18 = .ok (.goto (-16), 3) := by decide +kernel
theorem dX8_layBook_21 : decode cX8_layBook 21 = .ok (.iconst 0, 1) := by decide +kernel
theorem dX8_layBook_22 : decode cX8_layBook 22 = .ok (.istore_n 1, 1) := by decide +kernel
theorem dX8_layBook_23 : decode cX8_layBook 23 = .ok (.iload_n 1, 1) := by decide +kernel
theorem dX8_layBook_24 : decode cX8_layBook 24 = .ok (.aload_n 0, 1) := by decide +kernel
theorem dX8_layBook_25 : decode cX8_layBook 25 = .ok (.getfield 25, 3) := by decide +kernel
theorem dX8_layBook_28 : decode cX8_layBook 28 = .ok (.iconst 0, 1) := by decide +kernel
theorem dX8_layBook_29 : decode cX8_layBook 29 = .ok (.iaload, 1) := by decide +kernel
theorem dX8_layBook_30 : decode cX8_layBook 30 = .ok (.if_icmp .ge 67, 3) := by decide +kernel
theorem dX8_layBook_33 : decode cX8_layBook 33 = .ok (.aload_n 0, 1) := by decide +kernel
theorem dX8_layBook_34 : decode cX8_layBook 34 = .ok (.getfield 37, 3) := by decide +kernel
theorem dX8_layBook_37 : decode cX8_layBook 37 = .ok (.aload_n 0, 1) := by decide +kernel
theorem dX8_layBook_38 : decode cX8_layBook 38 = .ok (.getfield 28, 3) := by decide +kernel
theorem dX8_layBook_41 : decode cX8_layBook 41 = .ok (.iconst 2, 1) := by decide +kernel
theorem dX8_layBook_42 : decode cX8_layBook 42 = .ok (.iload_n 1, 1) := by decide +kernel
theorem dX8_layBook_43 : decode cX8_layBook 43 = .ok (.imul, 1) := by decide +kernel
theorem dX8_layBook_44 : decode cX8_layBook 44 = .ok (.iaload, 1) := by decide +kernel
theorem dX8_layBook_45 : decode cX8_layBook 45 = .ok (.iaload, 1) := by decide +kernel
theorem dX8_layBook_46 : decode cX8_layBook 46 = .ok (.istore_n 2, 1) := by decide +kernel
theorem dX8_layBook_47 : decode cX8_layBook 47 = .ok (.aload_n 0, 1) := by decide +kernel
theorem dX8_layBook_48 : decode cX8_layBook 48 = .ok (.getfield 37, 3) := by decide +kernel
theorem dX8_layBook_51 : decode cX8_layBook 51 = .ok (.aload_n 0, 1) := by decide +kernel
theorem dX8_layBook_52 : decode cX8_layBook 52 = .ok (.getfield 28, 3) := by decide +kernel
theorem dX8_layBook_55 : decode cX8_layBook 55 = .ok (.iconst 2, 1) := by decide +kernel
theorem dX8_layBook_56 : decode cX8_layBook 56 = .ok (.iload_n 1, 1) := by decide +kernel
theorem dX8_layBook_57 : decode cX8_layBook 57 = .ok (.imul, 1) := by decide +kernel
theorem dX8_layBook_58 : decode cX8_layBook 58 = .ok (.iaload, 1) := by decide +kernel
theorem dX8_layBook_59 : decode cX8_layBook 59 = .ok (.aload_n 0, 1) := by decide +kernel
theorem dX8_layBook_60 : decode cX8_layBook 60 = .ok (.getfield 37, 3) := by decide +kernel
theorem dX8_layBook_63 : decode cX8_layBook 63 = .ok (.aload_n 0, 1) := by decide +kernel
theorem dX8_layBook_64 : decode cX8_layBook 64 = .ok (.getfield 28, 3) := by decide +kernel
theorem dX8_layBook_67 : decode cX8_layBook 67 = .ok (.iconst 2, 1) := by decide +kernel
theorem dX8_layBook_68 : decode cX8_layBook 68 = .ok (.iload_n 1, 1) := by decide +kernel
theorem dX8_layBook_69 : decode cX8_layBook 69 = .ok (.imul, 1) := by decide +kernel
theorem dX8_layBook_70 : decode cX8_layBook 70 = .ok (.iconst 1, 1) := by decide +kernel
theorem dX8_layBook_71 : decode cX8_layBook 71 = .ok (.iadd, 1) := by decide +kernel
theorem dX8_layBook_72 : decode cX8_layBook 72 = .ok (.iaload, 1) := by decide +kernel
theorem dX8_layBook_73 : decode cX8_layBook 73 = .ok (.iaload, 1) := by decide +kernel
theorem dX8_layBook_74 : decode cX8_layBook 74 = .ok (.iastore, 1) := by decide +kernel
theorem dX8_layBook_75 : decode cX8_layBook 75 = .ok (.aload_n 0, 1) := by decide +kernel
theorem dX8_layBook_76 : decode cX8_layBook 76 = .ok (.getfield 37, 3) := by decide +kernel
theorem dX8_layBook_79 : decode cX8_layBook 79 = .ok (.aload_n 0, 1) := by decide +kernel
theorem dX8_layBook_80 : decode cX8_layBook 80 = .ok (.getfield 28, 3) := by decide +kernel
theorem dX8_layBook_83 : decode cX8_layBook 83 = .ok (.iconst 2, 1) := by decide +kernel
theorem dX8_layBook_84 : decode cX8_layBook 84 = .ok (.iload_n 1, 1) := by decide +kernel
theorem dX8_layBook_85 : decode cX8_layBook 85 = .ok (.imul, 1) := by decide +kernel
theorem dX8_layBook_86 : decode cX8_layBook 86 = .ok (.iconst 1, 1) := by decide +kernel
theorem dX8_layBook_87 : decode cX8_layBook 87 = .ok (.iadd, 1) := by decide +kernel
theorem dX8_layBook_88 : decode cX8_layBook 88 = .ok (.iaload, 1) := by decide +kernel
theorem dX8_layBook_89 : decode cX8_layBook 89 = .ok (.iload_n 2, 1) := by decide +kernel
theorem dX8_layBook_90 : decode cX8_layBook 90 = .ok (.iastore, 1) := by decide +kernel
theorem dX8_layBook_91 : decode cX8_layBook 91 = .ok (.iinc 1 1, 3) := by decide +kernel
theorem dX8_layBook_94 : decode cX8_layBook 94 = .ok (.goto (-71), 3) := by decide +kernel
theorem dX8_layBook_97 : decode cX8_layBook 97 = .ok (.iconst 0, 1) := by decide +kernel
theorem dX8_layBook_98 : decode cX8_layBook 98 = .ok (.istore_n 1, 1) := by decide +kernel
theorem dX8_layBook_99 : decode cX8_layBook 99 = .ok (.iload_n 1, 1) := by decide +kernel
theorem dX8_layBook_100 : decode cX8_layBook 100 = .ok (.bipush 40, 2) := by decide +kernel
theorem dX8_layBook_102 : decode cX8_layBook 102 = .ok (.if_icmp .ge 21, 3) := by decide +kernel
theorem dX8_layBook_105 : decode cX8_layBook 105 = .ok (.aload_n 0, 1) := by decide +kernel
theorem dX8_layBook_106 : decode cX8_layBook 106 = .ok (.getfield 40, 3) := by decide +kernel
theorem dX8_layBook_109 : decode cX8_layBook 109 = .ok (.iload_n 1, 1) := by decide +kernel
theorem dX8_layBook_110 : decode cX8_layBook 110 = .ok (.aload_n 0, 1) := by decide +kernel
theorem dX8_layBook_111 : decode cX8_layBook 111 = .ok (.getfield 37, 3) := by decide +kernel
theorem dX8_layBook_114 : decode cX8_layBook 114 = .ok (.iload_n 1, 1) := by decide +kernel
theorem dX8_layBook_115 : decode cX8_layBook 115 = .ok (.iaload, 1) := by decide +kernel
theorem dX8_layBook_116 : decode cX8_layBook 116 = .ok (.iastore, 1) := by decide +kernel
theorem dX8_layBook_117 : decode cX8_layBook 117 = .ok (.iinc 1 1, 3) := by decide +kernel
theorem dX8_layBook_120 : decode cX8_layBook 120 = .ok (.goto (-21), 3) := by decide +kernel
theorem dX8_layBook_123 : decode cX8_layBook 123 = .ok (.aload_n 0, 1) := by decide +kernel
theorem dX8_layBook_124 : decode cX8_layBook 124 = .ok (.getfield 43, 3) := by decide +kernel
theorem dX8_layBook_127 : decode cX8_layBook 127 = .ok (.iconst 0, 1) := by decide +kernel
theorem dX8_layBook_128 : decode cX8_layBook 128 = .ok (.iconst 0, 1) := by decide +kernel
theorem dX8_layBook_129 : decode cX8_layBook 129 = .ok (.iastore, 1) := by decide +kernel
theorem dX8_layBook_130 : decode cX8_layBook 130 = .ok (.aload_n 0, 1) := by decide +kernel
theorem dX8_layBook_131 : decode cX8_layBook 131 = .ok (.getfield 46, 3) := by decide +kernel
theorem dX8_layBook_134 : decode cX8_layBook 134 = .ok (.iconst 0, 1) := by decide +kernel
theorem dX8_layBook_135 : decode cX8_layBook 135 = .ok (.iconst 0, 1) := by decide +kernel
theorem dX8_layBook_136 : decode cX8_layBook 136 = .ok (.iastore, 1) := by decide +kernel
theorem dX8_layBook_137 : decode cX8_layBook 137 = .ok (.aload_n 0, 1) := by decide +kernel
theorem dX8_layBook_138 : decode cX8_layBook 138 = .ok (.iconst 0, 1) := by decide +kernel
theorem dX8_layBook_139 : decode cX8_layBook 139 = .ok (.putfield 135, 3) := by decide +kernel
theorem dX8_layBook_142 : decode cX8_layBook 142 = .ok (.aload_n 0, 1) := by decide +kernel
theorem dX8_layBook_143 : decode cX8_layBook 143 = .ok (.iconst 0, 1) := by decide +kernel
theorem dX8_layBook_144 : decode cX8_layBook 144 = .ok (.putfield 138, 3) := by decide +kernel
theorem dX8_layBook_147 : decode cX8_layBook 147 = .ok (.aload_n 0, 1) := by decide +kernel
theorem dX8_layBook_148 : decode cX8_layBook 148 = .ok (.invokevirtual 141, 3) := by decide +kernel
theorem dX8_layBook_151 : decode cX8_layBook 151 = .ok (.return_, 1) := by decide +kernel
theorem dX8_lay_0 : decode cX8_lay 0 = .ok (.aload_n 0, 1) := by decide +kernel
theorem dX8_lay_1 : decode cX8_lay 1 = .ok (.invokevirtual 131, 3) := by decide +kernel
theorem dX8_lay_4 : decode cX8_lay 4 = .ok (.bipush (-4), 2) := by decide +kernel
theorem dX8_lay_6 : decode cX8_lay 6 = .ok (.if_icmp .ne 10, 3) := by decide +kernel
theorem dX8_lay_9 : decode cX8_lay 9 = .ok (.aload_n 0, 1) := by decide +kernel
theorem dX8_lay_10 : decode cX8_lay 10 = .ok (.invokevirtual 144, 3) := by decide +kernel
theorem dX8_lay_13 : decode cX8_lay 13 = .ok (.ifCond .ne 6, 3) := by decide +kernel
theorem dX8_lay_16 : decode cX8_lay 16 = .ok (.bipush (-2), 2) := by decide +kernel
theorem dX8_lay_18 : decode cX8_lay 18 = .ok (.ireturn, 1) := by decide +kernel
theorem dX8_lay_19 : decode cX8_lay 19 = .ok (.aload_n 0, 1) := by decide +kernel
theorem dX8_lay_20 : decode cX8_lay 20 = .ok (.getfield 13, 3) := by decide +kernel
theorem dX8_lay_23 : decode cX8_lay 23 = .ok (.iconst 0, 1) := by decide +kernel
theorem dX8_lay_24 : decode cX8_lay 24 = .ok (.aload_n 0, 1) := by decide +kernel
theorem dX8_lay_25 : decode cX8_lay 25 = .ok (.getfield 13, 3) := by decide +kernel
theorem dX8_lay_28 : decode cX8_lay 28 = .ok (.iconst 1, 1) := by decide +kernel
theorem dX8_lay_29 : decode cX8_lay 29 = .ok (.iaload, 1) := by decide +kernel
theorem dX8_lay_30 : decode cX8_lay 30 = .ok (.iastore, 1) := by decide +kernel
theorem dX8_lay_31 : decode cX8_lay 31 = .ok (.aload_n 0, 1) := by decide +kernel
theorem dX8_lay_32 : decode cX8_lay 32 = .ok (.getfield 16, 3) := by decide +kernel
theorem dX8_lay_35 : decode cX8_lay 35 = .ok (.iconst 0, 1) := by decide +kernel
theorem dX8_lay_36 : decode cX8_lay 36 = .ok (.aload_n 0, 1) := by decide +kernel
theorem dX8_lay_37 : decode cX8_lay 37 = .ok (.getfield 16, 3) := by decide +kernel
theorem dX8_lay_40 : decode cX8_lay 40 = .ok (.iconst 1, 1) := by decide +kernel
theorem dX8_lay_41 : decode cX8_lay 41 = .ok (.iaload, 1) := by decide +kernel
theorem dX8_lay_42 : decode cX8_lay 42 = .ok (.iastore, 1) := by decide +kernel
theorem dX8_lay_43 : decode cX8_lay 43 = .ok (.aload_n 0, 1) := by decide +kernel
theorem dX8_lay_44 : decode cX8_lay 44 = .ok (.getfield 19, 3) := by decide +kernel
theorem dX8_lay_47 : decode cX8_lay 47 = .ok (.iconst 0, 1) := by decide +kernel
theorem dX8_lay_48 : decode cX8_lay 48 = .ok (.aload_n 0, 1) := by decide +kernel
theorem dX8_lay_49 : decode cX8_lay 49 = .ok (.getfield 19, 3) := by decide +kernel
theorem dX8_lay_52 : decode cX8_lay 52 = .ok (.iconst 1, 1) := by decide +kernel
theorem dX8_lay_53 : decode cX8_lay 53 = .ok (.iaload, 1) := by decide +kernel
theorem dX8_lay_54 : decode cX8_lay 54 = .ok (.iastore, 1) := by decide +kernel
theorem dX8_lay_55 : decode cX8_lay 55 = .ok (.aload_n 0, 1) := by decide +kernel
theorem dX8_lay_56 : decode cX8_lay 56 = .ok (.getfield 22, 3) := by decide +kernel
theorem dX8_lay_59 : decode cX8_lay 59 = .ok (.iconst 0, 1) := by decide +kernel
theorem dX8_lay_60 : decode cX8_lay 60 = .ok (.aload_n 0, 1) := by decide +kernel
theorem dX8_lay_61 : decode cX8_lay 61 = .ok (.getfield 22, 3) := by decide +kernel
theorem dX8_lay_64 : decode cX8_lay 64 = .ok (.iconst 1, 1) := by decide +kernel
theorem dX8_lay_65 : decode cX8_lay 65 = .ok (.iaload, 1) := by decide +kernel
theorem dX8_lay_66 : decode cX8_lay 66 = .ok (.iastore, 1) := by decide +kernel
theorem dX8_lay_67 : decode cX8_lay 67 = .ok (.aload_n 0, 1) := by decide +kernel
theorem dX8_lay_68 : decode cX8_lay 68 = .ok (.getfield 25, 3) := by decide +kernel
theorem dX8_lay_71 : decode cX8_lay 71 = .ok (.iconst 0, 1) := by decide +kernel
theorem dX8_lay_72 : decode cX8_lay 72 = .ok (.aload_n 0, 1) := by decide +kernel
theorem dX8_lay_73 : decode cX8_lay 73 = .ok (.getfield 25, 3) := by decide +kernel
theorem dX8_lay_76 : decode cX8_lay 76 = .ok (.iconst 1, 1) := by decide +kernel
theorem dX8_lay_77 : decode cX8_lay 77 = .ok (.iaload, 1) := by decide +kernel
theorem dX8_lay_78 : decode cX8_lay 78 = .ok (.iastore, 1) := by decide +kernel
theorem dX8_lay_79 : decode cX8_lay 79 = .ok (.aload_n 0, 1) := by decide +kernel
theorem dX8_lay_80 : decode cX8_lay 80 = .ok (.getfield 31, 3) := by decide +kernel
theorem dX8_lay_83 : decode cX8_lay 83 = .ok (.iconst 0, 1) := by decide +kernel
theorem dX8_lay_84 : decode cX8_lay 84 = .ok (.aload_n 0, 1) := by decide +kernel
theorem dX8_lay_85 : decode cX8_lay 85 = .ok (.getfield 31, 3) := by decide +kernel
theorem dX8_lay_88 : decode cX8_lay 88 = .ok (.iconst 1, 1) := by decide +kernel
theorem dX8_lay_89 : decode cX8_lay 89 = .ok (.iaload, 1) := by decide +kernel
theorem dX8_lay_90 : decode cX8_lay 90 = .ok (.iastore, 1) := by decide +kernel
theorem dX8_lay_91 : decode cX8_lay 91 = .ok (.iconst 0, 1) := by decide +kernel
theorem dX8_lay_92 : decode cX8_lay 92 = .ok (.istore_n 1, 1) := by decide +kernel
theorem dX8_lay_93 : decode cX8_lay 93 = .ok (.iload_n 1, 1) := by decide +kernel
theorem dX8_lay_94 : decode cX8_lay 94 = .ok (.bipush 40, 2) := by decide +kernel
theorem dX8_lay_96 : decode cX8_lay 96 = .ok (.if_icmp .ge 24, 3) := by decide +kernel
theorem dX8_lay_99 : decode cX8_lay 99 = .ok (.aload_n 0, 1) := by decide +kernel
theorem dX8_lay_100 : decode cX8_lay 100 = .ok (.getfield 28, 3) := by decide +kernel
theorem dX8_lay_103 : decode cX8_lay 103 = .ok (.iload_n 1, 1) := by decide +kernel
theorem dX8_lay_104 : decode cX8_lay 104 = .ok (.aload_n 0, 1) := by decide +kernel
theorem dX8_lay_105 : decode cX8_lay 105 = .ok (.getfield 28, 3) := by decide +kernel
theorem dX8_lay_108 : decode cX8_lay 108 = .ok (.bipush 40, 2) := by decide +kernel
theorem dX8_lay_110 : decode cX8_lay 110 = .ok (.iload_n 1, 1) := by decide +kernel
theorem dX8_lay_111 : decode cX8_lay 111 = .ok (.iadd, 1) := by decide +kernel
theorem dX8_lay_112 : decode cX8_lay 112 = .ok (.iaload, 1) := by decide +kernel
theorem dX8_lay_113 : decode cX8_lay 113 = .ok (.iastore, 1) := by decide +kernel
theorem dX8_lay_114 : decode cX8_lay 114 = .ok (.iinc 1 1, 3) := by decide +kernel
theorem dX8_lay_117 : decode cX8_lay 117 = .ok (.goto (-24), 3) := by decide +kernel
theorem dX8_lay_120 : decode cX8_lay 120 = .ok (.iconst 0, 1) := by decide +kernel
theorem dX8_lay_121 : decode cX8_lay 121 = .ok (.istore_n 1, 1) := by decide +kernel
theorem dX8_lay_122 : decode cX8_lay 122 = .ok (.iload_n 1, 1) := by decide +kernel
theorem dX8_lay_123 : decode cX8_lay 123 = .ok (.bipush 20, 2) := by decide +kernel
theorem dX8_lay_125 : decode cX8_lay 125 = .ok (.if_icmp .ge 24, 3) := by decide +kernel
theorem dX8_lay_128 : decode cX8_lay 128 = .ok (.aload_n 0, 1) := by decide +kernel
theorem dX8_lay_129 : decode cX8_lay 129 = .ok (.getfield 34, 3) := by decide +kernel
theorem dX8_lay_132 : decode cX8_lay 132 = .ok (.iload_n 1, 1) := by decide +kernel
theorem dX8_lay_133 : decode cX8_lay 133 = .ok (.aload_n 0, 1) := by decide +kernel
theorem dX8_lay_134 : decode cX8_lay 134 = .ok (.getfield 34, 3) := by decide +kernel
theorem dX8_lay_137 : decode cX8_lay 137 = .ok (.bipush 20, 2) := by decide +kernel
theorem dX8_lay_139 : decode cX8_lay 139 = .ok (.iload_n 1, 1) := by decide +kernel
theorem dX8_lay_140 : decode cX8_lay 140 = .ok (.iadd, 1) := by decide +kernel
theorem dX8_lay_141 : decode cX8_lay 141 = .ok (.iaload, 1) := by decide +kernel
theorem dX8_lay_142 : decode cX8_lay 142 = .ok (.iastore, 1) := by decide +kernel
theorem dX8_lay_143 : decode cX8_lay 143 = .ok (.iinc 1 1, 3) := by decide +kernel
theorem dX8_lay_146 : decode cX8_lay 146 = .ok (.goto (-24), 3) := by decide +kernel
theorem dX8_lay_149 : decode cX8_lay 149 = .ok (.aload_n 0, 1) := by decide +kernel
theorem dX8_lay_150 : decode cX8_lay 150 = .ok (.invokevirtual 93, 3) := by decide +kernel
theorem dX8_lay_153 : decode cX8_lay 153 = .ok (.aload_n 0, 1) := by decide +kernel
theorem dX8_lay_154 : decode cX8_lay 154 = .ok (.getfield 13, 3) := by decide +kernel
theorem dX8_lay_157 : decode cX8_lay 157 = .ok (.iconst 0, 1) := by decide +kernel
theorem dX8_lay_158 : decode cX8_lay 158 = .ok (.iaload, 1) := by decide +kernel
theorem dX8_lay_159 : decode cX8_lay 159 = .ok (.ireturn, 1) := by decide +kernel
theorem dX8_isLeaf_0 : decode cX8_isLeaf 0 = .ok (.iload_n 1, 1) := by decide +kernel
theorem dX8_isLeaf_1 : decode cX8_isLeaf 1 = .ok (.i2l, 1) := by decide +kernel
theorem dX8_isLeaf_2 : decode cX8_isLeaf 2 = .ok (.lconst 0, 1) := by decide +kernel
theorem dX8_isLeaf_3 : decode cX8_isLeaf 3 = .ok (.aload_n 0, 1) := by decide +kernel
theorem dX8_isLeaf_4 : decode cX8_isLeaf 4 = .ok (.getfield 13, 3) := by decide +kernel
theorem dX8_isLeaf_7 : decode cX8_isLeaf 7 = .ok (.iconst 0, 1) := by decide +kernel
theorem dX8_isLeaf_8 : decode cX8_isLeaf 8 = .ok (.iaload, 1) := by decide +kernel
theorem dX8_isLeaf_9 : decode cX8_isLeaf 9 = .ok (.iconst 1, 1) := by decide +kernel
theorem dX8_isLeaf_10 : decode cX8_isLeaf 10 = .ok (.isub, 1) := by decide +kernel
theorem dX8_isLeaf_11 : decode cX8_isLeaf 11 = .ok (.i2l, 1) := by decide +kernel
theorem dX8_isLeaf_12 : decode cX8_isLeaf 12 = .ok (.invokestatic 98, 3) := by decide +kernel
theorem dX8_isLeaf_15 : decode cX8_isLeaf 15 = .ok (.ireturn, 1) := by decide +kernel
theorem dX8_layBelow_0 : decode cX8_layBelow 0 = .ok (.aload_n 1, 1) := by decide +kernel
theorem dX8_layBelow_1 : decode cX8_layBelow 1 = .ok (.iload_n 2, 1) := by decide +kernel
theorem dX8_layBelow_2 : decode cX8_layBelow 2 = .ok (.iaload, 1) := by decide +kernel
theorem dX8_layBelow_3 : decode cX8_layBelow 3 = .ok (.istore 4, 2) := by decide +kernel
theorem dX8_layBelow_5 : decode cX8_layBelow 5 = .ok (.iconst 0, 1) := by decide +kernel
theorem dX8_layBelow_6 : decode cX8_layBelow 6 = .ok (.istore 5, 2) := by decide +kernel
theorem dX8_layBelow_8 : decode cX8_layBelow 8 = .ok (.iload 5, 2) := by decide +kernel
theorem dX8_layBelow_10 : decode cX8_layBelow 10 = .ok (.iload_n 3, 1) := by decide +kernel
theorem dX8_layBelow_11 : decode cX8_layBelow 11 = .ok (.if_icmp .ge 23, 3) := by decide +kernel
theorem dX8_layBelow_14 : decode cX8_layBelow 14 = .ok (.aload_n 1, 1) := by decide +kernel
theorem dX8_layBelow_15 : decode cX8_layBelow 15 = .ok (.iload_n 2, 1) := by decide +kernel
theorem dX8_layBelow_16 : decode cX8_layBelow 16 = .ok (.iload 5, 2) := by decide +kernel
theorem dX8_layBelow_18 : decode cX8_layBelow 18 = .ok (.iadd, 1) := by decide +kernel
theorem dX8_layBelow_19 : decode cX8_layBelow 19 = .ok (.aload_n 1, 1) := by decide +kernel
theorem dX8_layBelow_20 : decode cX8_layBelow 20 = .ok (.iload_n 2, 1) := by decide +kernel
theorem dX8_layBelow_21 : decode cX8_layBelow 21 = .ok (.iload 5, 2) := by decide +kernel
theorem dX8_layBelow_23 : decode cX8_layBelow 23 = .ok (.iadd, 1) := by decide +kernel
theorem dX8_layBelow_24 : decode cX8_layBelow 24 = .ok (.iconst 1, 1) := by decide +kernel
theorem dX8_layBelow_25 : decode cX8_layBelow 25 = .ok (.iadd, 1) := by decide +kernel
theorem dX8_layBelow_26 : decode cX8_layBelow 26 = .ok (.iaload, 1) := by decide +kernel
theorem dX8_layBelow_27 : decode cX8_layBelow 27 = .ok (.iastore, 1) := by decide +kernel
theorem dX8_layBelow_28 : decode cX8_layBelow 28 = .ok (.iinc 5 1, 3) := by decide +kernel
theorem dX8_layBelow_31 : decode cX8_layBelow 31 = .ok (.goto (-23), 3) := by decide +kernel
theorem dX8_layBelow_34 : decode cX8_layBelow 34 = .ok (.aload_n 1, 1) := by decide +kernel
theorem dX8_layBelow_35 : decode cX8_layBelow 35 = .ok (.iload_n 2, 1) := by decide +kernel
theorem dX8_layBelow_36 : decode cX8_layBelow 36 = .ok (.iload_n 3, 1) := by decide +kernel
theorem dX8_layBelow_37 : decode cX8_layBelow 37 = .ok (.iadd, 1) := by decide +kernel
theorem dX8_layBelow_38 : decode cX8_layBelow 38 = .ok (.iload 4, 2) := by decide +kernel
theorem dX8_layBelow_40 : decode cX8_layBelow 40 = .ok (.iastore, 1) := by decide +kernel
theorem dX8_layBelow_41 : decode cX8_layBelow 41 = .ok (.return_, 1) := by decide +kernel
theorem dX8_cut_0 : decode cX8_cut 0 = .ok (.aload_n 0, 1) := by decide +kernel
theorem dX8_cut_1 : decode cX8_cut 1 = .ok (.getfield 13, 3) := by decide +kernel
theorem dX8_cut_4 : decode cX8_cut 4 = .ok (.iconst 0, 1) := by decide +kernel
theorem dX8_cut_5 : decode cX8_cut 5 = .ok (.iaload, 1) := by decide +kernel
theorem dX8_cut_6 : decode cX8_cut 6 = .ok (.istore_n 3, 1) := by decide +kernel
theorem dX8_cut_7 : decode cX8_cut 7 = .ok (.iload_n 3, 1) := by decide +kernel
theorem dX8_cut_8 : decode cX8_cut 8 = .ok (.iconst 2, 1) := by decide +kernel
theorem dX8_cut_9 : decode cX8_cut 9 = .ok (.idiv, 1) := by decide +kernel
theorem dX8_cut_10 : decode cX8_cut 10 = .ok (.istore 4, 2) := by decide +kernel
theorem dX8_cut_12 : decode cX8_cut 12 = .ok (.iconst 0, 1) := by decide +kernel
theorem dX8_cut_13 : decode cX8_cut 13 = .ok (.istore 5, 2) := by decide +kernel
theorem dX8_cut_15 : decode cX8_cut 15 = .ok (.iload 5, 2) := by decide +kernel
theorem dX8_cut_17 : decode cX8_cut 17 = .ok (.iload_n 3, 1) := by decide +kernel
theorem dX8_cut_18 : decode cX8_cut 18 = .ok (.if_icmp .ge 27, 3) := by decide +kernel
theorem dX8_cut_21 : decode cX8_cut 21 = .ok (.aload_n 0, 1) := by decide +kernel
theorem dX8_cut_22 : decode cX8_cut 22 = .ok (.getfield 62, 3) := by decide +kernel
theorem dX8_cut_25 : decode cX8_cut 25 = .ok (.iload 5, 2) := by decide +kernel
theorem dX8_cut_27 : decode cX8_cut 27 = .ok (.aload_n 1, 1) := by decide +kernel
theorem dX8_cut_28 : decode cX8_cut 28 = .ok (.iload_n 2, 1) := by decide +kernel
theorem dX8_cut_29 : decode cX8_cut 29 = .ok (.iload 5, 2) := by decide +kernel
theorem dX8_cut_31 : decode cX8_cut 31 = .ok (.iload 4, 2) := by decide +kernel
theorem dX8_cut_33 : decode cX8_cut 33 = .ok (.iadd, 1) := by decide +kernel
theorem dX8_cut_34 : decode cX8_cut 34 = .ok (.iload_n 3, 1) := by decide +kernel
theorem dX8_cut_35 : decode cX8_cut 35 = .ok (.irem, 1) := by decide +kernel
theorem dX8_cut_36 : decode cX8_cut 36 = .ok (.iadd, 1) := by decide +kernel
theorem dX8_cut_37 : decode cX8_cut 37 = .ok (.iaload, 1) := by decide +kernel
theorem dX8_cut_38 : decode cX8_cut 38 = .ok (.iastore, 1) := by decide +kernel
theorem dX8_cut_39 : decode cX8_cut 39 = .ok (.iinc 5 1, 3) := by decide +kernel
theorem dX8_cut_42 : decode cX8_cut 42 = .ok (.goto (-27), 3) := by decide +kernel
theorem dX8_cut_45 : decode cX8_cut 45 = .ok (.iconst 0, 1) := by decide +kernel
theorem dX8_cut_46 : decode cX8_cut 46 = .ok (.istore 5, 2) := by decide +kernel
theorem dX8_cut_48 : decode cX8_cut 48 = .ok (.iload 5, 2) := by decide +kernel
theorem dX8_cut_50 : decode cX8_cut 50 = .ok (.iload_n 3, 1) := by decide +kernel
theorem dX8_cut_51 : decode cX8_cut 51 = .ok (.if_icmp .ge 22, 3) := by decide +kernel
theorem dX8_cut_54 : decode cX8_cut 54 = .ok (.aload_n 1, 1) := by decide +kernel
theorem dX8_cut_55 : decode cX8_cut 55 = .ok (.iload_n 2, 1) := by decide +kernel
theorem dX8_cut_56 : decode cX8_cut 56 = .ok (.iload 5, 2) := by decide +kernel
theorem dX8_cut_58 : decode cX8_cut 58 = .ok (.iadd, 1) := by decide +kernel
theorem dX8_cut_59 : decode cX8_cut 59 = .ok (.aload_n 0, 1) := by decide +kernel
theorem dX8_cut_60 : decode cX8_cut 60 = .ok (.getfield 62, 3) := by decide +kernel
theorem dX8_cut_63 : decode cX8_cut 63 = .ok (.iload 5, 2) := by decide +kernel
theorem dX8_cut_65 : decode cX8_cut 65 = .ok (.iaload, 1) := by decide +kernel
theorem dX8_cut_66 : decode cX8_cut 66 = .ok (.iastore, 1) := by decide +kernel
theorem dX8_cut_67 : decode cX8_cut 67 = .ok (.iinc 5 1, 3) := by decide +kernel
theorem dX8_cut_70 : decode cX8_cut 70 = .ok (.goto (-22), 3) := by decide +kernel
theorem dX8_cut_73 : decode cX8_cut 73 = .ok (.return_, 1) := by decide +kernel
theorem dX8_goRead_0 : decode cX8_goRead 0 = .ok (.aload_n 0, 1) := by decide +kernel
theorem dX8_goRead_1 : decode cX8_goRead 1 = .ok (.getfield 13, 3) := by decide +kernel
theorem dX8_goRead_4 : decode cX8_goRead 4 = .ok (.iconst 0, 1) := by decide +kernel
theorem dX8_goRead_5 : decode cX8_goRead 5 = .ok (.iaload, 1) := by decide +kernel
theorem dX8_goRead_6 : decode cX8_goRead 6 = .ok (.iconst 1, 1) := by decide +kernel
theorem dX8_goRead_7 : decode cX8_goRead 7 = .ok (.isub, 1) := by decide +kernel
theorem dX8_goRead_8 : decode cX8_goRead 8 = .ok (.istore 6, 2) := by decide +kernel
theorem dX8_goRead_10 : decode cX8_goRead 10 = .ok (.iload 4, 2) := by decide +kernel
theorem dX8_goRead_12 : decode cX8_goRead 12 = .ok (.iload 6, 2) := by decide +kernel
theorem dX8_goRead_14 : decode cX8_goRead 14 = .ok (.if_icmp .ge 8, 3) := by decide +kernel
theorem dX8_goRead_17 : decode cX8_goRead 17 = .ok (.iload 4, 2) := by decide +kernel
theorem dX8_goRead_19 : decode cX8_goRead 19 = .ok (.goto 5, 3) := by decide +kernel
theorem dX8_goRead_22 : decode cX8_goRead 22 = .ok (.iload 6, 2) := by decide +kernel
theorem dX8_goRead_24 : decode cX8_goRead 24 = .ok (.istore 7, 2) := by decide +kernel
theorem dX8_goRead_26 : decode cX8_goRead 26 = .ok (.iload_n 3, 1) := by decide +kernel
theorem dX8_goRead_27 : decode cX8_goRead 27 = .ok (.iconst 3, 1) := by decide +kernel
theorem dX8_goRead_28 : decode cX8_goRead 28 = .ok (.if_icmp .ne 12, 3) := by decide +kernel
theorem dX8_goRead_31 : decode cX8_goRead 31 = .ok (.aload_n 0, 1) := by decide +kernel
theorem dX8_goRead_32 : decode cX8_goRead 32 = .ok (.aload_n 1, 1) := by decide +kernel
theorem dX8_goRead_33 : decode cX8_goRead 33 = .ok (.iload_n 2, 1) := by decide +kernel
theorem dX8_goRead_34 : decode cX8_goRead 34 = .ok (.invokevirtual 147, 3) := by decide +kernel
theorem dX8_goRead_37 : decode cX8_goRead 37 = .ok (.goto 32, 3) := by decide +kernel
theorem dX8_goRead_40 : decode cX8_goRead 40 = .ok (.aload_n 0, 1) := by decide +kernel
theorem dX8_goRead_41 : decode cX8_goRead 41 = .ok (.aload_n 1, 1) := by decide +kernel
theorem dX8_goRead_42 : decode cX8_goRead 42 = .ok (.iload_n 2, 1) := by decide +kernel
theorem dX8_goRead_43 : decode cX8_goRead 43 = .ok (.iload_n 3, 1) := by decide +kernel
theorem dX8_goRead_44 : decode cX8_goRead 44 = .ok (.ifCond .eq 15, 3) := by decide +kernel
theorem dX8_goRead_47 : decode cX8_goRead 47 = .ok (.iload_n 3, 1) := by decide +kernel
theorem dX8_goRead_48 : decode cX8_goRead 48 = .ok (.iconst 2, 1) := by decide +kernel
theorem dX8_goRead_49 : decode cX8_goRead 49 = .ok (.if_icmp .ne 15, 3) := by decide +kernel
theorem dX8_goRead_52 : decode cX8_goRead 52 = .ok (.iload 5, 2) := by decide +kernel
theorem dX8_goRead_54 : decode cX8_goRead 54 = .ok (.iconst 2, 1) := by decide +kernel
theorem dX8_goRead_55 : decode cX8_goRead 55 = .ok (.irem, 1) := by decide +kernel
theorem dX8_goRead_56 : decode cX8_goRead 56 = .ok (.ifCond .ne 8, 3) := by decide +kernel
theorem dX8_goRead_59 : decode cX8_goRead 59 = .ok (.iload 7, 2) := by decide +kernel
theorem dX8_goRead_61 : decode cX8_goRead 61 = .ok (.goto 5, 3) := by decide +kernel
theorem dX8_goRead_64 : decode cX8_goRead 64 = .ok (.iload 6, 2) := by decide +kernel
theorem dX8_goRead_66 : decode cX8_goRead 66 = .ok (.invokevirtual 151, 3) := by decide +kernel
theorem dX8_goRead_69 : decode cX8_goRead 69 = .ok (.return_, 1) := by decide +kernel
theorem dX8_leaf_0 : decode cX8_leaf 0 = .ok (.aload_n 0, 1) := by decide +kernel
theorem dX8_leaf_1 : decode cX8_leaf 1 = .ok (.iload_n 1, 1) := by decide +kernel
theorem dX8_leaf_2 : decode cX8_leaf 2 = .ok (.invokevirtual 155, 3) := by decide +kernel
theorem dX8_leaf_5 : decode cX8_leaf 5 = .ok (.ifCond .eq 13, 3) := by decide +kernel
theorem dX8_leaf_8 : decode cX8_leaf 8 = .ok (.iload_n 2, 1) := by decide +kernel
theorem dX8_leaf_9 : decode cX8_leaf 9 = .ok (.i2l, 1) := by decide +kernel
theorem dX8_leaf_10 : decode cX8_leaf 10 = .ok (.lconst 0, 1) := by decide +kernel
theorem dX8_leaf_11 : decode cX8_leaf 11 = .ok (.lconst 1, 1) := by decide +kernel
theorem dX8_leaf_12 : decode cX8_leaf 12 = .ok (.invokestatic 98, 3) := by decide +kernel
theorem dX8_leaf_15 : decode cX8_leaf 15 = .ok (.ifCond .ne 5, 3) := by decide +kernel
theorem dX8_leaf_18 : decode cX8_leaf 18 = .ok (.iconst (-1), 1) := by decide +kernel
theorem dX8_leaf_19 : decode cX8_leaf 19 = .ok (.ireturn, 1) := by decide +kernel
theorem dX8_leaf_20 : decode cX8_leaf 20 = .ok (.iload_n 2, 1) := by decide +kernel
theorem dX8_leaf_21 : decode cX8_leaf 21 = .ok (.ifCond .ne 12, 3) := by decide +kernel
theorem dX8_leaf_24 : decode cX8_leaf 24 = .ok (.aload_n 0, 1) := by decide +kernel
theorem dX8_leaf_25 : decode cX8_leaf 25 = .ok (.getfield 40, 3) := by decide +kernel
theorem dX8_leaf_28 : decode cX8_leaf 28 = .ok (.iload_n 1, 1) := by decide +kernel
theorem dX8_leaf_29 : decode cX8_leaf 29 = .ok (.iaload, 1) := by decide +kernel
theorem dX8_leaf_30 : decode cX8_leaf 30 = .ok (.goto 9, 3) := by decide +kernel
theorem dX8_leaf_33 : decode cX8_leaf 33 = .ok (.aload_n 0, 1) := by decide +kernel
theorem dX8_leaf_34 : decode cX8_leaf 34 = .ok (.getfield 37, 3) := by decide +kernel
theorem dX8_leaf_37 : decode cX8_leaf 37 = .ok (.iload_n 1, 1) := by decide +kernel
theorem dX8_leaf_38 : decode cX8_leaf 38 = .ok (.iaload, 1) := by decide +kernel
theorem dX8_leaf_39 : decode cX8_leaf 39 = .ok (.ireturn, 1) := by decide +kernel
theorem dX8_where_0 : decode cX8_where 0 = .ok (.aload_n 0, 1) := by decide +kernel
theorem dX8_where_1 : decode cX8_where 1 = .ok (.iload_n 1, 1) := by decide +kernel
theorem dX8_where_2 : decode cX8_where 2 = .ok (.invokevirtual 155, 3) := by decide +kernel
theorem dX8_where_5 : decode cX8_where 5 = .ok (.ifCond .ne 5, 3) := by decide +kernel
theorem dX8_where_8 : decode cX8_where 8 = .ok (.iconst (-1), 1) := by decide +kernel
theorem dX8_where_9 : decode cX8_where 9 = .ok (.ireturn, 1) := by decide +kernel
theorem dX8_where_10 : decode cX8_where 10 = .ok (.iconst 0, 1) := by decide +kernel
theorem dX8_where_11 : decode cX8_where 11 = .ok (.istore_n 2, 1) := by decide +kernel
theorem dX8_where_12 : decode cX8_where 12 = .ok (.aload_n 0, 1) := by decide +kernel
theorem dX8_where_13 : decode cX8_where 13 = .ok (.getfield 40, 3) := by decide +kernel
theorem dX8_where_16 : decode cX8_where 16 = .ok (.iload_n 2, 1) := by decide +kernel
theorem dX8_where_17 : decode cX8_where 17 = .ok (.iaload, 1) := by decide +kernel
theorem dX8_where_18 : decode cX8_where 18 = .ok (.iload_n 1, 1) := by decide +kernel
theorem dX8_where_19 : decode cX8_where 19 = .ok (.if_icmp .eq 9, 3) := by decide +kernel
theorem dX8_where_22 : decode cX8_where 22 = .ok (.iinc 2 1, 3) := by decide +kernel
theorem dX8_where_25 : decode cX8_where 25 = .ok (.goto (-13), 3) := by decide +kernel
theorem dX8_where_28 : decode cX8_where 28 = .ok (.iload_n 2, 1) := by decide +kernel
theorem dX8_where_29 : decode cX8_where 29 = .ok (.ireturn, 1) := by decide +kernel
theorem dX8_read_0 : decode cX8_read 0 = .ok (.aload_n 0, 1) := by decide +kernel
theorem dX8_read_1 : decode cX8_read 1 = .ok (.getfield 40, 3) := by decide +kernel
theorem dX8_read_4 : decode cX8_read 4 = .ok (.iconst 0, 1) := by decide +kernel
theorem dX8_read_5 : decode cX8_read 5 = .ok (.iaload, 1) := by decide +kernel
theorem dX8_read_6 : decode cX8_read 6 = .ok (.istore_n 1, 1) := by decide +kernel
theorem dX8_read_7 : decode cX8_read 7 = .ok (.aload_n 0, 1) := by decide +kernel
theorem dX8_read_8 : decode cX8_read 8 = .ok (.aload_n 0, 1) := by decide +kernel
theorem dX8_read_9 : decode cX8_read 9 = .ok (.getfield 40, 3) := by decide +kernel
theorem dX8_read_12 : decode cX8_read 12 = .ok (.iconst 0, 1) := by decide +kernel
theorem dX8_read_13 : decode cX8_read 13 = .ok (.aload_n 0, 1) := by decide +kernel
theorem dX8_read_14 : decode cX8_read 14 = .ok (.getfield 19, 3) := by decide +kernel
theorem dX8_read_17 : decode cX8_read 17 = .ok (.iconst 0, 1) := by decide +kernel
theorem dX8_read_18 : decode cX8_read 18 = .ok (.iaload, 1) := by decide +kernel
theorem dX8_read_19 : decode cX8_read 19 = .ok (.aload_n 0, 1) := by decide +kernel
theorem dX8_read_20 : decode cX8_read 20 = .ok (.getfield 22, 3) := by decide +kernel
theorem dX8_read_23 : decode cX8_read 23 = .ok (.iconst 0, 1) := by decide +kernel
theorem dX8_read_24 : decode cX8_read 24 = .ok (.iaload, 1) := by decide +kernel
theorem dX8_read_25 : decode cX8_read 25 = .ok (.aload_n 0, 1) := by decide +kernel
theorem dX8_read_26 : decode cX8_read 26 = .ok (.getfield 43, 3) := by decide +kernel
theorem dX8_read_29 : decode cX8_read 29 = .ok (.iconst 0, 1) := by decide +kernel
theorem dX8_read_30 : decode cX8_read 30 = .ok (.iaload, 1) := by decide +kernel
theorem dX8_read_31 : decode cX8_read 31 = .ok (.invokevirtual 158, 3) := by decide +kernel
theorem dX8_read_34 : decode cX8_read 34 = .ok (.aload_n 0, 1) := by decide +kernel
theorem dX8_read_35 : decode cX8_read 35 = .ok (.getfield 43, 3) := by decide +kernel
theorem dX8_read_38 : decode cX8_read 38 = .ok (.iconst 0, 1) := by decide +kernel
theorem dX8_read_39 : decode cX8_read 39 = .ok (.dup2, 1) := by decide +kernel
theorem dX8_read_40 : decode cX8_read 40 = .ok (.iaload, 1) := by decide +kernel
theorem dX8_read_41 : decode cX8_read 41 = .ok (.iconst 1, 1) := by decide +kernel
theorem dX8_read_42 : decode cX8_read 42 = .ok (.iadd, 1) := by decide +kernel
theorem dX8_read_43 : decode cX8_read 43 = .ok (.iastore, 1) := by decide +kernel
theorem dX8_read_44 : decode cX8_read 44 = .ok (.aload_n 0, 1) := by decide +kernel
theorem dX8_read_45 : decode cX8_read 45 = .ok (.getfield 43, 3) := by decide +kernel
theorem dX8_read_48 : decode cX8_read 48 = .ok (.iconst 0, 1) := by decide +kernel
theorem dX8_read_49 : decode cX8_read 49 = .ok (.iaload, 1) := by decide +kernel
theorem dX8_read_50 : decode cX8_read 50 = .ok (.aload_n 0, 1) := by decide +kernel
theorem dX8_read_51 : decode cX8_read 51 = .ok (.getfield 16, 3) := by decide +kernel
theorem dX8_read_54 : decode cX8_read 54 = .ok (.iconst 0, 1) := by decide +kernel
theorem dX8_read_55 : decode cX8_read 55 = .ok (.iaload, 1) := by decide +kernel
theorem dX8_read_56 : decode cX8_read 56 = .ok (.if_icmp .ne 20, 3) := by decide +kernel
theorem dX8_read_59 : decode cX8_read 59 = .ok (.aload_n 0, 1) := by decide +kernel
theorem dX8_read_60 : decode cX8_read 60 = .ok (.getfield 43, 3) := by decide +kernel
theorem dX8_read_63 : decode cX8_read 63 = .ok (.iconst 0, 1) := by decide +kernel
theorem dX8_read_64 : decode cX8_read 64 = .ok (.iconst 0, 1) := by decide +kernel
theorem dX8_read_65 : decode cX8_read 65 = .ok (.iastore, 1) := by decide +kernel
theorem dX8_read_66 : decode cX8_read 66 = .ok (.aload_n 0, 1) := by decide +kernel
theorem dX8_read_67 : decode cX8_read 67 = .ok (.getfield 46, 3) := by decide +kernel
theorem dX8_read_70 : decode cX8_read 70 = .ok (.iconst 0, 1) := by decide +kernel
theorem dX8_read_71 : decode cX8_read 71 = .ok (.dup2, 1) := by decide +kernel
theorem dX8_read_72 : decode cX8_read 72 = .ok (.iaload, 1) := by decide +kernel
theorem dX8_read_73 : decode cX8_read 73 = .ok (.iconst 1, 1) := by decide +kernel
theorem dX8_read_74 : decode cX8_read 74 = .ok (.iadd, 1) := by decide +kernel
theorem dX8_read_75 : decode cX8_read 75 = .ok (.iastore, 1) := by decide +kernel
theorem dX8_read_76 : decode cX8_read 76 = .ok (.iload_n 1, 1) := by decide +kernel
theorem dX8_read_77 : decode cX8_read 77 = .ok (.ireturn, 1) := by decide +kernel
theorem dX8_finish_0 : decode cX8_finish 0 = .ok (.aload_n 0, 1) := by decide +kernel
theorem dX8_finish_1 : decode cX8_finish 1 = .ok (.getfield 16, 3) := by decide +kernel
theorem dX8_finish_4 : decode cX8_finish 4 = .ok (.iconst 0, 1) := by decide +kernel
theorem dX8_finish_5 : decode cX8_finish 5 = .ok (.iaload, 1) := by decide +kernel
theorem dX8_finish_6 : decode cX8_finish 6 = .ok (.aload_n 0, 1) := by decide +kernel
theorem dX8_finish_7 : decode cX8_finish 7 = .ok (.getfield 43, 3) := by decide +kernel
theorem dX8_finish_10 : decode cX8_finish 10 = .ok (.iconst 0, 1) := by decide +kernel
theorem dX8_finish_11 : decode cX8_finish 11 = .ok (.iaload, 1) := by decide +kernel
theorem dX8_finish_12 : decode cX8_finish 12 = .ok (.isub, 1) := by decide +kernel
theorem dX8_finish_13 : decode cX8_finish 13 = .ok (.istore_n 1, 1) := by decide +kernel
theorem dX8_finish_14 : decode cX8_finish 14 = .ok (.iconst 0, 1) := by decide +kernel
theorem dX8_finish_15 : decode cX8_finish 15 = .ok (.istore_n 2, 1) := by decide +kernel
theorem dX8_finish_16 : decode cX8_finish 16 = .ok (.iload_n 2, 1) := by decide +kernel
theorem dX8_finish_17 : decode cX8_finish 17 = .ok (.iload_n 1, 1) := by decide +kernel
theorem dX8_finish_18 : decode cX8_finish 18 = .ok (.if_icmp .ge 14, 3) := by decide +kernel
theorem dX8_finish_21 : decode cX8_finish 21 = .ok (.aload_n 0, 1) := by decide +kernel
theorem dX8_finish_22 : decode cX8_finish 22 = .ok (.invokevirtual 162, 3) := by decide +kernel
theorem dX8_finish_25 : decode cX8_finish 25 = .ok (.pop, 1) := by decide +kernel
theorem dX8_finish_26 : decode cX8_finish 26 = .ok (.iinc 2 1, 3) := by decide +kernel
theorem dX8_finish_29 : decode cX8_finish 29 = .ok (.goto (-13), 3) := by decide +kernel
theorem dX8_finish_32 : decode cX8_finish 32 = .ok (.iload_n 1, 1) := by decide +kernel
theorem dX8_finish_33 : decode cX8_finish 33 = .ok (.ireturn, 1) := by decide +kernel
theorem dX8_change_0 : decode cX8_change 0 = .ok (.aload_n 0, 1) := by decide +kernel
theorem dX8_change_1 : decode cX8_change 1 = .ok (.iload_n 1, 1) := by decide +kernel
theorem dX8_change_2 : decode cX8_change 2 = .ok (.invokevirtual 155, 3) := by decide +kernel
theorem dX8_change_5 : decode cX8_change 5 = .ok (.ifCond .eq 11, 3) := by decide +kernel
theorem dX8_change_8 : decode cX8_change 8 = .ok (.aload_n 0, 1) := by decide +kernel
theorem dX8_change_9 : decode cX8_change 9 = .ok (.iload_n 2, 1) := by decide +kernel
theorem dX8_change_10 : decode cX8_change 10 = .ok (.invokevirtual 155, 3) := by decide +kernel
theorem dX8_change_13 : decode cX8_change 13 = .ok (.ifCond .ne 5, 3) := by decide +kernel
theorem dX8_change_16 : decode cX8_change 16 = .ok (.iconst (-1), 1) := by decide +kernel
theorem dX8_change_17 : decode cX8_change 17 = .ok (.ireturn, 1) := by decide +kernel
theorem dX8_change_18 : decode cX8_change 18 = .ok (.aload_n 0, 1) := by decide +kernel
theorem dX8_change_19 : decode cX8_change 19 = .ok (.getfield 40, 3) := by decide +kernel
theorem dX8_change_22 : decode cX8_change 22 = .ok (.iload_n 1, 1) := by decide +kernel
theorem dX8_change_23 : decode cX8_change 23 = .ok (.iaload, 1) := by decide +kernel
theorem dX8_change_24 : decode cX8_change 24 = .ok (.istore_n 3, 1) := by decide +kernel
theorem dX8_change_25 : decode cX8_change 25 = .ok (.aload_n 0, 1) := by decide +kernel
theorem dX8_change_26 : decode cX8_change 26 = .ok (.getfield 40, 3) := by decide +kernel
theorem dX8_change_29 : decode cX8_change 29 = .ok (.iload_n 1, 1) := by decide +kernel
theorem dX8_change_30 : decode cX8_change 30 = .ok (.aload_n 0, 1) := by decide +kernel
theorem dX8_change_31 : decode cX8_change 31 = .ok (.getfield 40, 3) := by decide +kernel
theorem dX8_change_34 : decode cX8_change 34 = .ok (.iload_n 2, 1) := by decide +kernel
theorem dX8_change_35 : decode cX8_change 35 = .ok (.iaload, 1) := by decide +kernel
theorem dX8_change_36 : decode cX8_change 36 = .ok (.iastore, 1) := by decide +kernel
theorem dX8_change_37 : decode cX8_change 37 = .ok (.aload_n 0, 1) := by decide +kernel
theorem dX8_change_38 : decode cX8_change 38 = .ok (.getfield 40, 3) := by decide +kernel
theorem dX8_change_41 : decode cX8_change 41 = .ok (.iload_n 2, 1) := by decide +kernel
theorem dX8_change_42 : decode cX8_change 42 = .ok (.iload_n 3, 1) := by decide +kernel
theorem dX8_change_43 : decode cX8_change 43 = .ok (.iastore, 1) := by decide +kernel
theorem dX8_change_44 : decode cX8_change 44 = .ok (.aload_n 0, 1) := by decide +kernel
theorem dX8_change_45 : decode cX8_change 45 = .ok (.getfield 40, 3) := by decide +kernel
theorem dX8_change_48 : decode cX8_change 48 = .ok (.iload_n 1, 1) := by decide +kernel
theorem dX8_change_49 : decode cX8_change 49 = .ok (.iaload, 1) := by decide +kernel
theorem dX8_change_50 : decode cX8_change 50 = .ok (.ireturn, 1) := by decide +kernel
theorem dX8_drop_0 : decode cX8_drop 0 = .ok (.iload_n 1, 1) := by decide +kernel
theorem dX8_drop_1 : decode cX8_drop 1 = .ok (.i2l, 1) := by decide +kernel
theorem dX8_drop_2 : decode cX8_drop 2 = .ok (.lconst 0, 1) := by decide +kernel
theorem dX8_drop_3 : decode cX8_drop 3 = .ok (.ldc2_w 165, 3) := by decide +kernel
theorem dX8_drop_6 : decode cX8_drop 6 = .ok (.invokestatic 98, 3) := by decide +kernel
theorem dX8_drop_9 : decode cX8_drop 9 = .ok (.ifCond .ne 5, 3) := by decide +kernel
theorem dX8_drop_12 : decode cX8_drop 12 = .ok (.iconst (-1), 1) := by decide +kernel
theorem dX8_drop_13 : decode cX8_drop 13 = .ok (.ireturn, 1) := by decide +kernel
theorem dX8_drop_14 : decode cX8_drop 14 = .ok (.aload_n 0, 1) := by decide +kernel
theorem dX8_drop_15 : decode cX8_drop 15 = .ok (.getfield 13, 3) := by decide +kernel
theorem dX8_drop_18 : decode cX8_drop 18 = .ok (.iconst 0, 1) := by decide +kernel
theorem dX8_drop_19 : decode cX8_drop 19 = .ok (.iaload, 1) := by decide +kernel
theorem dX8_drop_20 : decode cX8_drop 20 = .ok (.iconst 1, 1) := by decide +kernel
theorem dX8_drop_21 : decode cX8_drop 21 = .ok (.isub, 1) := by decide +kernel
theorem dX8_drop_22 : decode cX8_drop 22 = .ok (.istore_n 2, 1) := by decide +kernel
theorem dX8_drop_23 : decode cX8_drop 23 = .ok (.iload_n 2, 1) := by decide +kernel
theorem dX8_drop_24 : decode cX8_drop 24 = .ok (.ifCond .le 44, 3) := by decide +kernel
theorem dX8_drop_27 : decode cX8_drop 27 = .ok (.ldc2_w 167, 3) := by decide +kernel
theorem dX8_drop_30 : decode cX8_drop 30 = .ok (.iload_n 1, 1) := by decide +kernel
theorem dX8_drop_31 : decode cX8_drop 31 = .ok (.i2l, 1) := by decide +kernel
theorem dX8_drop_32 : decode cX8_drop 32 = .ok (.lmul, 1) := by decide +kernel
theorem dX8_drop_33 : decode cX8_drop 33 = .ok (.ldc2_w 169, 3) := by decide +kernel
theorem dX8_drop_36 : decode cX8_drop 36 = .ok (.iload_n 2, 1) := by decide +kernel
theorem dX8_drop_37 : decode cX8_drop 37 = .ok (.i2l, 1) := by decide +kernel
theorem dX8_drop_38 : decode cX8_drop 38 = .ok (.lmul, 1) := by decide +kernel
theorem dX8_drop_39 : decode cX8_drop 39 = .ok (.ladd, 1) := by decide +kernel
theorem dX8_drop_40 : decode cX8_drop 40 = .ok (.lconst 1, 1) := by decide +kernel
theorem dX8_drop_41 : decode cX8_drop 41 = .ok (.ladd, 1) := by decide +kernel
theorem dX8_drop_42 : decode cX8_drop 42 = .ok (.lstore_n 3, 1) := by decide +kernel
theorem dX8_drop_43 : decode cX8_drop 43 = .ok (.aload_n 0, 1) := by decide +kernel
theorem dX8_drop_44 : decode cX8_drop 44 = .ok (.iload_n 2, 1) := by decide +kernel
theorem dX8_drop_45 : decode cX8_drop 45 = .ok (.lload_n 3, 1) := by decide +kernel
theorem dX8_drop_46 : decode cX8_drop 46 = .ok (.lload_n 3, 1) := by decide +kernel
theorem dX8_drop_47 : decode cX8_drop 47 = .ok (.lmul, 1) := by decide +kernel
theorem dX8_drop_48 : decode cX8_drop 48 = .ok (.ldc2_w 171, 3) := by decide +kernel
theorem dX8_drop_51 : decode cX8_drop 51 = .ok (.lrem, 1) := by decide +kernel
theorem dX8_drop_52 : decode cX8_drop 52 = .ok (.iload_n 2, 1) := by decide +kernel
theorem dX8_drop_53 : decode cX8_drop 53 = .ok (.iconst 1, 1) := by decide +kernel
theorem dX8_drop_54 : decode cX8_drop 54 = .ok (.iadd, 1) := by decide +kernel
theorem dX8_drop_55 : decode cX8_drop 55 = .ok (.i2l, 1) := by decide +kernel
theorem dX8_drop_56 : decode cX8_drop 56 = .ok (.lrem, 1) := by decide +kernel
theorem dX8_drop_57 : decode cX8_drop 57 = .ok (.l2i, 1) := by decide +kernel
theorem dX8_drop_58 : decode cX8_drop 58 = .ok (.invokevirtual 173, 3) := by decide +kernel
theorem dX8_drop_61 : decode cX8_drop 61 = .ok (.pop, 1) := by decide +kernel
theorem dX8_drop_62 : decode cX8_drop 62 = .ok (.iinc 2 (-1), 3) := by decide +kernel
theorem dX8_drop_65 : decode cX8_drop 65 = .ok (.goto (-42), 3) := by decide +kernel
theorem dX8_drop_68 : decode cX8_drop 68 = .ok (.aload_n 0, 1) := by decide +kernel
theorem dX8_drop_69 : decode cX8_drop 69 = .ok (.getfield 43, 3) := by decide +kernel
theorem dX8_drop_72 : decode cX8_drop 72 = .ok (.iconst 0, 1) := by decide +kernel
theorem dX8_drop_73 : decode cX8_drop 73 = .ok (.iconst 0, 1) := by decide +kernel
theorem dX8_drop_74 : decode cX8_drop 74 = .ok (.iastore, 1) := by decide +kernel
theorem dX8_drop_75 : decode cX8_drop 75 = .ok (.aload_n 0, 1) := by decide +kernel
theorem dX8_drop_76 : decode cX8_drop 76 = .ok (.getfield 40, 3) := by decide +kernel
theorem dX8_drop_79 : decode cX8_drop 79 = .ok (.iconst 0, 1) := by decide +kernel
theorem dX8_drop_80 : decode cX8_drop 80 = .ok (.iaload, 1) := by decide +kernel
theorem dX8_drop_81 : decode cX8_drop 81 = .ok (.ireturn, 1) := by decide +kernel
theorem dX8_layOne_0 : decode cX8_layOne 0 = .ok (.iconst 0, 1) := by decide +kernel
theorem dX8_layOne_1 : decode cX8_layOne 1 = .ok (.istore_n 1, 1) := by decide +kernel
theorem dX8_layOne_2 : decode cX8_layOne 2 = .ok (.iload_n 1, 1) := by decide +kernel
theorem dX8_layOne_3 : decode cX8_layOne 3 = .ok (.bipush 40, 2) := by decide +kernel
theorem dX8_layOne_5 : decode cX8_layOne 5 = .ok (.if_icmp .ge 16, 3) := by decide +kernel
theorem dX8_layOne_8 : decode cX8_layOne 8 = .ok (.aload_n 0, 1) := by decide +kernel
theorem dX8_layOne_9 : decode cX8_layOne 9 = .ok (.getfield 68, 3) := by decide +kernel
theorem dX8_layOne_12 : decode cX8_layOne 12 = .ok (.iload_n 1, 1) := by decide +kernel
theorem dX8_layOne_13 : decode cX8_layOne 13 = .ok (.iload_n 1, 1) := by decide +kernel
theorem dX8_layOne_14 : decode cX8_layOne 14 = .ok (.iastore, 1) := by decide +kernel
theorem dX8_layOne_15 : decode cX8_layOne 15 = .ok (.iinc 1 1, 3) := by decide +kernel
theorem dX8_layOne_18 : decode cX8_layOne 18 = .ok (.goto (-16), 3) := by decide +kernel
theorem dX8_layOne_21 : decode cX8_layOne 21 = .ok (.iconst 0, 1) := by decide +kernel
theorem dX8_layOne_22 : decode cX8_layOne 22 = .ok (.istore_n 1, 1) := by decide +kernel
theorem dX8_layOne_23 : decode cX8_layOne 23 = .ok (.iload_n 1, 1) := by decide +kernel
theorem dX8_layOne_24 : decode cX8_layOne 24 = .ok (.aload_n 0, 1) := by decide +kernel
theorem dX8_layOne_25 : decode cX8_layOne 25 = .ok (.getfield 16, 3) := by decide +kernel
theorem dX8_layOne_28 : decode cX8_layOne 28 = .ok (.iconst 0, 1) := by decide +kernel
theorem dX8_layOne_29 : decode cX8_layOne 29 = .ok (.iaload, 1) := by decide +kernel
theorem dX8_layOne_30 : decode cX8_layOne 30 = .ok (.if_icmp .ge 43, 3) := by decide +kernel
theorem dX8_layOne_33 : decode cX8_layOne 33 = .ok (.aload_n 0, 1) := by decide +kernel
theorem dX8_layOne_34 : decode cX8_layOne 34 = .ok (.getfield 65, 3) := by decide +kernel
theorem dX8_layOne_37 : decode cX8_layOne 37 = .ok (.iload_n 1, 1) := by decide +kernel
theorem dX8_layOne_38 : decode cX8_layOne 38 = .ok (.aload_n 0, 1) := by decide +kernel
theorem dX8_layOne_39 : decode cX8_layOne 39 = .ok (.getfield 68, 3) := by decide +kernel
theorem dX8_layOne_42 : decode cX8_layOne 42 = .ok (.iconst 0, 1) := by decide +kernel
theorem dX8_layOne_43 : decode cX8_layOne 43 = .ok (.iaload, 1) := by decide +kernel
theorem dX8_layOne_44 : decode cX8_layOne 44 = .ok (.iastore, 1) := by decide +kernel
theorem dX8_layOne_45 : decode cX8_layOne 45 = .ok (.aload_n 0, 1) := by decide +kernel
theorem dX8_layOne_46 : decode cX8_layOne 46 = .ok (.aload_n 0, 1) := by decide +kernel
theorem dX8_layOne_47 : decode cX8_layOne 47 = .ok (.getfield 68, 3) := by decide +kernel
theorem dX8_layOne_50 : decode cX8_layOne 50 = .ok (.iconst 0, 1) := by decide +kernel
theorem dX8_layOne_51 : decode cX8_layOne 51 = .ok (.aload_n 0, 1) := by decide +kernel
theorem dX8_layOne_52 : decode cX8_layOne 52 = .ok (.getfield 19, 3) := by decide +kernel
theorem dX8_layOne_55 : decode cX8_layOne 55 = .ok (.iconst 0, 1) := by decide +kernel
theorem dX8_layOne_56 : decode cX8_layOne 56 = .ok (.iaload, 1) := by decide +kernel
theorem dX8_layOne_57 : decode cX8_layOne 57 = .ok (.aload_n 0, 1) := by decide +kernel
theorem dX8_layOne_58 : decode cX8_layOne 58 = .ok (.getfield 22, 3) := by decide +kernel
theorem dX8_layOne_61 : decode cX8_layOne 61 = .ok (.iconst 0, 1) := by decide +kernel
theorem dX8_layOne_62 : decode cX8_layOne 62 = .ok (.iaload, 1) := by decide +kernel
theorem dX8_layOne_63 : decode cX8_layOne 63 = .ok (.iload_n 1, 1) := by decide +kernel
theorem dX8_layOne_64 : decode cX8_layOne 64 = .ok (.invokevirtual 158, 3) := by decide +kernel
theorem dX8_layOne_67 : decode cX8_layOne 67 = .ok (.iinc 1 1, 3) := by decide +kernel
theorem dX8_layOne_70 : decode cX8_layOne 70 = .ok (.goto (-47), 3) := by decide +kernel
theorem dX8_layOne_73 : decode cX8_layOne 73 = .ok (.return_, 1) := by decide +kernel
theorem dX8_put_0 : decode cX8_put 0 = .ok (.iconst 0, 1) := by decide +kernel
theorem dX8_put_1 : decode cX8_put 1 = .ok (.istore_n 3, 1) := by decide +kernel
theorem dX8_put_2 : decode cX8_put 2 = .ok (.iload_n 3, 1) := by decide +kernel
theorem dX8_put_3 : decode cX8_put 3 = .ok (.aload_n 0, 1) := by decide +kernel
theorem dX8_put_4 : decode cX8_put 4 = .ok (.getfield 13, 3) := by decide +kernel
theorem dX8_put_7 : decode cX8_put 7 = .ok (.iconst 0, 1) := by decide +kernel
theorem dX8_put_8 : decode cX8_put 8 = .ok (.iaload, 1) := by decide +kernel
theorem dX8_put_9 : decode cX8_put 9 = .ok (.if_icmp .ge 20, 3) := by decide +kernel
theorem dX8_put_12 : decode cX8_put 12 = .ok (.aload_n 0, 1) := by decide +kernel
theorem dX8_put_13 : decode cX8_put 13 = .ok (.getfield 77, 3) := by decide +kernel
theorem dX8_put_16 : decode cX8_put 16 = .ok (.iload_n 3, 1) := by decide +kernel
theorem dX8_put_17 : decode cX8_put 17 = .ok (.aload_n 1, 1) := by decide +kernel
theorem dX8_put_18 : decode cX8_put 18 = .ok (.aload_n 2, 1) := by decide +kernel
theorem dX8_put_19 : decode cX8_put 19 = .ok (.iload_n 3, 1) := by decide +kernel
theorem dX8_put_20 : decode cX8_put 20 = .ok (.iaload, 1) := by decide +kernel
theorem dX8_put_21 : decode cX8_put 21 = .ok (.iaload, 1) := by decide +kernel
theorem dX8_put_22 : decode cX8_put 22 = .ok (.iastore, 1) := by decide +kernel
theorem dX8_put_23 : decode cX8_put 23 = .ok (.iinc 3 1, 3) := by decide +kernel
theorem dX8_put_26 : decode cX8_put 26 = .ok (.goto (-24), 3) := by decide +kernel
theorem dX8_put_29 : decode cX8_put 29 = .ok (.iconst 0, 1) := by decide +kernel
theorem dX8_put_30 : decode cX8_put 30 = .ok (.istore_n 3, 1) := by decide +kernel
theorem dX8_put_31 : decode cX8_put 31 = .ok (.iload_n 3, 1) := by decide +kernel
theorem dX8_put_32 : decode cX8_put 32 = .ok (.aload_n 0, 1) := by decide +kernel
theorem dX8_put_33 : decode cX8_put 33 = .ok (.getfield 13, 3) := by decide +kernel
theorem dX8_put_36 : decode cX8_put 36 = .ok (.iconst 0, 1) := by decide +kernel
theorem dX8_put_37 : decode cX8_put 37 = .ok (.iaload, 1) := by decide +kernel
theorem dX8_put_38 : decode cX8_put 38 = .ok (.if_icmp .ge 18, 3) := by decide +kernel
theorem dX8_put_41 : decode cX8_put 41 = .ok (.aload_n 1, 1) := by decide +kernel
theorem dX8_put_42 : decode cX8_put 42 = .ok (.iload_n 3, 1) := by decide +kernel
theorem dX8_put_43 : decode cX8_put 43 = .ok (.aload_n 0, 1) := by decide +kernel
theorem dX8_put_44 : decode cX8_put 44 = .ok (.getfield 77, 3) := by decide +kernel
theorem dX8_put_47 : decode cX8_put 47 = .ok (.iload_n 3, 1) := by decide +kernel
theorem dX8_put_48 : decode cX8_put 48 = .ok (.iaload, 1) := by decide +kernel
theorem dX8_put_49 : decode cX8_put 49 = .ok (.iastore, 1) := by decide +kernel
theorem dX8_put_50 : decode cX8_put 50 = .ok (.iinc 3 1, 3) := by decide +kernel
theorem dX8_put_53 : decode cX8_put 53 = .ok (.goto (-22), 3) := by decide +kernel
theorem dX8_put_56 : decode cX8_put 56 = .ok (.return_, 1) := by decide +kernel
theorem dX8_layPower_0 : decode cX8_layPower 0 = .ok (.iconst 0, 1) := by decide +kernel
theorem dX8_layPower_1 : decode cX8_layPower 1 = .ok (.istore_n 3, 1) := by decide +kernel
theorem dX8_layPower_2 : decode cX8_layPower 2 = .ok (.iload_n 3, 1) := by decide +kernel
theorem dX8_layPower_3 : decode cX8_layPower 3 = .ok (.bipush 40, 2) := by decide +kernel
theorem dX8_layPower_5 : decode cX8_layPower 5 = .ok (.if_icmp .ge 28, 3) := by decide +kernel
theorem dX8_layPower_8 : decode cX8_layPower 8 = .ok (.aload_n 0, 1) := by decide +kernel
theorem dX8_layPower_9 : decode cX8_layPower 9 = .ok (.getfield 71, 3) := by decide +kernel
theorem dX8_layPower_12 : decode cX8_layPower 12 = .ok (.iload_n 3, 1) := by decide +kernel
theorem dX8_layPower_13 : decode cX8_layPower 13 = .ok (.iload_n 3, 1) := by decide +kernel
theorem dX8_layPower_14 : decode cX8_layPower 14 = .ok (.iastore, 1) := by decide +kernel
theorem dX8_layPower_15 : decode cX8_layPower 15 = .ok (.aload_n 0, 1) := by decide +kernel
theorem dX8_layPower_16 : decode cX8_layPower 16 = .ok (.getfield 74, 3) := by decide +kernel
theorem dX8_layPower_19 : decode cX8_layPower 19 = .ok (.iload_n 3, 1) := by decide +kernel
theorem dX8_layPower_20 : decode cX8_layPower 20 = .ok (.aload_n 0, 1) := by decide +kernel
theorem dX8_layPower_21 : decode cX8_layPower 21 = .ok (.getfield 68, 3) := by decide +kernel
theorem dX8_layPower_24 : decode cX8_layPower 24 = .ok (.iload_n 3, 1) := by decide +kernel
theorem dX8_layPower_25 : decode cX8_layPower 25 = .ok (.iaload, 1) := by decide +kernel
theorem dX8_layPower_26 : decode cX8_layPower 26 = .ok (.iastore, 1) := by decide +kernel
theorem dX8_layPower_27 : decode cX8_layPower 27 = .ok (.iinc 3 1, 3) := by decide +kernel
theorem dX8_layPower_30 : decode cX8_layPower 30 = .ok (.goto (-28), 3) := by decide +kernel
theorem dX8_layPower_33 : decode cX8_layPower 33 = .ok (.lload_n 1, 1) := by decide +kernel
theorem dX8_layPower_34 : decode cX8_layPower 34 = .ok (.lstore_n 3, 1) := by decide +kernel
theorem dX8_layPower_35 : decode cX8_layPower 35 = .ok (.lload_n 3, 1) := by decide +kernel
theorem dX8_layPower_36 : decode cX8_layPower 36 = .ok (.lconst 0, 1) := by decide +kernel
theorem dX8_layPower_37 : decode cX8_layPower 37 = .ok (.lcmp, 1) := by decide +kernel
theorem dX8_layPower_38 : decode cX8_layPower 38 = .ok (.ifCond .le 46, 3) := by decide +kernel
theorem dX8_layPower_41 : decode cX8_layPower 41 = .ok (.lload_n 3, 1) := by decide +kernel
theorem dX8_layPower_42 : decode cX8_layPower 42 = .ok (.ldc2_w 119, 3) := by decide +kernel
theorem dX8_layPower_45 : decode cX8_layPower 45 = .ok (.lrem, 1) := by decide +kernel
theorem dX8_layPower_46 : decode cX8_layPower 46 = .ok (.lconst 1, 1) := by decide +kernel
theorem dX8_layPower_47 : decode cX8_layPower 47 = .ok (.lcmp, 1) := by decide +kernel
theorem dX8_layPower_48 : decode cX8_layPower 48 = .ok (.ifCond .ne 15, 3) := by decide +kernel
theorem dX8_layPower_51 : decode cX8_layPower 51 = .ok (.aload_n 0, 1) := by decide +kernel
theorem dX8_layPower_52 : decode cX8_layPower 52 = .ok (.aload_n 0, 1) := by decide +kernel
theorem dX8_layPower_53 : decode cX8_layPower 53 = .ok (.getfield 71, 3) := by decide +kernel
theorem dX8_layPower_56 : decode cX8_layPower 56 = .ok (.aload_n 0, 1) := by decide +kernel
theorem dX8_layPower_57 : decode cX8_layPower 57 = .ok (.getfield 74, 3) := by decide +kernel
theorem dX8_layPower_60 : decode cX8_layPower 60 = .ok (.invokevirtual 177, 3) := by decide +kernel
theorem dX8_layPower_63 : decode cX8_layPower 63 = .ok (.aload_n 0, 1) := by decide +kernel
theorem dX8_layPower_64 : decode cX8_layPower 64 = .ok (.aload_n 0, 1) := by decide +kernel
theorem dX8_layPower_65 : decode cX8_layPower 65 = .ok (.getfield 74, 3) := by decide +kernel
theorem dX8_layPower_68 : decode cX8_layPower 68 = .ok (.aload_n 0, 1) := by decide +kernel
theorem dX8_layPower_69 : decode cX8_layPower 69 = .ok (.getfield 74, 3) := by decide +kernel
theorem dX8_layPower_72 : decode cX8_layPower 72 = .ok (.invokevirtual 177, 3) := by decide +kernel
theorem dX8_layPower_75 : decode cX8_layPower 75 = .ok (.lload_n 3, 1) := by decide +kernel
theorem dX8_layPower_76 : decode cX8_layPower 76 = .ok (.ldc2_w 119, 3) := by decide +kernel
theorem dX8_layPower_79 : decode cX8_layPower 79 = .ok (.ldiv, 1) := by decide +kernel
theorem dX8_layPower_80 : decode cX8_layPower 80 = .ok (.lstore_n 3, 1) := by decide +kernel
theorem dX8_layPower_81 : decode cX8_layPower 81 = .ok (.goto (-46), 3) := by decide +kernel
theorem dX8_layPower_84 : decode cX8_layPower 84 = .ok (.return_, 1) := by decide +kernel
theorem dX8_placeOf_0 : decode cX8_placeOf 0 = .ok (.aload_n 0, 1) := by decide +kernel
theorem dX8_placeOf_1 : decode cX8_placeOf 1 = .ok (.getfield 71, 3) := by decide +kernel
theorem dX8_placeOf_4 : decode cX8_placeOf 4 = .ok (.aload_n 0, 1) := by decide +kernel
theorem dX8_placeOf_5 : decode cX8_placeOf 5 = .ok (.getfield 65, 3) := by decide +kernel
theorem dX8_placeOf_8 : decode cX8_placeOf 8 = .ok (.iload_n 1, 1) := by decide +kernel
theorem dX8_placeOf_9 : decode cX8_placeOf 9 = .ok (.iaload, 1) := by decide +kernel
theorem dX8_placeOf_10 : decode cX8_placeOf 10 = .ok (.iaload, 1) := by decide +kernel
theorem dX8_placeOf_11 : decode cX8_placeOf 11 = .ok (.ireturn, 1) := by decide +kernel
theorem dX8_isReader_0 : decode cX8_isReader 0 = .ok (.lload_n 0, 1) := by decide +kernel
theorem dX8_isReader_1 : decode cX8_isReader 1 = .ok (.lconst 0, 1) := by decide +kernel
theorem dX8_isReader_2 : decode cX8_isReader 2 = .ok (.ldc2_w 181, 3) := by decide +kernel
theorem dX8_isReader_5 : decode cX8_isReader 5 = .ok (.invokestatic 98, 3) := by decide +kernel
theorem dX8_isReader_8 : decode cX8_isReader 8 = .ok (.ireturn, 1) := by decide +kernel
theorem dX8_has_0 : decode cX8_has 0 = .ok (.lload_n 1, 1) := by decide +kernel
theorem dX8_has_1 : decode cX8_has 1 = .ok (.invokestatic 183, 3) := by decide +kernel
theorem dX8_has_4 : decode cX8_has 4 = .ok (.ifCond .eq 21, 3) := by decide +kernel
theorem dX8_has_7 : decode cX8_has 7 = .ok (.iload_n 3, 1) := by decide +kernel
theorem dX8_has_8 : decode cX8_has 8 = .ok (.i2l, 1) := by decide +kernel
theorem dX8_has_9 : decode cX8_has 9 = .ok (.lconst 0, 1) := by decide +kernel
theorem dX8_has_10 : decode cX8_has 10 = .ok (.aload_n 0, 1) := by decide +kernel
theorem dX8_has_11 : decode cX8_has 11 = .ok (.getfield 16, 3) := by decide +kernel
theorem dX8_has_14 : decode cX8_has 14 = .ok (.iconst 0, 1) := by decide +kernel
theorem dX8_has_15 : decode cX8_has 15 = .ok (.iaload, 1) := by decide +kernel
theorem dX8_has_16 : decode cX8_has 16 = .ok (.iconst 1, 1) := by decide +kernel
theorem dX8_has_17 : decode cX8_has 17 = .ok (.isub, 1) := by decide +kernel
theorem dX8_has_18 : decode cX8_has 18 = .ok (.i2l, 1) := by decide +kernel
theorem dX8_has_19 : decode cX8_has 19 = .ok (.invokestatic 98, 3) := by decide +kernel
theorem dX8_has_22 : decode cX8_has 22 = .ok (.ifCond .ne 5, 3) := by decide +kernel
theorem dX8_has_25 : decode cX8_has 25 = .ok (.iconst (-1), 1) := by decide +kernel
theorem dX8_has_26 : decode cX8_has 26 = .ok (.ireturn, 1) := by decide +kernel
theorem dX8_has_27 : decode cX8_has 27 = .ok (.aload_n 0, 1) := by decide +kernel
theorem dX8_has_28 : decode cX8_has 28 = .ok (.lload_n 1, 1) := by decide +kernel
theorem dX8_has_29 : decode cX8_has 29 = .ok (.invokevirtual 187, 3) := by decide +kernel
theorem dX8_has_32 : decode cX8_has 32 = .ok (.aload_n 0, 1) := by decide +kernel
theorem dX8_has_33 : decode cX8_has 33 = .ok (.getfield 37, 3) := by decide +kernel
theorem dX8_has_36 : decode cX8_has 36 = .ok (.aload_n 0, 1) := by decide +kernel
theorem dX8_has_37 : decode cX8_has 37 = .ok (.iload_n 3, 1) := by decide +kernel
theorem dX8_has_38 : decode cX8_has 38 = .ok (.invokevirtual 191, 3) := by decide +kernel
theorem dX8_has_41 : decode cX8_has 41 = .ok (.iaload, 1) := by decide +kernel
theorem dX8_has_42 : decode cX8_has 42 = .ok (.ireturn, 1) := by decide +kernel
theorem dX8_leavesNow_0 : decode cX8_leavesNow 0 = .ok (.lconst 0, 1) := by decide +kernel
theorem dX8_leavesNow_1 : decode cX8_leavesNow 1 = .ok (.lstore_n 1, 1) := by decide +kernel
theorem dX8_leavesNow_2 : decode cX8_leavesNow 2 = .ok (.iconst 0, 1) := by decide +kernel
theorem dX8_leavesNow_3 : decode cX8_leavesNow 3 = .ok (.istore_n 3, 1) := by decide +kernel
theorem dX8_leavesNow_4 : decode cX8_leavesNow 4 = .ok (.iload_n 3, 1) := by decide +kernel
theorem dX8_leavesNow_5 : decode cX8_leavesNow 5 = .ok (.aload_n 0, 1) := by decide +kernel
theorem dX8_leavesNow_6 : decode cX8_leavesNow 6 = .ok (.getfield 16, 3) := by decide +kernel
theorem dX8_leavesNow_9 : decode cX8_leavesNow 9 = .ok (.iconst 0, 1) := by decide +kernel
theorem dX8_leavesNow_10 : decode cX8_leavesNow 10 = .ok (.iaload, 1) := by decide +kernel
theorem dX8_leavesNow_11 : decode cX8_leavesNow 11 = .ok (.if_icmp .ge 24, 3) := by decide +kernel
theorem dX8_leavesNow_14 : decode cX8_leavesNow 14 = .ok (.lload_n 1, 1) := by decide +kernel
theorem dX8_leavesNow_15 : decode cX8_leavesNow 15 = .ok (.lconst 1, 1) := by decide +kernel
theorem dX8_leavesNow_16 : decode cX8_leavesNow 16 = .ok (.aload_n 0, 1) := by decide +kernel
theorem dX8_leavesNow_17 : decode cX8_leavesNow 17 = .ok (.getfield 37, 3) := by decide +kernel
theorem dX8_leavesNow_20 : decode cX8_leavesNow 20 = .ok (.aload_n 0, 1) := by decide +kernel
theorem dX8_leavesNow_21 : decode cX8_leavesNow 21 = .ok (.iload_n 3, 1) := by decide +kernel
theorem dX8_leavesNow_22 : decode cX8_leavesNow 22 = .ok (.invokevirtual 191, 3) := by decide +kernel
theorem dX8_leavesNow_25 : decode cX8_leavesNow 25 = .ok (.iaload, 1) := by decide +kernel
theorem dX8_leavesNow_26 : decode cX8_leavesNow 26 = .ok (.lshl, 1) := by decide +kernel
theorem dX8_leavesNow_27 : decode cX8_leavesNow 27 = .ok (.lor, 1) := by decide +kernel
theorem dX8_leavesNow_28 : decode cX8_leavesNow 28 = .ok (.lstore_n 1, 1) := by decide +kernel
theorem dX8_leavesNow_29 : decode cX8_leavesNow 29 = .ok (.iinc 3 1, 3) := by decide +kernel
theorem dX8_leavesNow_32 : decode cX8_leavesNow 32 = .ok (.goto (-28), 3) := by decide +kernel
theorem dX8_leavesNow_35 : decode cX8_leavesNow 35 = .ok (.lload_n 1, 1) := by decide +kernel
theorem dX8_leavesNow_36 : decode cX8_leavesNow 36 = .ok (.lreturn, 1) := by decide +kernel
theorem dX8_leaves_0 : decode cX8_leaves 0 = .ok (.lload_n 1, 1) := by decide +kernel
theorem dX8_leaves_1 : decode cX8_leaves 1 = .ok (.invokestatic 183, 3) := by decide +kernel
theorem dX8_leaves_4 : decode cX8_leaves 4 = .ok (.ifCond .ne 7, 3) := by decide +kernel
theorem dX8_leaves_7 : decode cX8_leaves 7 = .ok (.ldc2_w 194, 3) := by decide +kernel
theorem dX8_leaves_10 : decode cX8_leaves 10 = .ok (.lreturn, 1) := by decide +kernel
theorem dX8_leaves_11 : decode cX8_leaves 11 = .ok (.aload_n 0, 1) := by decide +kernel
theorem dX8_leaves_12 : decode cX8_leaves 12 = .ok (.lload_n 1, 1) := by decide +kernel
theorem dX8_leaves_13 : decode cX8_leaves 13 = .ok (.invokevirtual 187, 3) := by decide +kernel
theorem dX8_leaves_16 : decode cX8_leaves 16 = .ok (.aload_n 0, 1) := by decide +kernel
theorem dX8_leaves_17 : decode cX8_leaves 17 = .ok (.invokevirtual 196, 3) := by decide +kernel
theorem dX8_leaves_20 : decode cX8_leaves 20 = .ok (.lreturn, 1) := by decide +kernel
theorem dX8_isAtFirst_0 : decode cX8_isAtFirst 0 = .ok (.iconst 1, 1) := by decide +kernel
theorem dX8_isAtFirst_1 : decode cX8_isAtFirst 1 = .ok (.istore_n 1, 1) := by decide +kernel
theorem dX8_isAtFirst_2 : decode cX8_isAtFirst 2 = .ok (.iconst 0, 1) := by decide +kernel
theorem dX8_isAtFirst_3 : decode cX8_isAtFirst 3 = .ok (.istore_n 2, 1) := by decide +kernel
theorem dX8_isAtFirst_4 : decode cX8_isAtFirst 4 = .ok (.iload_n 2, 1) := by decide +kernel
theorem dX8_isAtFirst_5 : decode cX8_isAtFirst 5 = .ok (.aload_n 0, 1) := by decide +kernel
theorem dX8_isAtFirst_6 : decode cX8_isAtFirst 6 = .ok (.getfield 13, 3) := by decide +kernel
theorem dX8_isAtFirst_9 : decode cX8_isAtFirst 9 = .ok (.iconst 0, 1) := by decide +kernel
theorem dX8_isAtFirst_10 : decode cX8_isAtFirst 10 = .ok (.iaload, 1) := by decide +kernel
theorem dX8_isAtFirst_11 : decode cX8_isAtFirst 11 = .ok (.if_icmp .ge 29, 3) := by decide +kernel
theorem dX8_isAtFirst_14 : decode cX8_isAtFirst 14 = .ok (.iload_n 1, 1) := by decide +kernel
theorem dX8_isAtFirst_15 : decode cX8_isAtFirst 15 = .ok (.ifCond .eq 17, 3) := by decide +kernel
theorem dX8_isAtFirst_18 : decode cX8_isAtFirst 18 = .ok (.aload_n 0, 1) := by decide +kernel
theorem dX8_isAtFirst_19 : decode cX8_isAtFirst 19 = .ok (.getfield 71, 3) := by decide +kernel
theorem dX8_isAtFirst_22 : decode cX8_isAtFirst 22 = .ok (.iload_n 2, 1) := by decide +kernel
theorem dX8_isAtFirst_23 : decode cX8_isAtFirst 23 = .ok (.iaload, 1) := by decide +kernel
theorem dX8_isAtFirst_24 : decode cX8_isAtFirst 24 = .ok (.iload_n 2, 1) := by decide +kernel
theorem dX8_isAtFirst_25 : decode cX8_isAtFirst 25 = .ok (.if_icmp .ne 7, 3) := by decide +kernel
theorem dX8_isAtFirst_28 : decode cX8_isAtFirst 28 = .ok (.iconst 1, 1) := by decide +kernel
theorem dX8_isAtFirst_29 : decode cX8_isAtFirst 29 = .ok (.goto 4, 3) := by decide +kernel
theorem dX8_isAtFirst_32 : decode cX8_isAtFirst 32 = .ok (.iconst 0, 1) := by decide +kernel
theorem dX8_isAtFirst_33 : decode cX8_isAtFirst 33 = .ok (.istore_n 1, 1) := by decide +kernel
theorem dX8_isAtFirst_34 : decode cX8_isAtFirst 34 = .ok (.iinc 2 1, 3) := by decide +kernel
theorem dX8_isAtFirst_37 : decode cX8_isAtFirst 37 = .ok (.goto (-33), 3) := by decide +kernel
theorem dX8_isAtFirst_40 : decode cX8_isAtFirst 40 = .ok (.iload_n 1, 1) := by decide +kernel
theorem dX8_isAtFirst_41 : decode cX8_isAtFirst 41 = .ok (.ireturn, 1) := by decide +kernel
theorem dX8_period_0 : decode cX8_period 0 = .ok (.aload_n 0, 1) := by decide +kernel
theorem dX8_period_1 : decode cX8_period 1 = .ok (.lconst 1, 1) := by decide +kernel
theorem dX8_period_2 : decode cX8_period 2 = .ok (.invokevirtual 187, 3) := by decide +kernel
theorem dX8_period_5 : decode cX8_period 5 = .ok (.iconst 1, 1) := by decide +kernel
theorem dX8_period_6 : decode cX8_period 6 = .ok (.istore_n 1, 1) := by decide +kernel
theorem dX8_period_7 : decode cX8_period 7 = .ok (.aload_n 0, 1) := by decide +kernel
theorem dX8_period_8 : decode cX8_period 8 = .ok (.invokevirtual 200, 3) := by decide +kernel
theorem dX8_period_11 : decode cX8_period 11 = .ok (.ifCond .ne 21, 3) := by decide +kernel
theorem dX8_period_14 : decode cX8_period 14 = .ok (.aload_n 0, 1) := by decide +kernel
theorem dX8_period_15 : decode cX8_period 15 = .ok (.aload_n 0, 1) := by decide +kernel
theorem dX8_period_16 : decode cX8_period 16 = .ok (.getfield 71, 3) := by decide +kernel
theorem dX8_period_19 : decode cX8_period 19 = .ok (.aload_n 0, 1) := by decide +kernel
theorem dX8_period_20 : decode cX8_period 20 = .ok (.getfield 68, 3) := by decide +kernel
theorem dX8_period_23 : decode cX8_period 23 = .ok (.invokevirtual 177, 3) := by decide +kernel
theorem dX8_period_26 : decode cX8_period 26 = .ok (.iinc 1 1, 3) := by decide +kernel
theorem dX8_period_29 : decode cX8_period 29 = .ok (.goto (-22), 3) := by decide +kernel
theorem dX8_period_32 : decode cX8_period 32 = .ok (.iload_n 1, 1) := by decide +kernel
theorem dX8_period_33 : decode cX8_period 33 = .ok (.ireturn, 1) := by decide +kernel
theorem dX8_ever_0 : decode cX8_ever 0 = .ok (.iload_n 1, 1) := by decide +kernel
theorem dX8_ever_1 : decode cX8_ever 1 = .ok (.i2l, 1) := by decide +kernel
theorem dX8_ever_2 : decode cX8_ever 2 = .ok (.lconst 0, 1) := by decide +kernel
theorem dX8_ever_3 : decode cX8_ever 3 = .ok (.lconst 1, 1) := by decide +kernel
theorem dX8_ever_4 : decode cX8_ever 4 = .ok (.invokestatic 98, 3) := by decide +kernel
theorem dX8_ever_7 : decode cX8_ever 7 = .ok (.ifCond .ne 7, 3) := by decide +kernel
theorem dX8_ever_10 : decode cX8_ever 10 = .ok (.ldc2_w 194, 3) := by decide +kernel
theorem dX8_ever_13 : decode cX8_ever 13 = .ok (.lreturn, 1) := by decide +kernel
theorem dX8_ever_14 : decode cX8_ever 14 = .ok (.aload_n 0, 1) := by decide +kernel
theorem dX8_ever_15 : decode cX8_ever 15 = .ok (.invokevirtual 203, 3) := by decide +kernel
theorem dX8_ever_18 : decode cX8_ever 18 = .ok (.istore_n 2, 1) := by decide +kernel
theorem dX8_ever_19 : decode cX8_ever 19 = .ok (.lconst 1, 1) := by decide +kernel
theorem dX8_ever_20 : decode cX8_ever 20 = .ok (.aload_n 0, 1) := by decide +kernel
theorem dX8_ever_21 : decode cX8_ever 21 = .ok (.getfield 13, 3) := by decide +kernel
theorem dX8_ever_24 : decode cX8_ever 24 = .ok (.iconst 0, 1) := by decide +kernel
theorem dX8_ever_25 : decode cX8_ever 25 = .ok (.iaload, 1) := by decide +kernel
theorem dX8_ever_26 : decode cX8_ever 26 = .ok (.lshl, 1) := by decide +kernel
theorem dX8_ever_27 : decode cX8_ever 27 = .ok (.lconst 1, 1) := by decide +kernel
theorem dX8_ever_28 : decode cX8_ever 28 = .ok (.lsub, 1) := by decide +kernel
theorem dX8_ever_29 : decode cX8_ever 29 = .ok (.lstore_n 3, 1) := by decide +kernel
theorem dX8_ever_30 : decode cX8_ever 30 = .ok (.lconst 0, 1) := by decide +kernel
theorem dX8_ever_31 : decode cX8_ever 31 = .ok (.lstore 5, 2) := by decide +kernel
theorem dX8_ever_33 : decode cX8_ever 33 = .ok (.lload_n 3, 1) := by decide +kernel
theorem dX8_ever_34 : decode cX8_ever 34 = .ok (.lstore 7, 2) := by decide +kernel
theorem dX8_ever_36 : decode cX8_ever 36 = .ok (.aload_n 0, 1) := by decide +kernel
theorem dX8_ever_37 : decode cX8_ever 37 = .ok (.lconst 0, 1) := by decide +kernel
theorem dX8_ever_38 : decode cX8_ever 38 = .ok (.invokevirtual 187, 3) := by decide +kernel
theorem dX8_ever_41 : decode cX8_ever 41 = .ok (.iconst 0, 1) := by decide +kernel
theorem dX8_ever_42 : decode cX8_ever 42 = .ok (.istore 9, 2) := by decide +kernel
theorem dX8_ever_44 : decode cX8_ever 44 = .ok (.iload 9, 2) := by decide +kernel
theorem dX8_ever_46 : decode cX8_ever 46 = .ok (.iload_n 2, 1) := by decide +kernel
theorem dX8_ever_47 : decode cX8_ever 47 = .ok (.if_icmp .ge 39, 3) := by decide +kernel
theorem dX8_ever_50 : decode cX8_ever 50 = .ok (.lload 5, 2) := by decide +kernel
theorem dX8_ever_52 : decode cX8_ever 52 = .ok (.aload_n 0, 1) := by decide +kernel
theorem dX8_ever_53 : decode cX8_ever 53 = .ok (.invokevirtual 196, 3) := by decide +kernel
theorem dX8_ever_56 : decode cX8_ever 56 = .ok (.lor, 1) := by decide +kernel
theorem dX8_ever_57 : decode cX8_ever 57 = .ok (.lstore 5, 2) := by decide +kernel
theorem dX8_ever_59 : decode cX8_ever 59 = .ok (.lload 7, 2) := by decide +kernel
theorem dX8_ever_61 : decode cX8_ever 61 = .ok (.aload_n 0, 1) := by decide +kernel
theorem dX8_ever_62 : decode cX8_ever 62 = .ok (.invokevirtual 196, 3) := by decide +kernel
theorem dX8_ever_65 : decode cX8_ever 65 = .ok (.land, 1) := by decide +kernel
theorem dX8_ever_66 : decode cX8_ever 66 = .ok (.lstore 7, 2) := by decide +kernel
theorem dX8_ever_68 : decode cX8_ever 68 = .ok (.aload_n 0, 1) := by decide +kernel
theorem dX8_ever_69 : decode cX8_ever 69 = .ok (.aload_n 0, 1) := by decide +kernel
theorem dX8_ever_70 : decode cX8_ever 70 = .ok (.getfield 71, 3) := by decide +kernel
theorem dX8_ever_73 : decode cX8_ever 73 = .ok (.aload_n 0, 1) := by decide +kernel
theorem dX8_ever_74 : decode cX8_ever 74 = .ok (.getfield 68, 3) := by decide +kernel
theorem dX8_ever_77 : decode cX8_ever 77 = .ok (.invokevirtual 177, 3) := by decide +kernel
theorem dX8_ever_80 : decode cX8_ever 80 = .ok (.iinc 9 1, 3) := by decide +kernel
theorem dX8_ever_83 : decode cX8_ever 83 = .ok (.goto (-39), 3) := by decide +kernel
theorem dX8_ever_86 : decode cX8_ever 86 = .ok (.iload_n 1, 1) := by decide +kernel
theorem dX8_ever_87 : decode cX8_ever 87 = .ok (.ifCond .ne 14, 3) := by decide +kernel
theorem dX8_ever_90 : decode cX8_ever 90 = .ok (.lload_n 3, 1) := by decide +kernel
theorem dX8_ever_91 : decode cX8_ever 91 = .ok (.lload 5, 2) := by decide +kernel
theorem dX8_ever_93 : decode cX8_ever 93 = .ok (.ldc2_w 194, 3) := by decide +kernel
theorem dX8_ever_96 : decode cX8_ever 96 = .ok (.lxor, 1) := by decide +kernel
theorem dX8_ever_97 : decode cX8_ever 97 = .ok (.land, 1) := by decide +kernel
theorem dX8_ever_98 : decode cX8_ever 98 = .ok (.goto 5, 3) := by decide +kernel
theorem dX8_ever_101 : decode cX8_ever 101 = .ok (.lload 7, 2) := by decide +kernel
theorem dX8_ever_103 : decode cX8_ever 103 = .ok (.lreturn, 1) := by decide +kernel
theorem dX8_lesser_0 : decode cX8_lesser 0 = .ok (.aload_n 0, 1) := by decide +kernel
theorem dX8_lesser_1 : decode cX8_lesser 1 = .ok (.getfield 16, 3) := by decide +kernel
theorem dX8_lesser_4 : decode cX8_lesser 4 = .ok (.iconst 0, 1) := by decide +kernel
theorem dX8_lesser_5 : decode cX8_lesser 5 = .ok (.iaload, 1) := by decide +kernel
theorem dX8_lesser_6 : decode cX8_lesser 6 = .ok (.aload_n 0, 1) := by decide +kernel
theorem dX8_lesser_7 : decode cX8_lesser 7 = .ok (.getfield 31, 3) := by decide +kernel
theorem dX8_lesser_10 : decode cX8_lesser 10 = .ok (.iconst 0, 1) := by decide +kernel
theorem dX8_lesser_11 : decode cX8_lesser 11 = .ok (.iaload, 1) := by decide +kernel
theorem dX8_lesser_12 : decode cX8_lesser 12 = .ok (.if_icmp .ge 12, 3) := by decide +kernel
theorem dX8_lesser_15 : decode cX8_lesser 15 = .ok (.aload_n 0, 1) := by decide +kernel
theorem dX8_lesser_16 : decode cX8_lesser 16 = .ok (.getfield 16, 3) := by decide +kernel
theorem dX8_lesser_19 : decode cX8_lesser 19 = .ok (.iconst 0, 1) := by decide +kernel
theorem dX8_lesser_20 : decode cX8_lesser 20 = .ok (.iaload, 1) := by decide +kernel
theorem dX8_lesser_21 : decode cX8_lesser 21 = .ok (.goto 9, 3) := by decide +kernel
theorem dX8_lesser_24 : decode cX8_lesser 24 = .ok (.aload_n 0, 1) := by decide +kernel
theorem dX8_lesser_25 : decode cX8_lesser 25 = .ok (.getfield 31, 3) := by decide +kernel
theorem dX8_lesser_28 : decode cX8_lesser 28 = .ok (.iconst 0, 1) := by decide +kernel
theorem dX8_lesser_29 : decode cX8_lesser 29 = .ok (.iaload, 1) := by decide +kernel
theorem dX8_lesser_30 : decode cX8_lesser 30 = .ok (.ireturn, 1) := by decide +kernel
theorem dX8_right_0 : decode cX8_right 0 = .ok (.lload_n 1, 1) := by decide +kernel
theorem dX8_right_1 : decode cX8_right 1 = .ok (.invokestatic 183, 3) := by decide +kernel
theorem dX8_right_4 : decode cX8_right 4 = .ok (.ifCond .ne 5, 3) := by decide +kernel
theorem dX8_right_7 : decode cX8_right 7 = .ok (.iconst (-1), 1) := by decide +kernel
theorem dX8_right_8 : decode cX8_right 8 = .ok (.ireturn, 1) := by decide +kernel
theorem dX8_right_9 : decode cX8_right 9 = .ok (.aload_n 0, 1) := by decide +kernel
theorem dX8_right_10 : decode cX8_right 10 = .ok (.lload_n 1, 1) := by decide +kernel
theorem dX8_right_11 : decode cX8_right 11 = .ok (.invokevirtual 187, 3) := by decide +kernel
theorem dX8_right_14 : decode cX8_right 14 = .ok (.iconst 0, 1) := by decide +kernel
theorem dX8_right_15 : decode cX8_right 15 = .ok (.istore_n 3, 1) := by decide +kernel
theorem dX8_right_16 : decode cX8_right 16 = .ok (.iconst 0, 1) := by decide +kernel
theorem dX8_right_17 : decode cX8_right 17 = .ok (.istore 4, 2) := by decide +kernel
theorem dX8_right_19 : decode cX8_right 19 = .ok (.iload 4, 2) := by decide +kernel
theorem dX8_right_21 : decode cX8_right 21 = .ok (.aload_n 0, 1) := by decide +kernel
theorem dX8_right_22 : decode cX8_right 22 = .ok (.invokevirtual 206, 3) := by decide +kernel
theorem dX8_right_25 : decode cX8_right 25 = .ok (.if_icmp .ge 38, 3) := by decide +kernel
theorem dX8_right_28 : decode cX8_right 28 = .ok (.iload_n 3, 1) := by decide +kernel
theorem dX8_right_29 : decode cX8_right 29 = .ok (.aload_n 0, 1) := by decide +kernel
theorem dX8_right_30 : decode cX8_right 30 = .ok (.getfield 37, 3) := by decide +kernel
theorem dX8_right_33 : decode cX8_right 33 = .ok (.aload_n 0, 1) := by decide +kernel
theorem dX8_right_34 : decode cX8_right 34 = .ok (.iload 4, 2) := by decide +kernel
theorem dX8_right_36 : decode cX8_right 36 = .ok (.invokevirtual 191, 3) := by decide +kernel
theorem dX8_right_39 : decode cX8_right 39 = .ok (.iaload, 1) := by decide +kernel
theorem dX8_right_40 : decode cX8_right 40 = .ok (.aload_n 0, 1) := by decide +kernel
theorem dX8_right_41 : decode cX8_right 41 = .ok (.getfield 34, 3) := by decide +kernel
theorem dX8_right_44 : decode cX8_right 44 = .ok (.iload 4, 2) := by decide +kernel
theorem dX8_right_46 : decode cX8_right 46 = .ok (.iaload, 1) := by decide +kernel
theorem dX8_right_47 : decode cX8_right 47 = .ok (.if_icmp .ne 7, 3) := by decide +kernel
theorem dX8_right_50 : decode cX8_right 50 = .ok (.iconst 1, 1) := by decide +kernel
theorem dX8_right_51 : decode cX8_right 51 = .ok (.goto 4, 3) := by decide +kernel
theorem dX8_right_54 : decode cX8_right 54 = .ok (.iconst 0, 1) := by decide +kernel
theorem dX8_right_55 : decode cX8_right 55 = .ok (.iadd, 1) := by decide +kernel
theorem dX8_right_56 : decode cX8_right 56 = .ok (.istore_n 3, 1) := by decide +kernel
theorem dX8_right_57 : decode cX8_right 57 = .ok (.iinc 4 1, 3) := by decide +kernel
theorem dX8_right_60 : decode cX8_right 60 = .ok (.goto (-41), 3) := by decide +kernel
theorem dX8_right_63 : decode cX8_right 63 = .ok (.iload_n 3, 1) := by decide +kernel
theorem dX8_right_64 : decode cX8_right 64 = .ok (.ireturn, 1) := by decide +kernel
theorem dX8_noOrder_0 : decode cX8_noOrder 0 = .ok (.aload_n 0, 1) := by decide +kernel
theorem dX8_noOrder_1 : decode cX8_noOrder 1 = .ok (.iconst 0, 1) := by decide +kernel
theorem dX8_noOrder_2 : decode cX8_noOrder 2 = .ok (.putfield 209, 3) := by decide +kernel
theorem dX8_noOrder_5 : decode cX8_noOrder 5 = .ok (.iconst 0, 1) := by decide +kernel
theorem dX8_noOrder_6 : decode cX8_noOrder 6 = .ok (.istore_n 1, 1) := by decide +kernel
theorem dX8_noOrder_7 : decode cX8_noOrder 7 = .ok (.iload_n 1, 1) := by decide +kernel
theorem dX8_noOrder_8 : decode cX8_noOrder 8 = .ok (.bipush 40, 2) := by decide +kernel
theorem dX8_noOrder_10 : decode cX8_noOrder 10 = .ok (.if_icmp .ge 25, 3) := by decide +kernel
theorem dX8_noOrder_13 : decode cX8_noOrder 13 = .ok (.aload_n 0, 1) := by decide +kernel
theorem dX8_noOrder_14 : decode cX8_noOrder 14 = .ok (.getfield 80, 3) := by decide +kernel
theorem dX8_noOrder_17 : decode cX8_noOrder 17 = .ok (.iload_n 1, 1) := by decide +kernel
theorem dX8_noOrder_18 : decode cX8_noOrder 18 = .ok (.bipush (-4), 2) := by decide +kernel
theorem dX8_noOrder_20 : decode cX8_noOrder 20 = .ok (.iastore, 1) := by decide +kernel
theorem dX8_noOrder_21 : decode cX8_noOrder 21 = .ok (.aload_n 0, 1) := by decide +kernel
theorem dX8_noOrder_22 : decode cX8_noOrder 22 = .ok (.getfield 83, 3) := by decide +kernel
theorem dX8_noOrder_25 : decode cX8_noOrder 25 = .ok (.iload_n 1, 1) := by decide +kernel
theorem dX8_noOrder_26 : decode cX8_noOrder 26 = .ok (.bipush (-4), 2) := by decide +kernel
theorem dX8_noOrder_28 : decode cX8_noOrder 28 = .ok (.iastore, 1) := by decide +kernel
theorem dX8_noOrder_29 : decode cX8_noOrder 29 = .ok (.iinc 1 1, 3) := by decide +kernel
theorem dX8_noOrder_32 : decode cX8_noOrder 32 = .ok (.goto (-25), 3) := by decide +kernel
theorem dX8_noOrder_35 : decode cX8_noOrder 35 = .ok (.return_, 1) := by decide +kernel
theorem dX8_know_0 : decode cX8_know 0 = .ok (.aload_n 0, 1) := by decide +kernel
theorem dX8_know_1 : decode cX8_know 1 = .ok (.getfield 80, 3) := by decide +kernel
theorem dX8_know_4 : decode cX8_know 4 = .ok (.iload_n 1, 1) := by decide +kernel
theorem dX8_know_5 : decode cX8_know 5 = .ok (.iaload, 1) := by decide +kernel
theorem dX8_know_6 : decode cX8_know 6 = .ok (.iload_n 2, 1) := by decide +kernel
theorem dX8_know_7 : decode cX8_know 7 = .ok (.if_icmp .ne 5, 3) := by decide +kernel
theorem dX8_know_10 : decode cX8_know 10 = .ok (.iconst 1, 1) := by decide +kernel
theorem dX8_know_11 : decode cX8_know 11 = .ok (.ireturn, 1) := by decide +kernel
theorem dX8_know_12 : decode cX8_know 12 = .ok (.aload_n 0, 1) := by decide +kernel
theorem dX8_know_13 : decode cX8_know 13 = .ok (.getfield 80, 3) := by decide +kernel
theorem dX8_know_16 : decode cX8_know 16 = .ok (.iload_n 1, 1) := by decide +kernel
theorem dX8_know_17 : decode cX8_know 17 = .ok (.iaload, 1) := by decide +kernel
theorem dX8_know_18 : decode cX8_know 18 = .ok (.ifCond .ge 12, 3) := by decide +kernel
theorem dX8_know_21 : decode cX8_know 21 = .ok (.aload_n 0, 1) := by decide +kernel
theorem dX8_know_22 : decode cX8_know 22 = .ok (.getfield 83, 3) := by decide +kernel
theorem dX8_know_25 : decode cX8_know 25 = .ok (.iload_n 2, 1) := by decide +kernel
theorem dX8_know_26 : decode cX8_know 26 = .ok (.iaload, 1) := by decide +kernel
theorem dX8_know_27 : decode cX8_know 27 = .ok (.ifCond .lt 5, 3) := by decide +kernel
theorem dX8_know_30 : decode cX8_know 30 = .ok (.iconst 0, 1) := by decide +kernel
theorem dX8_know_31 : decode cX8_know 31 = .ok (.ireturn, 1) := by decide +kernel
theorem dX8_know_32 : decode cX8_know 32 = .ok (.aload_n 0, 1) := by decide +kernel
theorem dX8_know_33 : decode cX8_know 33 = .ok (.getfield 80, 3) := by decide +kernel
theorem dX8_know_36 : decode cX8_know 36 = .ok (.iload_n 1, 1) := by decide +kernel
theorem dX8_know_37 : decode cX8_know 37 = .ok (.iload_n 2, 1) := by decide +kernel
theorem dX8_know_38 : decode cX8_know 38 = .ok (.iastore, 1) := by decide +kernel
theorem dX8_know_39 : decode cX8_know 39 = .ok (.aload_n 0, 1) := by decide +kernel
theorem dX8_know_40 : decode cX8_know 40 = .ok (.getfield 83, 3) := by decide +kernel
theorem dX8_know_43 : decode cX8_know 43 = .ok (.iload_n 2, 1) := by decide +kernel
theorem dX8_know_44 : decode cX8_know 44 = .ok (.iload_n 1, 1) := by decide +kernel
theorem dX8_know_45 : decode cX8_know 45 = .ok (.iastore, 1) := by decide +kernel
theorem dX8_know_46 : decode cX8_know 46 = .ok (.aload_n 0, 1) := by decide +kernel
theorem dX8_know_47 : decode cX8_know 47 = .ok (.dup, 1) := by decide +kernel
theorem dX8_know_48 : decode cX8_know 48 = .ok (.getfield 209, 3) := by decide +kernel
theorem dX8_know_51 : decode cX8_know 51 = .ok (.iconst 1, 1) := by decide +kernel
theorem dX8_know_52 : decode cX8_know 52 = .ok (.iadd, 1) := by decide +kernel
theorem dX8_know_53 : decode cX8_know 53 = .ok (.putfield 209, 3) := by decide +kernel
theorem dX8_know_56 : decode cX8_know 56 = .ok (.iconst 1, 1) := by decide +kernel
theorem dX8_know_57 : decode cX8_know 57 = .ok (.ireturn, 1) := by decide +kernel
theorem dX8_order_0 : decode cX8_order 0 = .ok (.lload_n 1, 1) := by decide +kernel
theorem dX8_order_1 : decode cX8_order 1 = .ok (.invokestatic 183, 3) := by decide +kernel
theorem dX8_order_4 : decode cX8_order 4 = .ok (.ifCond .eq 11, 3) := by decide +kernel
theorem dX8_order_7 : decode cX8_order 7 = .ok (.aload_n 0, 1) := by decide +kernel
theorem dX8_order_8 : decode cX8_order 8 = .ok (.iload_n 3, 1) := by decide +kernel
theorem dX8_order_9 : decode cX8_order 9 = .ok (.invokevirtual 155, 3) := by decide +kernel
theorem dX8_order_12 : decode cX8_order 12 = .ok (.ifCond .ne 5, 3) := by decide +kernel
theorem dX8_order_15 : decode cX8_order 15 = .ok (.iconst (-1), 1) := by decide +kernel
theorem dX8_order_16 : decode cX8_order 16 = .ok (.ireturn, 1) := by decide +kernel
theorem dX8_order_17 : decode cX8_order 17 = .ok (.aload_n 0, 1) := by decide +kernel
theorem dX8_order_18 : decode cX8_order 18 = .ok (.invokevirtual 212, 3) := by decide +kernel
theorem dX8_order_21 : decode cX8_order 21 = .ok (.aload_n 0, 1) := by decide +kernel
theorem dX8_order_22 : decode cX8_order 22 = .ok (.lload_n 1, 1) := by decide +kernel
theorem dX8_order_23 : decode cX8_order 23 = .ok (.invokevirtual 187, 3) := by decide +kernel
theorem dX8_order_26 : decode cX8_order 26 = .ok (.iconst 1, 1) := by decide +kernel
theorem dX8_order_27 : decode cX8_order 27 = .ok (.istore 4, 2) := by decide +kernel
theorem dX8_order_29 : decode cX8_order 29 = .ok (.iconst 0, 1) := by decide +kernel
theorem dX8_order_30 : decode cX8_order 30 = .ok (.istore 5, 2) := by decide +kernel
theorem dX8_order_32 : decode cX8_order 32 = .ok (.iload 5, 2) := by decide +kernel
theorem dX8_order_34 : decode cX8_order 34 = .ok (.aload_n 0, 1) := by decide +kernel
theorem dX8_order_35 : decode cX8_order 35 = .ok (.invokevirtual 206, 3) := by decide +kernel
theorem dX8_order_38 : decode cX8_order 38 = .ok (.if_icmp .ge 41, 3) := by decide +kernel
theorem dX8_order_41 : decode cX8_order 41 = .ok (.aload_n 0, 1) := by decide +kernel
theorem dX8_order_42 : decode cX8_order 42 = .ok (.aload_n 0, 1) := by decide +kernel
theorem dX8_order_43 : decode cX8_order 43 = .ok (.iload 5, 2) := by decide +kernel
theorem dX8_order_45 : decode cX8_order 45 = .ok (.invokevirtual 191, 3) := by decide +kernel
theorem dX8_order_48 : decode cX8_order 48 = .ok (.aload_n 0, 1) := by decide +kernel
theorem dX8_order_49 : decode cX8_order 49 = .ok (.getfield 34, 3) := by decide +kernel
theorem dX8_order_52 : decode cX8_order 52 = .ok (.iload 5, 2) := by decide +kernel
theorem dX8_order_54 : decode cX8_order 54 = .ok (.iaload, 1) := by decide +kernel
theorem dX8_order_55 : decode cX8_order 55 = .ok (.invokevirtual 215, 3) := by decide +kernel
theorem dX8_order_58 : decode cX8_order 58 = .ok (.ifCond .eq 12, 3) := by decide +kernel
theorem dX8_order_61 : decode cX8_order 61 = .ok (.iload 4, 2) := by decide +kernel
theorem dX8_order_63 : decode cX8_order 63 = .ok (.ifCond .eq 7, 3) := by decide +kernel
theorem dX8_order_66 : decode cX8_order 66 = .ok (.iconst 1, 1) := by decide +kernel
theorem dX8_order_67 : decode cX8_order 67 = .ok (.goto 4, 3) := by decide +kernel
theorem dX8_order_70 : decode cX8_order 70 = .ok (.iconst 0, 1) := by decide +kernel
theorem dX8_order_71 : decode cX8_order 71 = .ok (.istore 4, 2) := by decide +kernel
theorem dX8_order_73 : decode cX8_order 73 = .ok (.iinc 5 1, 3) := by decide +kernel
theorem dX8_order_76 : decode cX8_order 76 = .ok (.goto (-44), 3) := by decide +kernel
theorem dX8_order_79 : decode cX8_order 79 = .ok (.iload 4, 2) := by decide +kernel
theorem dX8_order_81 : decode cX8_order 81 = .ok (.ifCond .ne 6, 3) := by decide +kernel
theorem dX8_order_84 : decode cX8_order 84 = .ok (.bipush (-4), 2) := by decide +kernel
theorem dX8_order_86 : decode cX8_order 86 = .ok (.ireturn, 1) := by decide +kernel
theorem dX8_order_87 : decode cX8_order 87 = .ok (.iconst 0, 1) := by decide +kernel
theorem dX8_order_88 : decode cX8_order 88 = .ok (.istore 5, 2) := by decide +kernel
theorem dX8_order_90 : decode cX8_order 90 = .ok (.iconst 0, 1) := by decide +kernel
theorem dX8_order_91 : decode cX8_order 91 = .ok (.istore 6, 2) := by decide +kernel
theorem dX8_order_93 : decode cX8_order 93 = .ok (.iload 6, 2) := by decide +kernel
theorem dX8_order_95 : decode cX8_order 95 = .ok (.aload_n 0, 1) := by decide +kernel
theorem dX8_order_96 : decode cX8_order 96 = .ok (.getfield 13, 3) := by decide +kernel
theorem dX8_order_99 : decode cX8_order 99 = .ok (.iconst 0, 1) := by decide +kernel
theorem dX8_order_100 : decode cX8_order 100 = .ok (.iaload, 1) := by decide +kernel
theorem dX8_order_101 : decode cX8_order 101 = .ok (.if_icmp .ge 44, 3) := by decide +kernel
theorem dX8_order_104 : decode cX8_order 104 = .ok (.aload_n 0, 1) := by decide +kernel
theorem dX8_order_105 : decode cX8_order 105 = .ok (.getfield 80, 3) := by decide +kernel
theorem dX8_order_108 : decode cX8_order 108 = .ok (.iload 6, 2) := by decide +kernel
theorem dX8_order_110 : decode cX8_order 110 = .ok (.iaload, 1) := by decide +kernel
theorem dX8_order_111 : decode cX8_order 111 = .ok (.ifCond .ge 28, 3) := by decide +kernel
theorem dX8_order_114 : decode cX8_order 114 = .ok (.aload_n 0, 1) := by decide +kernel
theorem dX8_order_115 : decode cX8_order 115 = .ok (.getfield 83, 3) := by decide +kernel
theorem dX8_order_118 : decode cX8_order 118 = .ok (.iload 5, 2) := by decide +kernel
theorem dX8_order_120 : decode cX8_order 120 = .ok (.iaload, 1) := by decide +kernel
theorem dX8_order_121 : decode cX8_order 121 = .ok (.ifCond .lt 9, 3) := by decide +kernel
theorem dX8_order_124 : decode cX8_order 124 = .ok (.iinc 5 1, 3) := by decide +kernel
theorem dX8_order_127 : decode cX8_order 127 = .ok (.goto (-13), 3) := by decide +kernel
theorem dX8_order_130 : decode cX8_order 130 = .ok (.aload_n 0, 1) := by decide +kernel
theorem dX8_order_131 : decode cX8_order 131 = .ok (.iload 6, 2) := by decide +kernel
theorem dX8_order_133 : decode cX8_order 133 = .ok (.iload 5, 2) := by decide +kernel
theorem dX8_order_135 : decode cX8_order 135 = .ok (.invokevirtual 215, 3) := by decide +kernel
theorem dX8_order_138 : decode cX8_order 138 = .ok (.pop, 1) := by decide +kernel
theorem dX8_order_139 : decode cX8_order 139 = .ok (.iinc 6 1, 3) := by decide +kernel
theorem dX8_order_142 : decode cX8_order 142 = .ok (.goto (-49), 3) := by decide +kernel
theorem dX8_order_145 : decode cX8_order 145 = .ok (.aload_n 0, 1) := by decide +kernel
theorem dX8_order_146 : decode cX8_order 146 = .ok (.getfield 80, 3) := by decide +kernel
theorem dX8_order_149 : decode cX8_order 149 = .ok (.iload_n 3, 1) := by decide +kernel
theorem dX8_order_150 : decode cX8_order 150 = .ok (.iaload, 1) := by decide +kernel
theorem dX8_order_151 : decode cX8_order 151 = .ok (.ireturn, 1) := by decide +kernel
theorem dX8_showsBy_0 : decode cX8_showsBy 0 = .ok (.iconst 0, 1) := by decide +kernel
theorem dX8_showsBy_1 : decode cX8_showsBy 1 = .ok (.istore_n 3, 1) := by decide +kernel
theorem dX8_showsBy_2 : decode cX8_showsBy 2 = .ok (.iload_n 3, 1) := by decide +kernel
theorem dX8_showsBy_3 : decode cX8_showsBy 3 = .ok (.bipush 40, 2) := by decide +kernel
theorem dX8_showsBy_5 : decode cX8_showsBy 5 = .ok (.if_icmp .ge 16, 3) := by decide +kernel
theorem dX8_showsBy_8 : decode cX8_showsBy 8 = .ok (.aload_n 0, 1) := by decide +kernel
theorem dX8_showsBy_9 : decode cX8_showsBy 9 = .ok (.getfield 86, 3) := by decide +kernel
theorem dX8_showsBy_12 : decode cX8_showsBy 12 = .ok (.iload_n 3, 1) := by decide +kernel
theorem dX8_showsBy_13 : decode cX8_showsBy 13 = .ok (.iload_n 3, 1) := by decide +kernel
theorem dX8_showsBy_14 : decode cX8_showsBy 14 = .ok (.iastore, 1) := by decide +kernel
theorem dX8_showsBy_15 : decode cX8_showsBy 15 = .ok (.iinc 3 1, 3) := by decide +kernel
theorem dX8_showsBy_18 : decode cX8_showsBy 18 = .ok (.goto (-16), 3) := by decide +kernel
theorem dX8_showsBy_21 : decode cX8_showsBy 21 = .ok (.lconst 1, 1) := by decide +kernel
theorem dX8_showsBy_22 : decode cX8_showsBy 22 = .ok (.aload_n 0, 1) := by decide +kernel
theorem dX8_showsBy_23 : decode cX8_showsBy 23 = .ok (.getfield 13, 3) := by decide +kernel
theorem dX8_showsBy_26 : decode cX8_showsBy 26 = .ok (.iconst 0, 1) := by decide +kernel
theorem dX8_showsBy_27 : decode cX8_showsBy 27 = .ok (.iaload, 1) := by decide +kernel
theorem dX8_showsBy_28 : decode cX8_showsBy 28 = .ok (.lshl, 1) := by decide +kernel
theorem dX8_showsBy_29 : decode cX8_showsBy 29 = .ok (.lconst 1, 1) := by decide +kernel
theorem dX8_showsBy_30 : decode cX8_showsBy 30 = .ok (.lsub, 1) := by decide +kernel
theorem dX8_showsBy_31 : decode cX8_showsBy 31 = .ok (.lstore_n 3, 1) := by decide +kernel
theorem dX8_showsBy_32 : decode cX8_showsBy 32 = .ok (.lconst 0, 1) := by decide +kernel
theorem dX8_showsBy_33 : decode cX8_showsBy 33 = .ok (.lstore 5, 2) := by decide +kernel
theorem dX8_showsBy_35 : decode cX8_showsBy 35 = .ok (.iconst 0, 1) := by decide +kernel
theorem dX8_showsBy_36 : decode cX8_showsBy 36 = .ok (.istore 7, 2) := by decide +kernel
theorem dX8_showsBy_38 : decode cX8_showsBy 38 = .ok (.iload 7, 2) := by decide +kernel
theorem dX8_showsBy_40 : decode cX8_showsBy 40 = .ok (.sipush 2000, 3) := by decide +kernel
theorem dX8_showsBy_43 : decode cX8_showsBy 43 = .ok (.if_icmp .ge 47, 3) := by decide +kernel
theorem dX8_showsBy_46 : decode cX8_showsBy 46 = .ok (.lload 5, 2) := by decide +kernel
theorem dX8_showsBy_48 : decode cX8_showsBy 48 = .ok (.lconst 1, 1) := by decide +kernel
theorem dX8_showsBy_49 : decode cX8_showsBy 49 = .ok (.aload_n 0, 1) := by decide +kernel
theorem dX8_showsBy_50 : decode cX8_showsBy 50 = .ok (.getfield 86, 3) := by decide +kernel
theorem dX8_showsBy_53 : decode cX8_showsBy 53 = .ok (.iconst 0, 1) := by decide +kernel
theorem dX8_showsBy_54 : decode cX8_showsBy 54 = .ok (.iaload, 1) := by decide +kernel
theorem dX8_showsBy_55 : decode cX8_showsBy 55 = .ok (.lshl, 1) := by decide +kernel
theorem dX8_showsBy_56 : decode cX8_showsBy 56 = .ok (.lor, 1) := by decide +kernel
theorem dX8_showsBy_57 : decode cX8_showsBy 57 = .ok (.lstore 5, 2) := by decide +kernel
theorem dX8_showsBy_59 : decode cX8_showsBy 59 = .ok (.lload 5, 2) := by decide +kernel
theorem dX8_showsBy_61 : decode cX8_showsBy 61 = .ok (.lload_n 3, 1) := by decide +kernel
theorem dX8_showsBy_62 : decode cX8_showsBy 62 = .ok (.lcmp, 1) := by decide +kernel
theorem dX8_showsBy_63 : decode cX8_showsBy 63 = .ok (.ifCond .ne 8, 3) := by decide +kernel
theorem dX8_showsBy_66 : decode cX8_showsBy 66 = .ok (.iload 7, 2) := by decide +kernel
theorem dX8_showsBy_68 : decode cX8_showsBy 68 = .ok (.iconst 1, 1) := by decide +kernel
theorem dX8_showsBy_69 : decode cX8_showsBy 69 = .ok (.iadd, 1) := by decide +kernel
theorem dX8_showsBy_70 : decode cX8_showsBy 70 = .ok (.ireturn, 1) := by decide +kernel
theorem dX8_showsBy_71 : decode cX8_showsBy 71 = .ok (.aload_n 0, 1) := by decide +kernel
theorem dX8_showsBy_72 : decode cX8_showsBy 72 = .ok (.aload_n 0, 1) := by decide +kernel
theorem dX8_showsBy_73 : decode cX8_showsBy 73 = .ok (.getfield 86, 3) := by decide +kernel
theorem dX8_showsBy_76 : decode cX8_showsBy 76 = .ok (.iconst 0, 1) := by decide +kernel
theorem dX8_showsBy_77 : decode cX8_showsBy 77 = .ok (.iload_n 1, 1) := by decide +kernel
theorem dX8_showsBy_78 : decode cX8_showsBy 78 = .ok (.iload_n 2, 1) := by decide +kernel
theorem dX8_showsBy_79 : decode cX8_showsBy 79 = .ok (.iload 7, 2) := by decide +kernel
theorem dX8_showsBy_81 : decode cX8_showsBy 81 = .ok (.invokevirtual 158, 3) := by decide +kernel
theorem dX8_showsBy_84 : decode cX8_showsBy 84 = .ok (.iinc 7 1, 3) := by decide +kernel
theorem dX8_showsBy_87 : decode cX8_showsBy 87 = .ok (.goto (-49), 3) := by decide +kernel
theorem dX8_showsBy_90 : decode cX8_showsBy 90 = .ok (.bipush (-4), 2) := by decide +kernel
theorem dX8_showsBy_92 : decode cX8_showsBy 92 = .ok (.ireturn, 1) := by decide +kernel
theorem dX8_shows_0 : decode cX8_shows 0 = .ok (.iload_n 1, 1) := by decide +kernel
theorem dX8_shows_1 : decode cX8_shows 1 = .ok (.i2l, 1) := by decide +kernel
theorem dX8_shows_2 : decode cX8_shows 2 = .ok (.lconst 0, 1) := by decide +kernel
theorem dX8_shows_3 : decode cX8_shows 3 = .ok (.ldc2_w 219, 3) := by decide +kernel
theorem dX8_shows_6 : decode cX8_shows 6 = .ok (.invokestatic 98, 3) := by decide +kernel
theorem dX8_shows_9 : decode cX8_shows 9 = .ok (.ifCond .eq 20, 3) := by decide +kernel
theorem dX8_shows_12 : decode cX8_shows 12 = .ok (.aload_n 0, 1) := by decide +kernel
theorem dX8_shows_13 : decode cX8_shows 13 = .ok (.iload_n 2, 1) := by decide +kernel
theorem dX8_shows_14 : decode cX8_shows 14 = .ok (.invokevirtual 155, 3) := by decide +kernel
theorem dX8_shows_17 : decode cX8_shows 17 = .ok (.ifCond .eq 12, 3) := by decide +kernel
theorem dX8_shows_20 : decode cX8_shows 20 = .ok (.aload_n 0, 1) := by decide +kernel
theorem dX8_shows_21 : decode cX8_shows 21 = .ok (.iload_n 1, 1) := by decide +kernel
theorem dX8_shows_22 : decode cX8_shows 22 = .ok (.iload_n 2, 1) := by decide +kernel
theorem dX8_shows_23 : decode cX8_shows 23 = .ok (.invokevirtual 221, 3) := by decide +kernel
theorem dX8_shows_26 : decode cX8_shows 26 = .ok (.goto 4, 3) := by decide +kernel
theorem dX8_shows_29 : decode cX8_shows 29 = .ok (.iconst (-1), 1) := by decide +kernel
theorem dX8_shows_30 : decode cX8_shows 30 = .ok (.ireturn, 1) := by decide +kernel
theorem dX8_quickest_0 : decode cX8_quickest 0 = .ok (.iload_n 1, 1) := by decide +kernel
theorem dX8_quickest_1 : decode cX8_quickest 1 = .ok (.i2l, 1) := by decide +kernel
theorem dX8_quickest_2 : decode cX8_quickest 2 = .ok (.lconst 0, 1) := by decide +kernel
theorem dX8_quickest_3 : decode cX8_quickest 3 = .ok (.ldc2_w 119, 3) := by decide +kernel
theorem dX8_quickest_6 : decode cX8_quickest 6 = .ok (.invokestatic 98, 3) := by decide +kernel
theorem dX8_quickest_9 : decode cX8_quickest 9 = .ok (.ifCond .ne 5, 3) := by decide +kernel
theorem dX8_quickest_12 : decode cX8_quickest 12 = .ok (.iconst (-1), 1) := by decide +kernel
theorem dX8_quickest_13 : decode cX8_quickest 13 = .ok (.ireturn, 1) := by decide +kernel
theorem dX8_quickest_14 : decode cX8_quickest 14 = .ok (.bipush (-4), 2) := by decide +kernel
theorem dX8_quickest_16 : decode cX8_quickest 16 = .ok (.istore_n 2, 1) := by decide +kernel
theorem dX8_quickest_17 : decode cX8_quickest 17 = .ok (.bipush (-4), 2) := by decide +kernel
theorem dX8_quickest_19 : decode cX8_quickest 19 = .ok (.istore_n 3, 1) := by decide +kernel
theorem dX8_quickest_20 : decode cX8_quickest 20 = .ok (.bipush (-4), 2) := by decide +kernel
theorem dX8_quickest_22 : decode cX8_quickest 22 = .ok (.istore 4, 2) := by decide +kernel
theorem dX8_quickest_24 : decode cX8_quickest 24 = .ok (.iconst 0, 1) := by decide +kernel
theorem dX8_quickest_25 : decode cX8_quickest 25 = .ok (.istore 5, 2) := by decide +kernel
theorem dX8_quickest_27 : decode cX8_quickest 27 = .ok (.iload 5, 2) := by decide +kernel
theorem dX8_quickest_29 : decode cX8_quickest 29 = .ok (.iconst 4, 1) := by decide +kernel
theorem dX8_quickest_30 : decode cX8_quickest 30 = .ok (.if_icmp .ge 66, 3) := by decide +kernel
theorem dX8_quickest_33 : decode cX8_quickest 33 = .ok (.iconst 0, 1) := by decide +kernel
theorem dX8_quickest_34 : decode cX8_quickest 34 = .ok (.istore 6, 2) := by decide +kernel
theorem dX8_quickest_36 : decode cX8_quickest 36 = .ok (.iload 6, 2) := by decide +kernel
theorem dX8_quickest_38 : decode cX8_quickest 38 = .ok (.aload_n 0, 1) := by decide +kernel
theorem dX8_quickest_39 : decode cX8_quickest 39 = .ok (.getfield 13, 3) := by decide +kernel
theorem dX8_quickest_42 : decode cX8_quickest 42 = .ok (.iconst 0, 1) := by decide +kernel
theorem dX8_quickest_43 : decode cX8_quickest 43 = .ok (.iaload, 1) := by decide +kernel
theorem dX8_quickest_44 : decode cX8_quickest 44 = .ok (.if_icmp .ge 46, 3) := by decide +kernel
theorem dX8_quickest_47 : decode cX8_quickest 47 = .ok (.aload_n 0, 1) := by decide +kernel
theorem dX8_quickest_48 : decode cX8_quickest 48 = .ok (.iload 5, 2) := by decide +kernel
theorem dX8_quickest_50 : decode cX8_quickest 50 = .ok (.iload 6, 2) := by decide +kernel
theorem dX8_quickest_52 : decode cX8_quickest 52 = .ok (.invokevirtual 221, 3) := by decide +kernel
theorem dX8_quickest_55 : decode cX8_quickest 55 = .ok (.istore 7, 2) := by decide +kernel
theorem dX8_quickest_57 : decode cX8_quickest 57 = .ok (.iload 7, 2) := by decide +kernel
theorem dX8_quickest_59 : decode cX8_quickest 59 = .ok (.ifCond .le 25, 3) := by decide +kernel
theorem dX8_quickest_62 : decode cX8_quickest 62 = .ok (.iload 4, 2) := by decide +kernel
theorem dX8_quickest_64 : decode cX8_quickest 64 = .ok (.ifCond .lt 10, 3) := by decide +kernel
theorem dX8_quickest_67 : decode cX8_quickest 67 = .ok (.iload 7, 2) := by decide +kernel
theorem dX8_quickest_69 : decode cX8_quickest 69 = .ok (.iload 4, 2) := by decide +kernel
theorem dX8_quickest_71 : decode cX8_quickest 71 = .ok (.if_icmp .ge 13, 3) := by decide +kernel
theorem dX8_quickest_74 : decode cX8_quickest 74 = .ok (.iload 5, 2) := by decide +kernel
theorem dX8_quickest_76 : decode cX8_quickest 76 = .ok (.istore_n 2, 1) := by decide +kernel
theorem dX8_quickest_77 : decode cX8_quickest 77 = .ok (.iload 6, 2) := by decide +kernel
theorem dX8_quickest_79 : decode cX8_quickest 79 = .ok (.istore_n 3, 1) := by decide +kernel
theorem dX8_quickest_80 : decode cX8_quickest 80 = .ok (.iload 7, 2) := by decide +kernel
theorem dX8_quickest_82 : decode cX8_quickest 82 = .ok (.istore 4, 2) := by decide +kernel
theorem dX8_quickest_84 : decode cX8_quickest 84 = .ok (.iinc 6 1, 3) := by decide +kernel
theorem dX8_quickest_87 : decode cX8_quickest 87 = .ok (.goto (-51), 3) := by decide +kernel
theorem dX8_quickest_90 : decode cX8_quickest 90 = .ok (.iinc 5 1, 3) := by decide +kernel
theorem dX8_quickest_93 : decode cX8_quickest 93 = .ok (.goto (-66), 3) := by decide +kernel
theorem dX8_quickest_96 : decode cX8_quickest 96 = .ok (.iload_n 1, 1) := by decide +kernel
theorem dX8_quickest_97 : decode cX8_quickest 97 = .ok (.ifCond .ne 7, 3) := by decide +kernel
theorem dX8_quickest_100 : decode cX8_quickest 100 = .ok (.iload_n 2, 1) := by decide +kernel
theorem dX8_quickest_101 : decode cX8_quickest 101 = .ok (.goto 14, 3) := by decide +kernel
theorem dX8_quickest_104 : decode cX8_quickest 104 = .ok (.iload_n 1, 1) := by decide +kernel
theorem dX8_quickest_105 : decode cX8_quickest 105 = .ok (.iconst 1, 1) := by decide +kernel
theorem dX8_quickest_106 : decode cX8_quickest 106 = .ok (.if_icmp .ne 7, 3) := by decide +kernel
theorem dX8_quickest_109 : decode cX8_quickest 109 = .ok (.iload_n 3, 1) := by decide +kernel
theorem dX8_quickest_110 : decode cX8_quickest 110 = .ok (.goto 5, 3) := by decide +kernel
theorem dX8_quickest_113 : decode cX8_quickest 113 = .ok (.iload 4, 2) := by decide +kernel
theorem dX8_quickest_115 : decode cX8_quickest 115 = .ok (.ireturn, 1) := by decide +kernel
theorem dX8_seen_0 : decode cX8_seen 0 = .ok (.lload_n 1, 1) := by decide +kernel
theorem dX8_seen_1 : decode cX8_seen 1 = .ok (.invokestatic 183, 3) := by decide +kernel
theorem dX8_seen_4 : decode cX8_seen 4 = .ok (.ifCond .eq 30, 3) := by decide +kernel
theorem dX8_seen_7 : decode cX8_seen 7 = .ok (.iload_n 3, 1) := by decide +kernel
theorem dX8_seen_8 : decode cX8_seen 8 = .ok (.i2l, 1) := by decide +kernel
theorem dX8_seen_9 : decode cX8_seen 9 = .ok (.lconst 0, 1) := by decide +kernel
theorem dX8_seen_10 : decode cX8_seen 10 = .ok (.aload_n 0, 1) := by decide +kernel
theorem dX8_seen_11 : decode cX8_seen 11 = .ok (.getfield 16, 3) := by decide +kernel
theorem dX8_seen_14 : decode cX8_seen 14 = .ok (.iconst 0, 1) := by decide +kernel
theorem dX8_seen_15 : decode cX8_seen 15 = .ok (.iaload, 1) := by decide +kernel
theorem dX8_seen_16 : decode cX8_seen 16 = .ok (.iconst 1, 1) := by decide +kernel
theorem dX8_seen_17 : decode cX8_seen 17 = .ok (.isub, 1) := by decide +kernel
theorem dX8_seen_18 : decode cX8_seen 18 = .ok (.i2l, 1) := by decide +kernel
theorem dX8_seen_19 : decode cX8_seen 19 = .ok (.invokestatic 98, 3) := by decide +kernel
theorem dX8_seen_22 : decode cX8_seen 22 = .ok (.ifCond .eq 12, 3) := by decide +kernel
theorem dX8_seen_25 : decode cX8_seen 25 = .ok (.aload_n 0, 1) := by decide +kernel
theorem dX8_seen_26 : decode cX8_seen 26 = .ok (.iload 4, 2) := by decide +kernel
theorem dX8_seen_28 : decode cX8_seen 28 = .ok (.invokevirtual 155, 3) := by decide +kernel
theorem dX8_seen_31 : decode cX8_seen 31 = .ok (.ifCond .ne 5, 3) := by decide +kernel
theorem dX8_seen_34 : decode cX8_seen 34 = .ok (.iconst (-1), 1) := by decide +kernel
theorem dX8_seen_35 : decode cX8_seen 35 = .ok (.ireturn, 1) := by decide +kernel
theorem dX8_seen_36 : decode cX8_seen 36 = .ok (.aload_n 0, 1) := by decide +kernel
theorem dX8_seen_37 : decode cX8_seen 37 = .ok (.getfield 138, 3) := by decide +kernel
theorem dX8_seen_40 : decode cX8_seen 40 = .ok (.bipush 12, 2) := by decide +kernel
theorem dX8_seen_42 : decode cX8_seen 42 = .ok (.if_icmp .ne 6, 3) := by decide +kernel
theorem dX8_seen_45 : decode cX8_seen 45 = .ok (.bipush (-3), 2) := by decide +kernel
theorem dX8_seen_47 : decode cX8_seen 47 = .ok (.ireturn, 1) := by decide +kernel
theorem dX8_seen_48 : decode cX8_seen 48 = .ok (.aload_n 0, 1) := by decide +kernel
theorem dX8_seen_49 : decode cX8_seen 49 = .ok (.getfield 49, 3) := by decide +kernel
theorem dX8_seen_52 : decode cX8_seen 52 = .ok (.aload_n 0, 1) := by decide +kernel
theorem dX8_seen_53 : decode cX8_seen 53 = .ok (.getfield 138, 3) := by decide +kernel
theorem dX8_seen_56 : decode cX8_seen 56 = .ok (.lload_n 1, 1) := by decide +kernel
theorem dX8_seen_57 : decode cX8_seen 57 = .ok (.lastore, 1) := by decide +kernel
theorem dX8_seen_58 : decode cX8_seen 58 = .ok (.aload_n 0, 1) := by decide +kernel
theorem dX8_seen_59 : decode cX8_seen 59 = .ok (.getfield 53, 3) := by decide +kernel
theorem dX8_seen_62 : decode cX8_seen 62 = .ok (.aload_n 0, 1) := by decide +kernel
theorem dX8_seen_63 : decode cX8_seen 63 = .ok (.getfield 138, 3) := by decide +kernel
theorem dX8_seen_66 : decode cX8_seen 66 = .ok (.iload_n 3, 1) := by decide +kernel
theorem dX8_seen_67 : decode cX8_seen 67 = .ok (.iastore, 1) := by decide +kernel
theorem dX8_seen_68 : decode cX8_seen 68 = .ok (.aload_n 0, 1) := by decide +kernel
theorem dX8_seen_69 : decode cX8_seen 69 = .ok (.getfield 56, 3) := by decide +kernel
theorem dX8_seen_72 : decode cX8_seen 72 = .ok (.aload_n 0, 1) := by decide +kernel
theorem dX8_seen_73 : decode cX8_seen 73 = .ok (.getfield 138, 3) := by decide +kernel
theorem dX8_seen_76 : decode cX8_seen 76 = .ok (.iload 4, 2) := by decide +kernel
theorem dX8_seen_78 : decode cX8_seen 78 = .ok (.iastore, 1) := by decide +kernel
theorem dX8_seen_79 : decode cX8_seen 79 = .ok (.aload_n 0, 1) := by decide +kernel
theorem dX8_seen_80 : decode cX8_seen 80 = .ok (.dup, 1) := by decide +kernel
theorem dX8_seen_81 : decode cX8_seen 81 = .ok (.getfield 138, 3) := by decide +kernel
theorem dX8_seen_84 : decode cX8_seen 84 = .ok (.iconst 1, 1) := by decide +kernel
theorem dX8_seen_85 : decode cX8_seen 85 = .ok (.iadd, 1) := by decide +kernel
theorem dX8_seen_86 : decode cX8_seen 86 = .ok (.putfield 138, 3) := by decide +kernel
theorem dX8_seen_89 : decode cX8_seen 89 = .ok (.aload_n 0, 1) := by decide +kernel
theorem dX8_seen_90 : decode cX8_seen 90 = .ok (.getfield 138, 3) := by decide +kernel
theorem dX8_seen_93 : decode cX8_seen 93 = .ok (.ireturn, 1) := by decide +kernel
theorem dX8_forget_0 : decode cX8_forget 0 = .ok (.aload_n 0, 1) := by decide +kernel
theorem dX8_forget_1 : decode cX8_forget 1 = .ok (.getfield 138, 3) := by decide +kernel
theorem dX8_forget_4 : decode cX8_forget 4 = .ok (.istore_n 1, 1) := by decide +kernel
theorem dX8_forget_5 : decode cX8_forget 5 = .ok (.aload_n 0, 1) := by decide +kernel
theorem dX8_forget_6 : decode cX8_forget 6 = .ok (.iconst 0, 1) := by decide +kernel
theorem dX8_forget_7 : decode cX8_forget 7 = .ok (.putfield 138, 3) := by decide +kernel
theorem dX8_forget_10 : decode cX8_forget 10 = .ok (.iload_n 1, 1) := by decide +kernel
theorem dX8_forget_11 : decode cX8_forget 11 = .ok (.ireturn, 1) := by decide +kernel
theorem dX8_isSo_0 : decode cX8_isSo 0 = .ok (.aload_n 0, 1) := by decide +kernel
theorem dX8_isSo_1 : decode cX8_isSo 1 = .ok (.invokevirtual 212, 3) := by decide +kernel
theorem dX8_isSo_4 : decode cX8_isSo 4 = .ok (.iconst 1, 1) := by decide +kernel
theorem dX8_isSo_5 : decode cX8_isSo 5 = .ok (.istore_n 1, 1) := by decide +kernel
theorem dX8_isSo_6 : decode cX8_isSo 6 = .ok (.iconst 0, 1) := by decide +kernel
theorem dX8_isSo_7 : decode cX8_isSo 7 = .ok (.istore_n 2, 1) := by decide +kernel
theorem dX8_isSo_8 : decode cX8_isSo 8 = .ok (.iload_n 2, 1) := by decide +kernel
theorem dX8_isSo_9 : decode cX8_isSo 9 = .ok (.aload_n 0, 1) := by decide +kernel
theorem dX8_isSo_10 : decode cX8_isSo 10 = .ok (.getfield 138, 3) := by decide +kernel
theorem dX8_isSo_13 : decode cX8_isSo 13 = .ok (.if_icmp .ge 52, 3) := by decide +kernel
theorem dX8_isSo_16 : decode cX8_isSo 16 = .ok (.aload_n 0, 1) := by decide +kernel
theorem dX8_isSo_17 : decode cX8_isSo 17 = .ok (.aload_n 0, 1) := by decide +kernel
theorem dX8_isSo_18 : decode cX8_isSo 18 = .ok (.getfield 49, 3) := by decide +kernel
theorem dX8_isSo_21 : decode cX8_isSo 21 = .ok (.iload_n 2, 1) := by decide +kernel
theorem dX8_isSo_22 : decode cX8_isSo 22 = .ok (.laload, 1) := by decide +kernel
theorem dX8_isSo_23 : decode cX8_isSo 23 = .ok (.invokevirtual 187, 3) := by decide +kernel
theorem dX8_isSo_26 : decode cX8_isSo 26 = .ok (.aload_n 0, 1) := by decide +kernel
theorem dX8_isSo_27 : decode cX8_isSo 27 = .ok (.aload_n 0, 1) := by decide +kernel
theorem dX8_isSo_28 : decode cX8_isSo 28 = .ok (.aload_n 0, 1) := by decide +kernel
theorem dX8_isSo_29 : decode cX8_isSo 29 = .ok (.getfield 53, 3) := by decide +kernel
theorem dX8_isSo_32 : decode cX8_isSo 32 = .ok (.iload_n 2, 1) := by decide +kernel
theorem dX8_isSo_33 : decode cX8_isSo 33 = .ok (.iaload, 1) := by decide +kernel
theorem dX8_isSo_34 : decode cX8_isSo 34 = .ok (.invokevirtual 191, 3) := by decide +kernel
theorem dX8_isSo_37 : decode cX8_isSo 37 = .ok (.aload_n 0, 1) := by decide +kernel
theorem dX8_isSo_38 : decode cX8_isSo 38 = .ok (.getfield 56, 3) := by decide +kernel
theorem dX8_isSo_41 : decode cX8_isSo 41 = .ok (.iload_n 2, 1) := by decide +kernel
theorem dX8_isSo_42 : decode cX8_isSo 42 = .ok (.iaload, 1) := by decide +kernel
theorem dX8_isSo_43 : decode cX8_isSo 43 = .ok (.invokevirtual 215, 3) := by decide +kernel
theorem dX8_isSo_46 : decode cX8_isSo 46 = .ok (.ifCond .eq 11, 3) := by decide +kernel
theorem dX8_isSo_49 : decode cX8_isSo 49 = .ok (.iload_n 1, 1) := by decide +kernel
theorem dX8_isSo_50 : decode cX8_isSo 50 = .ok (.ifCond .eq 7, 3) := by decide +kernel
theorem dX8_isSo_53 : decode cX8_isSo 53 = .ok (.iconst 1, 1) := by decide +kernel
theorem dX8_isSo_54 : decode cX8_isSo 54 = .ok (.goto 4, 3) := by decide +kernel
theorem dX8_isSo_57 : decode cX8_isSo 57 = .ok (.iconst 0, 1) := by decide +kernel
theorem dX8_isSo_58 : decode cX8_isSo 58 = .ok (.istore_n 1, 1) := by decide +kernel
theorem dX8_isSo_59 : decode cX8_isSo 59 = .ok (.iinc 2 1, 3) := by decide +kernel
theorem dX8_isSo_62 : decode cX8_isSo 62 = .ok (.goto (-54), 3) := by decide +kernel
theorem dX8_isSo_65 : decode cX8_isSo 65 = .ok (.iload_n 1, 1) := by decide +kernel
theorem dX8_isSo_66 : decode cX8_isSo 66 = .ok (.ireturn, 1) := by decide +kernel
theorem dX8_so_0 : decode cX8_so 0 = .ok (.aload_n 0, 1) := by decide +kernel
theorem dX8_so_1 : decode cX8_so 1 = .ok (.invokevirtual 224, 3) := by decide +kernel
theorem dX8_so_4 : decode cX8_so 4 = .ok (.ifCond .eq 7, 3) := by decide +kernel
theorem dX8_so_7 : decode cX8_so 7 = .ok (.iconst 1, 1) := by decide +kernel
theorem dX8_so_8 : decode cX8_so 8 = .ok (.goto 4, 3) := by decide +kernel
theorem dX8_so_11 : decode cX8_so 11 = .ok (.iconst 0, 1) := by decide +kernel
theorem dX8_so_12 : decode cX8_so 12 = .ok (.ireturn, 1) := by decide +kernel
theorem dX8_sure_0 : decode cX8_sure 0 = .ok (.aload_n 0, 1) := by decide +kernel
theorem dX8_sure_1 : decode cX8_sure 1 = .ok (.iload_n 1, 1) := by decide +kernel
theorem dX8_sure_2 : decode cX8_sure 2 = .ok (.invokevirtual 155, 3) := by decide +kernel
theorem dX8_sure_5 : decode cX8_sure 5 = .ok (.ifCond .ne 5, 3) := by decide +kernel
theorem dX8_sure_8 : decode cX8_sure 8 = .ok (.iconst (-1), 1) := by decide +kernel
theorem dX8_sure_9 : decode cX8_sure 9 = .ok (.ireturn, 1) := by decide +kernel
theorem dX8_sure_10 : decode cX8_sure 10 = .ok (.aload_n 0, 1) := by decide +kernel
theorem dX8_sure_11 : decode cX8_sure 11 = .ok (.invokevirtual 224, 3) := by decide +kernel
theorem dX8_sure_14 : decode cX8_sure 14 = .ok (.ifCond .ne 6, 3) := by decide +kernel
theorem dX8_sure_17 : decode cX8_sure 17 = .ok (.bipush (-4), 2) := by decide +kernel
theorem dX8_sure_19 : decode cX8_sure 19 = .ok (.ireturn, 1) := by decide +kernel
theorem dX8_sure_20 : decode cX8_sure 20 = .ok (.aload_n 0, 1) := by decide +kernel
theorem dX8_sure_21 : decode cX8_sure 21 = .ok (.getfield 80, 3) := by decide +kernel
theorem dX8_sure_24 : decode cX8_sure 24 = .ok (.iload_n 1, 1) := by decide +kernel
theorem dX8_sure_25 : decode cX8_sure 25 = .ok (.iaload, 1) := by decide +kernel
theorem dX8_sure_26 : decode cX8_sure 26 = .ok (.ifCond .ge 18, 3) := by decide +kernel
theorem dX8_sure_29 : decode cX8_sure 29 = .ok (.aload_n 0, 1) := by decide +kernel
theorem dX8_sure_30 : decode cX8_sure 30 = .ok (.getfield 209, 3) := by decide +kernel
theorem dX8_sure_33 : decode cX8_sure 33 = .ok (.aload_n 0, 1) := by decide +kernel
theorem dX8_sure_34 : decode cX8_sure 34 = .ok (.getfield 13, 3) := by decide +kernel
theorem dX8_sure_37 : decode cX8_sure 37 = .ok (.iconst 0, 1) := by decide +kernel
theorem dX8_sure_38 : decode cX8_sure 38 = .ok (.iaload, 1) := by decide +kernel
theorem dX8_sure_39 : decode cX8_sure 39 = .ok (.iconst 1, 1) := by decide +kernel
theorem dX8_sure_40 : decode cX8_sure 40 = .ok (.isub, 1) := by decide +kernel
theorem dX8_sure_41 : decode cX8_sure 41 = .ok (.if_icmp .ge 10, 3) := by decide +kernel
theorem dX8_sure_44 : decode cX8_sure 44 = .ok (.aload_n 0, 1) := by decide +kernel
theorem dX8_sure_45 : decode cX8_sure 45 = .ok (.getfield 80, 3) := by decide +kernel
theorem dX8_sure_48 : decode cX8_sure 48 = .ok (.iload_n 1, 1) := by decide +kernel
theorem dX8_sure_49 : decode cX8_sure 49 = .ok (.iaload, 1) := by decide +kernel
theorem dX8_sure_50 : decode cX8_sure 50 = .ok (.ireturn, 1) := by decide +kernel
theorem dX8_sure_51 : decode cX8_sure 51 = .ok (.iconst 0, 1) := by decide +kernel
theorem dX8_sure_52 : decode cX8_sure 52 = .ok (.istore_n 2, 1) := by decide +kernel
theorem dX8_sure_53 : decode cX8_sure 53 = .ok (.aload_n 0, 1) := by decide +kernel
theorem dX8_sure_54 : decode cX8_sure 54 = .ok (.getfield 83, 3) := by decide +kernel
theorem dX8_sure_57 : decode cX8_sure 57 = .ok (.iload_n 2, 1) := by decide +kernel
theorem dX8_sure_58 : decode cX8_sure 58 = .ok (.iaload, 1) := by decide +kernel
theorem dX8_sure_59 : decode cX8_sure 59 = .ok (.ifCond .lt 9, 3) := by decide +kernel
theorem dX8_sure_62 : decode cX8_sure 62 = .ok (.iinc 2 1, 3) := by decide +kernel
theorem dX8_sure_65 : decode cX8_sure 65 = .ok (.goto (-12), 3) := by decide +kernel
theorem dX8_sure_68 : decode cX8_sure 68 = .ok (.iload_n 2, 1) := by decide +kernel
theorem dX8_sure_69 : decode cX8_sure 69 = .ok (.ireturn, 1) := by decide +kernel
theorem dX8_lacks_0 : decode cX8_lacks 0 = .ok (.aload_n 0, 1) := by decide +kernel
theorem dX8_lacks_1 : decode cX8_lacks 1 = .ok (.iload_n 1, 1) := by decide +kernel
theorem dX8_lacks_2 : decode cX8_lacks 2 = .ok (.invokevirtual 155, 3) := by decide +kernel
theorem dX8_lacks_5 : decode cX8_lacks 5 = .ok (.ifCond .eq 13, 3) := by decide +kernel
theorem dX8_lacks_8 : decode cX8_lacks 8 = .ok (.iload_n 2, 1) := by decide +kernel
theorem dX8_lacks_9 : decode cX8_lacks 9 = .ok (.i2l, 1) := by decide +kernel
theorem dX8_lacks_10 : decode cX8_lacks 10 = .ok (.lconst 0, 1) := by decide +kernel
theorem dX8_lacks_11 : decode cX8_lacks 11 = .ok (.lconst 1, 1) := by decide +kernel
theorem dX8_lacks_12 : decode cX8_lacks 12 = .ok (.invokestatic 98, 3) := by decide +kernel
theorem dX8_lacks_15 : decode cX8_lacks 15 = .ok (.ifCond .ne 5, 3) := by decide +kernel
theorem dX8_lacks_18 : decode cX8_lacks 18 = .ok (.iconst (-1), 1) := by decide +kernel
theorem dX8_lacks_19 : decode cX8_lacks 19 = .ok (.ireturn, 1) := by decide +kernel
theorem dX8_lacks_20 : decode cX8_lacks 20 = .ok (.aload_n 0, 1) := by decide +kernel
theorem dX8_lacks_21 : decode cX8_lacks 21 = .ok (.invokevirtual 203, 3) := by decide +kernel
theorem dX8_lacks_24 : decode cX8_lacks 24 = .ok (.istore_n 3, 1) := by decide +kernel
theorem dX8_lacks_25 : decode cX8_lacks 25 = .ok (.aload_n 0, 1) := by decide +kernel
theorem dX8_lacks_26 : decode cX8_lacks 26 = .ok (.lconst 0, 1) := by decide +kernel
theorem dX8_lacks_27 : decode cX8_lacks 27 = .ok (.invokevirtual 187, 3) := by decide +kernel
theorem dX8_lacks_30 : decode cX8_lacks 30 = .ok (.iconst 0, 1) := by decide +kernel
theorem dX8_lacks_31 : decode cX8_lacks 31 = .ok (.istore 4, 2) := by decide +kernel
theorem dX8_lacks_33 : decode cX8_lacks 33 = .ok (.iload 4, 2) := by decide +kernel
theorem dX8_lacks_35 : decode cX8_lacks 35 = .ok (.iload_n 3, 1) := by decide +kernel
theorem dX8_lacks_36 : decode cX8_lacks 36 = .ok (.if_icmp .ge 68, 3) := by decide +kernel
theorem dX8_lacks_39 : decode cX8_lacks 39 = .ok (.iconst 0, 1) := by decide +kernel
theorem dX8_lacks_40 : decode cX8_lacks 40 = .ok (.istore 5, 2) := by decide +kernel
theorem dX8_lacks_42 : decode cX8_lacks 42 = .ok (.iload 5, 2) := by decide +kernel
theorem dX8_lacks_44 : decode cX8_lacks 44 = .ok (.aload_n 0, 1) := by decide +kernel
theorem dX8_lacks_45 : decode cX8_lacks 45 = .ok (.getfield 16, 3) := by decide +kernel
theorem dX8_lacks_48 : decode cX8_lacks 48 = .ok (.iconst 0, 1) := by decide +kernel
theorem dX8_lacks_49 : decode cX8_lacks 49 = .ok (.iaload, 1) := by decide +kernel
theorem dX8_lacks_50 : decode cX8_lacks 50 = .ok (.if_icmp .ge 36, 3) := by decide +kernel
theorem dX8_lacks_53 : decode cX8_lacks 53 = .ok (.aload_n 0, 1) := by decide +kernel
theorem dX8_lacks_54 : decode cX8_lacks 54 = .ok (.getfield 37, 3) := by decide +kernel
theorem dX8_lacks_57 : decode cX8_lacks 57 = .ok (.aload_n 0, 1) := by decide +kernel
theorem dX8_lacks_58 : decode cX8_lacks 58 = .ok (.iload 5, 2) := by decide +kernel
theorem dX8_lacks_60 : decode cX8_lacks 60 = .ok (.invokevirtual 191, 3) := by decide +kernel
theorem dX8_lacks_63 : decode cX8_lacks 63 = .ok (.iaload, 1) := by decide +kernel
theorem dX8_lacks_64 : decode cX8_lacks 64 = .ok (.iload_n 1, 1) := by decide +kernel
theorem dX8_lacks_65 : decode cX8_lacks 65 = .ok (.if_icmp .ne 15, 3) := by decide +kernel
theorem dX8_lacks_68 : decode cX8_lacks 68 = .ok (.iload_n 2, 1) := by decide +kernel
theorem dX8_lacks_69 : decode cX8_lacks 69 = .ok (.ifCond .ne 8, 3) := by decide +kernel
theorem dX8_lacks_72 : decode cX8_lacks 72 = .ok (.iload 4, 2) := by decide +kernel
theorem dX8_lacks_74 : decode cX8_lacks 74 = .ok (.goto 5, 3) := by decide +kernel
theorem dX8_lacks_77 : decode cX8_lacks 77 = .ok (.iload 5, 2) := by decide +kernel
theorem dX8_lacks_79 : decode cX8_lacks 79 = .ok (.ireturn, 1) := by decide +kernel
theorem dX8_lacks_80 : decode cX8_lacks 80 = .ok (.iinc 5 1, 3) := by decide +kernel
theorem dX8_lacks_83 : decode cX8_lacks 83 = .ok (.goto (-41), 3) := by decide +kernel
theorem dX8_lacks_86 : decode cX8_lacks 86 = .ok (.aload_n 0, 1) := by decide +kernel
theorem dX8_lacks_87 : decode cX8_lacks 87 = .ok (.aload_n 0, 1) := by decide +kernel
theorem dX8_lacks_88 : decode cX8_lacks 88 = .ok (.getfield 71, 3) := by decide +kernel
theorem dX8_lacks_91 : decode cX8_lacks 91 = .ok (.aload_n 0, 1) := by decide +kernel
theorem dX8_lacks_92 : decode cX8_lacks 92 = .ok (.getfield 68, 3) := by decide +kernel
theorem dX8_lacks_95 : decode cX8_lacks 95 = .ok (.invokevirtual 177, 3) := by decide +kernel
theorem dX8_lacks_98 : decode cX8_lacks 98 = .ok (.iinc 4 1, 3) := by decide +kernel
theorem dX8_lacks_101 : decode cX8_lacks 101 = .ok (.goto (-68), 3) := by decide +kernel
theorem dX8_lacks_104 : decode cX8_lacks 104 = .ok (.bipush (-4), 2) := by decide +kernel
theorem dX8_lacks_106 : decode cX8_lacks 106 = .ok (.ireturn, 1) := by decide +kernel
theorem dX8_notice_0 : decode cX8_notice 0 = .ok (.aload_n 0, 1) := by decide +kernel
theorem dX8_notice_1 : decode cX8_notice 1 = .ok (.iload_n 1, 1) := by decide +kernel
theorem dX8_notice_2 : decode cX8_notice 2 = .ok (.invokevirtual 155, 3) := by decide +kernel
theorem dX8_notice_5 : decode cX8_notice 5 = .ok (.ifCond .eq 23, 3) := by decide +kernel
theorem dX8_notice_8 : decode cX8_notice 8 = .ok (.aload_n 0, 1) := by decide +kernel
theorem dX8_notice_9 : decode cX8_notice 9 = .ok (.iload_n 2, 1) := by decide +kernel
theorem dX8_notice_10 : decode cX8_notice 10 = .ok (.invokevirtual 155, 3) := by decide +kernel
theorem dX8_notice_13 : decode cX8_notice 13 = .ok (.ifCond .eq 15, 3) := by decide +kernel
theorem dX8_notice_16 : decode cX8_notice 16 = .ok (.iload_n 3, 1) := by decide +kernel
theorem dX8_notice_17 : decode cX8_notice 17 = .ok (.i2l, 1) := by decide +kernel
theorem dX8_notice_18 : decode cX8_notice 18 = .ok (.lconst 0, 1) := by decide +kernel
theorem dX8_notice_19 : decode cX8_notice 19 = .ok (.ldc2_w 227, 3) := by decide +kernel
theorem dX8_notice_22 : decode cX8_notice 22 = .ok (.invokestatic 98, 3) := by decide +kernel
theorem dX8_notice_25 : decode cX8_notice 25 = .ok (.ifCond .ne 5, 3) := by decide +kernel
theorem dX8_notice_28 : decode cX8_notice 28 = .ok (.iconst (-1), 1) := by decide +kernel
theorem dX8_notice_29 : decode cX8_notice 29 = .ok (.ireturn, 1) := by decide +kernel
theorem dX8_notice_30 : decode cX8_notice 30 = .ok (.lconst 1, 1) := by decide +kernel
theorem dX8_notice_31 : decode cX8_notice 31 = .ok (.iload_n 1, 1) := by decide +kernel
theorem dX8_notice_32 : decode cX8_notice 32 = .ok (.lshl, 1) := by decide +kernel
theorem dX8_notice_33 : decode cX8_notice 33 = .ok (.lconst 1, 1) := by decide +kernel
theorem dX8_notice_34 : decode cX8_notice 34 = .ok (.iload_n 2, 1) := by decide +kernel
theorem dX8_notice_35 : decode cX8_notice 35 = .ok (.lshl, 1) := by decide +kernel
theorem dX8_notice_36 : decode cX8_notice 36 = .ok (.lor, 1) := by decide +kernel
theorem dX8_notice_37 : decode cX8_notice 37 = .ok (.lstore 4, 2) := by decide +kernel
theorem dX8_notice_39 : decode cX8_notice 39 = .ok (.iconst 0, 1) := by decide +kernel
theorem dX8_notice_40 : decode cX8_notice 40 = .ok (.istore 6, 2) := by decide +kernel
theorem dX8_notice_42 : decode cX8_notice 42 = .ok (.aload_n 0, 1) := by decide +kernel
theorem dX8_notice_43 : decode cX8_notice 43 = .ok (.lconst 0, 1) := by decide +kernel
theorem dX8_notice_44 : decode cX8_notice 44 = .ok (.invokevirtual 187, 3) := by decide +kernel
theorem dX8_notice_47 : decode cX8_notice 47 = .ok (.iconst 0, 1) := by decide +kernel
theorem dX8_notice_48 : decode cX8_notice 48 = .ok (.istore 7, 2) := by decide +kernel
theorem dX8_notice_50 : decode cX8_notice 50 = .ok (.iload 7, 2) := by decide +kernel
theorem dX8_notice_52 : decode cX8_notice 52 = .ok (.iload_n 3, 1) := by decide +kernel
theorem dX8_notice_53 : decode cX8_notice 53 = .ok (.if_icmp .ge 48, 3) := by decide +kernel
theorem dX8_notice_56 : decode cX8_notice 56 = .ok (.iload 6, 2) := by decide +kernel
theorem dX8_notice_58 : decode cX8_notice 58 = .ok (.iload_n 1, 1) := by decide +kernel
theorem dX8_notice_59 : decode cX8_notice 59 = .ok (.iload_n 2, 1) := by decide +kernel
theorem dX8_notice_60 : decode cX8_notice 60 = .ok (.if_icmp .eq 19, 3) := by decide +kernel
theorem dX8_notice_63 : decode cX8_notice 63 = .ok (.aload_n 0, 1) := by decide +kernel
theorem dX8_notice_64 : decode cX8_notice 64 = .ok (.invokevirtual 196, 3) := by decide +kernel
theorem dX8_notice_67 : decode cX8_notice 67 = .ok (.lload 4, 2) := by decide +kernel
theorem dX8_notice_69 : decode cX8_notice 69 = .ok (.land, 1) := by decide +kernel
theorem dX8_notice_70 : decode cX8_notice 70 = .ok (.lconst 0, 1) := by decide +kernel
theorem dX8_notice_71 : decode cX8_notice 71 = .ok (.lcmp, 1) := by decide +kernel
theorem dX8_notice_72 : decode cX8_notice 72 = .ok (.ifCond .eq 7, 3) := by decide +kernel
theorem dX8_notice_75 : decode cX8_notice 75 = .ok (.iconst 1, 1) := by decide +kernel
theorem dX8_notice_76 : decode cX8_notice 76 = .ok (.goto 4, 3) := by decide +kernel
theorem dX8_notice_79 : decode cX8_notice 79 = .ok (.iconst 0, 1) := by decide +kernel
theorem dX8_notice_80 : decode cX8_notice 80 = .ok (.iadd, 1) := by decide +kernel
theorem dX8_notice_81 : decode cX8_notice 81 = .ok (.istore 6, 2) := by decide +kernel
theorem dX8_notice_83 : decode cX8_notice 83 = .ok (.aload_n 0, 1) := by decide +kernel
theorem dX8_notice_84 : decode cX8_notice 84 = .ok (.aload_n 0, 1) := by decide +kernel
theorem dX8_notice_85 : decode cX8_notice 85 = .ok (.getfield 71, 3) := by decide +kernel
theorem dX8_notice_88 : decode cX8_notice 88 = .ok (.aload_n 0, 1) := by decide +kernel
theorem dX8_notice_89 : decode cX8_notice 89 = .ok (.getfield 68, 3) := by decide +kernel
theorem dX8_notice_92 : decode cX8_notice 92 = .ok (.invokevirtual 177, 3) := by decide +kernel
theorem dX8_notice_95 : decode cX8_notice 95 = .ok (.iinc 7 1, 3) := by decide +kernel
theorem dX8_notice_98 : decode cX8_notice 98 = .ok (.goto (-48), 3) := by decide +kernel
theorem dX8_notice_101 : decode cX8_notice 101 = .ok (.iload 6, 2) := by decide +kernel
theorem dX8_notice_103 : decode cX8_notice 103 = .ok (.ireturn, 1) := by decide +kernel
theorem dX8_pleasedBy_0 : decode cX8_pleasedBy 0 = .ok (.iconst 0, 1) := by decide +kernel
theorem dX8_pleasedBy_1 : decode cX8_pleasedBy 1 = .ok (.istore_n 3, 1) := by decide +kernel
theorem dX8_pleasedBy_2 : decode cX8_pleasedBy 2 = .ok (.iload_n 3, 1) := by decide +kernel
theorem dX8_pleasedBy_3 : decode cX8_pleasedBy 3 = .ok (.bipush 40, 2) := by decide +kernel
theorem dX8_pleasedBy_5 : decode cX8_pleasedBy 5 = .ok (.if_icmp .ge 21, 3) := by decide +kernel
theorem dX8_pleasedBy_8 : decode cX8_pleasedBy 8 = .ok (.aload_n 0, 1) := by decide +kernel
theorem dX8_pleasedBy_9 : decode cX8_pleasedBy 9 = .ok (.getfield 86, 3) := by decide +kernel
theorem dX8_pleasedBy_12 : decode cX8_pleasedBy 12 = .ok (.iload_n 3, 1) := by decide +kernel
theorem dX8_pleasedBy_13 : decode cX8_pleasedBy 13 = .ok (.aload_n 0, 1) := by decide +kernel
theorem dX8_pleasedBy_14 : decode cX8_pleasedBy 14 = .ok (.getfield 37, 3) := by decide +kernel
theorem dX8_pleasedBy_17 : decode cX8_pleasedBy 17 = .ok (.iload_n 3, 1) := by decide +kernel
theorem dX8_pleasedBy_18 : decode cX8_pleasedBy 18 = .ok (.iaload, 1) := by decide +kernel
theorem dX8_pleasedBy_19 : decode cX8_pleasedBy 19 = .ok (.iastore, 1) := by decide +kernel
theorem dX8_pleasedBy_20 : decode cX8_pleasedBy 20 = .ok (.iinc 3 1, 3) := by decide +kernel
theorem dX8_pleasedBy_23 : decode cX8_pleasedBy 23 = .ok (.goto (-21), 3) := by decide +kernel
theorem dX8_pleasedBy_26 : decode cX8_pleasedBy 26 = .ok (.aload_n 0, 1) := by decide +kernel
theorem dX8_pleasedBy_27 : decode cX8_pleasedBy 27 = .ok (.aload_n 0, 1) := by decide +kernel
theorem dX8_pleasedBy_28 : decode cX8_pleasedBy 28 = .ok (.getfield 86, 3) := by decide +kernel
theorem dX8_pleasedBy_31 : decode cX8_pleasedBy 31 = .ok (.iconst 0, 1) := by decide +kernel
theorem dX8_pleasedBy_32 : decode cX8_pleasedBy 32 = .ok (.iload_n 2, 1) := by decide +kernel
theorem dX8_pleasedBy_33 : decode cX8_pleasedBy 33 = .ok (.invokevirtual 151, 3) := by decide +kernel
theorem dX8_pleasedBy_36 : decode cX8_pleasedBy 36 = .ok (.iconst 1, 1) := by decide +kernel
theorem dX8_pleasedBy_37 : decode cX8_pleasedBy 37 = .ok (.istore_n 3, 1) := by decide +kernel
theorem dX8_pleasedBy_38 : decode cX8_pleasedBy 38 = .ok (.iload_n 3, 1) := by decide +kernel
theorem dX8_pleasedBy_39 : decode cX8_pleasedBy 39 = .ok (.aload_n 0, 1) := by decide +kernel
theorem dX8_pleasedBy_40 : decode cX8_pleasedBy 40 = .ok (.getfield 16, 3) := by decide +kernel
theorem dX8_pleasedBy_43 : decode cX8_pleasedBy 43 = .ok (.iconst 0, 1) := by decide +kernel
theorem dX8_pleasedBy_44 : decode cX8_pleasedBy 44 = .ok (.iaload, 1) := by decide +kernel
theorem dX8_pleasedBy_45 : decode cX8_pleasedBy 45 = .ok (.if_icmp .ge 31, 3) := by decide +kernel
theorem dX8_pleasedBy_48 : decode cX8_pleasedBy 48 = .ok (.aload_n 0, 1) := by decide +kernel
theorem dX8_pleasedBy_49 : decode cX8_pleasedBy 49 = .ok (.aload_n 0, 1) := by decide +kernel
theorem dX8_pleasedBy_50 : decode cX8_pleasedBy 50 = .ok (.getfield 86, 3) := by decide +kernel
theorem dX8_pleasedBy_53 : decode cX8_pleasedBy 53 = .ok (.iconst 0, 1) := by decide +kernel
theorem dX8_pleasedBy_54 : decode cX8_pleasedBy 54 = .ok (.aload_n 0, 1) := by decide +kernel
theorem dX8_pleasedBy_55 : decode cX8_pleasedBy 55 = .ok (.getfield 19, 3) := by decide +kernel
theorem dX8_pleasedBy_58 : decode cX8_pleasedBy 58 = .ok (.iconst 0, 1) := by decide +kernel
theorem dX8_pleasedBy_59 : decode cX8_pleasedBy 59 = .ok (.iaload, 1) := by decide +kernel
theorem dX8_pleasedBy_60 : decode cX8_pleasedBy 60 = .ok (.aload_n 0, 1) := by decide +kernel
theorem dX8_pleasedBy_61 : decode cX8_pleasedBy 61 = .ok (.getfield 22, 3) := by decide +kernel
theorem dX8_pleasedBy_64 : decode cX8_pleasedBy 64 = .ok (.iconst 0, 1) := by decide +kernel
theorem dX8_pleasedBy_65 : decode cX8_pleasedBy 65 = .ok (.iaload, 1) := by decide +kernel
theorem dX8_pleasedBy_66 : decode cX8_pleasedBy 66 = .ok (.iload_n 3, 1) := by decide +kernel
theorem dX8_pleasedBy_67 : decode cX8_pleasedBy 67 = .ok (.invokevirtual 158, 3) := by decide +kernel
theorem dX8_pleasedBy_70 : decode cX8_pleasedBy 70 = .ok (.iinc 3 1, 3) := by decide +kernel
theorem dX8_pleasedBy_73 : decode cX8_pleasedBy 73 = .ok (.goto (-35), 3) := by decide +kernel
theorem dX8_pleasedBy_76 : decode cX8_pleasedBy 76 = .ok (.iconst 1, 1) := by decide +kernel
theorem dX8_pleasedBy_77 : decode cX8_pleasedBy 77 = .ok (.istore_n 3, 1) := by decide +kernel
theorem dX8_pleasedBy_78 : decode cX8_pleasedBy 78 = .ok (.iload_n 3, 1) := by decide +kernel
theorem dX8_pleasedBy_79 : decode cX8_pleasedBy 79 = .ok (.iload_n 1, 1) := by decide +kernel
theorem dX8_pleasedBy_80 : decode cX8_pleasedBy 80 = .ok (.if_icmp .ge 21, 3) := by decide +kernel
theorem dX8_pleasedBy_83 : decode cX8_pleasedBy 83 = .ok (.aload_n 0, 1) := by decide +kernel
theorem dX8_pleasedBy_84 : decode cX8_pleasedBy 84 = .ok (.aload_n 0, 1) := by decide +kernel
theorem dX8_pleasedBy_85 : decode cX8_pleasedBy 85 = .ok (.getfield 86, 3) := by decide +kernel
theorem dX8_pleasedBy_88 : decode cX8_pleasedBy 88 = .ok (.aload_n 0, 1) := by decide +kernel
theorem dX8_pleasedBy_89 : decode cX8_pleasedBy 89 = .ok (.getfield 68, 3) := by decide +kernel
theorem dX8_pleasedBy_92 : decode cX8_pleasedBy 92 = .ok (.invokevirtual 177, 3) := by decide +kernel
theorem dX8_pleasedBy_95 : decode cX8_pleasedBy 95 = .ok (.iinc 3 1, 3) := by decide +kernel
theorem dX8_pleasedBy_98 : decode cX8_pleasedBy 98 = .ok (.goto (-20), 3) := by decide +kernel
theorem dX8_pleasedBy_101 : decode cX8_pleasedBy 101 = .ok (.iconst 0, 1) := by decide +kernel
theorem dX8_pleasedBy_102 : decode cX8_pleasedBy 102 = .ok (.istore_n 3, 1) := by decide +kernel
theorem dX8_pleasedBy_103 : decode cX8_pleasedBy 103 = .ok (.iconst 0, 1) := by decide +kernel
theorem dX8_pleasedBy_104 : decode cX8_pleasedBy 104 = .ok (.istore 4, 2) := by decide +kernel
theorem dX8_pleasedBy_106 : decode cX8_pleasedBy 106 = .ok (.iload 4, 2) := by decide +kernel
theorem dX8_pleasedBy_108 : decode cX8_pleasedBy 108 = .ok (.aload_n 0, 1) := by decide +kernel
theorem dX8_pleasedBy_109 : decode cX8_pleasedBy 109 = .ok (.invokevirtual 206, 3) := by decide +kernel
theorem dX8_pleasedBy_112 : decode cX8_pleasedBy 112 = .ok (.if_icmp .ge 39, 3) := by decide +kernel
theorem dX8_pleasedBy_115 : decode cX8_pleasedBy 115 = .ok (.iload_n 3, 1) := by decide +kernel
theorem dX8_pleasedBy_116 : decode cX8_pleasedBy 116 = .ok (.aload_n 0, 1) := by decide +kernel
theorem dX8_pleasedBy_117 : decode cX8_pleasedBy 117 = .ok (.getfield 86, 3) := by decide +kernel
theorem dX8_pleasedBy_120 : decode cX8_pleasedBy 120 = .ok (.aload_n 0, 1) := by decide +kernel
theorem dX8_pleasedBy_121 : decode cX8_pleasedBy 121 = .ok (.getfield 65, 3) := by decide +kernel
theorem dX8_pleasedBy_124 : decode cX8_pleasedBy 124 = .ok (.iload 4, 2) := by decide +kernel
theorem dX8_pleasedBy_126 : decode cX8_pleasedBy 126 = .ok (.iaload, 1) := by decide +kernel
theorem dX8_pleasedBy_127 : decode cX8_pleasedBy 127 = .ok (.iaload, 1) := by decide +kernel
theorem dX8_pleasedBy_128 : decode cX8_pleasedBy 128 = .ok (.aload_n 0, 1) := by decide +kernel
theorem dX8_pleasedBy_129 : decode cX8_pleasedBy 129 = .ok (.getfield 34, 3) := by decide +kernel
theorem dX8_pleasedBy_132 : decode cX8_pleasedBy 132 = .ok (.iload 4, 2) := by decide +kernel
theorem dX8_pleasedBy_134 : decode cX8_pleasedBy 134 = .ok (.iaload, 1) := by decide +kernel
theorem dX8_pleasedBy_135 : decode cX8_pleasedBy 135 = .ok (.if_icmp .ne 7, 3) := by decide +kernel
theorem dX8_pleasedBy_138 : decode cX8_pleasedBy 138 = .ok (.iconst 1, 1) := by decide +kernel
theorem dX8_pleasedBy_139 : decode cX8_pleasedBy 139 = .ok (.goto 4, 3) := by decide +kernel
theorem dX8_pleasedBy_142 : decode cX8_pleasedBy 142 = .ok (.iconst 0, 1) := by decide +kernel
theorem dX8_pleasedBy_143 : decode cX8_pleasedBy 143 = .ok (.iadd, 1) := by decide +kernel
theorem dX8_pleasedBy_144 : decode cX8_pleasedBy 144 = .ok (.istore_n 3, 1) := by decide +kernel
theorem dX8_pleasedBy_145 : decode cX8_pleasedBy 145 = .ok (.iinc 4 1, 3) := by decide +kernel
theorem dX8_pleasedBy_148 : decode cX8_pleasedBy 148 = .ok (.goto (-42), 3) := by decide +kernel
theorem dX8_pleasedBy_151 : decode cX8_pleasedBy 151 = .ok (.iload_n 3, 1) := by decide +kernel
theorem dX8_pleasedBy_152 : decode cX8_pleasedBy 152 = .ok (.ireturn, 1) := by decide +kernel
theorem dX8_pleased_0 : decode cX8_pleased 0 = .ok (.iload_n 1, 1) := by decide +kernel
theorem dX8_pleased_1 : decode cX8_pleased 1 = .ok (.i2l, 1) := by decide +kernel
theorem dX8_pleased_2 : decode cX8_pleased 2 = .ok (.lconst 1, 1) := by decide +kernel
theorem dX8_pleased_3 : decode cX8_pleased 3 = .ok (.ldc2_w 229, 3) := by decide +kernel
theorem dX8_pleased_6 : decode cX8_pleased 6 = .ok (.invokestatic 98, 3) := by decide +kernel
theorem dX8_pleased_9 : decode cX8_pleased 9 = .ok (.ifCond .eq 13, 3) := by decide +kernel
theorem dX8_pleased_12 : decode cX8_pleased 12 = .ok (.iload_n 2, 1) := by decide +kernel
theorem dX8_pleased_13 : decode cX8_pleased 13 = .ok (.i2l, 1) := by decide +kernel
theorem dX8_pleased_14 : decode cX8_pleased 14 = .ok (.lconst 0, 1) := by decide +kernel
theorem dX8_pleased_15 : decode cX8_pleased 15 = .ok (.lconst 1, 1) := by decide +kernel
theorem dX8_pleased_16 : decode cX8_pleased 16 = .ok (.invokestatic 98, 3) := by decide +kernel
theorem dX8_pleased_19 : decode cX8_pleased 19 = .ok (.ifCond .ne 5, 3) := by decide +kernel
theorem dX8_pleased_22 : decode cX8_pleased 22 = .ok (.iconst (-1), 1) := by decide +kernel
theorem dX8_pleased_23 : decode cX8_pleased 23 = .ok (.ireturn, 1) := by decide +kernel
theorem dX8_pleased_24 : decode cX8_pleased 24 = .ok (.iconst 0, 1) := by decide +kernel
theorem dX8_pleased_25 : decode cX8_pleased 25 = .ok (.istore_n 3, 1) := by decide +kernel
theorem dX8_pleased_26 : decode cX8_pleased 26 = .ok (.bipush (-4), 2) := by decide +kernel
theorem dX8_pleased_28 : decode cX8_pleased 28 = .ok (.istore 4, 2) := by decide +kernel
theorem dX8_pleased_30 : decode cX8_pleased 30 = .ok (.iconst 0, 1) := by decide +kernel
theorem dX8_pleased_31 : decode cX8_pleased 31 = .ok (.istore 5, 2) := by decide +kernel
theorem dX8_pleased_33 : decode cX8_pleased 33 = .ok (.iload 5, 2) := by decide +kernel
theorem dX8_pleased_35 : decode cX8_pleased 35 = .ok (.aload_n 0, 1) := by decide +kernel
theorem dX8_pleased_36 : decode cX8_pleased 36 = .ok (.getfield 13, 3) := by decide +kernel
theorem dX8_pleased_39 : decode cX8_pleased 39 = .ok (.iconst 0, 1) := by decide +kernel
theorem dX8_pleased_40 : decode cX8_pleased 40 = .ok (.iaload, 1) := by decide +kernel
theorem dX8_pleased_41 : decode cX8_pleased 41 = .ok (.if_icmp .ge 48, 3) := by decide +kernel
theorem dX8_pleased_44 : decode cX8_pleased 44 = .ok (.aload_n 0, 1) := by decide +kernel
theorem dX8_pleased_45 : decode cX8_pleased 45 = .ok (.iload_n 1, 1) := by decide +kernel
theorem dX8_pleased_46 : decode cX8_pleased 46 = .ok (.iload 5, 2) := by decide +kernel
theorem dX8_pleased_48 : decode cX8_pleased 48 = .ok (.invokevirtual 231, 3) := by decide +kernel
theorem dX8_pleased_51 : decode cX8_pleased 51 = .ok (.istore 6, 2) := by decide +kernel
theorem dX8_pleased_53 : decode cX8_pleased 53 = .ok (.iload 6, 2) := by decide +kernel
theorem dX8_pleased_55 : decode cX8_pleased 55 = .ok (.iload 4, 2) := by decide +kernel
theorem dX8_pleased_57 : decode cX8_pleased 57 = .ok (.if_icmp .le 8, 3) := by decide +kernel
theorem dX8_pleased_60 : decode cX8_pleased 60 = .ok (.iload 5, 2) := by decide +kernel
theorem dX8_pleased_62 : decode cX8_pleased 62 = .ok (.goto 4, 3) := by decide +kernel
theorem dX8_pleased_65 : decode cX8_pleased 65 = .ok (.iload_n 3, 1) := by decide +kernel
theorem dX8_pleased_66 : decode cX8_pleased 66 = .ok (.istore_n 3, 1) := by decide +kernel
theorem dX8_pleased_67 : decode cX8_pleased 67 = .ok (.iload 6, 2) := by decide +kernel
theorem dX8_pleased_69 : decode cX8_pleased 69 = .ok (.iload 4, 2) := by decide +kernel
theorem dX8_pleased_71 : decode cX8_pleased 71 = .ok (.if_icmp .le 8, 3) := by decide +kernel
theorem dX8_pleased_74 : decode cX8_pleased 74 = .ok (.iload 6, 2) := by decide +kernel
theorem dX8_pleased_76 : decode cX8_pleased 76 = .ok (.goto 5, 3) := by decide +kernel
theorem dX8_pleased_79 : decode cX8_pleased 79 = .ok (.iload 4, 2) := by decide +kernel
theorem dX8_pleased_81 : decode cX8_pleased 81 = .ok (.istore 4, 2) := by decide +kernel
theorem dX8_pleased_83 : decode cX8_pleased 83 = .ok (.iinc 5 1, 3) := by decide +kernel
theorem dX8_pleased_86 : decode cX8_pleased 86 = .ok (.goto (-53), 3) := by decide +kernel
theorem dX8_pleased_89 : decode cX8_pleased 89 = .ok (.iload_n 2, 1) := by decide +kernel
theorem dX8_pleased_90 : decode cX8_pleased 90 = .ok (.ifCond .ne 7, 3) := by decide +kernel
theorem dX8_pleased_93 : decode cX8_pleased 93 = .ok (.iload_n 3, 1) := by decide +kernel
theorem dX8_pleased_94 : decode cX8_pleased 94 = .ok (.goto 5, 3) := by decide +kernel
theorem dX8_pleased_97 : decode cX8_pleased 97 = .ok (.iload 4, 2) := by decide +kernel
theorem dX8_pleased_99 : decode cX8_pleased 99 = .ok (.ireturn, 1) := by decide +kernel
theorem dX8_copy_0 : decode cX8_copy 0 = .ok (.iconst 0, 1) := by decide +kernel
theorem dX8_copy_1 : decode cX8_copy 1 = .ok (.istore_n 3, 1) := by decide +kernel
theorem dX8_copy_2 : decode cX8_copy 2 = .ok (.iload_n 3, 1) := by decide +kernel
theorem dX8_copy_3 : decode cX8_copy 3 = .ok (.bipush 40, 2) := by decide +kernel
theorem dX8_copy_5 : decode cX8_copy 5 = .ok (.if_icmp .ge 31, 3) := by decide +kernel
theorem dX8_copy_8 : decode cX8_copy 8 = .ok (.aload_n 0, 1) := by decide +kernel
theorem dX8_copy_9 : decode cX8_copy 9 = .ok (.getfield 40, 3) := by decide +kernel
theorem dX8_copy_12 : decode cX8_copy 12 = .ok (.bipush 40, 2) := by decide +kernel
theorem dX8_copy_14 : decode cX8_copy 14 = .ok (.iload_n 2, 1) := by decide +kernel
theorem dX8_copy_15 : decode cX8_copy 15 = .ok (.imul, 1) := by decide +kernel
theorem dX8_copy_16 : decode cX8_copy 16 = .ok (.iload_n 3, 1) := by decide +kernel
theorem dX8_copy_17 : decode cX8_copy 17 = .ok (.iadd, 1) := by decide +kernel
theorem dX8_copy_18 : decode cX8_copy 18 = .ok (.aload_n 0, 1) := by decide +kernel
theorem dX8_copy_19 : decode cX8_copy 19 = .ok (.getfield 40, 3) := by decide +kernel
theorem dX8_copy_22 : decode cX8_copy 22 = .ok (.bipush 40, 2) := by decide +kernel
theorem dX8_copy_24 : decode cX8_copy 24 = .ok (.iload_n 1, 1) := by decide +kernel
theorem dX8_copy_25 : decode cX8_copy 25 = .ok (.imul, 1) := by decide +kernel
theorem dX8_copy_26 : decode cX8_copy 26 = .ok (.iload_n 3, 1) := by decide +kernel
theorem dX8_copy_27 : decode cX8_copy 27 = .ok (.iadd, 1) := by decide +kernel
theorem dX8_copy_28 : decode cX8_copy 28 = .ok (.iaload, 1) := by decide +kernel
theorem dX8_copy_29 : decode cX8_copy 29 = .ok (.iastore, 1) := by decide +kernel
theorem dX8_copy_30 : decode cX8_copy 30 = .ok (.iinc 3 1, 3) := by decide +kernel
theorem dX8_copy_33 : decode cX8_copy 33 = .ok (.goto (-31), 3) := by decide +kernel
theorem dX8_copy_36 : decode cX8_copy 36 = .ok (.aload_n 0, 1) := by decide +kernel
theorem dX8_copy_37 : decode cX8_copy 37 = .ok (.getfield 43, 3) := by decide +kernel
theorem dX8_copy_40 : decode cX8_copy 40 = .ok (.iload_n 2, 1) := by decide +kernel
theorem dX8_copy_41 : decode cX8_copy 41 = .ok (.aload_n 0, 1) := by decide +kernel
theorem dX8_copy_42 : decode cX8_copy 42 = .ok (.getfield 43, 3) := by decide +kernel
theorem dX8_copy_45 : decode cX8_copy 45 = .ok (.iload_n 1, 1) := by decide +kernel
theorem dX8_copy_46 : decode cX8_copy 46 = .ok (.iaload, 1) := by decide +kernel
theorem dX8_copy_47 : decode cX8_copy 47 = .ok (.iastore, 1) := by decide +kernel
theorem dX8_copy_48 : decode cX8_copy 48 = .ok (.aload_n 0, 1) := by decide +kernel
theorem dX8_copy_49 : decode cX8_copy 49 = .ok (.getfield 46, 3) := by decide +kernel
theorem dX8_copy_52 : decode cX8_copy 52 = .ok (.iload_n 2, 1) := by decide +kernel
theorem dX8_copy_53 : decode cX8_copy 53 = .ok (.aload_n 0, 1) := by decide +kernel
theorem dX8_copy_54 : decode cX8_copy 54 = .ok (.getfield 46, 3) := by decide +kernel
theorem dX8_copy_57 : decode cX8_copy 57 = .ok (.iload_n 1, 1) := by decide +kernel
theorem dX8_copy_58 : decode cX8_copy 58 = .ok (.iaload, 1) := by decide +kernel
theorem dX8_copy_59 : decode cX8_copy 59 = .ok (.iastore, 1) := by decide +kernel
theorem dX8_copy_60 : decode cX8_copy 60 = .ok (.return_, 1) := by decide +kernel
theorem dX8_keep_0 : decode cX8_keep 0 = .ok (.aload_n 0, 1) := by decide +kernel
theorem dX8_keep_1 : decode cX8_keep 1 = .ok (.getfield 135, 3) := by decide +kernel
theorem dX8_keep_4 : decode cX8_keep 4 = .ok (.iconst 2, 1) := by decide +kernel
theorem dX8_keep_5 : decode cX8_keep 5 = .ok (.if_icmp .ne 6, 3) := by decide +kernel
theorem dX8_keep_8 : decode cX8_keep 8 = .ok (.bipush (-3), 2) := by decide +kernel
theorem dX8_keep_10 : decode cX8_keep 10 = .ok (.ireturn, 1) := by decide +kernel
theorem dX8_keep_11 : decode cX8_keep 11 = .ok (.aload_n 0, 1) := by decide +kernel
theorem dX8_keep_12 : decode cX8_keep 12 = .ok (.dup, 1) := by decide +kernel
theorem dX8_keep_13 : decode cX8_keep 13 = .ok (.getfield 135, 3) := by decide +kernel
theorem dX8_keep_16 : decode cX8_keep 16 = .ok (.iconst 1, 1) := by decide +kernel
theorem dX8_keep_17 : decode cX8_keep 17 = .ok (.iadd, 1) := by decide +kernel
theorem dX8_keep_18 : decode cX8_keep 18 = .ok (.putfield 135, 3) := by decide +kernel
theorem dX8_keep_21 : decode cX8_keep 21 = .ok (.aload_n 0, 1) := by decide +kernel
theorem dX8_keep_22 : decode cX8_keep 22 = .ok (.iconst 0, 1) := by decide +kernel
theorem dX8_keep_23 : decode cX8_keep 23 = .ok (.aload_n 0, 1) := by decide +kernel
theorem dX8_keep_24 : decode cX8_keep 24 = .ok (.getfield 135, 3) := by decide +kernel
theorem dX8_keep_27 : decode cX8_keep 27 = .ok (.invokevirtual 234, 3) := by decide +kernel
theorem dX8_keep_30 : decode cX8_keep 30 = .ok (.aload_n 0, 1) := by decide +kernel
theorem dX8_keep_31 : decode cX8_keep 31 = .ok (.getfield 135, 3) := by decide +kernel
theorem dX8_keep_34 : decode cX8_keep 34 = .ok (.ireturn, 1) := by decide +kernel
theorem dX8_back_0 : decode cX8_back 0 = .ok (.aload_n 0, 1) := by decide +kernel
theorem dX8_back_1 : decode cX8_back 1 = .ok (.getfield 135, 3) := by decide +kernel
theorem dX8_back_4 : decode cX8_back 4 = .ok (.ifCond .ne 6, 3) := by decide +kernel
theorem dX8_back_7 : decode cX8_back 7 = .ok (.bipush (-2), 2) := by decide +kernel
theorem dX8_back_9 : decode cX8_back 9 = .ok (.ireturn, 1) := by decide +kernel
theorem dX8_back_10 : decode cX8_back 10 = .ok (.aload_n 0, 1) := by decide +kernel
theorem dX8_back_11 : decode cX8_back 11 = .ok (.aload_n 0, 1) := by decide +kernel
theorem dX8_back_12 : decode cX8_back 12 = .ok (.getfield 135, 3) := by decide +kernel
theorem dX8_back_15 : decode cX8_back 15 = .ok (.iconst 0, 1) := by decide +kernel
theorem dX8_back_16 : decode cX8_back 16 = .ok (.invokevirtual 234, 3) := by decide +kernel
theorem dX8_back_19 : decode cX8_back 19 = .ok (.aload_n 0, 1) := by decide +kernel
theorem dX8_back_20 : decode cX8_back 20 = .ok (.dup, 1) := by decide +kernel
theorem dX8_back_21 : decode cX8_back 21 = .ok (.getfield 135, 3) := by decide +kernel
theorem dX8_back_24 : decode cX8_back 24 = .ok (.iconst 1, 1) := by decide +kernel
theorem dX8_back_25 : decode cX8_back 25 = .ok (.isub, 1) := by decide +kernel
theorem dX8_back_26 : decode cX8_back 26 = .ok (.putfield 135, 3) := by decide +kernel
theorem dX8_back_29 : decode cX8_back 29 = .ok (.aload_n 0, 1) := by decide +kernel
theorem dX8_back_30 : decode cX8_back 30 = .ok (.getfield 135, 3) := by decide +kernel
theorem dX8_back_33 : decode cX8_back 33 = .ok (.ireturn, 1) := by decide +kernel
theorem dX8_count_0 : decode cX8_count 0 = .ok (.iload_n 1, 1) := by decide +kernel
theorem dX8_count_1 : decode cX8_count 1 = .ok (.tableswitch 97 0 7 #[47, 54, 61, 68, 75, 82, 87, 92], 47) := by decide +kernel
theorem dX8_count_48 : decode cX8_count 48 = .ok (.aload_n 0, 1) := by decide +kernel
theorem dX8_count_49 : decode cX8_count 49 = .ok (.getfield 13, 3) := by decide +kernel
theorem dX8_count_52 : decode cX8_count 52 = .ok (.iconst 0, 1) := by decide +kernel
theorem dX8_count_53 : decode cX8_count 53 = .ok (.iaload, 1) := by decide +kernel
theorem dX8_count_54 : decode cX8_count 54 = .ok (.ireturn, 1) := by decide +kernel
theorem dX8_count_55 : decode cX8_count 55 = .ok (.aload_n 0, 1) := by decide +kernel
theorem dX8_count_56 : decode cX8_count 56 = .ok (.getfield 16, 3) := by decide +kernel
theorem dX8_count_59 : decode cX8_count 59 = .ok (.iconst 0, 1) := by decide +kernel
theorem dX8_count_60 : decode cX8_count 60 = .ok (.iaload, 1) := by decide +kernel
theorem dX8_count_61 : decode cX8_count 61 = .ok (.ireturn, 1) := by decide +kernel
theorem dX8_count_62 : decode cX8_count 62 = .ok (.aload_n 0, 1) := by decide +kernel
theorem dX8_count_63 : decode cX8_count 63 = .ok (.getfield 31, 3) := by decide +kernel
theorem dX8_count_66 : decode cX8_count 66 = .ok (.iconst 0, 1) := by decide +kernel
theorem dX8_count_67 : decode cX8_count 67 = .ok (.iaload, 1) := by decide +kernel
theorem dX8_count_68 : decode cX8_count 68 = .ok (.ireturn, 1) := by decide +kernel
theorem dX8_count_69 : decode cX8_count 69 = .ok (.aload_n 0, 1) := by decide +kernel
theorem dX8_count_70 : decode cX8_count 70 = .ok (.getfield 43, 3) := by decide +kernel
theorem dX8_count_73 : decode cX8_count 73 = .ok (.iconst 0, 1) := by decide +kernel
theorem dX8_count_74 : decode cX8_count 74 = .ok (.iaload, 1) := by decide +kernel
theorem dX8_count_75 : decode cX8_count 75 = .ok (.ireturn, 1) := by decide +kernel
theorem dX8_count_76 : decode cX8_count 76 = .ok (.aload_n 0, 1) := by decide +kernel
theorem dX8_count_77 : decode cX8_count 77 = .ok (.getfield 46, 3) := by decide +kernel
theorem dX8_count_80 : decode cX8_count 80 = .ok (.iconst 0, 1) := by decide +kernel
theorem dX8_count_81 : decode cX8_count 81 = .ok (.iaload, 1) := by decide +kernel
theorem dX8_count_82 : decode cX8_count 82 = .ok (.ireturn, 1) := by decide +kernel
theorem dX8_count_83 : decode cX8_count 83 = .ok (.aload_n 0, 1) := by decide +kernel
theorem dX8_count_84 : decode cX8_count 84 = .ok (.getfield 138, 3) := by decide +kernel
theorem dX8_count_87 : decode cX8_count 87 = .ok (.ireturn, 1) := by decide +kernel
theorem dX8_count_88 : decode cX8_count 88 = .ok (.aload_n 0, 1) := by decide +kernel
theorem dX8_count_89 : decode cX8_count 89 = .ok (.getfield 135, 3) := by decide +kernel
theorem dX8_count_92 : decode cX8_count 92 = .ok (.ireturn, 1) := by decide +kernel
theorem dX8_count_93 : decode cX8_count 93 = .ok (.aload_n 0, 1) := by decide +kernel
theorem dX8_count_94 : decode cX8_count 94 = .ok (.getfield 102, 3) := by decide +kernel
theorem dX8_count_97 : decode cX8_count 97 = .ok (.ireturn, 1) := by decide +kernel
theorem dX8_count_98 : decode cX8_count 98 = .ok (.iconst (-1), 1) := by decide +kernel
theorem dX8_count_99 : decode cX8_count 99 = .ok (.ireturn, 1) := by decide +kernel
theorem dL_law_0 : decode cL_law 0 = .ok (.new 7, 3) := by decide +kernel
theorem dL_law_3 : decode cL_law 3 = .ok (.dup, 1) := by decide +kernel
theorem dL_law_4 : decode cL_law 4 = .ok (.invokespecial 9, 3) := by decide +kernel
theorem dL_law_7 : decode cL_law 7 = .ok (.astore_n 1, 1) := by decide +kernel
theorem dL_law_8 : decode cL_law 8 = .ok (.new 10, 3) := by decide +kernel
theorem dL_law_11 : decode cL_law 11 = .ok (.dup, 1) := by decide +kernel
theorem dL_law_12 : decode cL_law 12 = .ok (.invokespecial 12, 3) := by decide +kernel
theorem dL_law_15 : decode cL_law 15 = .ok (.astore_n 2, 1) := by decide +kernel
theorem dL_law_16 : decode cL_law 16 = .ok (.iconst 0, 1) := by decide +kernel
theorem dL_law_17 : decode cL_law 17 = .ok (.istore_n 3, 1) := by decide +kernel
theorem dL_law_18 : decode cL_law 18 = .ok (.iload_n 3, 1) := by decide +kernel
theorem dL_law_19 : decode cL_law 19 = .ok (.aload_n 0, 1) := by decide +kernel
theorem dL_law_20 : decode cL_law 20 = .ok (.arraylength, 1) := by decide +kernel
theorem dL_law_21 : decode cL_law 21 = .ok (.iconst 5, 1) := by decide +kernel
theorem dL_law_22 : decode cL_law 22 = .ok (.isub, 1) := by decide +kernel
theorem dL_law_23 : decode cL_law 23 = .ok (.if_icmp .gt 989, 3) := by decide +kernel
theorem dL_law_26 : decode cL_law 26 = .ok (.aload_n 0, 1) := by decide +kernel
theorem dL_law_27 : decode cL_law 27 = .ok (.iload_n 3, 1) := by decide +kernel
theorem dL_law_28 : decode cL_law 28 = .ok (.iaload, 1) := by decide +kernel
theorem dL_law_29 : decode cL_law 29 = .ok (.bipush 31, 2) := by decide +kernel
theorem dL_law_31 : decode cL_law 31 = .ok (.iand, 1) := by decide +kernel
theorem dL_law_32 : decode cL_law 32 = .ok (.tableswitch 974 0 27 #[128, 191, 204, 217, 230, 263, 286, 299, 312, 345, 368, 431, 485, 498, 522, 575, 638, 671, 694, 767, 780, 793, 816, 849, 892, 925, 938, 951], 128) := by decide +kernel
theorem dL_law_160 : decode cL_law 160 = .ok (.aload_n 1, 1) := by decide +kernel
theorem dL_law_161 : decode cL_law 161 = .ok (.aload_n 0, 1) := by decide +kernel
theorem dL_law_162 : decode cL_law 162 = .ok (.iload_n 3, 1) := by decide +kernel
theorem dL_law_163 : decode cL_law 163 = .ok (.iconst 1, 1) := by decide +kernel
theorem dL_law_164 : decode cL_law 164 = .ok (.iadd, 1) := by decide +kernel
theorem dL_law_165 : decode cL_law 165 = .ok (.iaload, 1) := by decide +kernel
theorem dL_law_166 : decode cL_law 166 = .ok (.aload_n 0, 1) := by decide +kernel
theorem dL_law_167 : decode cL_law 167 = .ok (.iload_n 3, 1) := by decide +kernel
theorem dL_law_168 : decode cL_law 168 = .ok (.iconst 2, 1) := by decide +kernel
theorem dL_law_169 : decode cL_law 169 = .ok (.iadd, 1) := by decide +kernel
theorem dL_law_170 : decode cL_law 170 = .ok (.iaload, 1) := by decide +kernel
theorem dL_law_171 : decode cL_law 171 = .ok (.i2l, 1) := by decide +kernel
theorem dL_law_172 : decode cL_law 172 = .ok (.bipush 32, 2) := by decide +kernel
theorem dL_law_174 : decode cL_law 174 = .ok (.lshl, 1) := by decide +kernel
theorem dL_law_175 : decode cL_law 175 = .ok (.aload_n 0, 1) := by decide +kernel
theorem dL_law_176 : decode cL_law 176 = .ok (.iload_n 3, 1) := by decide +kernel
theorem dL_law_177 : decode cL_law 177 = .ok (.iconst 3, 1) := by decide +kernel
theorem dL_law_178 : decode cL_law 178 = .ok (.iadd, 1) := by decide +kernel
theorem dL_law_179 : decode cL_law 179 = .ok (.iaload, 1) := by decide +kernel
theorem dL_law_180 : decode cL_law 180 = .ok (.i2l, 1) := by decide +kernel
theorem dL_law_181 : decode cL_law 181 = .ok (.ldc2_w 13, 3) := by decide +kernel
theorem dL_law_184 : decode cL_law 184 = .ok (.land, 1) := by decide +kernel
theorem dL_law_185 : decode cL_law 185 = .ok (.lor, 1) := by decide +kernel
theorem dL_law_186 : decode cL_law 186 = .ok (.invokevirtual 15, 3) := by decide +kernel
theorem dL_law_189 : decode cL_law 189 = .ok (.aload_n 2, 1) := by decide +kernel
theorem dL_law_190 : decode cL_law 190 = .ok (.aload_n 0, 1) := by decide +kernel
theorem dL_law_191 : decode cL_law 191 = .ok (.iload_n 3, 1) := by decide +kernel
theorem dL_law_192 : decode cL_law 192 = .ok (.iconst 1, 1) := by decide +kernel
theorem dL_law_193 : decode cL_law 193 = .ok (.iadd, 1) := by decide +kernel
theorem dL_law_194 : decode cL_law 194 = .ok (.iaload, 1) := by decide +kernel
theorem dL_law_195 : decode cL_law 195 = .ok (.aload_n 0, 1) := by decide +kernel
theorem dL_law_196 : decode cL_law 196 = .ok (.iload_n 3, 1) := by decide +kernel
theorem dL_law_197 : decode cL_law 197 = .ok (.iconst 2, 1) := by decide +kernel
theorem dL_law_198 : decode cL_law 198 = .ok (.iadd, 1) := by decide +kernel
theorem dL_law_199 : decode cL_law 199 = .ok (.iaload, 1) := by decide +kernel
theorem dL_law_200 : decode cL_law 200 = .ok (.i2l, 1) := by decide +kernel
theorem dL_law_201 : decode cL_law 201 = .ok (.bipush 32, 2) := by decide +kernel
theorem dL_law_203 : decode cL_law 203 = .ok (.lshl, 1) := by decide +kernel
theorem dL_law_204 : decode cL_law 204 = .ok (.aload_n 0, 1) := by decide +kernel
theorem dL_law_205 : decode cL_law 205 = .ok (.iload_n 3, 1) := by decide +kernel
theorem dL_law_206 : decode cL_law 206 = .ok (.iconst 3, 1) := by decide +kernel
theorem dL_law_207 : decode cL_law 207 = .ok (.iadd, 1) := by decide +kernel
theorem dL_law_208 : decode cL_law 208 = .ok (.iaload, 1) := by decide +kernel
theorem dL_law_209 : decode cL_law 209 = .ok (.i2l, 1) := by decide +kernel
theorem dL_law_210 : decode cL_law 210 = .ok (.ldc2_w 13, 3) := by decide +kernel
theorem dL_law_213 : decode cL_law 213 = .ok (.land, 1) := by decide +kernel
theorem dL_law_214 : decode cL_law 214 = .ok (.lor, 1) := by decide +kernel
theorem dL_law_215 : decode cL_law 215 = .ok (.invokevirtual 19, 3) := by decide +kernel
theorem dL_law_218 : decode cL_law 218 = .ok (.if_icmp .eq 788, 3) := by decide +kernel
theorem dL_law_221 : decode cL_law 221 = .ok (.iconst 0, 1) := by decide +kernel
theorem dL_law_222 : decode cL_law 222 = .ok (.ireturn, 1) := by decide +kernel
theorem dL_law_223 : decode cL_law 223 = .ok (.aload_n 1, 1) := by decide +kernel
theorem dL_law_224 : decode cL_law 224 = .ok (.invokevirtual 20, 3) := by decide +kernel
theorem dL_law_227 : decode cL_law 227 = .ok (.aload_n 2, 1) := by decide +kernel
theorem dL_law_228 : decode cL_law 228 = .ok (.invokevirtual 24, 3) := by decide +kernel
theorem dL_law_231 : decode cL_law 231 = .ok (.if_icmp .eq 775, 3) := by decide +kernel
theorem dL_law_234 : decode cL_law 234 = .ok (.iconst 0, 1) := by decide +kernel
theorem dL_law_235 : decode cL_law 235 = .ok (.ireturn, 1) := by decide +kernel
theorem dL_law_236 : decode cL_law 236 = .ok (.aload_n 1, 1) := by decide +kernel
theorem dL_law_237 : decode cL_law 237 = .ok (.invokevirtual 25, 3) := by decide +kernel
theorem dL_law_240 : decode cL_law 240 = .ok (.aload_n 2, 1) := by decide +kernel
theorem dL_law_241 : decode cL_law 241 = .ok (.invokevirtual 28, 3) := by decide +kernel
theorem dL_law_244 : decode cL_law 244 = .ok (.if_icmp .eq 762, 3) := by decide +kernel
theorem dL_law_247 : decode cL_law 247 = .ok (.iconst 0, 1) := by decide +kernel
theorem dL_law_248 : decode cL_law 248 = .ok (.ireturn, 1) := by decide +kernel
theorem dL_law_249 : decode cL_law 249 = .ok (.aload_n 1, 1) := by decide +kernel
theorem dL_law_250 : decode cL_law 250 = .ok (.invokevirtual 29, 3) := by decide +kernel
theorem dL_law_253 : decode cL_law 253 = .ok (.aload_n 2, 1) := by decide +kernel
theorem dL_law_254 : decode cL_law 254 = .ok (.invokevirtual 32, 3) := by decide +kernel
theorem dL_law_257 : decode cL_law 257 = .ok (.if_icmp .eq 749, 3) := by decide +kernel
theorem dL_law_260 : decode cL_law 260 = .ok (.iconst 0, 1) := by decide +kernel
theorem dL_law_261 : decode cL_law 261 = .ok (.ireturn, 1) := by decide +kernel
theorem dL_law_262 : decode cL_law 262 = .ok (.aload_n 1, 1) := by decide +kernel
theorem dL_law_263 : decode cL_law 263 = .ok (.aload_n 0, 1) := by decide +kernel
theorem dL_law_264 : decode cL_law 264 = .ok (.iload_n 3, 1) := by decide +kernel
theorem dL_law_265 : decode cL_law 265 = .ok (.iconst 1, 1) := by decide +kernel
theorem dL_law_266 : decode cL_law 266 = .ok (.iadd, 1) := by decide +kernel
theorem dL_law_267 : decode cL_law 267 = .ok (.iaload, 1) := by decide +kernel
theorem dL_law_268 : decode cL_law 268 = .ok (.aload_n 0, 1) := by decide +kernel
theorem dL_law_269 : decode cL_law 269 = .ok (.iload_n 3, 1) := by decide +kernel
theorem dL_law_270 : decode cL_law 270 = .ok (.iconst 2, 1) := by decide +kernel
theorem dL_law_271 : decode cL_law 271 = .ok (.iadd, 1) := by decide +kernel
theorem dL_law_272 : decode cL_law 272 = .ok (.iaload, 1) := by decide +kernel
theorem dL_law_273 : decode cL_law 273 = .ok (.invokevirtual 33, 3) := by decide +kernel
theorem dL_law_276 : decode cL_law 276 = .ok (.aload_n 2, 1) := by decide +kernel
theorem dL_law_277 : decode cL_law 277 = .ok (.aload_n 0, 1) := by decide +kernel
theorem dL_law_278 : decode cL_law 278 = .ok (.iload_n 3, 1) := by decide +kernel
theorem dL_law_279 : decode cL_law 279 = .ok (.iconst 1, 1) := by decide +kernel
theorem dL_law_280 : decode cL_law 280 = .ok (.iadd, 1) := by decide +kernel
theorem dL_law_281 : decode cL_law 281 = .ok (.iaload, 1) := by decide +kernel
theorem dL_law_282 : decode cL_law 282 = .ok (.aload_n 0, 1) := by decide +kernel
theorem dL_law_283 : decode cL_law 283 = .ok (.iload_n 3, 1) := by decide +kernel
theorem dL_law_284 : decode cL_law 284 = .ok (.iconst 2, 1) := by decide +kernel
theorem dL_law_285 : decode cL_law 285 = .ok (.iadd, 1) := by decide +kernel
theorem dL_law_286 : decode cL_law 286 = .ok (.iaload, 1) := by decide +kernel
theorem dL_law_287 : decode cL_law 287 = .ok (.invokevirtual 37, 3) := by decide +kernel
theorem dL_law_290 : decode cL_law 290 = .ok (.if_icmp .eq 716, 3) := by decide +kernel
theorem dL_law_293 : decode cL_law 293 = .ok (.iconst 0, 1) := by decide +kernel
theorem dL_law_294 : decode cL_law 294 = .ok (.ireturn, 1) := by decide +kernel
theorem dL_law_295 : decode cL_law 295 = .ok (.aload_n 1, 1) := by decide +kernel
theorem dL_law_296 : decode cL_law 296 = .ok (.aload_n 0, 1) := by decide +kernel
theorem dL_law_297 : decode cL_law 297 = .ok (.iload_n 3, 1) := by decide +kernel
theorem dL_law_298 : decode cL_law 298 = .ok (.iconst 1, 1) := by decide +kernel
theorem dL_law_299 : decode cL_law 299 = .ok (.iadd, 1) := by decide +kernel
theorem dL_law_300 : decode cL_law 300 = .ok (.iaload, 1) := by decide +kernel
theorem dL_law_301 : decode cL_law 301 = .ok (.invokevirtual 38, 3) := by decide +kernel
theorem dL_law_304 : decode cL_law 304 = .ok (.aload_n 2, 1) := by decide +kernel
theorem dL_law_305 : decode cL_law 305 = .ok (.aload_n 0, 1) := by decide +kernel
theorem dL_law_306 : decode cL_law 306 = .ok (.iload_n 3, 1) := by decide +kernel
theorem dL_law_307 : decode cL_law 307 = .ok (.iconst 1, 1) := by decide +kernel
theorem dL_law_308 : decode cL_law 308 = .ok (.iadd, 1) := by decide +kernel
theorem dL_law_309 : decode cL_law 309 = .ok (.iaload, 1) := by decide +kernel
theorem dL_law_310 : decode cL_law 310 = .ok (.invokevirtual 42, 3) := by decide +kernel
theorem dL_law_313 : decode cL_law 313 = .ok (.if_icmp .eq 693, 3) := by decide +kernel
theorem dL_law_316 : decode cL_law 316 = .ok (.iconst 0, 1) := by decide +kernel
theorem dL_law_317 : decode cL_law 317 = .ok (.ireturn, 1) := by decide +kernel
theorem dL_law_318 : decode cL_law 318 = .ok (.aload_n 1, 1) := by decide +kernel
theorem dL_law_319 : decode cL_law 319 = .ok (.invokevirtual 43, 3) := by decide +kernel
theorem dL_law_322 : decode cL_law 322 = .ok (.aload_n 2, 1) := by decide +kernel
theorem dL_law_323 : decode cL_law 323 = .ok (.invokevirtual 46, 3) := by decide +kernel
theorem dL_law_326 : decode cL_law 326 = .ok (.if_icmp .eq 680, 3) := by decide +kernel
theorem dL_law_329 : decode cL_law 329 = .ok (.iconst 0, 1) := by decide +kernel
theorem dL_law_330 : decode cL_law 330 = .ok (.ireturn, 1) := by decide +kernel
theorem dL_law_331 : decode cL_law 331 = .ok (.aload_n 1, 1) := by decide +kernel
theorem dL_law_332 : decode cL_law 332 = .ok (.invokevirtual 47, 3) := by decide +kernel
theorem dL_law_335 : decode cL_law 335 = .ok (.aload_n 2, 1) := by decide +kernel
theorem dL_law_336 : decode cL_law 336 = .ok (.invokevirtual 50, 3) := by decide +kernel
theorem dL_law_339 : decode cL_law 339 = .ok (.if_icmp .eq 667, 3) := by decide +kernel
theorem dL_law_342 : decode cL_law 342 = .ok (.iconst 0, 1) := by decide +kernel
theorem dL_law_343 : decode cL_law 343 = .ok (.ireturn, 1) := by decide +kernel
theorem dL_law_344 : decode cL_law 344 = .ok (.aload_n 1, 1) := by decide +kernel
theorem dL_law_345 : decode cL_law 345 = .ok (.aload_n 0, 1) := by decide +kernel
theorem dL_law_346 : decode cL_law 346 = .ok (.iload_n 3, 1) := by decide +kernel
theorem dL_law_347 : decode cL_law 347 = .ok (.iconst 1, 1) := by decide +kernel
theorem dL_law_348 : decode cL_law 348 = .ok (.iadd, 1) := by decide +kernel
theorem dL_law_349 : decode cL_law 349 = .ok (.iaload, 1) := by decide +kernel
theorem dL_law_350 : decode cL_law 350 = .ok (.aload_n 0, 1) := by decide +kernel
theorem dL_law_351 : decode cL_law 351 = .ok (.iload_n 3, 1) := by decide +kernel
theorem dL_law_352 : decode cL_law 352 = .ok (.iconst 2, 1) := by decide +kernel
theorem dL_law_353 : decode cL_law 353 = .ok (.iadd, 1) := by decide +kernel
theorem dL_law_354 : decode cL_law 354 = .ok (.iaload, 1) := by decide +kernel
theorem dL_law_355 : decode cL_law 355 = .ok (.invokevirtual 51, 3) := by decide +kernel
theorem dL_law_358 : decode cL_law 358 = .ok (.aload_n 2, 1) := by decide +kernel
theorem dL_law_359 : decode cL_law 359 = .ok (.aload_n 0, 1) := by decide +kernel
theorem dL_law_360 : decode cL_law 360 = .ok (.iload_n 3, 1) := by decide +kernel
theorem dL_law_361 : decode cL_law 361 = .ok (.iconst 1, 1) := by decide +kernel
theorem dL_law_362 : decode cL_law 362 = .ok (.iadd, 1) := by decide +kernel
theorem dL_law_363 : decode cL_law 363 = .ok (.iaload, 1) := by decide +kernel
theorem dL_law_364 : decode cL_law 364 = .ok (.aload_n 0, 1) := by decide +kernel
theorem dL_law_365 : decode cL_law 365 = .ok (.iload_n 3, 1) := by decide +kernel
theorem dL_law_366 : decode cL_law 366 = .ok (.iconst 2, 1) := by decide +kernel
theorem dL_law_367 : decode cL_law 367 = .ok (.iadd, 1) := by decide +kernel
theorem dL_law_368 : decode cL_law 368 = .ok (.iaload, 1) := by decide +kernel
theorem dL_law_369 : decode cL_law 369 = .ok (.invokevirtual 54, 3) := by decide +kernel
theorem dL_law_372 : decode cL_law 372 = .ok (.if_icmp .eq 634, 3) := by decide +kernel
theorem dL_law_375 : decode cL_law 375 = .ok (.iconst 0, 1) := by decide +kernel
theorem dL_law_376 : decode cL_law 376 = .ok (.ireturn, 1) := by decide +kernel
theorem dL_law_377 : decode cL_law 377 = .ok (.aload_n 1, 1) := by decide +kernel
theorem dL_law_378 : decode cL_law 378 = .ok (.aload_n 0, 1) := by decide +kernel
theorem dL_law_379 : decode cL_law 379 = .ok (.iload_n 3, 1) := by decide +kernel
theorem dL_law_380 : decode cL_law 380 = .ok (.iconst 1, 1) := by decide +kernel
theorem dL_law_381 : decode cL_law 381 = .ok (.iadd, 1) := by decide +kernel
theorem dL_law_382 : decode cL_law 382 = .ok (.iaload, 1) := by decide +kernel
theorem dL_law_383 : decode cL_law 383 = .ok (.invokevirtual 55, 3) := by decide +kernel
theorem dL_law_386 : decode cL_law 386 = .ok (.aload_n 2, 1) := by decide +kernel
theorem dL_law_387 : decode cL_law 387 = .ok (.aload_n 0, 1) := by decide +kernel
theorem dL_law_388 : decode cL_law 388 = .ok (.iload_n 3, 1) := by decide +kernel
theorem dL_law_389 : decode cL_law 389 = .ok (.iconst 1, 1) := by decide +kernel
theorem dL_law_390 : decode cL_law 390 = .ok (.iadd, 1) := by decide +kernel
theorem dL_law_391 : decode cL_law 391 = .ok (.iaload, 1) := by decide +kernel
theorem dL_law_392 : decode cL_law 392 = .ok (.invokevirtual 58, 3) := by decide +kernel
theorem dL_law_395 : decode cL_law 395 = .ok (.if_icmp .eq 611, 3) := by decide +kernel
theorem dL_law_398 : decode cL_law 398 = .ok (.iconst 0, 1) := by decide +kernel
theorem dL_law_399 : decode cL_law 399 = .ok (.ireturn, 1) := by decide +kernel
theorem dL_law_400 : decode cL_law 400 = .ok (.aload_n 1, 1) := by decide +kernel
theorem dL_law_401 : decode cL_law 401 = .ok (.aload_n 0, 1) := by decide +kernel
theorem dL_law_402 : decode cL_law 402 = .ok (.iload_n 3, 1) := by decide +kernel
theorem dL_law_403 : decode cL_law 403 = .ok (.iconst 1, 1) := by decide +kernel
theorem dL_law_404 : decode cL_law 404 = .ok (.iadd, 1) := by decide +kernel
theorem dL_law_405 : decode cL_law 405 = .ok (.iaload, 1) := by decide +kernel
theorem dL_law_406 : decode cL_law 406 = .ok (.i2l, 1) := by decide +kernel
theorem dL_law_407 : decode cL_law 407 = .ok (.bipush 32, 2) := by decide +kernel
theorem dL_law_409 : decode cL_law 409 = .ok (.lshl, 1) := by decide +kernel
theorem dL_law_410 : decode cL_law 410 = .ok (.aload_n 0, 1) := by decide +kernel
theorem dL_law_411 : decode cL_law 411 = .ok (.iload_n 3, 1) := by decide +kernel
theorem dL_law_412 : decode cL_law 412 = .ok (.iconst 2, 1) := by decide +kernel
theorem dL_law_413 : decode cL_law 413 = .ok (.iadd, 1) := by decide +kernel
theorem dL_law_414 : decode cL_law 414 = .ok (.iaload, 1) := by decide +kernel
theorem dL_law_415 : decode cL_law 415 = .ok (.i2l, 1) := by decide +kernel
theorem dL_law_416 : decode cL_law 416 = .ok (.ldc2_w 13, 3) := by decide +kernel
theorem dL_law_419 : decode cL_law 419 = .ok (.land, 1) := by decide +kernel
theorem dL_law_420 : decode cL_law 420 = .ok (.lor, 1) := by decide +kernel
theorem dL_law_421 : decode cL_law 421 = .ok (.aload_n 0, 1) := by decide +kernel
theorem dL_law_422 : decode cL_law 422 = .ok (.iload_n 3, 1) := by decide +kernel
theorem dL_law_423 : decode cL_law 423 = .ok (.iconst 3, 1) := by decide +kernel
theorem dL_law_424 : decode cL_law 424 = .ok (.iadd, 1) := by decide +kernel
theorem dL_law_425 : decode cL_law 425 = .ok (.iaload, 1) := by decide +kernel
theorem dL_law_426 : decode cL_law 426 = .ok (.invokevirtual 59, 3) := by decide +kernel
theorem dL_law_429 : decode cL_law 429 = .ok (.aload_n 2, 1) := by decide +kernel
theorem dL_law_430 : decode cL_law 430 = .ok (.aload_n 0, 1) := by decide +kernel
theorem dL_law_431 : decode cL_law 431 = .ok (.iload_n 3, 1) := by decide +kernel
theorem dL_law_432 : decode cL_law 432 = .ok (.iconst 1, 1) := by decide +kernel
theorem dL_law_433 : decode cL_law 433 = .ok (.iadd, 1) := by decide +kernel
theorem dL_law_434 : decode cL_law 434 = .ok (.iaload, 1) := by decide +kernel
theorem dL_law_435 : decode cL_law 435 = .ok (.i2l, 1) := by decide +kernel
theorem dL_law_436 : decode cL_law 436 = .ok (.bipush 32, 2) := by decide +kernel
theorem dL_law_438 : decode cL_law 438 = .ok (.lshl, 1) := by decide +kernel
theorem dL_law_439 : decode cL_law 439 = .ok (.aload_n 0, 1) := by decide +kernel
theorem dL_law_440 : decode cL_law 440 = .ok (.iload_n 3, 1) := by decide +kernel
theorem dL_law_441 : decode cL_law 441 = .ok (.iconst 2, 1) := by decide +kernel
theorem dL_law_442 : decode cL_law 442 = .ok (.iadd, 1) := by decide +kernel
theorem dL_law_443 : decode cL_law 443 = .ok (.iaload, 1) := by decide +kernel
theorem dL_law_444 : decode cL_law 444 = .ok (.i2l, 1) := by decide +kernel
theorem dL_law_445 : decode cL_law 445 = .ok (.ldc2_w 13, 3) := by decide +kernel
theorem dL_law_448 : decode cL_law 448 = .ok (.land, 1) := by decide +kernel
theorem dL_law_449 : decode cL_law 449 = .ok (.lor, 1) := by decide +kernel
theorem dL_law_450 : decode cL_law 450 = .ok (.aload_n 0, 1) := by decide +kernel
theorem dL_law_451 : decode cL_law 451 = .ok (.iload_n 3, 1) := by decide +kernel
theorem dL_law_452 : decode cL_law 452 = .ok (.iconst 3, 1) := by decide +kernel
theorem dL_law_453 : decode cL_law 453 = .ok (.iadd, 1) := by decide +kernel
theorem dL_law_454 : decode cL_law 454 = .ok (.iaload, 1) := by decide +kernel
theorem dL_law_455 : decode cL_law 455 = .ok (.invokevirtual 63, 3) := by decide +kernel
theorem dL_law_458 : decode cL_law 458 = .ok (.if_icmp .eq 548, 3) := by decide +kernel
theorem dL_law_461 : decode cL_law 461 = .ok (.iconst 0, 1) := by decide +kernel
theorem dL_law_462 : decode cL_law 462 = .ok (.ireturn, 1) := by decide +kernel
theorem dL_law_463 : decode cL_law 463 = .ok (.aload_n 1, 1) := by decide +kernel
theorem dL_law_464 : decode cL_law 464 = .ok (.aload_n 0, 1) := by decide +kernel
theorem dL_law_465 : decode cL_law 465 = .ok (.iload_n 3, 1) := by decide +kernel
theorem dL_law_466 : decode cL_law 466 = .ok (.iconst 1, 1) := by decide +kernel
theorem dL_law_467 : decode cL_law 467 = .ok (.iadd, 1) := by decide +kernel
theorem dL_law_468 : decode cL_law 468 = .ok (.iaload, 1) := by decide +kernel
theorem dL_law_469 : decode cL_law 469 = .ok (.i2l, 1) := by decide +kernel
theorem dL_law_470 : decode cL_law 470 = .ok (.bipush 32, 2) := by decide +kernel
theorem dL_law_472 : decode cL_law 472 = .ok (.lshl, 1) := by decide +kernel
theorem dL_law_473 : decode cL_law 473 = .ok (.aload_n 0, 1) := by decide +kernel
theorem dL_law_474 : decode cL_law 474 = .ok (.iload_n 3, 1) := by decide +kernel
theorem dL_law_475 : decode cL_law 475 = .ok (.iconst 2, 1) := by decide +kernel
theorem dL_law_476 : decode cL_law 476 = .ok (.iadd, 1) := by decide +kernel
theorem dL_law_477 : decode cL_law 477 = .ok (.iaload, 1) := by decide +kernel
theorem dL_law_478 : decode cL_law 478 = .ok (.i2l, 1) := by decide +kernel
theorem dL_law_479 : decode cL_law 479 = .ok (.ldc2_w 13, 3) := by decide +kernel
theorem dL_law_482 : decode cL_law 482 = .ok (.land, 1) := by decide +kernel
theorem dL_law_483 : decode cL_law 483 = .ok (.lor, 1) := by decide +kernel
theorem dL_law_484 : decode cL_law 484 = .ok (.invokevirtual 64, 3) := by decide +kernel
theorem dL_law_487 : decode cL_law 487 = .ok (.aload_n 2, 1) := by decide +kernel
theorem dL_law_488 : decode cL_law 488 = .ok (.aload_n 0, 1) := by decide +kernel
theorem dL_law_489 : decode cL_law 489 = .ok (.iload_n 3, 1) := by decide +kernel
theorem dL_law_490 : decode cL_law 490 = .ok (.iconst 1, 1) := by decide +kernel
theorem dL_law_491 : decode cL_law 491 = .ok (.iadd, 1) := by decide +kernel
theorem dL_law_492 : decode cL_law 492 = .ok (.iaload, 1) := by decide +kernel
theorem dL_law_493 : decode cL_law 493 = .ok (.i2l, 1) := by decide +kernel
theorem dL_law_494 : decode cL_law 494 = .ok (.bipush 32, 2) := by decide +kernel
theorem dL_law_496 : decode cL_law 496 = .ok (.lshl, 1) := by decide +kernel
theorem dL_law_497 : decode cL_law 497 = .ok (.aload_n 0, 1) := by decide +kernel
theorem dL_law_498 : decode cL_law 498 = .ok (.iload_n 3, 1) := by decide +kernel
theorem dL_law_499 : decode cL_law 499 = .ok (.iconst 2, 1) := by decide +kernel
theorem dL_law_500 : decode cL_law 500 = .ok (.iadd, 1) := by decide +kernel
theorem dL_law_501 : decode cL_law 501 = .ok (.iaload, 1) := by decide +kernel
theorem dL_law_502 : decode cL_law 502 = .ok (.i2l, 1) := by decide +kernel
theorem dL_law_503 : decode cL_law 503 = .ok (.ldc2_w 13, 3) := by decide +kernel
theorem dL_law_506 : decode cL_law 506 = .ok (.land, 1) := by decide +kernel
theorem dL_law_507 : decode cL_law 507 = .ok (.lor, 1) := by decide +kernel
theorem dL_law_508 : decode cL_law 508 = .ok (.invokevirtual 68, 3) := by decide +kernel
theorem dL_law_511 : decode cL_law 511 = .ok (.lcmp, 1) := by decide +kernel
theorem dL_law_512 : decode cL_law 512 = .ok (.ifCond .eq 494, 3) := by decide +kernel
theorem dL_law_515 : decode cL_law 515 = .ok (.iconst 0, 1) := by decide +kernel
theorem dL_law_516 : decode cL_law 516 = .ok (.ireturn, 1) := by decide +kernel
theorem dL_law_517 : decode cL_law 517 = .ok (.aload_n 1, 1) := by decide +kernel
theorem dL_law_518 : decode cL_law 518 = .ok (.invokevirtual 69, 3) := by decide +kernel
theorem dL_law_521 : decode cL_law 521 = .ok (.aload_n 2, 1) := by decide +kernel
theorem dL_law_522 : decode cL_law 522 = .ok (.invokevirtual 72, 3) := by decide +kernel
theorem dL_law_525 : decode cL_law 525 = .ok (.if_icmp .eq 481, 3) := by decide +kernel
theorem dL_law_528 : decode cL_law 528 = .ok (.iconst 0, 1) := by decide +kernel
theorem dL_law_529 : decode cL_law 529 = .ok (.ireturn, 1) := by decide +kernel
theorem dL_law_530 : decode cL_law 530 = .ok (.aload_n 1, 1) := by decide +kernel
theorem dL_law_531 : decode cL_law 531 = .ok (.aload_n 0, 1) := by decide +kernel
theorem dL_law_532 : decode cL_law 532 = .ok (.iload_n 3, 1) := by decide +kernel
theorem dL_law_533 : decode cL_law 533 = .ok (.iconst 1, 1) := by decide +kernel
theorem dL_law_534 : decode cL_law 534 = .ok (.iadd, 1) := by decide +kernel
theorem dL_law_535 : decode cL_law 535 = .ok (.iaload, 1) := by decide +kernel
theorem dL_law_536 : decode cL_law 536 = .ok (.invokevirtual 73, 3) := by decide +kernel
theorem dL_law_539 : decode cL_law 539 = .ok (.aload_n 2, 1) := by decide +kernel
theorem dL_law_540 : decode cL_law 540 = .ok (.aload_n 0, 1) := by decide +kernel
theorem dL_law_541 : decode cL_law 541 = .ok (.iload_n 3, 1) := by decide +kernel
theorem dL_law_542 : decode cL_law 542 = .ok (.iconst 1, 1) := by decide +kernel
theorem dL_law_543 : decode cL_law 543 = .ok (.iadd, 1) := by decide +kernel
theorem dL_law_544 : decode cL_law 544 = .ok (.iaload, 1) := by decide +kernel
theorem dL_law_545 : decode cL_law 545 = .ok (.invokevirtual 77, 3) := by decide +kernel
theorem dL_law_548 : decode cL_law 548 = .ok (.lcmp, 1) := by decide +kernel
theorem dL_law_549 : decode cL_law 549 = .ok (.ifCond .eq 457, 3) := by decide +kernel
theorem dL_law_552 : decode cL_law 552 = .ok (.iconst 0, 1) := by decide +kernel
theorem dL_law_553 : decode cL_law 553 = .ok (.ireturn, 1) := by decide +kernel
theorem dL_law_554 : decode cL_law 554 = .ok (.aload_n 1, 1) := by decide +kernel
theorem dL_law_555 : decode cL_law 555 = .ok (.aload_n 0, 1) := by decide +kernel
theorem dL_law_556 : decode cL_law 556 = .ok (.iload_n 3, 1) := by decide +kernel
theorem dL_law_557 : decode cL_law 557 = .ok (.iconst 1, 1) := by decide +kernel
theorem dL_law_558 : decode cL_law 558 = .ok (.iadd, 1) := by decide +kernel
theorem dL_law_559 : decode cL_law 559 = .ok (.iaload, 1) := by decide +kernel
theorem dL_law_560 : decode cL_law 560 = .ok (.i2l, 1) := by decide +kernel
theorem dL_law_561 : decode cL_law 561 = .ok (.bipush 32, 2) := by decide +kernel
theorem dL_law_563 : decode cL_law 563 = .ok (.lshl, 1) := by decide +kernel
theorem dL_law_564 : decode cL_law 564 = .ok (.aload_n 0, 1) := by decide +kernel
theorem dL_law_565 : decode cL_law 565 = .ok (.iload_n 3, 1) := by decide +kernel
theorem dL_law_566 : decode cL_law 566 = .ok (.iconst 2, 1) := by decide +kernel
theorem dL_law_567 : decode cL_law 567 = .ok (.iadd, 1) := by decide +kernel
theorem dL_law_568 : decode cL_law 568 = .ok (.iaload, 1) := by decide +kernel
theorem dL_law_569 : decode cL_law 569 = .ok (.i2l, 1) := by decide +kernel
theorem dL_law_570 : decode cL_law 570 = .ok (.ldc2_w 13, 3) := by decide +kernel
theorem dL_law_573 : decode cL_law 573 = .ok (.land, 1) := by decide +kernel
theorem dL_law_574 : decode cL_law 574 = .ok (.lor, 1) := by decide +kernel
theorem dL_law_575 : decode cL_law 575 = .ok (.invokevirtual 78, 3) := by decide +kernel
theorem dL_law_578 : decode cL_law 578 = .ok (.aload_n 2, 1) := by decide +kernel
theorem dL_law_579 : decode cL_law 579 = .ok (.aload_n 0, 1) := by decide +kernel
theorem dL_law_580 : decode cL_law 580 = .ok (.iload_n 3, 1) := by decide +kernel
theorem dL_law_581 : decode cL_law 581 = .ok (.iconst 1, 1) := by decide +kernel
theorem dL_law_582 : decode cL_law 582 = .ok (.iadd, 1) := by decide +kernel
theorem dL_law_583 : decode cL_law 583 = .ok (.iaload, 1) := by decide +kernel
theorem dL_law_584 : decode cL_law 584 = .ok (.i2l, 1) := by decide +kernel
theorem dL_law_585 : decode cL_law 585 = .ok (.bipush 32, 2) := by decide +kernel
theorem dL_law_587 : decode cL_law 587 = .ok (.lshl, 1) := by decide +kernel
theorem dL_law_588 : decode cL_law 588 = .ok (.aload_n 0, 1) := by decide +kernel
theorem dL_law_589 : decode cL_law 589 = .ok (.iload_n 3, 1) := by decide +kernel
theorem dL_law_590 : decode cL_law 590 = .ok (.iconst 2, 1) := by decide +kernel
theorem dL_law_591 : decode cL_law 591 = .ok (.iadd, 1) := by decide +kernel
theorem dL_law_592 : decode cL_law 592 = .ok (.iaload, 1) := by decide +kernel
theorem dL_law_593 : decode cL_law 593 = .ok (.i2l, 1) := by decide +kernel
theorem dL_law_594 : decode cL_law 594 = .ok (.ldc2_w 13, 3) := by decide +kernel
theorem dL_law_597 : decode cL_law 597 = .ok (.land, 1) := by decide +kernel
theorem dL_law_598 : decode cL_law 598 = .ok (.lor, 1) := by decide +kernel
theorem dL_law_599 : decode cL_law 599 = .ok (.invokevirtual 82, 3) := by decide +kernel
theorem dL_law_602 : decode cL_law 602 = .ok (.if_icmp .eq 404, 3) := by decide +kernel
theorem dL_law_605 : decode cL_law 605 = .ok (.iconst 0, 1) := by decide +kernel
theorem dL_law_606 : decode cL_law 606 = .ok (.ireturn, 1) := by decide +kernel
theorem dL_law_607 : decode cL_law 607 = .ok (.aload_n 1, 1) := by decide +kernel
theorem dL_law_608 : decode cL_law 608 = .ok (.aload_n 0, 1) := by decide +kernel
theorem dL_law_609 : decode cL_law 609 = .ok (.iload_n 3, 1) := by decide +kernel
theorem dL_law_610 : decode cL_law 610 = .ok (.iconst 1, 1) := by decide +kernel
theorem dL_law_611 : decode cL_law 611 = .ok (.iadd, 1) := by decide +kernel
theorem dL_law_612 : decode cL_law 612 = .ok (.iaload, 1) := by decide +kernel
theorem dL_law_613 : decode cL_law 613 = .ok (.i2l, 1) := by decide +kernel
theorem dL_law_614 : decode cL_law 614 = .ok (.bipush 32, 2) := by decide +kernel
theorem dL_law_616 : decode cL_law 616 = .ok (.lshl, 1) := by decide +kernel
theorem dL_law_617 : decode cL_law 617 = .ok (.aload_n 0, 1) := by decide +kernel
theorem dL_law_618 : decode cL_law 618 = .ok (.iload_n 3, 1) := by decide +kernel
theorem dL_law_619 : decode cL_law 619 = .ok (.iconst 2, 1) := by decide +kernel
theorem dL_law_620 : decode cL_law 620 = .ok (.iadd, 1) := by decide +kernel
theorem dL_law_621 : decode cL_law 621 = .ok (.iaload, 1) := by decide +kernel
theorem dL_law_622 : decode cL_law 622 = .ok (.i2l, 1) := by decide +kernel
theorem dL_law_623 : decode cL_law 623 = .ok (.ldc2_w 13, 3) := by decide +kernel
theorem dL_law_626 : decode cL_law 626 = .ok (.land, 1) := by decide +kernel
theorem dL_law_627 : decode cL_law 627 = .ok (.lor, 1) := by decide +kernel
theorem dL_law_628 : decode cL_law 628 = .ok (.aload_n 0, 1) := by decide +kernel
theorem dL_law_629 : decode cL_law 629 = .ok (.iload_n 3, 1) := by decide +kernel
theorem dL_law_630 : decode cL_law 630 = .ok (.iconst 3, 1) := by decide +kernel
theorem dL_law_631 : decode cL_law 631 = .ok (.iadd, 1) := by decide +kernel
theorem dL_law_632 : decode cL_law 632 = .ok (.iaload, 1) := by decide +kernel
theorem dL_law_633 : decode cL_law 633 = .ok (.invokevirtual 83, 3) := by decide +kernel
theorem dL_law_636 : decode cL_law 636 = .ok (.aload_n 2, 1) := by decide +kernel
theorem dL_law_637 : decode cL_law 637 = .ok (.aload_n 0, 1) := by decide +kernel
theorem dL_law_638 : decode cL_law 638 = .ok (.iload_n 3, 1) := by decide +kernel
theorem dL_law_639 : decode cL_law 639 = .ok (.iconst 1, 1) := by decide +kernel
theorem dL_law_640 : decode cL_law 640 = .ok (.iadd, 1) := by decide +kernel
theorem dL_law_641 : decode cL_law 641 = .ok (.iaload, 1) := by decide +kernel
theorem dL_law_642 : decode cL_law 642 = .ok (.i2l, 1) := by decide +kernel
theorem dL_law_643 : decode cL_law 643 = .ok (.bipush 32, 2) := by decide +kernel
theorem dL_law_645 : decode cL_law 645 = .ok (.lshl, 1) := by decide +kernel
theorem dL_law_646 : decode cL_law 646 = .ok (.aload_n 0, 1) := by decide +kernel
theorem dL_law_647 : decode cL_law 647 = .ok (.iload_n 3, 1) := by decide +kernel
theorem dL_law_648 : decode cL_law 648 = .ok (.iconst 2, 1) := by decide +kernel
theorem dL_law_649 : decode cL_law 649 = .ok (.iadd, 1) := by decide +kernel
theorem dL_law_650 : decode cL_law 650 = .ok (.iaload, 1) := by decide +kernel
theorem dL_law_651 : decode cL_law 651 = .ok (.i2l, 1) := by decide +kernel
theorem dL_law_652 : decode cL_law 652 = .ok (.ldc2_w 13, 3) := by decide +kernel
theorem dL_law_655 : decode cL_law 655 = .ok (.land, 1) := by decide +kernel
theorem dL_law_656 : decode cL_law 656 = .ok (.lor, 1) := by decide +kernel
theorem dL_law_657 : decode cL_law 657 = .ok (.aload_n 0, 1) := by decide +kernel
theorem dL_law_658 : decode cL_law 658 = .ok (.iload_n 3, 1) := by decide +kernel
theorem dL_law_659 : decode cL_law 659 = .ok (.iconst 3, 1) := by decide +kernel
theorem dL_law_660 : decode cL_law 660 = .ok (.iadd, 1) := by decide +kernel
theorem dL_law_661 : decode cL_law 661 = .ok (.iaload, 1) := by decide +kernel
theorem dL_law_662 : decode cL_law 662 = .ok (.invokevirtual 86, 3) := by decide +kernel
theorem dL_law_665 : decode cL_law 665 = .ok (.if_icmp .eq 341, 3) := by decide +kernel
theorem dL_law_668 : decode cL_law 668 = .ok (.iconst 0, 1) := by decide +kernel
theorem dL_law_669 : decode cL_law 669 = .ok (.ireturn, 1) := by decide +kernel
theorem dL_law_670 : decode cL_law 670 = .ok (.aload_n 1, 1) := by decide +kernel
theorem dL_law_671 : decode cL_law 671 = .ok (.aload_n 0, 1) := by decide +kernel
theorem dL_law_672 : decode cL_law 672 = .ok (.iload_n 3, 1) := by decide +kernel
theorem dL_law_673 : decode cL_law 673 = .ok (.iconst 1, 1) := by decide +kernel
theorem dL_law_674 : decode cL_law 674 = .ok (.iadd, 1) := by decide +kernel
theorem dL_law_675 : decode cL_law 675 = .ok (.iaload, 1) := by decide +kernel
theorem dL_law_676 : decode cL_law 676 = .ok (.aload_n 0, 1) := by decide +kernel
theorem dL_law_677 : decode cL_law 677 = .ok (.iload_n 3, 1) := by decide +kernel
theorem dL_law_678 : decode cL_law 678 = .ok (.iconst 2, 1) := by decide +kernel
theorem dL_law_679 : decode cL_law 679 = .ok (.iadd, 1) := by decide +kernel
theorem dL_law_680 : decode cL_law 680 = .ok (.iaload, 1) := by decide +kernel
theorem dL_law_681 : decode cL_law 681 = .ok (.invokevirtual 87, 3) := by decide +kernel
theorem dL_law_684 : decode cL_law 684 = .ok (.aload_n 2, 1) := by decide +kernel
theorem dL_law_685 : decode cL_law 685 = .ok (.aload_n 0, 1) := by decide +kernel
theorem dL_law_686 : decode cL_law 686 = .ok (.iload_n 3, 1) := by decide +kernel
theorem dL_law_687 : decode cL_law 687 = .ok (.iconst 1, 1) := by decide +kernel
theorem dL_law_688 : decode cL_law 688 = .ok (.iadd, 1) := by decide +kernel
theorem dL_law_689 : decode cL_law 689 = .ok (.iaload, 1) := by decide +kernel
theorem dL_law_690 : decode cL_law 690 = .ok (.aload_n 0, 1) := by decide +kernel
theorem dL_law_691 : decode cL_law 691 = .ok (.iload_n 3, 1) := by decide +kernel
theorem dL_law_692 : decode cL_law 692 = .ok (.iconst 2, 1) := by decide +kernel
theorem dL_law_693 : decode cL_law 693 = .ok (.iadd, 1) := by decide +kernel
theorem dL_law_694 : decode cL_law 694 = .ok (.iaload, 1) := by decide +kernel
theorem dL_law_695 : decode cL_law 695 = .ok (.invokevirtual 90, 3) := by decide +kernel
theorem dL_law_698 : decode cL_law 698 = .ok (.if_icmp .eq 308, 3) := by decide +kernel
theorem dL_law_701 : decode cL_law 701 = .ok (.iconst 0, 1) := by decide +kernel
theorem dL_law_702 : decode cL_law 702 = .ok (.ireturn, 1) := by decide +kernel
theorem dL_law_703 : decode cL_law 703 = .ok (.aload_n 1, 1) := by decide +kernel
theorem dL_law_704 : decode cL_law 704 = .ok (.aload_n 0, 1) := by decide +kernel
theorem dL_law_705 : decode cL_law 705 = .ok (.iload_n 3, 1) := by decide +kernel
theorem dL_law_706 : decode cL_law 706 = .ok (.iconst 1, 1) := by decide +kernel
theorem dL_law_707 : decode cL_law 707 = .ok (.iadd, 1) := by decide +kernel
theorem dL_law_708 : decode cL_law 708 = .ok (.iaload, 1) := by decide +kernel
theorem dL_law_709 : decode cL_law 709 = .ok (.invokevirtual 91, 3) := by decide +kernel
theorem dL_law_712 : decode cL_law 712 = .ok (.aload_n 2, 1) := by decide +kernel
theorem dL_law_713 : decode cL_law 713 = .ok (.aload_n 0, 1) := by decide +kernel
theorem dL_law_714 : decode cL_law 714 = .ok (.iload_n 3, 1) := by decide +kernel
theorem dL_law_715 : decode cL_law 715 = .ok (.iconst 1, 1) := by decide +kernel
theorem dL_law_716 : decode cL_law 716 = .ok (.iadd, 1) := by decide +kernel
theorem dL_law_717 : decode cL_law 717 = .ok (.iaload, 1) := by decide +kernel
theorem dL_law_718 : decode cL_law 718 = .ok (.invokevirtual 94, 3) := by decide +kernel
theorem dL_law_721 : decode cL_law 721 = .ok (.if_icmp .eq 285, 3) := by decide +kernel
theorem dL_law_724 : decode cL_law 724 = .ok (.iconst 0, 1) := by decide +kernel
theorem dL_law_725 : decode cL_law 725 = .ok (.ireturn, 1) := by decide +kernel
theorem dL_law_726 : decode cL_law 726 = .ok (.aload_n 1, 1) := by decide +kernel
theorem dL_law_727 : decode cL_law 727 = .ok (.aload_n 0, 1) := by decide +kernel
theorem dL_law_728 : decode cL_law 728 = .ok (.iload_n 3, 1) := by decide +kernel
theorem dL_law_729 : decode cL_law 729 = .ok (.iconst 1, 1) := by decide +kernel
theorem dL_law_730 : decode cL_law 730 = .ok (.iadd, 1) := by decide +kernel
theorem dL_law_731 : decode cL_law 731 = .ok (.iaload, 1) := by decide +kernel
theorem dL_law_732 : decode cL_law 732 = .ok (.i2l, 1) := by decide +kernel
theorem dL_law_733 : decode cL_law 733 = .ok (.bipush 32, 2) := by decide +kernel
theorem dL_law_735 : decode cL_law 735 = .ok (.lshl, 1) := by decide +kernel
theorem dL_law_736 : decode cL_law 736 = .ok (.aload_n 0, 1) := by decide +kernel
theorem dL_law_737 : decode cL_law 737 = .ok (.iload_n 3, 1) := by decide +kernel
theorem dL_law_738 : decode cL_law 738 = .ok (.iconst 2, 1) := by decide +kernel
theorem dL_law_739 : decode cL_law 739 = .ok (.iadd, 1) := by decide +kernel
theorem dL_law_740 : decode cL_law 740 = .ok (.iaload, 1) := by decide +kernel
theorem dL_law_741 : decode cL_law 741 = .ok (.i2l, 1) := by decide +kernel
theorem dL_law_742 : decode cL_law 742 = .ok (.ldc2_w 13, 3) := by decide +kernel
theorem dL_law_745 : decode cL_law 745 = .ok (.land, 1) := by decide +kernel
theorem dL_law_746 : decode cL_law 746 = .ok (.lor, 1) := by decide +kernel
theorem dL_law_747 : decode cL_law 747 = .ok (.aload_n 0, 1) := by decide +kernel
theorem dL_law_748 : decode cL_law 748 = .ok (.iload_n 3, 1) := by decide +kernel
theorem dL_law_749 : decode cL_law 749 = .ok (.iconst 3, 1) := by decide +kernel
theorem dL_law_750 : decode cL_law 750 = .ok (.iadd, 1) := by decide +kernel
theorem dL_law_751 : decode cL_law 751 = .ok (.iaload, 1) := by decide +kernel
theorem dL_law_752 : decode cL_law 752 = .ok (.aload_n 0, 1) := by decide +kernel
theorem dL_law_753 : decode cL_law 753 = .ok (.iload_n 3, 1) := by decide +kernel
theorem dL_law_754 : decode cL_law 754 = .ok (.iconst 4, 1) := by decide +kernel
theorem dL_law_755 : decode cL_law 755 = .ok (.iadd, 1) := by decide +kernel
theorem dL_law_756 : decode cL_law 756 = .ok (.iaload, 1) := by decide +kernel
theorem dL_law_757 : decode cL_law 757 = .ok (.invokevirtual 95, 3) := by decide +kernel
theorem dL_law_760 : decode cL_law 760 = .ok (.aload_n 2, 1) := by decide +kernel
theorem dL_law_761 : decode cL_law 761 = .ok (.aload_n 0, 1) := by decide +kernel
theorem dL_law_762 : decode cL_law 762 = .ok (.iload_n 3, 1) := by decide +kernel
theorem dL_law_763 : decode cL_law 763 = .ok (.iconst 1, 1) := by decide +kernel
theorem dL_law_764 : decode cL_law 764 = .ok (.iadd, 1) := by decide +kernel
theorem dL_law_765 : decode cL_law 765 = .ok (.iaload, 1) := by decide +kernel
theorem dL_law_766 : decode cL_law 766 = .ok (.i2l, 1) := by decide +kernel
theorem dL_law_767 : decode cL_law 767 = .ok (.bipush 32, 2) := by decide +kernel
theorem dL_law_769 : decode cL_law 769 = .ok (.lshl, 1) := by decide +kernel
theorem dL_law_770 : decode cL_law 770 = .ok (.aload_n 0, 1) := by decide +kernel
theorem dL_law_771 : decode cL_law 771 = .ok (.iload_n 3, 1) := by decide +kernel
theorem dL_law_772 : decode cL_law 772 = .ok (.iconst 2, 1) := by decide +kernel
theorem dL_law_773 : decode cL_law 773 = .ok (.iadd, 1) := by decide +kernel
theorem dL_law_774 : decode cL_law 774 = .ok (.iaload, 1) := by decide +kernel
theorem dL_law_775 : decode cL_law 775 = .ok (.i2l, 1) := by decide +kernel
theorem dL_law_776 : decode cL_law 776 = .ok (.ldc2_w 13, 3) := by decide +kernel
theorem dL_law_779 : decode cL_law 779 = .ok (.land, 1) := by decide +kernel
theorem dL_law_780 : decode cL_law 780 = .ok (.lor, 1) := by decide +kernel
theorem dL_law_781 : decode cL_law 781 = .ok (.aload_n 0, 1) := by decide +kernel
theorem dL_law_782 : decode cL_law 782 = .ok (.iload_n 3, 1) := by decide +kernel
theorem dL_law_783 : decode cL_law 783 = .ok (.iconst 3, 1) := by decide +kernel
theorem dL_law_784 : decode cL_law 784 = .ok (.iadd, 1) := by decide +kernel
theorem dL_law_785 : decode cL_law 785 = .ok (.iaload, 1) := by decide +kernel
theorem dL_law_786 : decode cL_law 786 = .ok (.aload_n 0, 1) := by decide +kernel
theorem dL_law_787 : decode cL_law 787 = .ok (.iload_n 3, 1) := by decide +kernel
theorem dL_law_788 : decode cL_law 788 = .ok (.iconst 4, 1) := by decide +kernel
theorem dL_law_789 : decode cL_law 789 = .ok (.iadd, 1) := by decide +kernel
theorem dL_law_790 : decode cL_law 790 = .ok (.iaload, 1) := by decide +kernel
theorem dL_law_791 : decode cL_law 791 = .ok (.invokevirtual 99, 3) := by decide +kernel
theorem dL_law_794 : decode cL_law 794 = .ok (.if_icmp .eq 212, 3) := by decide +kernel
theorem dL_law_797 : decode cL_law 797 = .ok (.iconst 0, 1) := by decide +kernel
theorem dL_law_798 : decode cL_law 798 = .ok (.ireturn, 1) := by decide +kernel
theorem dL_law_799 : decode cL_law 799 = .ok (.aload_n 1, 1) := by decide +kernel
theorem dL_law_800 : decode cL_law 800 = .ok (.invokevirtual 100, 3) := by decide +kernel
theorem dL_law_803 : decode cL_law 803 = .ok (.aload_n 2, 1) := by decide +kernel
theorem dL_law_804 : decode cL_law 804 = .ok (.invokevirtual 103, 3) := by decide +kernel
theorem dL_law_807 : decode cL_law 807 = .ok (.if_icmp .eq 199, 3) := by decide +kernel
theorem dL_law_810 : decode cL_law 810 = .ok (.iconst 0, 1) := by decide +kernel
theorem dL_law_811 : decode cL_law 811 = .ok (.ireturn, 1) := by decide +kernel
theorem dL_law_812 : decode cL_law 812 = .ok (.aload_n 1, 1) := by decide +kernel
theorem dL_law_813 : decode cL_law 813 = .ok (.invokevirtual 104, 3) := by decide +kernel
theorem dL_law_816 : decode cL_law 816 = .ok (.aload_n 2, 1) := by decide +kernel
theorem dL_law_817 : decode cL_law 817 = .ok (.invokevirtual 107, 3) := by decide +kernel
theorem dL_law_820 : decode cL_law 820 = .ok (.if_icmp .eq 186, 3) := by decide +kernel
theorem dL_law_823 : decode cL_law 823 = .ok (.iconst 0, 1) := by decide +kernel
theorem dL_law_824 : decode cL_law 824 = .ok (.ireturn, 1) := by decide +kernel
theorem dL_law_825 : decode cL_law 825 = .ok (.aload_n 1, 1) := by decide +kernel
theorem dL_law_826 : decode cL_law 826 = .ok (.aload_n 0, 1) := by decide +kernel
theorem dL_law_827 : decode cL_law 827 = .ok (.iload_n 3, 1) := by decide +kernel
theorem dL_law_828 : decode cL_law 828 = .ok (.iconst 1, 1) := by decide +kernel
theorem dL_law_829 : decode cL_law 829 = .ok (.iadd, 1) := by decide +kernel
theorem dL_law_830 : decode cL_law 830 = .ok (.iaload, 1) := by decide +kernel
theorem dL_law_831 : decode cL_law 831 = .ok (.invokevirtual 108, 3) := by decide +kernel
theorem dL_law_834 : decode cL_law 834 = .ok (.aload_n 2, 1) := by decide +kernel
theorem dL_law_835 : decode cL_law 835 = .ok (.aload_n 0, 1) := by decide +kernel
theorem dL_law_836 : decode cL_law 836 = .ok (.iload_n 3, 1) := by decide +kernel
theorem dL_law_837 : decode cL_law 837 = .ok (.iconst 1, 1) := by decide +kernel
theorem dL_law_838 : decode cL_law 838 = .ok (.iadd, 1) := by decide +kernel
theorem dL_law_839 : decode cL_law 839 = .ok (.iaload, 1) := by decide +kernel
theorem dL_law_840 : decode cL_law 840 = .ok (.invokevirtual 111, 3) := by decide +kernel
theorem dL_law_843 : decode cL_law 843 = .ok (.if_icmp .eq 163, 3) := by decide +kernel
theorem dL_law_846 : decode cL_law 846 = .ok (.iconst 0, 1) := by decide +kernel
theorem dL_law_847 : decode cL_law 847 = .ok (.ireturn, 1) := by decide +kernel
theorem dL_law_848 : decode cL_law 848 = .ok (.aload_n 1, 1) := by decide +kernel
theorem dL_law_849 : decode cL_law 849 = .ok (.aload_n 0, 1) := by decide +kernel
theorem dL_law_850 : decode cL_law 850 = .ok (.iload_n 3, 1) := by decide +kernel
theorem dL_law_851 : decode cL_law 851 = .ok (.iconst 1, 1) := by decide +kernel
theorem dL_law_852 : decode cL_law 852 = .ok (.iadd, 1) := by decide +kernel
theorem dL_law_853 : decode cL_law 853 = .ok (.iaload, 1) := by decide +kernel
theorem dL_law_854 : decode cL_law 854 = .ok (.aload_n 0, 1) := by decide +kernel
theorem dL_law_855 : decode cL_law 855 = .ok (.iload_n 3, 1) := by decide +kernel
theorem dL_law_856 : decode cL_law 856 = .ok (.iconst 2, 1) := by decide +kernel
theorem dL_law_857 : decode cL_law 857 = .ok (.iadd, 1) := by decide +kernel
theorem dL_law_858 : decode cL_law 858 = .ok (.iaload, 1) := by decide +kernel
theorem dL_law_859 : decode cL_law 859 = .ok (.invokevirtual 112, 3) := by decide +kernel
theorem dL_law_862 : decode cL_law 862 = .ok (.aload_n 2, 1) := by decide +kernel
theorem dL_law_863 : decode cL_law 863 = .ok (.aload_n 0, 1) := by decide +kernel
theorem dL_law_864 : decode cL_law 864 = .ok (.iload_n 3, 1) := by decide +kernel
theorem dL_law_865 : decode cL_law 865 = .ok (.iconst 1, 1) := by decide +kernel
theorem dL_law_866 : decode cL_law 866 = .ok (.iadd, 1) := by decide +kernel
theorem dL_law_867 : decode cL_law 867 = .ok (.iaload, 1) := by decide +kernel
theorem dL_law_868 : decode cL_law 868 = .ok (.aload_n 0, 1) := by decide +kernel
theorem dL_law_869 : decode cL_law 869 = .ok (.iload_n 3, 1) := by decide +kernel
theorem dL_law_870 : decode cL_law 870 = .ok (.iconst 2, 1) := by decide +kernel
theorem dL_law_871 : decode cL_law 871 = .ok (.iadd, 1) := by decide +kernel
theorem dL_law_872 : decode cL_law 872 = .ok (.iaload, 1) := by decide +kernel
theorem dL_law_873 : decode cL_law 873 = .ok (.invokevirtual 115, 3) := by decide +kernel
theorem dL_law_876 : decode cL_law 876 = .ok (.if_icmp .eq 130, 3) := by decide +kernel
theorem dL_law_879 : decode cL_law 879 = .ok (.iconst 0, 1) := by decide +kernel
theorem dL_law_880 : decode cL_law 880 = .ok (.ireturn, 1) := by decide +kernel
theorem dL_law_881 : decode cL_law 881 = .ok (.aload_n 1, 1) := by decide +kernel
theorem dL_law_882 : decode cL_law 882 = .ok (.aload_n 0, 1) := by decide +kernel
theorem dL_law_883 : decode cL_law 883 = .ok (.iload_n 3, 1) := by decide +kernel
theorem dL_law_884 : decode cL_law 884 = .ok (.iconst 1, 1) := by decide +kernel
theorem dL_law_885 : decode cL_law 885 = .ok (.iadd, 1) := by decide +kernel
theorem dL_law_886 : decode cL_law 886 = .ok (.iaload, 1) := by decide +kernel
theorem dL_law_887 : decode cL_law 887 = .ok (.aload_n 0, 1) := by decide +kernel
theorem dL_law_888 : decode cL_law 888 = .ok (.iload_n 3, 1) := by decide +kernel
theorem dL_law_889 : decode cL_law 889 = .ok (.iconst 2, 1) := by decide +kernel
theorem dL_law_890 : decode cL_law 890 = .ok (.iadd, 1) := by decide +kernel
theorem dL_law_891 : decode cL_law 891 = .ok (.iaload, 1) := by decide +kernel
theorem dL_law_892 : decode cL_law 892 = .ok (.aload_n 0, 1) := by decide +kernel
theorem dL_law_893 : decode cL_law 893 = .ok (.iload_n 3, 1) := by decide +kernel
theorem dL_law_894 : decode cL_law 894 = .ok (.iconst 3, 1) := by decide +kernel
theorem dL_law_895 : decode cL_law 895 = .ok (.iadd, 1) := by decide +kernel
theorem dL_law_896 : decode cL_law 896 = .ok (.iaload, 1) := by decide +kernel
theorem dL_law_897 : decode cL_law 897 = .ok (.invokevirtual 116, 3) := by decide +kernel
theorem dL_law_900 : decode cL_law 900 = .ok (.aload_n 2, 1) := by decide +kernel
theorem dL_law_901 : decode cL_law 901 = .ok (.aload_n 0, 1) := by decide +kernel
theorem dL_law_902 : decode cL_law 902 = .ok (.iload_n 3, 1) := by decide +kernel
theorem dL_law_903 : decode cL_law 903 = .ok (.iconst 1, 1) := by decide +kernel
theorem dL_law_904 : decode cL_law 904 = .ok (.iadd, 1) := by decide +kernel
theorem dL_law_905 : decode cL_law 905 = .ok (.iaload, 1) := by decide +kernel
theorem dL_law_906 : decode cL_law 906 = .ok (.aload_n 0, 1) := by decide +kernel
theorem dL_law_907 : decode cL_law 907 = .ok (.iload_n 3, 1) := by decide +kernel
theorem dL_law_908 : decode cL_law 908 = .ok (.iconst 2, 1) := by decide +kernel
theorem dL_law_909 : decode cL_law 909 = .ok (.iadd, 1) := by decide +kernel
theorem dL_law_910 : decode cL_law 910 = .ok (.iaload, 1) := by decide +kernel
theorem dL_law_911 : decode cL_law 911 = .ok (.aload_n 0, 1) := by decide +kernel
theorem dL_law_912 : decode cL_law 912 = .ok (.iload_n 3, 1) := by decide +kernel
theorem dL_law_913 : decode cL_law 913 = .ok (.iconst 3, 1) := by decide +kernel
theorem dL_law_914 : decode cL_law 914 = .ok (.iadd, 1) := by decide +kernel
theorem dL_law_915 : decode cL_law 915 = .ok (.iaload, 1) := by decide +kernel
theorem dL_law_916 : decode cL_law 916 = .ok (.invokevirtual 120, 3) := by decide +kernel
theorem dL_law_919 : decode cL_law 919 = .ok (.if_icmp .eq 87, 3) := by decide +kernel
theorem dL_law_922 : decode cL_law 922 = .ok (.iconst 0, 1) := by decide +kernel
theorem dL_law_923 : decode cL_law 923 = .ok (.ireturn, 1) := by decide +kernel
theorem dL_law_924 : decode cL_law 924 = .ok (.aload_n 1, 1) := by decide +kernel
theorem dL_law_925 : decode cL_law 925 = .ok (.aload_n 0, 1) := by decide +kernel
theorem dL_law_926 : decode cL_law 926 = .ok (.iload_n 3, 1) := by decide +kernel
theorem dL_law_927 : decode cL_law 927 = .ok (.iconst 1, 1) := by decide +kernel
theorem dL_law_928 : decode cL_law 928 = .ok (.iadd, 1) := by decide +kernel
theorem dL_law_929 : decode cL_law 929 = .ok (.iaload, 1) := by decide +kernel
theorem dL_law_930 : decode cL_law 930 = .ok (.aload_n 0, 1) := by decide +kernel
theorem dL_law_931 : decode cL_law 931 = .ok (.iload_n 3, 1) := by decide +kernel
theorem dL_law_932 : decode cL_law 932 = .ok (.iconst 2, 1) := by decide +kernel
theorem dL_law_933 : decode cL_law 933 = .ok (.iadd, 1) := by decide +kernel
theorem dL_law_934 : decode cL_law 934 = .ok (.iaload, 1) := by decide +kernel
theorem dL_law_935 : decode cL_law 935 = .ok (.invokevirtual 121, 3) := by decide +kernel
theorem dL_law_938 : decode cL_law 938 = .ok (.aload_n 2, 1) := by decide +kernel
theorem dL_law_939 : decode cL_law 939 = .ok (.aload_n 0, 1) := by decide +kernel
theorem dL_law_940 : decode cL_law 940 = .ok (.iload_n 3, 1) := by decide +kernel
theorem dL_law_941 : decode cL_law 941 = .ok (.iconst 1, 1) := by decide +kernel
theorem dL_law_942 : decode cL_law 942 = .ok (.iadd, 1) := by decide +kernel
theorem dL_law_943 : decode cL_law 943 = .ok (.iaload, 1) := by decide +kernel
theorem dL_law_944 : decode cL_law 944 = .ok (.aload_n 0, 1) := by decide +kernel
theorem dL_law_945 : decode cL_law 945 = .ok (.iload_n 3, 1) := by decide +kernel
theorem dL_law_946 : decode cL_law 946 = .ok (.iconst 2, 1) := by decide +kernel
theorem dL_law_947 : decode cL_law 947 = .ok (.iadd, 1) := by decide +kernel
theorem dL_law_948 : decode cL_law 948 = .ok (.iaload, 1) := by decide +kernel
theorem dL_law_949 : decode cL_law 949 = .ok (.invokevirtual 124, 3) := by decide +kernel
theorem dL_law_952 : decode cL_law 952 = .ok (.if_icmp .eq 54, 3) := by decide +kernel
theorem dL_law_955 : decode cL_law 955 = .ok (.iconst 0, 1) := by decide +kernel
theorem dL_law_956 : decode cL_law 956 = .ok (.ireturn, 1) := by decide +kernel
theorem dL_law_957 : decode cL_law 957 = .ok (.aload_n 1, 1) := by decide +kernel
theorem dL_law_958 : decode cL_law 958 = .ok (.invokevirtual 125, 3) := by decide +kernel
theorem dL_law_961 : decode cL_law 961 = .ok (.aload_n 2, 1) := by decide +kernel
theorem dL_law_962 : decode cL_law 962 = .ok (.invokevirtual 128, 3) := by decide +kernel
theorem dL_law_965 : decode cL_law 965 = .ok (.if_icmp .eq 41, 3) := by decide +kernel
theorem dL_law_968 : decode cL_law 968 = .ok (.iconst 0, 1) := by decide +kernel
theorem dL_law_969 : decode cL_law 969 = .ok (.ireturn, 1) := by decide +kernel
theorem dL_law_970 : decode cL_law 970 = .ok (.aload_n 1, 1) := by decide +kernel
theorem dL_law_971 : decode cL_law 971 = .ok (.invokevirtual 129, 3) := by decide +kernel
theorem dL_law_974 : decode cL_law 974 = .ok (.aload_n 2, 1) := by decide +kernel
theorem dL_law_975 : decode cL_law 975 = .ok (.invokevirtual 132, 3) := by decide +kernel
theorem dL_law_978 : decode cL_law 978 = .ok (.if_icmp .eq 28, 3) := by decide +kernel
theorem dL_law_981 : decode cL_law 981 = .ok (.iconst 0, 1) := by decide +kernel
theorem dL_law_982 : decode cL_law 982 = .ok (.ireturn, 1) := by decide +kernel
theorem dL_law_983 : decode cL_law 983 = .ok (.aload_n 1, 1) := by decide +kernel
theorem dL_law_984 : decode cL_law 984 = .ok (.aload_n 0, 1) := by decide +kernel
theorem dL_law_985 : decode cL_law 985 = .ok (.iload_n 3, 1) := by decide +kernel
theorem dL_law_986 : decode cL_law 986 = .ok (.iconst 1, 1) := by decide +kernel
theorem dL_law_987 : decode cL_law 987 = .ok (.iadd, 1) := by decide +kernel
theorem dL_law_988 : decode cL_law 988 = .ok (.iaload, 1) := by decide +kernel
theorem dL_law_989 : decode cL_law 989 = .ok (.invokevirtual 133, 3) := by decide +kernel
theorem dL_law_992 : decode cL_law 992 = .ok (.aload_n 2, 1) := by decide +kernel
theorem dL_law_993 : decode cL_law 993 = .ok (.aload_n 0, 1) := by decide +kernel
theorem dL_law_994 : decode cL_law 994 = .ok (.iload_n 3, 1) := by decide +kernel
theorem dL_law_995 : decode cL_law 995 = .ok (.iconst 1, 1) := by decide +kernel
theorem dL_law_996 : decode cL_law 996 = .ok (.iadd, 1) := by decide +kernel
theorem dL_law_997 : decode cL_law 997 = .ok (.iaload, 1) := by decide +kernel
theorem dL_law_998 : decode cL_law 998 = .ok (.invokevirtual 136, 3) := by decide +kernel
theorem dL_law_1001 : decode cL_law 1001 = .ok (.if_icmp .eq 5, 3) := by decide +kernel
theorem dL_law_1004 : decode cL_law 1004 = .ok (.iconst 0, 1) := by decide +kernel
theorem dL_law_1005 : decode cL_law 1005 = .ok (.ireturn, 1) := by decide +kernel
theorem dL_law_1006 : decode cL_law 1006 = .ok (.iinc 3 5, 3) := by decide +kernel
theorem dL_law_1009 : decode cL_law 1009 = .ok (.goto (-991), 3) := by decide +kernel
theorem dL_law_1012 : decode cL_law 1012 = .ok (.iconst 1, 1) := by decide +kernel
theorem dL_law_1013 : decode cL_law 1013 = .ok (.ireturn, 1) := by decide +kernel
end
section
def TB : List Cond := lw_tbl.filter goodWord
theorem tb_in {w : Cond} (h : w ∈ lw_tbl) (hg : goodWord w = true) : w ∈ TB := List.mem_filter.mpr ⟨h, hg⟩
theorem tb_good : ∀ w ∈ TB, goodWord w = true := fun w h => (List.mem_filter.mp h).2
theorem tb_tbl : ∀ w ∈ TB, w ∈ lw_tbl := fun w h => (List.mem_filter.mp h).1
theorem tb_1 {w : Cond} (h : w ∈ tables_1_1) : w ∈ lw_tbl := List.mem_append_right _ (List.mem_append_left _ h)
theorem tb_2 {w : Cond} (h : w ∈ tables_1_2) : w ∈ lw_tbl := List.mem_append_right _ (List.mem_append_right _ (List.mem_append_left _ h))
theorem tb_3 {w : Cond} (h : w ∈ tables_1_3) : w ∈ lw_tbl := List.mem_append_right _ (List.mem_append_right _ (List.mem_append_right _ (List.mem_append_left _ h)))
theorem tb_4 {w : Cond} (h : w ∈ tables_1_4) : w ∈ lw_tbl := List.mem_append_right _ (List.mem_append_right _ (List.mem_append_right _ (List.mem_append_right _ (List.mem_append_left _ h))))
theorem tb_5 {w : Cond} (h : w ∈ tables_1_5) : w ∈ lw_tbl := List.mem_append_right _ (List.mem_append_right _ (List.mem_append_right _ (List.mem_append_right _ (List.mem_append_right _ (h)))))
theorem tw_0 : (Cond.initialized "ShufflingBookLaw") ∈ TB := tb_in (tb_1 (List.mem_of_getElem? (i := 0) rfl)) rfl
theorem tw_1 : (Cond.initialized "ShufflingBook") ∈ TB := tb_in (tb_1 (List.mem_of_getElem? (i := 1) rfl)) rfl
theorem tw_2 : (Cond.initialized "ShufflingBook$Text") ∈ TB := tb_in (tb_1 (List.mem_of_getElem? (i := 2) rfl)) rfl
theorem tw_3 : (Cond.initialized "ShufflingBook$Row") ∈ TB := tb_in (tb_1 (List.mem_of_getElem? (i := 3) rfl)) rfl
theorem tw_4 : (Cond.initialized "java/lang/Math") ∈ TB := tb_in (tb_1 (List.mem_of_getElem? (i := 4) rfl)) rfl
theorem tw_5 : (Cond.initialized "ShufflingBook$Told") ∈ TB := tb_in (tb_1 (List.mem_of_getElem? (i := 5) rfl)) rfl
theorem tw_6 : (Cond.initialized "ShufflingBook$Order") ∈ TB := tb_in (tb_1 (List.mem_of_getElem? (i := 6) rfl)) rfl
theorem tw_7 : (Cond.initialized "ShufflingBook$Readers") ∈ TB := tb_in (tb_1 (List.mem_of_getElem? (i := 7) rfl)) rfl
theorem tw_8 : (Cond.initialized "ShufflingBook$Guess") ∈ TB := tb_in (tb_1 (List.mem_of_getElem? (i := 8) rfl)) rfl
theorem tw_9 : (Cond.initialized "ShufflingBook$Pack") ∈ TB := tb_in (tb_1 (List.mem_of_getElem? (i := 9) rfl)) rfl
theorem tw_10 : (Cond.initialized "ShufflingBookModel") ∈ TB := tb_in (tb_1 (List.mem_of_getElem? (i := 10) rfl)) rfl
theorem tw_11 : (Cond.classLink "ShufflingBookLaw" 7 "ShufflingBook") ∈ TB := tb_in (tb_1 (List.mem_of_getElem? (i := 11) rfl)) rfl
theorem tw_12 : (Cond.instantiable "ShufflingBook" 14) ∈ TB := tb_in (tb_1 (List.mem_of_getElem? (i := 12) rfl)) rfl
theorem tw_13 : (Cond.methodLink "ShufflingBookLaw" 9 yX7_init) ∈ TB := tb_in (tb_1 (List.mem_of_getElem? (i := 13) rfl)) rfl
theorem tw_14 : (Cond.instanceMethod yX7_init) ∈ TB := tb_in (tb_1 (List.mem_of_getElem? (i := 14) rfl)) rfl
theorem tw_15 : (Cond.code yX7_init cX7_init 1 none) ∈ TB := tb_in (tb_1 (List.mem_of_getElem? (i := 15) rfl)) rfl
theorem tw_16 : (Cond.methodLink "ShufflingBook" 1 ⟨"java/lang/Object", "<init>", "()V"⟩) ∈ TB := tb_in (tb_1 (List.mem_of_getElem? (i := 16) rfl)) rfl
theorem tw_17 : (Cond.instanceMethod ⟨"java/lang/Object", "<init>", "()V"⟩) ∈ TB := tb_in (tb_1 (List.mem_of_getElem? (i := 17) rfl)) rfl
theorem tw_18 : (Cond.code ⟨"java/lang/Object", "<init>", "()V"⟩ object_method_1_code 1 none) ∈ TB := tb_in (tb_1 (List.mem_of_getElem? (i := 18) rfl)) rfl
theorem tw_19 : (Cond.classLink "ShufflingBook" 7 "ShufflingBook$Text") ∈ TB := tb_in (tb_1 (List.mem_of_getElem? (i := 19) rfl)) rfl
theorem tw_20 : (Cond.instantiable "ShufflingBook$Text" 2) ∈ TB := tb_in (tb_1 (List.mem_of_getElem? (i := 20) rfl)) rfl
theorem tw_21 : (Cond.instanceMethod yX5_init) ∈ TB := tb_in (tb_1 (List.mem_of_getElem? (i := 22) rfl)) rfl
theorem tw_22 : (Cond.code yX5_init cX5_init 1 none) ∈ TB := tb_in (tb_1 (List.mem_of_getElem? (i := 23) rfl)) rfl
theorem tw_23 : (Cond.methodLink "ShufflingBook$Text" 3 ⟨"java/lang/Object", "<init>", "()V"⟩) ∈ TB := tb_in (tb_1 (List.mem_of_getElem? (i := 24) rfl)) rfl
theorem tw_24 : (Cond.classLink "ShufflingBook$Text" 9 "ShufflingBook$Row") ∈ TB := tb_in (tb_1 (List.mem_of_getElem? (i := 25) rfl)) rfl
theorem tw_25 : (Cond.instantiable "ShufflingBook$Row" 1) ∈ TB := tb_in (tb_1 (List.mem_of_getElem? (i := 26) rfl)) rfl
theorem tw_26 : (Cond.methodLink "ShufflingBook$Text" 11 yX4_init) ∈ TB := tb_in (tb_1 (List.mem_of_getElem? (i := 27) rfl)) rfl
theorem tw_27 : (Cond.instanceMethod yX4_init) ∈ TB := tb_in (tb_1 (List.mem_of_getElem? (i := 28) rfl)) rfl
theorem tw_28 : (Cond.code yX4_init cX4_init 2 none) ∈ TB := tb_in (tb_1 (List.mem_of_getElem? (i := 29) rfl)) rfl
theorem tw_29 : (Cond.methodLink "ShufflingBook$Row" 3 ⟨"java/lang/Object", "<init>", "()V"⟩) ∈ TB := tb_in (tb_1 (List.mem_of_getElem? (i := 30) rfl)) rfl
theorem tw_30 : (Cond.methodLink "ShufflingBook$Row" 9 yJ9_max_7cf53) ∈ TB := tb_in (tb_1 (List.mem_of_getElem? (i := 31) rfl)) rfl
theorem tw_31 : (Cond.static yJ9_max_7cf53) ∈ TB := tb_in (tb_1 (List.mem_of_getElem? (i := 32) rfl)) rfl
theorem tw_32 : (Cond.code yJ9_max_7cf53 cJ9_max_7cf53 2 (some (Jvm.ClassFile.FieldType.int))) ∈ TB := tb_in (tb_1 (List.mem_of_getElem? (i := 33) rfl)) rfl
theorem tw_33 : (Cond.fieldLink "ShufflingBook$Row" 15 "ShufflingBook$Row" "cells" "[I") ∈ TB := tb_in (tb_1 (List.mem_of_getElem? (i := 34) rfl)) rfl
theorem tw_34 : (Cond.laysFinal "ShufflingBook$Row" "ShufflingBook$Row" "cells" "[I") ∈ TB := tb_in (tb_1 (List.mem_of_getElem? (i := 35) rfl)) rfl
theorem tw_35 : (Cond.arrayClass .int) ∈ TB := tb_in (tb_1 (List.mem_of_getElem? (i := 38) rfl)) rfl
theorem tw_36 : (Cond.fieldLink "ShufflingBook$Text" 14 "ShufflingBook$Text" "bytes" "LShufflingBook$Row;") ∈ TB := tb_in (tb_1 (List.mem_of_getElem? (i := 39) rfl)) rfl
theorem tw_37 : (Cond.fieldLink "ShufflingBook$Text" 20 "ShufflingBook$Text" "length" "I") ∈ TB := tb_in (tb_1 (List.mem_of_getElem? (i := 40) rfl)) rfl
theorem tw_38 : (Cond.laysFinal "ShufflingBook$Text" "ShufflingBook$Text" "bytes" "LShufflingBook$Row;") ∈ TB := tb_in (tb_1 (List.mem_of_getElem? (i := 41) rfl)) rfl
theorem tw_39 : (Cond.lays "ShufflingBook$Text" "ShufflingBook$Text" "length" "I") ∈ TB := tb_in (tb_1 (List.mem_of_getElem? (i := 43) rfl)) rfl
theorem tw_40 : (Cond.classLink "ShufflingBook" 16 "ShufflingBook$Told") ∈ TB := tb_in (tb_1 (List.mem_of_getElem? (i := 46) rfl)) rfl
theorem tw_41 : (Cond.instantiable "ShufflingBook$Told" 10) ∈ TB := tb_in (tb_1 (List.mem_of_getElem? (i := 47) rfl)) rfl
theorem tw_42 : (Cond.methodLink "ShufflingBook" 18 yX6_init) ∈ TB := tb_in (tb_1 (List.mem_of_getElem? (i := 48) rfl)) rfl
theorem tw_43 : (Cond.instanceMethod yX6_init) ∈ TB := tb_in (tb_1 (List.mem_of_getElem? (i := 49) rfl)) rfl
theorem tw_44 : (Cond.code yX6_init cX6_init 1 none) ∈ TB := tb_in (tb_1 (List.mem_of_getElem? (i := 50) rfl)) rfl
theorem tw_45 : (Cond.methodLink "ShufflingBook$Told" 3 ⟨"java/lang/Object", "<init>", "()V"⟩) ∈ TB := tb_in (tb_1 (List.mem_of_getElem? (i := 51) rfl)) rfl
theorem tw_46 : (Cond.classLink "ShufflingBook$Told" 9 "ShufflingBook$Row") ∈ TB := tb_in (tb_1 (List.mem_of_getElem? (i := 52) rfl)) rfl
theorem tw_47 : (Cond.methodLink "ShufflingBook$Told" 11 yX4_init) ∈ TB := tb_in (tb_1 (List.mem_of_getElem? (i := 53) rfl)) rfl
theorem tw_48 : (Cond.methodLink "ShufflingBook$Told" 29 yX6_tellNothing) ∈ TB := tb_in (tb_1 (List.mem_of_getElem? (i := 54) rfl)) rfl
theorem tw_49 : (Cond.instanceMethod yX6_tellNothing) ∈ TB := tb_in (tb_1 (List.mem_of_getElem? (i := 56) rfl)) rfl
theorem tw_50 : (Cond.code yX6_tellNothing cX6_tellNothing 1 none) ∈ TB := tb_in (tb_1 (List.mem_of_getElem? (i := 57) rfl)) rfl
theorem tw_51 : (Cond.fieldLink "ShufflingBook$Told" 32 "ShufflingBook$Told" "leafCount" "I") ∈ TB := tb_in (tb_1 (List.mem_of_getElem? (i := 59) rfl)) rfl
theorem tw_52 : (Cond.fieldLink "ShufflingBook$Told" 36 "ShufflingBook$Told" "perReader" "I") ∈ TB := tb_in (tb_1 (List.mem_of_getElem? (i := 61) rfl)) rfl
theorem tw_53 : (Cond.fieldLink "ShufflingBook$Told" 39 "ShufflingBook$Told" "kind" "I") ∈ TB := tb_in (tb_1 (List.mem_of_getElem? (i := 65) rfl)) rfl
theorem tw_54 : (Cond.fieldLink "ShufflingBook$Told" 42 "ShufflingBook$Told" "reach" "I") ∈ TB := tb_in (tb_1 (List.mem_of_getElem? (i := 68) rfl)) rfl
theorem tw_55 : (Cond.fieldLink "ShufflingBook$Told" 14 "ShufflingBook$Told" "swapFrom" "LShufflingBook$Row;") ∈ TB := tb_in (tb_1 (List.mem_of_getElem? (i := 71) rfl)) rfl
theorem tw_56 : (Cond.fieldLink "ShufflingBook$Told" 20 "ShufflingBook$Told" "swapTo" "LShufflingBook$Row;") ∈ TB := tb_in (tb_1 (List.mem_of_getElem? (i := 72) rfl)) rfl
theorem tw_57 : (Cond.fieldLink "ShufflingBook$Told" 45 "ShufflingBook$Told" "swapCount" "I") ∈ TB := tb_in (tb_1 (List.mem_of_getElem? (i := 73) rfl)) rfl
theorem tw_58 : (Cond.fieldLink "ShufflingBook$Told" 23 "ShufflingBook$Told" "tale" "LShufflingBook$Row;") ∈ TB := tb_in (tb_1 (List.mem_of_getElem? (i := 74) rfl)) rfl
theorem tw_59 : (Cond.fieldLink "ShufflingBook$Told" 48 "ShufflingBook$Told" "taleLength" "I") ∈ TB := tb_in (tb_1 (List.mem_of_getElem? (i := 75) rfl)) rfl
theorem tw_60 : (Cond.fieldLink "ShufflingBook$Told" 26 "ShufflingBook$Told" "numbers" "LShufflingBook$Row;") ∈ TB := tb_in (tb_1 (List.mem_of_getElem? (i := 77) rfl)) rfl
theorem tw_61 : (Cond.lays "ShufflingBook$Told" "ShufflingBook$Told" "leafCount" "I") ∈ TB := tb_in (tb_1 (List.mem_of_getElem? (i := 78) rfl)) rfl
theorem tw_62 : (Cond.lays "ShufflingBook$Told" "ShufflingBook$Told" "perReader" "I") ∈ TB := tb_in (tb_1 (List.mem_of_getElem? (i := 80) rfl)) rfl
theorem tw_63 : (Cond.lays "ShufflingBook$Told" "ShufflingBook$Told" "kind" "I") ∈ TB := tb_in (tb_1 (List.mem_of_getElem? (i := 82) rfl)) rfl
theorem tw_64 : (Cond.lays "ShufflingBook$Told" "ShufflingBook$Told" "reach" "I") ∈ TB := tb_in (tb_1 (List.mem_of_getElem? (i := 84) rfl)) rfl
theorem tw_65 : (Cond.laysFinal "ShufflingBook$Told" "ShufflingBook$Told" "swapFrom" "LShufflingBook$Row;") ∈ TB := tb_in (tb_1 (List.mem_of_getElem? (i := 86) rfl)) rfl
theorem tw_66 : (Cond.laysFinal "ShufflingBook$Told" "ShufflingBook$Told" "swapTo" "LShufflingBook$Row;") ∈ TB := tb_in (tb_1 (List.mem_of_getElem? (i := 88) rfl)) rfl
theorem tw_67 : (Cond.lays "ShufflingBook$Told" "ShufflingBook$Told" "swapCount" "I") ∈ TB := tb_in (tb_1 (List.mem_of_getElem? (i := 90) rfl)) rfl
theorem tw_68 : (Cond.laysFinal "ShufflingBook$Told" "ShufflingBook$Told" "tale" "LShufflingBook$Row;") ∈ TB := tb_in (tb_1 (List.mem_of_getElem? (i := 92) rfl)) rfl
theorem tw_69 : (Cond.lays "ShufflingBook$Told" "ShufflingBook$Told" "taleLength" "I") ∈ TB := tb_in (tb_1 (List.mem_of_getElem? (i := 94) rfl)) rfl
theorem tw_70 : (Cond.laysFinal "ShufflingBook$Told" "ShufflingBook$Told" "numbers" "LShufflingBook$Row;") ∈ TB := tb_in (tb_1 (List.mem_of_getElem? (i := 96) rfl)) rfl
theorem tw_71 : (Cond.classLink "ShufflingBook" 26 "ShufflingBook$Order") ∈ TB := tb_in (tb_1 (List.mem_of_getElem? (i := 99) rfl)) rfl
theorem tw_72 : (Cond.instantiable "ShufflingBook$Order" 3) ∈ TB := tb_in (tb_1 (List.mem_of_getElem? (i := 100) rfl)) rfl
theorem tw_73 : (Cond.instanceMethod yX1_init) ∈ TB := tb_in (tb_1 (List.mem_of_getElem? (i := 102) rfl)) rfl
theorem tw_74 : (Cond.code yX1_init cX1_init 1 none) ∈ TB := tb_in (tb_1 (List.mem_of_getElem? (i := 103) rfl)) rfl
theorem tw_75 : (Cond.methodLink "ShufflingBook$Order" 3 ⟨"java/lang/Object", "<init>", "()V"⟩) ∈ TB := tb_in (tb_1 (List.mem_of_getElem? (i := 104) rfl)) rfl
theorem tw_76 : (Cond.classLink "ShufflingBook$Order" 9 "ShufflingBook$Row") ∈ TB := tb_in (tb_1 (List.mem_of_getElem? (i := 105) rfl)) rfl
theorem tw_77 : (Cond.methodLink "ShufflingBook$Order" 11 yX4_init) ∈ TB := tb_in (tb_1 (List.mem_of_getElem? (i := 106) rfl)) rfl
theorem tw_78 : (Cond.fieldLink "ShufflingBook$Order" 14 "ShufflingBook$Order" "leaves" "LShufflingBook$Row;") ∈ TB := tb_in (tb_1 (List.mem_of_getElem? (i := 107) rfl)) rfl
theorem tw_79 : (Cond.fieldLink "ShufflingBook$Order" 20 "ShufflingBook$Order" "lifted" "LShufflingBook$Row;") ∈ TB := tb_in (tb_1 (List.mem_of_getElem? (i := 108) rfl)) rfl
theorem tw_80 : (Cond.fieldLink "ShufflingBook$Order" 23 "ShufflingBook$Order" "size" "I") ∈ TB := tb_in (tb_1 (List.mem_of_getElem? (i := 109) rfl)) rfl
theorem tw_81 : (Cond.laysFinal "ShufflingBook$Order" "ShufflingBook$Order" "leaves" "LShufflingBook$Row;") ∈ TB := tb_in (tb_1 (List.mem_of_getElem? (i := 111) rfl)) rfl
theorem tw_82 : (Cond.laysFinal "ShufflingBook$Order" "ShufflingBook$Order" "lifted" "LShufflingBook$Row;") ∈ TB := tb_in (tb_1 (List.mem_of_getElem? (i := 113) rfl)) rfl
theorem tw_83 : (Cond.lays "ShufflingBook$Order" "ShufflingBook$Order" "size" "I") ∈ TB := tb_in (tb_1 (List.mem_of_getElem? (i := 115) rfl)) rfl
theorem tw_84 : (Cond.classLink "ShufflingBook" 36 "ShufflingBook$Readers") ∈ TB := tb_in (tb_1 (List.mem_of_getElem? (i := 118) rfl)) rfl
theorem tw_85 : (Cond.instantiable "ShufflingBook$Readers" 9) ∈ TB := tb_in (tb_1 (List.mem_of_getElem? (i := 119) rfl)) rfl
theorem tw_86 : (Cond.instanceMethod yX3_init) ∈ TB := tb_in (tb_1 (List.mem_of_getElem? (i := 121) rfl)) rfl
theorem tw_87 : (Cond.code yX3_init cX3_init 1 none) ∈ TB := tb_in (tb_1 (List.mem_of_getElem? (i := 122) rfl)) rfl
theorem tw_88 : (Cond.methodLink "ShufflingBook$Readers" 3 ⟨"java/lang/Object", "<init>", "()V"⟩) ∈ TB := tb_in (tb_1 (List.mem_of_getElem? (i := 123) rfl)) rfl
theorem tw_89 : (Cond.classLink "ShufflingBook$Readers" 9 "ShufflingBook$Order") ∈ TB := tb_in (tb_1 (List.mem_of_getElem? (i := 124) rfl)) rfl
theorem tw_90 : (Cond.classLink "ShufflingBook$Readers" 18 "ShufflingBook$Row") ∈ TB := tb_in (tb_1 (List.mem_of_getElem? (i := 126) rfl)) rfl
theorem tw_91 : (Cond.methodLink "ShufflingBook$Readers" 20 yX4_init) ∈ TB := tb_in (tb_1 (List.mem_of_getElem? (i := 127) rfl)) rfl
theorem tw_92 : (Cond.fieldLink "ShufflingBook$Readers" 12 "ShufflingBook$Readers" "trial" "LShufflingBook$Order;") ∈ TB := tb_in (tb_1 (List.mem_of_getElem? (i := 128) rfl)) rfl
theorem tw_93 : (Cond.fieldLink "ShufflingBook$Readers" 51 "ShufflingBook$Readers" "size" "I") ∈ TB := tb_in (tb_1 (List.mem_of_getElem? (i := 129) rfl)) rfl
theorem tw_94 : (Cond.fieldLink "ShufflingBook$Readers" 23 "ShufflingBook$Readers" "placeAtTurn" "LShufflingBook$Row;") ∈ TB := tb_in (tb_1 (List.mem_of_getElem? (i := 130) rfl)) rfl
theorem tw_95 : (Cond.fieldLink "ShufflingBook$Readers" 27 "ShufflingBook$Readers" "turnAtPlace" "LShufflingBook$Row;") ∈ TB := tb_in (tb_1 (List.mem_of_getElem? (i := 131) rfl)) rfl
theorem tw_96 : (Cond.fieldLink "ShufflingBook$Readers" 30 "ShufflingBook$Readers" "fromAfterFirst" "LShufflingBook$Row;") ∈ TB := tb_in (tb_1 (List.mem_of_getElem? (i := 132) rfl)) rfl
theorem tw_97 : (Cond.fieldLink "ShufflingBook$Readers" 33 "ShufflingBook$Readers" "ring" "LShufflingBook$Row;") ∈ TB := tb_in (tb_1 (List.mem_of_getElem? (i := 133) rfl)) rfl
theorem tw_98 : (Cond.fieldLink "ShufflingBook$Readers" 36 "ShufflingBook$Readers" "ringStart" "LShufflingBook$Row;") ∈ TB := tb_in (tb_1 (List.mem_of_getElem? (i := 134) rfl)) rfl
theorem tw_99 : (Cond.fieldLink "ShufflingBook$Readers" 39 "ShufflingBook$Readers" "ringLength" "LShufflingBook$Row;") ∈ TB := tb_in (tb_1 (List.mem_of_getElem? (i := 135) rfl)) rfl
theorem tw_100 : (Cond.fieldLink "ShufflingBook$Readers" 42 "ShufflingBook$Readers" "indexInRing" "LShufflingBook$Row;") ∈ TB := tb_in (tb_1 (List.mem_of_getElem? (i := 136) rfl)) rfl
theorem tw_101 : (Cond.laysFinal "ShufflingBook$Readers" "ShufflingBook$Readers" "trial" "LShufflingBook$Order;") ∈ TB := tb_in (tb_1 (List.mem_of_getElem? (i := 137) rfl)) rfl
theorem tw_102 : (Cond.lays "ShufflingBook$Readers" "ShufflingBook$Readers" "size" "I") ∈ TB := tb_in (tb_1 (List.mem_of_getElem? (i := 139) rfl)) rfl
theorem tw_103 : (Cond.laysFinal "ShufflingBook$Readers" "ShufflingBook$Readers" "placeAtTurn" "LShufflingBook$Row;") ∈ TB := tb_in (tb_1 (List.mem_of_getElem? (i := 141) rfl)) rfl
theorem tw_104 : (Cond.laysFinal "ShufflingBook$Readers" "ShufflingBook$Readers" "turnAtPlace" "LShufflingBook$Row;") ∈ TB := tb_in (tb_1 (List.mem_of_getElem? (i := 143) rfl)) rfl
theorem tw_105 : (Cond.laysFinal "ShufflingBook$Readers" "ShufflingBook$Readers" "fromAfterFirst" "LShufflingBook$Row;") ∈ TB := tb_in (tb_1 (List.mem_of_getElem? (i := 145) rfl)) rfl
theorem tw_106 : (Cond.laysFinal "ShufflingBook$Readers" "ShufflingBook$Readers" "ring" "LShufflingBook$Row;") ∈ TB := tb_in (tb_1 (List.mem_of_getElem? (i := 147) rfl)) rfl
theorem tw_107 : (Cond.laysFinal "ShufflingBook$Readers" "ShufflingBook$Readers" "ringStart" "LShufflingBook$Row;") ∈ TB := tb_in (tb_1 (List.mem_of_getElem? (i := 149) rfl)) rfl
theorem tw_108 : (Cond.laysFinal "ShufflingBook$Readers" "ShufflingBook$Readers" "ringLength" "LShufflingBook$Row;") ∈ TB := tb_in (tb_1 (List.mem_of_getElem? (i := 151) rfl)) rfl
theorem tw_109 : (Cond.laysFinal "ShufflingBook$Readers" "ShufflingBook$Readers" "indexInRing" "LShufflingBook$Row;") ∈ TB := tb_in (tb_1 (List.mem_of_getElem? (i := 153) rfl)) rfl
theorem tw_110 : (Cond.classLink "ShufflingBook" 43 "ShufflingBook$Guess") ∈ TB := tb_in (tb_1 (List.mem_of_getElem? (i := 156) rfl)) rfl
theorem tw_111 : (Cond.instantiable "ShufflingBook$Guess" 5) ∈ TB := tb_in (tb_1 (List.mem_of_getElem? (i := 157) rfl)) rfl
theorem tw_112 : (Cond.instanceMethod yX0_init) ∈ TB := tb_in (tb_1 (List.mem_of_getElem? (i := 159) rfl)) rfl
theorem tw_113 : (Cond.code yX0_init cX0_init 1 none) ∈ TB := tb_in (tb_1 (List.mem_of_getElem? (i := 160) rfl)) rfl
theorem tw_114 : (Cond.methodLink "ShufflingBook$Guess" 3 ⟨"java/lang/Object", "<init>", "()V"⟩) ∈ TB := tb_in (tb_1 (List.mem_of_getElem? (i := 161) rfl)) rfl
theorem tw_115 : (Cond.classLink "ShufflingBook$Guess" 9 "ShufflingBook$Row") ∈ TB := tb_in (tb_1 (List.mem_of_getElem? (i := 162) rfl)) rfl
theorem tw_116 : (Cond.methodLink "ShufflingBook$Guess" 11 yX4_init) ∈ TB := tb_in (tb_1 (List.mem_of_getElem? (i := 163) rfl)) rfl
theorem tw_117 : (Cond.fieldLink "ShufflingBook$Guess" 14 "ShufflingBook$Guess" "leaves" "LShufflingBook$Row;") ∈ TB := tb_in (tb_1 (List.mem_of_getElem? (i := 164) rfl)) rfl
theorem tw_118 : (Cond.fieldLink "ShufflingBook$Guess" 20 "ShufflingBook$Guess" "places" "LShufflingBook$Row;") ∈ TB := tb_in (tb_1 (List.mem_of_getElem? (i := 165) rfl)) rfl
theorem tw_119 : (Cond.fieldLink "ShufflingBook$Guess" 23 "ShufflingBook$Guess" "size" "I") ∈ TB := tb_in (tb_1 (List.mem_of_getElem? (i := 166) rfl)) rfl
theorem tw_120 : (Cond.fieldLink "ShufflingBook$Guess" 27 "ShufflingBook$Guess" "bound" "I") ∈ TB := tb_in (tb_1 (List.mem_of_getElem? (i := 167) rfl)) rfl
theorem tw_121 : (Cond.fieldLink "ShufflingBook$Guess" 30 "ShufflingBook$Guess" "consistent" "Z") ∈ TB := tb_in (tb_1 (List.mem_of_getElem? (i := 168) rfl)) rfl
theorem tw_122 : (Cond.laysFinal "ShufflingBook$Guess" "ShufflingBook$Guess" "leaves" "LShufflingBook$Row;") ∈ TB := tb_in (tb_1 (List.mem_of_getElem? (i := 169) rfl)) rfl
theorem tw_123 : (Cond.laysFinal "ShufflingBook$Guess" "ShufflingBook$Guess" "places" "LShufflingBook$Row;") ∈ TB := tb_in (tb_1 (List.mem_of_getElem? (i := 171) rfl)) rfl
theorem tw_124 : (Cond.lays "ShufflingBook$Guess" "ShufflingBook$Guess" "size" "I") ∈ TB := tb_in (tb_1 (List.mem_of_getElem? (i := 173) rfl)) rfl
theorem tw_125 : (Cond.lays "ShufflingBook$Guess" "ShufflingBook$Guess" "bound" "I") ∈ TB := tb_in (tb_1 (List.mem_of_getElem? (i := 175) rfl)) rfl
theorem tw_126 : (Cond.lays "ShufflingBook$Guess" "ShufflingBook$Guess" "consistent" "Z") ∈ TB := tb_in (tb_1 (List.mem_of_getElem? (i := 177) rfl)) rfl
theorem tw_127 : (Cond.classLink "ShufflingBook" 50 "ShufflingBook$Row") ∈ TB := tb_in (tb_1 (List.mem_of_getElem? (i := 180) rfl)) rfl
theorem tw_128 : (Cond.methodLink "ShufflingBook" 52 yX4_init) ∈ TB := tb_in (tb_1 (List.mem_of_getElem? (i := 181) rfl)) rfl
theorem tw_129 : (Cond.classLink "ShufflingBook" 62 "ShufflingBook$Pack") ∈ TB := tb_in (tb_1 (List.mem_of_getElem? (i := 182) rfl)) rfl
theorem tw_130 : (Cond.instantiable "ShufflingBook$Pack" 3) ∈ TB := tb_in (tb_1 (List.mem_of_getElem? (i := 183) rfl)) rfl
theorem tw_131 : (Cond.instanceMethod yX2_init) ∈ TB := tb_in (tb_1 (List.mem_of_getElem? (i := 185) rfl)) rfl
theorem tw_132 : (Cond.code yX2_init cX2_init 1 none) ∈ TB := tb_in (tb_1 (List.mem_of_getElem? (i := 186) rfl)) rfl
theorem tw_133 : (Cond.methodLink "ShufflingBook$Pack" 1 ⟨"java/lang/Object", "<init>", "()V"⟩) ∈ TB := tb_in (tb_1 (List.mem_of_getElem? (i := 187) rfl)) rfl
theorem tw_134 : (Cond.classLink "ShufflingBook$Pack" 7 "ShufflingBook$Order") ∈ TB := tb_in (tb_1 (List.mem_of_getElem? (i := 188) rfl)) rfl
theorem tw_135 : (Cond.fieldLink "ShufflingBook$Pack" 10 "ShufflingBook$Pack" "order" "LShufflingBook$Order;") ∈ TB := tb_in (tb_1 (List.mem_of_getElem? (i := 190) rfl)) rfl
theorem tw_136 : (Cond.fieldLink "ShufflingBook$Pack" 20 "ShufflingBook$Pack" "readSoFar" "I") ∈ TB := tb_in (tb_1 (List.mem_of_getElem? (i := 192) rfl)) rfl
theorem tw_137 : (Cond.fieldLink "ShufflingBook$Pack" 24 "ShufflingBook$Pack" "readersDone" "I") ∈ TB := tb_in (tb_1 (List.mem_of_getElem? (i := 194) rfl)) rfl
theorem tw_138 : (Cond.laysFinal "ShufflingBook$Pack" "ShufflingBook$Pack" "order" "LShufflingBook$Order;") ∈ TB := tb_in (tb_1 (List.mem_of_getElem? (i := 196) rfl)) rfl
theorem tw_139 : (Cond.lays "ShufflingBook$Pack" "ShufflingBook$Pack" "readSoFar" "I") ∈ TB := tb_in (tb_1 (List.mem_of_getElem? (i := 198) rfl)) rfl
theorem tw_140 : (Cond.lays "ShufflingBook$Pack" "ShufflingBook$Pack" "readersDone" "I") ∈ TB := tb_in (tb_1 (List.mem_of_getElem? (i := 200) rfl)) rfl
theorem tw_141 : (Cond.methodLink "ShufflingBook" 75 yX7_startAnew) ∈ TB := tb_in (tb_1 (List.mem_of_getElem? (i := 203) rfl)) rfl
theorem tw_142 : (Cond.instanceMethod yX7_startAnew) ∈ TB := tb_in (tb_1 (List.mem_of_getElem? (i := 205) rfl)) rfl
theorem tw_143 : (Cond.code yX7_startAnew cX7_startAnew 1 none) ∈ TB := tb_in (tb_1 (List.mem_of_getElem? (i := 206) rfl)) rfl
theorem tw_144 : (Cond.methodLink "ShufflingBook" 234 yX6_orderFirst) ∈ TB := tb_in (tb_1 (List.mem_of_getElem? (i := 207) rfl)) rfl
theorem tw_145 : (Cond.instanceMethod yX6_orderFirst) ∈ TB := tb_in (tb_1 (List.mem_of_getElem? (i := 208) rfl)) rfl
theorem tw_146 : (Cond.selects "ShufflingBook$Told" yX6_orderFirst yX6_orderFirst) ∈ TB := tb_in (tb_1 (List.mem_of_getElem? (i := 209) rfl)) rfl
theorem tw_147 : (Cond.code yX6_orderFirst cX6_orderFirst 3 none) ∈ TB := tb_in (tb_1 (List.mem_of_getElem? (i := 210) rfl)) rfl
theorem tw_148 : (Cond.methodLink "ShufflingBook$Told" 106 yX1_number) ∈ TB := tb_in (tb_1 (List.mem_of_getElem? (i := 211) rfl)) rfl
theorem tw_149 : (Cond.instanceMethod yX1_number) ∈ TB := tb_in (tb_1 (List.mem_of_getElem? (i := 212) rfl)) rfl
theorem tw_150 : (Cond.selects "ShufflingBook$Order" yX1_number yX1_number) ∈ TB := tb_in (tb_1 (List.mem_of_getElem? (i := 213) rfl)) rfl
theorem tw_151 : (Cond.code yX1_number cX1_number 3 none) ∈ TB := tb_in (tb_1 (List.mem_of_getElem? (i := 214) rfl)) rfl
theorem tw_152 : (Cond.methodLink "ShufflingBook$Order" 27 yX4_put) ∈ TB := tb_in (tb_1 (List.mem_of_getElem? (i := 215) rfl)) rfl
theorem tw_153 : (Cond.instanceMethod yX4_put) ∈ TB := tb_in (tb_1 (List.mem_of_getElem? (i := 216) rfl)) rfl
theorem tw_154 : (Cond.selects "ShufflingBook$Row" yX4_put yX4_put) ∈ TB := tb_in (tb_1 (List.mem_of_getElem? (i := 217) rfl)) rfl
theorem tw_155 : (Cond.code yX4_put cX4_put 3 none) ∈ TB := tb_in (tb_1 (List.mem_of_getElem? (i := 218) rfl)) rfl
theorem tw_156 : (Cond.methodLink "ShufflingBook$Told" 79 yX4_at) ∈ TB := tb_in (tb_1 (List.mem_of_getElem? (i := 219) rfl)) rfl
theorem tw_157 : (Cond.instanceMethod yX4_at) ∈ TB := tb_in (tb_1 (List.mem_of_getElem? (i := 220) rfl)) rfl
theorem tw_158 : (Cond.selects "ShufflingBook$Row" yX4_at yX4_at) ∈ TB := tb_in (tb_1 (List.mem_of_getElem? (i := 221) rfl)) rfl
theorem tw_159 : (Cond.code yX4_at cX4_at 2 (some (Jvm.ClassFile.FieldType.int))) ∈ TB := tb_in (tb_1 (List.mem_of_getElem? (i := 222) rfl)) rfl
theorem tw_160 : (Cond.methodLink "ShufflingBook$Told" 111 yX1_swap) ∈ TB := tb_in (tb_1 (List.mem_of_getElem? (i := 223) rfl)) rfl
theorem tw_161 : (Cond.instanceMethod yX1_swap) ∈ TB := tb_in (tb_1 (List.mem_of_getElem? (i := 224) rfl)) rfl
theorem tw_162 : (Cond.selects "ShufflingBook$Order" yX1_swap yX1_swap) ∈ TB := tb_in (tb_1 (List.mem_of_getElem? (i := 225) rfl)) rfl
theorem tw_163 : (Cond.code yX1_swap cX1_swap 4 none) ∈ TB := tb_in (tb_1 (List.mem_of_getElem? (i := 226) rfl)) rfl
theorem tw_164 : (Cond.methodLink "ShufflingBook$Order" 31 yX4_at) ∈ TB := tb_in (tb_1 (List.mem_of_getElem? (i := 227) rfl)) rfl
theorem tw_165 : (Cond.methodLink "ShufflingBook" 238 yX3_follow) ∈ TB := tb_in (tb_1 (List.mem_of_getElem? (i := 228) rfl)) rfl
theorem tw_166 : (Cond.instanceMethod yX3_follow) ∈ TB := tb_in (tb_1 (List.mem_of_getElem? (i := 229) rfl)) rfl
theorem tw_167 : (Cond.selects "ShufflingBook$Readers" yX3_follow yX3_follow) ∈ TB := tb_in (tb_1 (List.mem_of_getElem? (i := 230) rfl)) rfl
theorem tw_168 : (Cond.code yX3_follow cX3_follow 2 none) ∈ TB := tb_in (tb_1 (List.mem_of_getElem? (i := 231) rfl)) rfl
theorem tw_169 : (Cond.methodLink "ShufflingBook$Readers" 54 yX3_readOneReader) ∈ TB := tb_in (tb_1 (List.mem_of_getElem? (i := 232) rfl)) rfl
theorem tw_170 : (Cond.instanceMethod yX3_readOneReader) ∈ TB := tb_in (tb_1 (List.mem_of_getElem? (i := 234) rfl)) rfl
theorem tw_171 : (Cond.code yX3_readOneReader cX3_readOneReader 4 none) ∈ TB := tb_in (tb_1 (List.mem_of_getElem? (i := 235) rfl)) rfl
theorem tw_172 : (Cond.methodLink "ShufflingBook$Readers" 64 yX1_number) ∈ TB := tb_in (tb_1 (List.mem_of_getElem? (i := 236) rfl)) rfl
theorem tw_173 : (Cond.methodLink "ShufflingBook$Readers" 67 yX4_fill) ∈ TB := tb_in (tb_1 (List.mem_of_getElem? (i := 237) rfl)) rfl
theorem tw_174 : (Cond.instanceMethod yX4_fill) ∈ TB := tb_in (tb_1 (List.mem_of_getElem? (i := 238) rfl)) rfl
theorem tw_175 : (Cond.selects "ShufflingBook$Row" yX4_fill yX4_fill) ∈ TB := tb_in (tb_1 (List.mem_of_getElem? (i := 239) rfl)) rfl
theorem tw_176 : (Cond.code yX4_fill cX4_fill 3 none) ∈ TB := tb_in (tb_2 (List.mem_of_getElem? (i := 0) rfl)) rfl
theorem tw_177 : (Cond.methodLink "ShufflingBook$Readers" 79 yX1_readTop) ∈ TB := tb_in (tb_2 (List.mem_of_getElem? (i := 1) rfl)) rfl
theorem tw_178 : (Cond.instanceMethod yX1_readTop) ∈ TB := tb_in (tb_2 (List.mem_of_getElem? (i := 2) rfl)) rfl
theorem tw_179 : (Cond.selects "ShufflingBook$Order" yX1_readTop yX1_readTop) ∈ TB := tb_in (tb_2 (List.mem_of_getElem? (i := 3) rfl)) rfl
theorem tw_180 : (Cond.code yX1_readTop cX1_readTop 5 (some (Jvm.ClassFile.FieldType.int))) ∈ TB := tb_in (tb_2 (List.mem_of_getElem? (i := 4) rfl)) rfl
theorem tw_181 : (Cond.methodLink "ShufflingBook$Order" 39 yX1_cut) ∈ TB := tb_in (tb_2 (List.mem_of_getElem? (i := 5) rfl)) rfl
theorem tw_182 : (Cond.instanceMethod yX1_cut) ∈ TB := tb_in (tb_2 (List.mem_of_getElem? (i := 7) rfl)) rfl
theorem tw_183 : (Cond.code yX1_cut cX1_cut 4 none) ∈ TB := tb_in (tb_2 (List.mem_of_getElem? (i := 8) rfl)) rfl
theorem tw_184 : (Cond.methodLink "ShufflingBook$Order" 35 yX4_copyFrom) ∈ TB := tb_in (tb_2 (List.mem_of_getElem? (i := 9) rfl)) rfl
theorem tw_185 : (Cond.instanceMethod yX4_copyFrom) ∈ TB := tb_in (tb_2 (List.mem_of_getElem? (i := 10) rfl)) rfl
theorem tw_186 : (Cond.selects "ShufflingBook$Row" yX4_copyFrom yX4_copyFrom) ∈ TB := tb_in (tb_2 (List.mem_of_getElem? (i := 11) rfl)) rfl
theorem tw_187 : (Cond.code yX4_copyFrom cX4_copyFrom 3 none) ∈ TB := tb_in (tb_2 (List.mem_of_getElem? (i := 12) rfl)) rfl
theorem tw_188 : (Cond.methodLink "ShufflingBook$Row" 21 yX4_at) ∈ TB := tb_in (tb_2 (List.mem_of_getElem? (i := 13) rfl)) rfl
theorem tw_189 : (Cond.methodLink "ShufflingBook$Order" 42 yX1_layTop) ∈ TB := tb_in (tb_2 (List.mem_of_getElem? (i := 14) rfl)) rfl
theorem tw_190 : (Cond.instanceMethod yX1_layTop) ∈ TB := tb_in (tb_2 (List.mem_of_getElem? (i := 16) rfl)) rfl
theorem tw_191 : (Cond.code yX1_layTop cX1_layTop 4 none) ∈ TB := tb_in (tb_2 (List.mem_of_getElem? (i := 17) rfl)) rfl
theorem tw_192 : (Cond.methodLink "ShufflingBook$Order" 45 yJ9_min_7cf53) ∈ TB := tb_in (tb_2 (List.mem_of_getElem? (i := 18) rfl)) rfl
theorem tw_193 : (Cond.static yJ9_min_7cf53) ∈ TB := tb_in (tb_2 (List.mem_of_getElem? (i := 19) rfl)) rfl
theorem tw_194 : (Cond.code yJ9_min_7cf53 cJ9_min_7cf53 2 (some (Jvm.ClassFile.FieldType.int))) ∈ TB := tb_in (tb_2 (List.mem_of_getElem? (i := 20) rfl)) rfl
theorem tw_195 : (Cond.methodLink "ShufflingBook$Readers" 83 yX4_put) ∈ TB := tb_in (tb_2 (List.mem_of_getElem? (i := 21) rfl)) rfl
theorem tw_196 : (Cond.methodLink "ShufflingBook$Readers" 87 yX4_at) ∈ TB := tb_in (tb_2 (List.mem_of_getElem? (i := 22) rfl)) rfl
theorem tw_197 : (Cond.methodLink "ShufflingBook$Readers" 58 yX3_layRings) ∈ TB := tb_in (tb_2 (List.mem_of_getElem? (i := 23) rfl)) rfl
theorem tw_198 : (Cond.instanceMethod yX3_layRings) ∈ TB := tb_in (tb_2 (List.mem_of_getElem? (i := 25) rfl)) rfl
theorem tw_199 : (Cond.code yX3_layRings cX3_layRings 3 none) ∈ TB := tb_in (tb_2 (List.mem_of_getElem? (i := 26) rfl)) rfl
theorem tw_200 : (Cond.methodLink "ShufflingBook$Readers" 94 yX3_layRing) ∈ TB := tb_in (tb_2 (List.mem_of_getElem? (i := 27) rfl)) rfl
theorem tw_201 : (Cond.instanceMethod yX3_layRing) ∈ TB := tb_in (tb_2 (List.mem_of_getElem? (i := 29) rfl)) rfl
theorem tw_202 : (Cond.code yX3_layRing cX3_layRing 6 (some (Jvm.ClassFile.FieldType.int))) ∈ TB := tb_in (tb_2 (List.mem_of_getElem? (i := 30) rfl)) rfl
theorem tw_203 : (Cond.methodLink "ShufflingBook$Readers" 91 yX1_leafAt) ∈ TB := tb_in (tb_2 (List.mem_of_getElem? (i := 31) rfl)) rfl
theorem tw_204 : (Cond.instanceMethod yX1_leafAt) ∈ TB := tb_in (tb_2 (List.mem_of_getElem? (i := 32) rfl)) rfl
theorem tw_205 : (Cond.selects "ShufflingBook$Order" yX1_leafAt yX1_leafAt) ∈ TB := tb_in (tb_2 (List.mem_of_getElem? (i := 33) rfl)) rfl
theorem tw_206 : (Cond.code yX1_leafAt cX1_leafAt 2 (some (Jvm.ClassFile.FieldType.int))) ∈ TB := tb_in (tb_2 (List.mem_of_getElem? (i := 34) rfl)) rfl
theorem tw_207 : (Cond.methodLink "ShufflingBook$Readers" 61 yX3_readWithoutFirst) ∈ TB := tb_in (tb_2 (List.mem_of_getElem? (i := 35) rfl)) rfl
theorem tw_208 : (Cond.instanceMethod yX3_readWithoutFirst) ∈ TB := tb_in (tb_2 (List.mem_of_getElem? (i := 37) rfl)) rfl
theorem tw_209 : (Cond.code yX3_readWithoutFirst cX3_readWithoutFirst 3 none) ∈ TB := tb_in (tb_2 (List.mem_of_getElem? (i := 38) rfl)) rfl
theorem tw_210 : (Cond.methodLink "ShufflingBook" 242 yX2_startWith) ∈ TB := tb_in (tb_2 (List.mem_of_getElem? (i := 39) rfl)) rfl
theorem tw_211 : (Cond.instanceMethod yX2_startWith) ∈ TB := tb_in (tb_2 (List.mem_of_getElem? (i := 40) rfl)) rfl
theorem tw_212 : (Cond.selects "ShufflingBook$Pack" yX2_startWith yX2_startWith) ∈ TB := tb_in (tb_2 (List.mem_of_getElem? (i := 41) rfl)) rfl
theorem tw_213 : (Cond.code yX2_startWith cX2_startWith 2 none) ∈ TB := tb_in (tb_2 (List.mem_of_getElem? (i := 42) rfl)) rfl
theorem tw_214 : (Cond.methodLink "ShufflingBook$Pack" 16 yX1_copyFrom) ∈ TB := tb_in (tb_2 (List.mem_of_getElem? (i := 43) rfl)) rfl
theorem tw_215 : (Cond.instanceMethod yX1_copyFrom) ∈ TB := tb_in (tb_2 (List.mem_of_getElem? (i := 44) rfl)) rfl
theorem tw_216 : (Cond.selects "ShufflingBook$Order" yX1_copyFrom yX1_copyFrom) ∈ TB := tb_in (tb_2 (List.mem_of_getElem? (i := 45) rfl)) rfl
theorem tw_217 : (Cond.code yX1_copyFrom cX1_copyFrom 2 none) ∈ TB := tb_in (tb_2 (List.mem_of_getElem? (i := 46) rfl)) rfl
theorem tw_218 : (Cond.fieldLink "ShufflingBook" 10 "ShufflingBook" "text" "LShufflingBook$Text;") ∈ TB := tb_in (tb_2 (List.mem_of_getElem? (i := 47) rfl)) rfl
theorem tw_219 : (Cond.fieldLink "ShufflingBook" 19 "ShufflingBook" "draft" "LShufflingBook$Told;") ∈ TB := tb_in (tb_2 (List.mem_of_getElem? (i := 48) rfl)) rfl
theorem tw_220 : (Cond.fieldLink "ShufflingBook" 23 "ShufflingBook" "laid" "LShufflingBook$Told;") ∈ TB := tb_in (tb_2 (List.mem_of_getElem? (i := 49) rfl)) rfl
theorem tw_221 : (Cond.fieldLink "ShufflingBook" 29 "ShufflingBook" "firstOrder" "LShufflingBook$Order;") ∈ TB := tb_in (tb_2 (List.mem_of_getElem? (i := 50) rfl)) rfl
theorem tw_222 : (Cond.fieldLink "ShufflingBook" 33 "ShufflingBook" "trial" "LShufflingBook$Order;") ∈ TB := tb_in (tb_2 (List.mem_of_getElem? (i := 51) rfl)) rfl
theorem tw_223 : (Cond.fieldLink "ShufflingBook" 39 "ShufflingBook" "readers" "LShufflingBook$Readers;") ∈ TB := tb_in (tb_2 (List.mem_of_getElem? (i := 52) rfl)) rfl
theorem tw_224 : (Cond.fieldLink "ShufflingBook" 46 "ShufflingBook" "guess" "LShufflingBook$Guess;") ∈ TB := tb_in (tb_2 (List.mem_of_getElem? (i := 53) rfl)) rfl
theorem tw_225 : (Cond.fieldLink "ShufflingBook" 55 "ShufflingBook" "seenPlace" "LShufflingBook$Row;") ∈ TB := tb_in (tb_2 (List.mem_of_getElem? (i := 54) rfl)) rfl
theorem tw_226 : (Cond.fieldLink "ShufflingBook" 59 "ShufflingBook" "seenLeaf" "LShufflingBook$Row;") ∈ TB := tb_in (tb_2 (List.mem_of_getElem? (i := 55) rfl)) rfl
theorem tw_227 : (Cond.fieldLink "ShufflingBook" 192 "ShufflingBook" "seenCount" "I") ∈ TB := tb_in (tb_2 (List.mem_of_getElem? (i := 56) rfl)) rfl
theorem tw_228 : (Cond.fieldLink "ShufflingBook" 65 "ShufflingBook" "pack" "LShufflingBook$Pack;") ∈ TB := tb_in (tb_2 (List.mem_of_getElem? (i := 57) rfl)) rfl
theorem tw_229 : (Cond.fieldLink "ShufflingBook" 69 "ShufflingBook" "olderKept" "LShufflingBook$Pack;") ∈ TB := tb_in (tb_2 (List.mem_of_getElem? (i := 58) rfl)) rfl
theorem tw_230 : (Cond.fieldLink "ShufflingBook" 72 "ShufflingBook" "newerKept" "LShufflingBook$Pack;") ∈ TB := tb_in (tb_2 (List.mem_of_getElem? (i := 59) rfl)) rfl
theorem tw_231 : (Cond.fieldLink "ShufflingBook" 217 "ShufflingBook" "keptCount" "I") ∈ TB := tb_in (tb_2 (List.mem_of_getElem? (i := 60) rfl)) rfl
theorem tw_232 : (Cond.laysFinal "ShufflingBook" "ShufflingBook" "text" "LShufflingBook$Text;") ∈ TB := tb_in (tb_2 (List.mem_of_getElem? (i := 61) rfl)) rfl
theorem tw_233 : (Cond.lays "ShufflingBook" "ShufflingBook" "draft" "LShufflingBook$Told;") ∈ TB := tb_in (tb_2 (List.mem_of_getElem? (i := 63) rfl)) rfl
theorem tw_234 : (Cond.lays "ShufflingBook" "ShufflingBook" "laid" "LShufflingBook$Told;") ∈ TB := tb_in (tb_2 (List.mem_of_getElem? (i := 65) rfl)) rfl
theorem tw_235 : (Cond.laysFinal "ShufflingBook" "ShufflingBook" "firstOrder" "LShufflingBook$Order;") ∈ TB := tb_in (tb_2 (List.mem_of_getElem? (i := 67) rfl)) rfl
theorem tw_236 : (Cond.laysFinal "ShufflingBook" "ShufflingBook" "trial" "LShufflingBook$Order;") ∈ TB := tb_in (tb_2 (List.mem_of_getElem? (i := 69) rfl)) rfl
theorem tw_237 : (Cond.laysFinal "ShufflingBook" "ShufflingBook" "readers" "LShufflingBook$Readers;") ∈ TB := tb_in (tb_2 (List.mem_of_getElem? (i := 71) rfl)) rfl
theorem tw_238 : (Cond.laysFinal "ShufflingBook" "ShufflingBook" "guess" "LShufflingBook$Guess;") ∈ TB := tb_in (tb_2 (List.mem_of_getElem? (i := 73) rfl)) rfl
theorem tw_239 : (Cond.laysFinal "ShufflingBook" "ShufflingBook" "seenPlace" "LShufflingBook$Row;") ∈ TB := tb_in (tb_2 (List.mem_of_getElem? (i := 75) rfl)) rfl
theorem tw_240 : (Cond.laysFinal "ShufflingBook" "ShufflingBook" "seenLeaf" "LShufflingBook$Row;") ∈ TB := tb_in (tb_2 (List.mem_of_getElem? (i := 77) rfl)) rfl
theorem tw_241 : (Cond.lays "ShufflingBook" "ShufflingBook" "seenCount" "I") ∈ TB := tb_in (tb_2 (List.mem_of_getElem? (i := 79) rfl)) rfl
theorem tw_242 : (Cond.laysFinal "ShufflingBook" "ShufflingBook" "pack" "LShufflingBook$Pack;") ∈ TB := tb_in (tb_2 (List.mem_of_getElem? (i := 81) rfl)) rfl
theorem tw_243 : (Cond.laysFinal "ShufflingBook" "ShufflingBook" "olderKept" "LShufflingBook$Pack;") ∈ TB := tb_in (tb_2 (List.mem_of_getElem? (i := 83) rfl)) rfl
theorem tw_244 : (Cond.laysFinal "ShufflingBook" "ShufflingBook" "newerKept" "LShufflingBook$Pack;") ∈ TB := tb_in (tb_2 (List.mem_of_getElem? (i := 85) rfl)) rfl
theorem tw_245 : (Cond.lays "ShufflingBook" "ShufflingBook" "keptCount" "I") ∈ TB := tb_in (tb_2 (List.mem_of_getElem? (i := 87) rfl)) rfl
theorem tw_246 : (Cond.methodLink "ShufflingBookLaw" 15 yX7_write) ∈ TB := tb_in (tb_2 (List.mem_of_getElem? (i := 90) rfl)) rfl
theorem tw_247 : (Cond.instanceMethod yX7_write) ∈ TB := tb_in (tb_2 (List.mem_of_getElem? (i := 91) rfl)) rfl
theorem tw_248 : (Cond.selects "ShufflingBook" yX7_write yX7_write) ∈ TB := tb_in (tb_2 (List.mem_of_getElem? (i := 92) rfl)) rfl
theorem tw_249 : (Cond.code yX7_write cX7_write 4 (some (Jvm.ClassFile.FieldType.int))) ∈ TB := tb_in (tb_2 (List.mem_of_getElem? (i := 93) rfl)) rfl
theorem tw_250 : (Cond.methodLink "ShufflingBook" 78 yX7_within) ∈ TB := tb_in (tb_2 (List.mem_of_getElem? (i := 94) rfl)) rfl
theorem tw_251 : (Cond.static yX7_within) ∈ TB := tb_in (tb_2 (List.mem_of_getElem? (i := 95) rfl)) rfl
theorem tw_252 : (Cond.code yX7_within cX7_within 3 (some (Jvm.ClassFile.FieldType.boolean))) ∈ TB := tb_in (tb_2 (List.mem_of_getElem? (i := 96) rfl)) rfl
theorem tw_253 : (Cond.methodLink "ShufflingBook" 82 yX5_size) ∈ TB := tb_in (tb_2 (List.mem_of_getElem? (i := 97) rfl)) rfl
theorem tw_254 : (Cond.instanceMethod yX5_size) ∈ TB := tb_in (tb_2 (List.mem_of_getElem? (i := 98) rfl)) rfl
theorem tw_255 : (Cond.selects "ShufflingBook$Text" yX5_size yX5_size) ∈ TB := tb_in (tb_2 (List.mem_of_getElem? (i := 99) rfl)) rfl
theorem tw_256 : (Cond.code yX5_size cX5_size 1 (some (Jvm.ClassFile.FieldType.int))) ∈ TB := tb_in (tb_2 (List.mem_of_getElem? (i := 100) rfl)) rfl
theorem tw_257 : (Cond.methodLink "ShufflingBook" 86 yX5_append) ∈ TB := tb_in (tb_2 (List.mem_of_getElem? (i := 101) rfl)) rfl
theorem tw_258 : (Cond.instanceMethod yX5_append) ∈ TB := tb_in (tb_2 (List.mem_of_getElem? (i := 102) rfl)) rfl
theorem tw_259 : (Cond.selects "ShufflingBook$Text" yX5_append yX5_append) ∈ TB := tb_in (tb_2 (List.mem_of_getElem? (i := 103) rfl)) rfl
theorem tw_260 : (Cond.code yX5_append cX5_append 5 none) ∈ TB := tb_in (tb_2 (List.mem_of_getElem? (i := 104) rfl)) rfl
theorem tw_261 : (Cond.constantLong "ShufflingBook$Text" 28 (255)) ∈ TB := tb_in (tb_2 (List.mem_of_getElem? (i := 105) rfl)) rfl
theorem tw_262 : (Cond.methodLink "ShufflingBook$Text" 30 yX4_put) ∈ TB := tb_in (tb_2 (List.mem_of_getElem? (i := 106) rfl)) rfl
theorem tw_263 : (Cond.methodLink "ShufflingBookLaw" 20 yX7_wipe) ∈ TB := tb_in (tb_2 (List.mem_of_getElem? (i := 107) rfl)) rfl
theorem tw_264 : (Cond.instanceMethod yX7_wipe) ∈ TB := tb_in (tb_2 (List.mem_of_getElem? (i := 108) rfl)) rfl
theorem tw_265 : (Cond.selects "ShufflingBook" yX7_wipe yX7_wipe) ∈ TB := tb_in (tb_2 (List.mem_of_getElem? (i := 109) rfl)) rfl
theorem tw_266 : (Cond.code yX7_wipe cX7_wipe 1 (some (Jvm.ClassFile.FieldType.int))) ∈ TB := tb_in (tb_2 (List.mem_of_getElem? (i := 110) rfl)) rfl
theorem tw_267 : (Cond.methodLink "ShufflingBook" 90 yX5_clear) ∈ TB := tb_in (tb_2 (List.mem_of_getElem? (i := 111) rfl)) rfl
theorem tw_268 : (Cond.instanceMethod yX5_clear) ∈ TB := tb_in (tb_2 (List.mem_of_getElem? (i := 112) rfl)) rfl
theorem tw_269 : (Cond.selects "ShufflingBook$Text" yX5_clear yX5_clear) ∈ TB := tb_in (tb_2 (List.mem_of_getElem? (i := 113) rfl)) rfl
theorem tw_270 : (Cond.code yX5_clear cX5_clear 2 (some (Jvm.ClassFile.FieldType.int))) ∈ TB := tb_in (tb_2 (List.mem_of_getElem? (i := 114) rfl)) rfl
theorem tw_271 : (Cond.methodLink "ShufflingBookLaw" 25 yX7_fault) ∈ TB := tb_in (tb_2 (List.mem_of_getElem? (i := 115) rfl)) rfl
theorem tw_272 : (Cond.instanceMethod yX7_fault) ∈ TB := tb_in (tb_2 (List.mem_of_getElem? (i := 116) rfl)) rfl
theorem tw_273 : (Cond.selects "ShufflingBook" yX7_fault yX7_fault) ∈ TB := tb_in (tb_2 (List.mem_of_getElem? (i := 117) rfl)) rfl
theorem tw_274 : (Cond.code yX7_fault cX7_fault 1 (some (Jvm.ClassFile.FieldType.int))) ∈ TB := tb_in (tb_2 (List.mem_of_getElem? (i := 118) rfl)) rfl
theorem tw_275 : (Cond.methodLink "ShufflingBook" 93 yX6_scan) ∈ TB := tb_in (tb_2 (List.mem_of_getElem? (i := 119) rfl)) rfl
theorem tw_276 : (Cond.instanceMethod yX6_scan) ∈ TB := tb_in (tb_2 (List.mem_of_getElem? (i := 120) rfl)) rfl
theorem tw_277 : (Cond.selects "ShufflingBook$Told" yX6_scan yX6_scan) ∈ TB := tb_in (tb_2 (List.mem_of_getElem? (i := 121) rfl)) rfl
theorem tw_278 : (Cond.code yX6_scan cX6_scan 4 (some (Jvm.ClassFile.FieldType.int))) ∈ TB := tb_in (tb_2 (List.mem_of_getElem? (i := 122) rfl)) rfl
theorem tw_279 : (Cond.methodLink "ShufflingBook$Told" 51 yX5_size) ∈ TB := tb_in (tb_2 (List.mem_of_getElem? (i := 123) rfl)) rfl
theorem tw_280 : (Cond.methodLink "ShufflingBook$Told" 57 yX6_scanItem) ∈ TB := tb_in (tb_2 (List.mem_of_getElem? (i := 124) rfl)) rfl
theorem tw_281 : (Cond.instanceMethod yX6_scanItem) ∈ TB := tb_in (tb_2 (List.mem_of_getElem? (i := 126) rfl)) rfl
theorem tw_282 : (Cond.code yX6_scanItem cX6_scanItem 8 (some (Jvm.ClassFile.FieldType.int))) ∈ TB := tb_in (tb_2 (List.mem_of_getElem? (i := 127) rfl)) rfl
theorem tw_283 : (Cond.methodLink "ShufflingBook$Told" 61 yX5_byteAt) ∈ TB := tb_in (tb_2 (List.mem_of_getElem? (i := 128) rfl)) rfl
theorem tw_284 : (Cond.instanceMethod yX5_byteAt) ∈ TB := tb_in (tb_2 (List.mem_of_getElem? (i := 129) rfl)) rfl
theorem tw_285 : (Cond.selects "ShufflingBook$Text" yX5_byteAt yX5_byteAt) ∈ TB := tb_in (tb_2 (List.mem_of_getElem? (i := 130) rfl)) rfl
theorem tw_286 : (Cond.code yX5_byteAt cX5_byteAt 2 (some (Jvm.ClassFile.FieldType.int))) ∈ TB := tb_in (tb_2 (List.mem_of_getElem? (i := 131) rfl)) rfl
theorem tw_287 : (Cond.methodLink "ShufflingBook$Text" 24 yX4_at) ∈ TB := tb_in (tb_2 (List.mem_of_getElem? (i := 132) rfl)) rfl
theorem tw_288 : (Cond.methodLink "ShufflingBook$Told" 65 yX6_numbersWanted) ∈ TB := tb_in (tb_2 (List.mem_of_getElem? (i := 133) rfl)) rfl
theorem tw_289 : (Cond.static yX6_numbersWanted) ∈ TB := tb_in (tb_2 (List.mem_of_getElem? (i := 134) rfl)) rfl
theorem tw_290 : (Cond.code yX6_numbersWanted cX6_numbersWanted 1 (some (Jvm.ClassFile.FieldType.int))) ∈ TB := tb_in (tb_2 (List.mem_of_getElem? (i := 135) rfl)) rfl
theorem tw_291 : (Cond.methodLink "ShufflingBook$Told" 68 yX5_figuresFrom) ∈ TB := tb_in (tb_2 (List.mem_of_getElem? (i := 136) rfl)) rfl
theorem tw_292 : (Cond.instanceMethod yX5_figuresFrom) ∈ TB := tb_in (tb_2 (List.mem_of_getElem? (i := 137) rfl)) rfl
theorem tw_293 : (Cond.selects "ShufflingBook$Text" yX5_figuresFrom yX5_figuresFrom) ∈ TB := tb_in (tb_2 (List.mem_of_getElem? (i := 138) rfl)) rfl
theorem tw_294 : (Cond.code yX5_figuresFrom cX5_figuresFrom 2 (some (Jvm.ClassFile.FieldType.int))) ∈ TB := tb_in (tb_2 (List.mem_of_getElem? (i := 139) rfl)) rfl
theorem tw_295 : (Cond.methodLink "ShufflingBook$Text" 34 yX5_byteAt) ∈ TB := tb_in (tb_2 (List.mem_of_getElem? (i := 140) rfl)) rfl
theorem tw_296 : (Cond.methodLink "ShufflingBook$Text" 37 yX5_isFigure) ∈ TB := tb_in (tb_2 (List.mem_of_getElem? (i := 141) rfl)) rfl
theorem tw_297 : (Cond.static yX5_isFigure) ∈ TB := tb_in (tb_2 (List.mem_of_getElem? (i := 142) rfl)) rfl
theorem tw_298 : (Cond.code yX5_isFigure cX5_isFigure 1 (some (Jvm.ClassFile.FieldType.boolean))) ∈ TB := tb_in (tb_2 (List.mem_of_getElem? (i := 143) rfl)) rfl
theorem tw_299 : (Cond.methodLink "ShufflingBook$Told" 71 yX5_numberAt) ∈ TB := tb_in (tb_2 (List.mem_of_getElem? (i := 145) rfl)) rfl
theorem tw_300 : (Cond.instanceMethod yX5_numberAt) ∈ TB := tb_in (tb_2 (List.mem_of_getElem? (i := 146) rfl)) rfl
theorem tw_301 : (Cond.selects "ShufflingBook$Text" yX5_numberAt yX5_numberAt) ∈ TB := tb_in (tb_2 (List.mem_of_getElem? (i := 147) rfl)) rfl
theorem tw_302 : (Cond.code yX5_numberAt cX5_numberAt 5 (some (Jvm.ClassFile.FieldType.int))) ∈ TB := tb_in (tb_2 (List.mem_of_getElem? (i := 148) rfl)) rfl
theorem tw_303 : (Cond.methodLink "ShufflingBook$Told" 75 yX4_put) ∈ TB := tb_in (tb_2 (List.mem_of_getElem? (i := 149) rfl)) rfl
theorem tw_304 : (Cond.methodLink "ShufflingBook$Told" 82 yX6_takeIn) ∈ TB := tb_in (tb_2 (List.mem_of_getElem? (i := 150) rfl)) rfl
theorem tw_305 : (Cond.instanceMethod yX6_takeIn) ∈ TB := tb_in (tb_2 (List.mem_of_getElem? (i := 152) rfl)) rfl
theorem tw_306 : (Cond.code yX6_takeIn cX6_takeIn 4 (some (Jvm.ClassFile.FieldType.boolean))) ∈ TB := tb_in (tb_2 (List.mem_of_getElem? (i := 153) rfl)) rfl
theorem tw_307 : (Cond.methodLink "ShufflingBook$Told" 86 yX6_takeLeafCount) ∈ TB := tb_in (tb_2 (List.mem_of_getElem? (i := 154) rfl)) rfl
theorem tw_308 : (Cond.instanceMethod yX6_takeLeafCount) ∈ TB := tb_in (tb_2 (List.mem_of_getElem? (i := 156) rfl)) rfl
theorem tw_309 : (Cond.code yX6_takeLeafCount cX6_takeLeafCount 2 (some (Jvm.ClassFile.FieldType.boolean))) ∈ TB := tb_in (tb_2 (List.mem_of_getElem? (i := 157) rfl)) rfl
theorem tw_310 : (Cond.methodLink "ShufflingBook$Told" 90 yX6_takePerReader) ∈ TB := tb_in (tb_2 (List.mem_of_getElem? (i := 159) rfl)) rfl
theorem tw_311 : (Cond.instanceMethod yX6_takePerReader) ∈ TB := tb_in (tb_2 (List.mem_of_getElem? (i := 161) rfl)) rfl
theorem tw_312 : (Cond.code yX6_takePerReader cX6_takePerReader 2 (some (Jvm.ClassFile.FieldType.boolean))) ∈ TB := tb_in (tb_2 (List.mem_of_getElem? (i := 162) rfl)) rfl
theorem tw_313 : (Cond.methodLink "ShufflingBook$Told" 93 yX6_takeLaw) ∈ TB := tb_in (tb_2 (List.mem_of_getElem? (i := 163) rfl)) rfl
theorem tw_314 : (Cond.instanceMethod yX6_takeLaw) ∈ TB := tb_in (tb_2 (List.mem_of_getElem? (i := 165) rfl)) rfl
theorem tw_315 : (Cond.code yX6_takeLaw cX6_takeLaw 3 (some (Jvm.ClassFile.FieldType.boolean))) ∈ TB := tb_in (tb_2 (List.mem_of_getElem? (i := 166) rfl)) rfl
theorem tw_316 : (Cond.methodLink "ShufflingBook$Told" 97 yX6_takeSwap) ∈ TB := tb_in (tb_2 (List.mem_of_getElem? (i := 167) rfl)) rfl
theorem tw_317 : (Cond.instanceMethod yX6_takeSwap) ∈ TB := tb_in (tb_2 (List.mem_of_getElem? (i := 169) rfl)) rfl
theorem tw_318 : (Cond.code yX6_takeSwap cX6_takeSwap 3 (some (Jvm.ClassFile.FieldType.boolean))) ∈ TB := tb_in (tb_2 (List.mem_of_getElem? (i := 170) rfl)) rfl
theorem tw_319 : (Cond.methodLink "ShufflingBook$Told" 100 yX6_takeTaleLeaf) ∈ TB := tb_in (tb_2 (List.mem_of_getElem? (i := 171) rfl)) rfl
theorem tw_320 : (Cond.instanceMethod yX6_takeTaleLeaf) ∈ TB := tb_in (tb_2 (List.mem_of_getElem? (i := 173) rfl)) rfl
theorem tw_321 : (Cond.code yX6_takeTaleLeaf cX6_takeTaleLeaf 2 (some (Jvm.ClassFile.FieldType.boolean))) ∈ TB := tb_in (tb_2 (List.mem_of_getElem? (i := 174) rfl)) rfl
theorem tw_322 : (Cond.methodLink "ShufflingBookLaw" 29 yX7_lay) ∈ TB := tb_in (tb_2 (List.mem_of_getElem? (i := 175) rfl)) rfl
theorem tw_323 : (Cond.instanceMethod yX7_lay) ∈ TB := tb_in (tb_2 (List.mem_of_getElem? (i := 176) rfl)) rfl
theorem tw_324 : (Cond.selects "ShufflingBook" yX7_lay yX7_lay) ∈ TB := tb_in (tb_2 (List.mem_of_getElem? (i := 177) rfl)) rfl
theorem tw_325 : (Cond.code yX7_lay cX7_lay 2 (some (Jvm.ClassFile.FieldType.int))) ∈ TB := tb_in (tb_2 (List.mem_of_getElem? (i := 178) rfl)) rfl
theorem tw_326 : (Cond.methodLink "ShufflingBook" 97 yX6_fitsItsLeaves) ∈ TB := tb_in (tb_2 (List.mem_of_getElem? (i := 179) rfl)) rfl
theorem tw_327 : (Cond.instanceMethod yX6_fitsItsLeaves) ∈ TB := tb_in (tb_2 (List.mem_of_getElem? (i := 180) rfl)) rfl
theorem tw_328 : (Cond.selects "ShufflingBook$Told" yX6_fitsItsLeaves yX6_fitsItsLeaves) ∈ TB := tb_in (tb_2 (List.mem_of_getElem? (i := 181) rfl)) rfl
theorem tw_329 : (Cond.code yX6_fitsItsLeaves cX6_fitsItsLeaves 2 (some (Jvm.ClassFile.FieldType.boolean))) ∈ TB := tb_in (tb_2 (List.mem_of_getElem? (i := 182) rfl)) rfl
theorem tw_330 : (Cond.methodLink "ShufflingBookLaw" 33 yX7_leaf) ∈ TB := tb_in (tb_2 (List.mem_of_getElem? (i := 183) rfl)) rfl
theorem tw_331 : (Cond.instanceMethod yX7_leaf) ∈ TB := tb_in (tb_2 (List.mem_of_getElem? (i := 184) rfl)) rfl
theorem tw_332 : (Cond.selects "ShufflingBook" yX7_leaf yX7_leaf) ∈ TB := tb_in (tb_2 (List.mem_of_getElem? (i := 185) rfl)) rfl
theorem tw_333 : (Cond.code yX7_leaf cX7_leaf 3 (some (Jvm.ClassFile.FieldType.int))) ∈ TB := tb_in (tb_2 (List.mem_of_getElem? (i := 186) rfl)) rfl
theorem tw_334 : (Cond.methodLink "ShufflingBook" 105 yX7_isBelowCount) ∈ TB := tb_in (tb_2 (List.mem_of_getElem? (i := 187) rfl)) rfl
theorem tw_335 : (Cond.instanceMethod yX7_isBelowCount) ∈ TB := tb_in (tb_2 (List.mem_of_getElem? (i := 189) rfl)) rfl
theorem tw_336 : (Cond.code yX7_isBelowCount cX7_isBelowCount 2 (some (Jvm.ClassFile.FieldType.boolean))) ∈ TB := tb_in (tb_2 (List.mem_of_getElem? (i := 190) rfl)) rfl
theorem tw_337 : (Cond.methodLink "ShufflingBook" 112 yX1_leafAt) ∈ TB := tb_in (tb_2 (List.mem_of_getElem? (i := 191) rfl)) rfl
theorem tw_338 : (Cond.methodLink "ShufflingBookLaw" 38 yX7_where) ∈ TB := tb_in (tb_2 (List.mem_of_getElem? (i := 192) rfl)) rfl
theorem tw_339 : (Cond.instanceMethod yX7_where) ∈ TB := tb_in (tb_2 (List.mem_of_getElem? (i := 193) rfl)) rfl
theorem tw_340 : (Cond.selects "ShufflingBook" yX7_where yX7_where) ∈ TB := tb_in (tb_2 (List.mem_of_getElem? (i := 194) rfl)) rfl
theorem tw_341 : (Cond.code yX7_where cX7_where 2 (some (Jvm.ClassFile.FieldType.int))) ∈ TB := tb_in (tb_2 (List.mem_of_getElem? (i := 195) rfl)) rfl
theorem tw_342 : (Cond.methodLink "ShufflingBook" 116 yX1_placeOf) ∈ TB := tb_in (tb_2 (List.mem_of_getElem? (i := 196) rfl)) rfl
theorem tw_343 : (Cond.instanceMethod yX1_placeOf) ∈ TB := tb_in (tb_2 (List.mem_of_getElem? (i := 197) rfl)) rfl
theorem tw_344 : (Cond.selects "ShufflingBook$Order" yX1_placeOf yX1_placeOf) ∈ TB := tb_in (tb_2 (List.mem_of_getElem? (i := 198) rfl)) rfl
theorem tw_345 : (Cond.code yX1_placeOf cX1_placeOf 3 (some (Jvm.ClassFile.FieldType.int))) ∈ TB := tb_in (tb_2 (List.mem_of_getElem? (i := 199) rfl)) rfl
theorem tw_346 : (Cond.methodLink "ShufflingBookLaw" 43 yX7_read) ∈ TB := tb_in (tb_2 (List.mem_of_getElem? (i := 200) rfl)) rfl
theorem tw_347 : (Cond.instanceMethod yX7_read) ∈ TB := tb_in (tb_2 (List.mem_of_getElem? (i := 201) rfl)) rfl
theorem tw_348 : (Cond.selects "ShufflingBook" yX7_read yX7_read) ∈ TB := tb_in (tb_2 (List.mem_of_getElem? (i := 202) rfl)) rfl
theorem tw_349 : (Cond.code yX7_read cX7_read 1 (some (Jvm.ClassFile.FieldType.int))) ∈ TB := tb_in (tb_2 (List.mem_of_getElem? (i := 203) rfl)) rfl
theorem tw_350 : (Cond.methodLink "ShufflingBook" 119 yX2_readOne) ∈ TB := tb_in (tb_2 (List.mem_of_getElem? (i := 204) rfl)) rfl
theorem tw_351 : (Cond.instanceMethod yX2_readOne) ∈ TB := tb_in (tb_2 (List.mem_of_getElem? (i := 205) rfl)) rfl
theorem tw_352 : (Cond.selects "ShufflingBook$Pack" yX2_readOne yX2_readOne) ∈ TB := tb_in (tb_2 (List.mem_of_getElem? (i := 206) rfl)) rfl
theorem tw_353 : (Cond.code yX2_readOne cX2_readOne 3 (some (Jvm.ClassFile.FieldType.int))) ∈ TB := tb_in (tb_2 (List.mem_of_getElem? (i := 207) rfl)) rfl
theorem tw_354 : (Cond.methodLink "ShufflingBook$Pack" 35 yX1_readTop) ∈ TB := tb_in (tb_2 (List.mem_of_getElem? (i := 208) rfl)) rfl
theorem tw_355 : (Cond.methodLink "ShufflingBookLaw" 47 yX7_finish) ∈ TB := tb_in (tb_2 (List.mem_of_getElem? (i := 209) rfl)) rfl
theorem tw_356 : (Cond.instanceMethod yX7_finish) ∈ TB := tb_in (tb_2 (List.mem_of_getElem? (i := 210) rfl)) rfl
theorem tw_357 : (Cond.selects "ShufflingBook" yX7_finish yX7_finish) ∈ TB := tb_in (tb_2 (List.mem_of_getElem? (i := 211) rfl)) rfl
theorem tw_358 : (Cond.code yX7_finish cX7_finish 3 (some (Jvm.ClassFile.FieldType.int))) ∈ TB := tb_in (tb_2 (List.mem_of_getElem? (i := 212) rfl)) rfl
theorem tw_359 : (Cond.methodLink "ShufflingBookLaw" 51 yX7_change) ∈ TB := tb_in (tb_2 (List.mem_of_getElem? (i := 213) rfl)) rfl
theorem tw_360 : (Cond.instanceMethod yX7_change) ∈ TB := tb_in (tb_2 (List.mem_of_getElem? (i := 214) rfl)) rfl
theorem tw_361 : (Cond.selects "ShufflingBook" yX7_change yX7_change) ∈ TB := tb_in (tb_2 (List.mem_of_getElem? (i := 215) rfl)) rfl
theorem tw_362 : (Cond.code yX7_change cX7_change 3 (some (Jvm.ClassFile.FieldType.int))) ∈ TB := tb_in (tb_2 (List.mem_of_getElem? (i := 216) rfl)) rfl
theorem tw_363 : (Cond.methodLink "ShufflingBook" 129 yX1_swap) ∈ TB := tb_in (tb_2 (List.mem_of_getElem? (i := 217) rfl)) rfl
theorem tw_364 : (Cond.methodLink "ShufflingBookLaw" 55 yX7_drop) ∈ TB := tb_in (tb_2 (List.mem_of_getElem? (i := 218) rfl)) rfl
theorem tw_365 : (Cond.instanceMethod yX7_drop) ∈ TB := tb_in (tb_2 (List.mem_of_getElem? (i := 219) rfl)) rfl
theorem tw_366 : (Cond.selects "ShufflingBook" yX7_drop yX7_drop) ∈ TB := tb_in (tb_2 (List.mem_of_getElem? (i := 220) rfl)) rfl
theorem tw_367 : (Cond.code yX7_drop cX7_drop 2 (some (Jvm.ClassFile.FieldType.int))) ∈ TB := tb_in (tb_2 (List.mem_of_getElem? (i := 221) rfl)) rfl
theorem tw_368 : (Cond.methodLink "ShufflingBook" 133 yX2_fall) ∈ TB := tb_in (tb_2 (List.mem_of_getElem? (i := 222) rfl)) rfl
theorem tw_369 : (Cond.instanceMethod yX2_fall) ∈ TB := tb_in (tb_2 (List.mem_of_getElem? (i := 223) rfl)) rfl
theorem tw_370 : (Cond.selects "ShufflingBook$Pack" yX2_fall yX2_fall) ∈ TB := tb_in (tb_2 (List.mem_of_getElem? (i := 224) rfl)) rfl
theorem tw_371 : (Cond.code yX2_fall cX2_fall 5 none) ∈ TB := tb_in (tb_2 (List.mem_of_getElem? (i := 225) rfl)) rfl
theorem tw_372 : (Cond.constantLong "ShufflingBook$Pack" 45 (7919)) ∈ TB := tb_in (tb_2 (List.mem_of_getElem? (i := 226) rfl)) rfl
theorem tw_373 : (Cond.constantLong "ShufflingBook$Pack" 47 (6151)) ∈ TB := tb_in (tb_2 (List.mem_of_getElem? (i := 227) rfl)) rfl
theorem tw_374 : (Cond.constantLong "ShufflingBook$Pack" 49 (65521)) ∈ TB := tb_in (tb_2 (List.mem_of_getElem? (i := 228) rfl)) rfl
theorem tw_375 : (Cond.methodLink "ShufflingBook$Pack" 51 yX1_swap) ∈ TB := tb_in (tb_2 (List.mem_of_getElem? (i := 229) rfl)) rfl
theorem tw_376 : (Cond.methodLink "ShufflingBookLaw" 59 yX7_has) ∈ TB := tb_in (tb_2 (List.mem_of_getElem? (i := 230) rfl)) rfl
theorem tw_377 : (Cond.instanceMethod yX7_has) ∈ TB := tb_in (tb_2 (List.mem_of_getElem? (i := 231) rfl)) rfl
theorem tw_378 : (Cond.selects "ShufflingBook" yX7_has yX7_has) ∈ TB := tb_in (tb_2 (List.mem_of_getElem? (i := 232) rfl)) rfl
theorem tw_379 : (Cond.code yX7_has cX7_has 4 (some (Jvm.ClassFile.FieldType.int))) ∈ TB := tb_in (tb_2 (List.mem_of_getElem? (i := 233) rfl)) rfl
theorem tw_380 : (Cond.methodLink "ShufflingBook" 136 yX7_isReader) ∈ TB := tb_in (tb_2 (List.mem_of_getElem? (i := 234) rfl)) rfl
theorem tw_381 : (Cond.static yX7_isReader) ∈ TB := tb_in (tb_2 (List.mem_of_getElem? (i := 235) rfl)) rfl
theorem tw_382 : (Cond.code yX7_isReader cX7_isReader 2 (some (Jvm.ClassFile.FieldType.boolean))) ∈ TB := tb_in (tb_2 (List.mem_of_getElem? (i := 236) rfl)) rfl
theorem tw_383 : (Cond.constantLong "ShufflingBook" 261 (1000000000000)) ∈ TB := tb_in (tb_2 (List.mem_of_getElem? (i := 237) rfl)) rfl
theorem tw_384 : (Cond.methodLink "ShufflingBook" 140 yX7_isTurn) ∈ TB := tb_in (tb_2 (List.mem_of_getElem? (i := 238) rfl)) rfl
theorem tw_385 : (Cond.instanceMethod yX7_isTurn) ∈ TB := tb_in (tb_3 (List.mem_of_getElem? (i := 0) rfl)) rfl
theorem tw_386 : (Cond.code yX7_isTurn cX7_isTurn 2 (some (Jvm.ClassFile.FieldType.boolean))) ∈ TB := tb_in (tb_3 (List.mem_of_getElem? (i := 1) rfl)) rfl
theorem tw_387 : (Cond.methodLink "ShufflingBook" 143 yX7_leafHad) ∈ TB := tb_in (tb_3 (List.mem_of_getElem? (i := 2) rfl)) rfl
theorem tw_388 : (Cond.instanceMethod yX7_leafHad) ∈ TB := tb_in (tb_3 (List.mem_of_getElem? (i := 4) rfl)) rfl
theorem tw_389 : (Cond.code yX7_leafHad cX7_leafHad 4 (some (Jvm.ClassFile.FieldType.int))) ∈ TB := tb_in (tb_3 (List.mem_of_getElem? (i := 5) rfl)) rfl
theorem tw_390 : (Cond.methodLink "ShufflingBook" 175 yX3_placeRead) ∈ TB := tb_in (tb_3 (List.mem_of_getElem? (i := 6) rfl)) rfl
theorem tw_391 : (Cond.instanceMethod yX3_placeRead) ∈ TB := tb_in (tb_3 (List.mem_of_getElem? (i := 7) rfl)) rfl
theorem tw_392 : (Cond.selects "ShufflingBook$Readers" yX3_placeRead yX3_placeRead) ∈ TB := tb_in (tb_3 (List.mem_of_getElem? (i := 8) rfl)) rfl
theorem tw_393 : (Cond.code yX3_placeRead cX3_placeRead 4 (some (Jvm.ClassFile.FieldType.int))) ∈ TB := tb_in (tb_3 (List.mem_of_getElem? (i := 9) rfl)) rfl
theorem tw_394 : (Cond.methodLink "ShufflingBook$Readers" 104 yX3_placeInRing) ∈ TB := tb_in (tb_3 (List.mem_of_getElem? (i := 10) rfl)) rfl
theorem tw_395 : (Cond.instanceMethod yX3_placeInRing) ∈ TB := tb_in (tb_3 (List.mem_of_getElem? (i := 12) rfl)) rfl
theorem tw_396 : (Cond.code yX3_placeInRing cX3_placeInRing 6 (some (Jvm.ClassFile.FieldType.int))) ∈ TB := tb_in (tb_3 (List.mem_of_getElem? (i := 13) rfl)) rfl
theorem tw_397 : (Cond.methodLink "ShufflingBook$Readers" 98 yJ9_floorMod_f86c9) ∈ TB := tb_in (tb_3 (List.mem_of_getElem? (i := 14) rfl)) rfl
theorem tw_398 : (Cond.static yJ9_floorMod_f86c9) ∈ TB := tb_in (tb_3 (List.mem_of_getElem? (i := 15) rfl)) rfl
theorem tw_399 : (Cond.code yJ9_floorMod_f86c9 cJ9_floorMod_f86c9 6 (some (Jvm.ClassFile.FieldType.long))) ∈ TB := tb_in (tb_3 (List.mem_of_getElem? (i := 16) rfl)) rfl
theorem tw_400 : (Cond.methodLink "ShufflingBookLaw" 64 yX7_leaves) ∈ TB := tb_in (tb_3 (List.mem_of_getElem? (i := 17) rfl)) rfl
theorem tw_401 : (Cond.instanceMethod yX7_leaves) ∈ TB := tb_in (tb_3 (List.mem_of_getElem? (i := 18) rfl)) rfl
theorem tw_402 : (Cond.selects "ShufflingBook" yX7_leaves yX7_leaves) ∈ TB := tb_in (tb_3 (List.mem_of_getElem? (i := 19) rfl)) rfl
theorem tw_403 : (Cond.code yX7_leaves cX7_leaves 3 (some (Jvm.ClassFile.FieldType.long))) ∈ TB := tb_in (tb_3 (List.mem_of_getElem? (i := 20) rfl)) rfl
theorem tw_404 : (Cond.methodLink "ShufflingBook" 147 yX7_leavesHad) ∈ TB := tb_in (tb_3 (List.mem_of_getElem? (i := 21) rfl)) rfl
theorem tw_405 : (Cond.instanceMethod yX7_leavesHad) ∈ TB := tb_in (tb_3 (List.mem_of_getElem? (i := 23) rfl)) rfl
theorem tw_406 : (Cond.code yX7_leavesHad cX7_leavesHad 6 (some (Jvm.ClassFile.FieldType.long))) ∈ TB := tb_in (tb_3 (List.mem_of_getElem? (i := 24) rfl)) rfl
theorem tw_407 : (Cond.methodLink "ShufflingBook" 162 yX7_bit) ∈ TB := tb_in (tb_3 (List.mem_of_getElem? (i := 25) rfl)) rfl
theorem tw_408 : (Cond.static yX7_bit) ∈ TB := tb_in (tb_3 (List.mem_of_getElem? (i := 26) rfl)) rfl
theorem tw_409 : (Cond.code yX7_bit cX7_bit 1 (some (Jvm.ClassFile.FieldType.long))) ∈ TB := tb_in (tb_3 (List.mem_of_getElem? (i := 27) rfl)) rfl
theorem tw_410 : (Cond.constantLong "ShufflingBook" 151 (-1)) ∈ TB := tb_in (tb_3 (List.mem_of_getElem? (i := 28) rfl)) rfl
theorem tw_411 : (Cond.methodLink "ShufflingBookLaw" 69 yX7_period) ∈ TB := tb_in (tb_3 (List.mem_of_getElem? (i := 29) rfl)) rfl
theorem tw_412 : (Cond.instanceMethod yX7_period) ∈ TB := tb_in (tb_3 (List.mem_of_getElem? (i := 30) rfl)) rfl
theorem tw_413 : (Cond.selects "ShufflingBook" yX7_period yX7_period) ∈ TB := tb_in (tb_3 (List.mem_of_getElem? (i := 31) rfl)) rfl
theorem tw_414 : (Cond.code yX7_period cX7_period 1 (some (Jvm.ClassFile.FieldType.int))) ∈ TB := tb_in (tb_3 (List.mem_of_getElem? (i := 32) rfl)) rfl
theorem tw_415 : (Cond.methodLink "ShufflingBook" 153 yX3_roundsTogether) ∈ TB := tb_in (tb_3 (List.mem_of_getElem? (i := 33) rfl)) rfl
theorem tw_416 : (Cond.instanceMethod yX3_roundsTogether) ∈ TB := tb_in (tb_3 (List.mem_of_getElem? (i := 34) rfl)) rfl
theorem tw_417 : (Cond.selects "ShufflingBook$Readers" yX3_roundsTogether yX3_roundsTogether) ∈ TB := tb_in (tb_3 (List.mem_of_getElem? (i := 35) rfl)) rfl
theorem tw_418 : (Cond.code yX3_roundsTogether cX3_roundsTogether 3 (some (Jvm.ClassFile.FieldType.int))) ∈ TB := tb_in (tb_3 (List.mem_of_getElem? (i := 36) rfl)) rfl
theorem tw_419 : (Cond.methodLink "ShufflingBook$Readers" 114 yX3_commonMultiple) ∈ TB := tb_in (tb_3 (List.mem_of_getElem? (i := 37) rfl)) rfl
theorem tw_420 : (Cond.static yX3_commonMultiple) ∈ TB := tb_in (tb_3 (List.mem_of_getElem? (i := 38) rfl)) rfl
theorem tw_421 : (Cond.code yX3_commonMultiple cX3_commonMultiple 3 (some (Jvm.ClassFile.FieldType.int))) ∈ TB := tb_in (tb_3 (List.mem_of_getElem? (i := 39) rfl)) rfl
theorem tw_422 : (Cond.methodLink "ShufflingBookLaw" 73 yX7_ever) ∈ TB := tb_in (tb_3 (List.mem_of_getElem? (i := 40) rfl)) rfl
theorem tw_423 : (Cond.instanceMethod yX7_ever) ∈ TB := tb_in (tb_3 (List.mem_of_getElem? (i := 41) rfl)) rfl
theorem tw_424 : (Cond.selects "ShufflingBook" yX7_ever yX7_ever) ∈ TB := tb_in (tb_3 (List.mem_of_getElem? (i := 42) rfl)) rfl
theorem tw_425 : (Cond.code yX7_ever cX7_ever 6 (some (Jvm.ClassFile.FieldType.long))) ∈ TB := tb_in (tb_3 (List.mem_of_getElem? (i := 43) rfl)) rfl
theorem tw_426 : (Cond.methodLink "ShufflingBook" 156 yX3_isNeverRead) ∈ TB := tb_in (tb_3 (List.mem_of_getElem? (i := 44) rfl)) rfl
theorem tw_427 : (Cond.instanceMethod yX3_isNeverRead) ∈ TB := tb_in (tb_3 (List.mem_of_getElem? (i := 45) rfl)) rfl
theorem tw_428 : (Cond.selects "ShufflingBook$Readers" yX3_isNeverRead yX3_isNeverRead) ∈ TB := tb_in (tb_3 (List.mem_of_getElem? (i := 46) rfl)) rfl
theorem tw_429 : (Cond.code yX3_isNeverRead cX3_isNeverRead 2 (some (Jvm.ClassFile.FieldType.boolean))) ∈ TB := tb_in (tb_3 (List.mem_of_getElem? (i := 47) rfl)) rfl
theorem tw_430 : (Cond.methodLink "ShufflingBook$Readers" 108 yX3_readInRing) ∈ TB := tb_in (tb_3 (List.mem_of_getElem? (i := 48) rfl)) rfl
theorem tw_431 : (Cond.instanceMethod yX3_readInRing) ∈ TB := tb_in (tb_3 (List.mem_of_getElem? (i := 50) rfl)) rfl
theorem tw_432 : (Cond.code yX3_readInRing cX3_readInRing 4 (some (Jvm.ClassFile.FieldType.int))) ∈ TB := tb_in (tb_3 (List.mem_of_getElem? (i := 51) rfl)) rfl
theorem tw_433 : (Cond.methodLink "ShufflingBook$Readers" 111 yX3_turnAt) ∈ TB := tb_in (tb_3 (List.mem_of_getElem? (i := 52) rfl)) rfl
theorem tw_434 : (Cond.instanceMethod yX3_turnAt) ∈ TB := tb_in (tb_3 (List.mem_of_getElem? (i := 53) rfl)) rfl
theorem tw_435 : (Cond.selects "ShufflingBook$Readers" yX3_turnAt yX3_turnAt) ∈ TB := tb_in (tb_3 (List.mem_of_getElem? (i := 54) rfl)) rfl
theorem tw_436 : (Cond.code yX3_turnAt cX3_turnAt 2 (some (Jvm.ClassFile.FieldType.int))) ∈ TB := tb_in (tb_3 (List.mem_of_getElem? (i := 55) rfl)) rfl
theorem tw_437 : (Cond.methodLink "ShufflingBook" 159 yX3_isAlwaysRead) ∈ TB := tb_in (tb_3 (List.mem_of_getElem? (i := 56) rfl)) rfl
theorem tw_438 : (Cond.instanceMethod yX3_isAlwaysRead) ∈ TB := tb_in (tb_3 (List.mem_of_getElem? (i := 57) rfl)) rfl
theorem tw_439 : (Cond.selects "ShufflingBook$Readers" yX3_isAlwaysRead yX3_isAlwaysRead) ∈ TB := tb_in (tb_3 (List.mem_of_getElem? (i := 58) rfl)) rfl
theorem tw_440 : (Cond.code yX3_isAlwaysRead cX3_isAlwaysRead 2 (some (Jvm.ClassFile.FieldType.boolean))) ∈ TB := tb_in (tb_3 (List.mem_of_getElem? (i := 59) rfl)) rfl
theorem tw_441 : (Cond.methodLink "ShufflingBookLaw" 78 yX7_right) ∈ TB := tb_in (tb_3 (List.mem_of_getElem? (i := 60) rfl)) rfl
theorem tw_442 : (Cond.instanceMethod yX7_right) ∈ TB := tb_in (tb_3 (List.mem_of_getElem? (i := 61) rfl)) rfl
theorem tw_443 : (Cond.selects "ShufflingBook" yX7_right yX7_right) ∈ TB := tb_in (tb_3 (List.mem_of_getElem? (i := 62) rfl)) rfl
theorem tw_444 : (Cond.code yX7_right cX7_right 5 (some (Jvm.ClassFile.FieldType.int))) ∈ TB := tb_in (tb_3 (List.mem_of_getElem? (i := 63) rfl)) rfl
theorem tw_445 : (Cond.methodLink "ShufflingBook" 166 yX6_toldTurns) ∈ TB := tb_in (tb_3 (List.mem_of_getElem? (i := 64) rfl)) rfl
theorem tw_446 : (Cond.instanceMethod yX6_toldTurns) ∈ TB := tb_in (tb_3 (List.mem_of_getElem? (i := 65) rfl)) rfl
theorem tw_447 : (Cond.selects "ShufflingBook$Told" yX6_toldTurns yX6_toldTurns) ∈ TB := tb_in (tb_3 (List.mem_of_getElem? (i := 66) rfl)) rfl
theorem tw_448 : (Cond.code yX6_toldTurns cX6_toldTurns 1 (some (Jvm.ClassFile.FieldType.int))) ∈ TB := tb_in (tb_3 (List.mem_of_getElem? (i := 67) rfl)) rfl
theorem tw_449 : (Cond.methodLink "ShufflingBook$Told" 114 yJ9_min_7cf53) ∈ TB := tb_in (tb_3 (List.mem_of_getElem? (i := 68) rfl)) rfl
theorem tw_450 : (Cond.methodLink "ShufflingBook" 169 yX6_taleLeaf) ∈ TB := tb_in (tb_3 (List.mem_of_getElem? (i := 69) rfl)) rfl
theorem tw_451 : (Cond.instanceMethod yX6_taleLeaf) ∈ TB := tb_in (tb_3 (List.mem_of_getElem? (i := 70) rfl)) rfl
theorem tw_452 : (Cond.selects "ShufflingBook$Told" yX6_taleLeaf yX6_taleLeaf) ∈ TB := tb_in (tb_3 (List.mem_of_getElem? (i := 71) rfl)) rfl
theorem tw_453 : (Cond.code yX6_taleLeaf cX6_taleLeaf 2 (some (Jvm.ClassFile.FieldType.int))) ∈ TB := tb_in (tb_3 (List.mem_of_getElem? (i := 72) rfl)) rfl
theorem tw_454 : (Cond.methodLink "ShufflingBookLaw" 83 yX7_order) ∈ TB := tb_in (tb_3 (List.mem_of_getElem? (i := 73) rfl)) rfl
theorem tw_455 : (Cond.instanceMethod yX7_order) ∈ TB := tb_in (tb_3 (List.mem_of_getElem? (i := 74) rfl)) rfl
theorem tw_456 : (Cond.selects "ShufflingBook" yX7_order yX7_order) ∈ TB := tb_in (tb_3 (List.mem_of_getElem? (i := 75) rfl)) rfl
theorem tw_457 : (Cond.code yX7_order cX7_order 5 (some (Jvm.ClassFile.FieldType.int))) ∈ TB := tb_in (tb_3 (List.mem_of_getElem? (i := 76) rfl)) rfl
theorem tw_458 : (Cond.methodLink "ShufflingBook" 172 yX0_begin) ∈ TB := tb_in (tb_3 (List.mem_of_getElem? (i := 77) rfl)) rfl
theorem tw_459 : (Cond.instanceMethod yX0_begin) ∈ TB := tb_in (tb_3 (List.mem_of_getElem? (i := 78) rfl)) rfl
theorem tw_460 : (Cond.selects "ShufflingBook$Guess" yX0_begin yX0_begin) ∈ TB := tb_in (tb_3 (List.mem_of_getElem? (i := 79) rfl)) rfl
theorem tw_461 : (Cond.code yX0_begin cX0_begin 2 none) ∈ TB := tb_in (tb_3 (List.mem_of_getElem? (i := 80) rfl)) rfl
theorem tw_462 : (Cond.methodLink "ShufflingBook$Guess" 34 yX4_fill) ∈ TB := tb_in (tb_3 (List.mem_of_getElem? (i := 81) rfl)) rfl
theorem tw_463 : (Cond.methodLink "ShufflingBook" 178 yX0_bind) ∈ TB := tb_in (tb_3 (List.mem_of_getElem? (i := 82) rfl)) rfl
theorem tw_464 : (Cond.instanceMethod yX0_bind) ∈ TB := tb_in (tb_3 (List.mem_of_getElem? (i := 83) rfl)) rfl
theorem tw_465 : (Cond.selects "ShufflingBook$Guess" yX0_bind yX0_bind) ∈ TB := tb_in (tb_3 (List.mem_of_getElem? (i := 84) rfl)) rfl
theorem tw_466 : (Cond.code yX0_bind cX0_bind 5 none) ∈ TB := tb_in (tb_3 (List.mem_of_getElem? (i := 85) rfl)) rfl
theorem tw_467 : (Cond.methodLink "ShufflingBook$Guess" 37 yX4_at) ∈ TB := tb_in (tb_3 (List.mem_of_getElem? (i := 86) rfl)) rfl
theorem tw_468 : (Cond.methodLink "ShufflingBook$Guess" 41 yX4_put) ∈ TB := tb_in (tb_3 (List.mem_of_getElem? (i := 87) rfl)) rfl
theorem tw_469 : (Cond.methodLink "ShufflingBook" 181 yX0_holds) ∈ TB := tb_in (tb_3 (List.mem_of_getElem? (i := 88) rfl)) rfl
theorem tw_470 : (Cond.instanceMethod yX0_holds) ∈ TB := tb_in (tb_3 (List.mem_of_getElem? (i := 89) rfl)) rfl
theorem tw_471 : (Cond.selects "ShufflingBook$Guess" yX0_holds yX0_holds) ∈ TB := tb_in (tb_3 (List.mem_of_getElem? (i := 90) rfl)) rfl
theorem tw_472 : (Cond.code yX0_holds cX0_holds 1 (some (Jvm.ClassFile.FieldType.boolean))) ∈ TB := tb_in (tb_3 (List.mem_of_getElem? (i := 91) rfl)) rfl
theorem tw_473 : (Cond.methodLink "ShufflingBook" 184 yX0_fillUp) ∈ TB := tb_in (tb_3 (List.mem_of_getElem? (i := 92) rfl)) rfl
theorem tw_474 : (Cond.instanceMethod yX0_fillUp) ∈ TB := tb_in (tb_3 (List.mem_of_getElem? (i := 93) rfl)) rfl
theorem tw_475 : (Cond.selects "ShufflingBook$Guess" yX0_fillUp yX0_fillUp) ∈ TB := tb_in (tb_3 (List.mem_of_getElem? (i := 94) rfl)) rfl
theorem tw_476 : (Cond.code yX0_fillUp cX0_fillUp 3 none) ∈ TB := tb_in (tb_3 (List.mem_of_getElem? (i := 95) rfl)) rfl
theorem tw_477 : (Cond.methodLink "ShufflingBook$Guess" 45 yX0_bind) ∈ TB := tb_in (tb_3 (List.mem_of_getElem? (i := 96) rfl)) rfl
theorem tw_478 : (Cond.methodLink "ShufflingBook" 187 yX0_leafAt) ∈ TB := tb_in (tb_3 (List.mem_of_getElem? (i := 97) rfl)) rfl
theorem tw_479 : (Cond.instanceMethod yX0_leafAt) ∈ TB := tb_in (tb_3 (List.mem_of_getElem? (i := 98) rfl)) rfl
theorem tw_480 : (Cond.selects "ShufflingBook$Guess" yX0_leafAt yX0_leafAt) ∈ TB := tb_in (tb_3 (List.mem_of_getElem? (i := 99) rfl)) rfl
theorem tw_481 : (Cond.code yX0_leafAt cX0_leafAt 2 (some (Jvm.ClassFile.FieldType.int))) ∈ TB := tb_in (tb_3 (List.mem_of_getElem? (i := 100) rfl)) rfl
theorem tw_482 : (Cond.methodLink "ShufflingBookLaw" 87 yX7_shows) ∈ TB := tb_in (tb_3 (List.mem_of_getElem? (i := 101) rfl)) rfl
theorem tw_483 : (Cond.instanceMethod yX7_shows) ∈ TB := tb_in (tb_3 (List.mem_of_getElem? (i := 102) rfl)) rfl
theorem tw_484 : (Cond.selects "ShufflingBook" yX7_shows yX7_shows) ∈ TB := tb_in (tb_3 (List.mem_of_getElem? (i := 103) rfl)) rfl
theorem tw_485 : (Cond.code yX7_shows cX7_shows 3 (some (Jvm.ClassFile.FieldType.int))) ∈ TB := tb_in (tb_3 (List.mem_of_getElem? (i := 104) rfl)) rfl
theorem tw_486 : (Cond.methodLink "ShufflingBook" 188 yX7_readingsToShowAll) ∈ TB := tb_in (tb_3 (List.mem_of_getElem? (i := 105) rfl)) rfl
theorem tw_487 : (Cond.instanceMethod yX7_readingsToShowAll) ∈ TB := tb_in (tb_3 (List.mem_of_getElem? (i := 107) rfl)) rfl
theorem tw_488 : (Cond.code yX7_readingsToShowAll cX7_readingsToShowAll 6 (some (Jvm.ClassFile.FieldType.int))) ∈ TB := tb_in (tb_3 (List.mem_of_getElem? (i := 108) rfl)) rfl
theorem tw_489 : (Cond.methodLink "ShufflingBook" 248 yX1_number) ∈ TB := tb_in (tb_3 (List.mem_of_getElem? (i := 109) rfl)) rfl
theorem tw_490 : (Cond.methodLink "ShufflingBook" 251 yX1_readTop) ∈ TB := tb_in (tb_3 (List.mem_of_getElem? (i := 110) rfl)) rfl
theorem tw_491 : (Cond.methodLink "ShufflingBookLaw" 91 yX7_quickest) ∈ TB := tb_in (tb_3 (List.mem_of_getElem? (i := 111) rfl)) rfl
theorem tw_492 : (Cond.instanceMethod yX7_quickest) ∈ TB := tb_in (tb_3 (List.mem_of_getElem? (i := 112) rfl)) rfl
theorem tw_493 : (Cond.selects "ShufflingBook" yX7_quickest yX7_quickest) ∈ TB := tb_in (tb_3 (List.mem_of_getElem? (i := 113) rfl)) rfl
theorem tw_494 : (Cond.code yX7_quickest cX7_quickest 2 (some (Jvm.ClassFile.FieldType.int))) ∈ TB := tb_in (tb_3 (List.mem_of_getElem? (i := 114) rfl)) rfl
theorem tw_495 : (Cond.methodLink "ShufflingBookLaw" 95 yX7_seen) ∈ TB := tb_in (tb_3 (List.mem_of_getElem? (i := 115) rfl)) rfl
theorem tw_496 : (Cond.instanceMethod yX7_seen) ∈ TB := tb_in (tb_3 (List.mem_of_getElem? (i := 116) rfl)) rfl
theorem tw_497 : (Cond.selects "ShufflingBook" yX7_seen yX7_seen) ∈ TB := tb_in (tb_3 (List.mem_of_getElem? (i := 117) rfl)) rfl
theorem tw_498 : (Cond.code yX7_seen cX7_seen 5 (some (Jvm.ClassFile.FieldType.int))) ∈ TB := tb_in (tb_3 (List.mem_of_getElem? (i := 118) rfl)) rfl
theorem tw_499 : (Cond.methodLink "ShufflingBook" 195 yX4_put) ∈ TB := tb_in (tb_3 (List.mem_of_getElem? (i := 119) rfl)) rfl
theorem tw_500 : (Cond.methodLink "ShufflingBookLaw" 100 yX7_forget) ∈ TB := tb_in (tb_3 (List.mem_of_getElem? (i := 120) rfl)) rfl
theorem tw_501 : (Cond.instanceMethod yX7_forget) ∈ TB := tb_in (tb_3 (List.mem_of_getElem? (i := 121) rfl)) rfl
theorem tw_502 : (Cond.selects "ShufflingBook" yX7_forget yX7_forget) ∈ TB := tb_in (tb_3 (List.mem_of_getElem? (i := 122) rfl)) rfl
theorem tw_503 : (Cond.code yX7_forget cX7_forget 2 (some (Jvm.ClassFile.FieldType.int))) ∈ TB := tb_in (tb_3 (List.mem_of_getElem? (i := 123) rfl)) rfl
theorem tw_504 : (Cond.methodLink "ShufflingBookLaw" 104 yX7_so) ∈ TB := tb_in (tb_3 (List.mem_of_getElem? (i := 124) rfl)) rfl
theorem tw_505 : (Cond.instanceMethod yX7_so) ∈ TB := tb_in (tb_3 (List.mem_of_getElem? (i := 125) rfl)) rfl
theorem tw_506 : (Cond.selects "ShufflingBook" yX7_so yX7_so) ∈ TB := tb_in (tb_3 (List.mem_of_getElem? (i := 126) rfl)) rfl
theorem tw_507 : (Cond.code yX7_so cX7_so 1 (some (Jvm.ClassFile.FieldType.int))) ∈ TB := tb_in (tb_3 (List.mem_of_getElem? (i := 127) rfl)) rfl
theorem tw_508 : (Cond.methodLink "ShufflingBook" 198 yX7_guessFromSeen) ∈ TB := tb_in (tb_3 (List.mem_of_getElem? (i := 128) rfl)) rfl
theorem tw_509 : (Cond.instanceMethod yX7_guessFromSeen) ∈ TB := tb_in (tb_3 (List.mem_of_getElem? (i := 130) rfl)) rfl
theorem tw_510 : (Cond.code yX7_guessFromSeen cX7_guessFromSeen 2 none) ∈ TB := tb_in (tb_3 (List.mem_of_getElem? (i := 131) rfl)) rfl
theorem tw_511 : (Cond.methodLink "ShufflingBook" 245 yX4_at) ∈ TB := tb_in (tb_3 (List.mem_of_getElem? (i := 132) rfl)) rfl
theorem tw_512 : (Cond.methodLink "ShufflingBookLaw" 108 yX7_sure) ∈ TB := tb_in (tb_3 (List.mem_of_getElem? (i := 133) rfl)) rfl
theorem tw_513 : (Cond.instanceMethod yX7_sure) ∈ TB := tb_in (tb_3 (List.mem_of_getElem? (i := 134) rfl)) rfl
theorem tw_514 : (Cond.selects "ShufflingBook" yX7_sure yX7_sure) ∈ TB := tb_in (tb_3 (List.mem_of_getElem? (i := 135) rfl)) rfl
theorem tw_515 : (Cond.code yX7_sure cX7_sure 2 (some (Jvm.ClassFile.FieldType.int))) ∈ TB := tb_in (tb_3 (List.mem_of_getElem? (i := 136) rfl)) rfl
theorem tw_516 : (Cond.methodLink "ShufflingBook" 201 yX0_isAllButOne) ∈ TB := tb_in (tb_3 (List.mem_of_getElem? (i := 137) rfl)) rfl
theorem tw_517 : (Cond.instanceMethod yX0_isAllButOne) ∈ TB := tb_in (tb_3 (List.mem_of_getElem? (i := 138) rfl)) rfl
theorem tw_518 : (Cond.selects "ShufflingBook$Guess" yX0_isAllButOne yX0_isAllButOne) ∈ TB := tb_in (tb_3 (List.mem_of_getElem? (i := 139) rfl)) rfl
theorem tw_519 : (Cond.code yX0_isAllButOne cX0_isAllButOne 1 (some (Jvm.ClassFile.FieldType.boolean))) ∈ TB := tb_in (tb_3 (List.mem_of_getElem? (i := 140) rfl)) rfl
theorem tw_520 : (Cond.methodLink "ShufflingBookLaw" 112 yX7_lacks) ∈ TB := tb_in (tb_3 (List.mem_of_getElem? (i := 141) rfl)) rfl
theorem tw_521 : (Cond.instanceMethod yX7_lacks) ∈ TB := tb_in (tb_3 (List.mem_of_getElem? (i := 142) rfl)) rfl
theorem tw_522 : (Cond.selects "ShufflingBook" yX7_lacks yX7_lacks) ∈ TB := tb_in (tb_3 (List.mem_of_getElem? (i := 143) rfl)) rfl
theorem tw_523 : (Cond.code yX7_lacks cX7_lacks 6 (some (Jvm.ClassFile.FieldType.int))) ∈ TB := tb_in (tb_3 (List.mem_of_getElem? (i := 144) rfl)) rfl
theorem tw_524 : (Cond.methodLink "ShufflingBook" 204 yX3_placeFoundBy) ∈ TB := tb_in (tb_3 (List.mem_of_getElem? (i := 145) rfl)) rfl
theorem tw_525 : (Cond.instanceMethod yX3_placeFoundBy) ∈ TB := tb_in (tb_3 (List.mem_of_getElem? (i := 146) rfl)) rfl
theorem tw_526 : (Cond.selects "ShufflingBook$Readers" yX3_placeFoundBy yX3_placeFoundBy) ∈ TB := tb_in (tb_3 (List.mem_of_getElem? (i := 147) rfl)) rfl
theorem tw_527 : (Cond.code yX3_placeFoundBy cX3_placeFoundBy 4 (some (Jvm.ClassFile.FieldType.int))) ∈ TB := tb_in (tb_3 (List.mem_of_getElem? (i := 148) rfl)) rfl
theorem tw_528 : (Cond.methodLink "ShufflingBook" 207 yX3_turnAt) ∈ TB := tb_in (tb_3 (List.mem_of_getElem? (i := 149) rfl)) rfl
theorem tw_529 : (Cond.methodLink "ShufflingBookLaw" 116 yX7_notice) ∈ TB := tb_in (tb_3 (List.mem_of_getElem? (i := 150) rfl)) rfl
theorem tw_530 : (Cond.instanceMethod yX7_notice) ∈ TB := tb_in (tb_3 (List.mem_of_getElem? (i := 151) rfl)) rfl
theorem tw_531 : (Cond.selects "ShufflingBook" yX7_notice yX7_notice) ∈ TB := tb_in (tb_3 (List.mem_of_getElem? (i := 152) rfl)) rfl
theorem tw_532 : (Cond.code yX7_notice cX7_notice 8 (some (Jvm.ClassFile.FieldType.int))) ∈ TB := tb_in (tb_3 (List.mem_of_getElem? (i := 153) rfl)) rfl
theorem tw_533 : (Cond.methodLink "ShufflingBook" 210 yX7_isReadBy) ∈ TB := tb_in (tb_3 (List.mem_of_getElem? (i := 154) rfl)) rfl
theorem tw_534 : (Cond.instanceMethod yX7_isReadBy) ∈ TB := tb_in (tb_3 (List.mem_of_getElem? (i := 156) rfl)) rfl
theorem tw_535 : (Cond.code yX7_isReadBy cX7_isReadBy 3 (some (Jvm.ClassFile.FieldType.boolean))) ∈ TB := tb_in (tb_3 (List.mem_of_getElem? (i := 157) rfl)) rfl
theorem tw_536 : (Cond.methodLink "ShufflingBookLaw" 121 yX7_pleased) ∈ TB := tb_in (tb_3 (List.mem_of_getElem? (i := 158) rfl)) rfl
theorem tw_537 : (Cond.instanceMethod yX7_pleased) ∈ TB := tb_in (tb_3 (List.mem_of_getElem? (i := 159) rfl)) rfl
theorem tw_538 : (Cond.selects "ShufflingBook" yX7_pleased yX7_pleased) ∈ TB := tb_in (tb_3 (List.mem_of_getElem? (i := 160) rfl)) rfl
theorem tw_539 : (Cond.code yX7_pleased cX7_pleased 7 (some (Jvm.ClassFile.FieldType.int))) ∈ TB := tb_in (tb_3 (List.mem_of_getElem? (i := 161) rfl)) rfl
theorem tw_540 : (Cond.methodLink "ShufflingBook" 214 yX7_rightWhenLaidAt) ∈ TB := tb_in (tb_3 (List.mem_of_getElem? (i := 162) rfl)) rfl
theorem tw_541 : (Cond.instanceMethod yX7_rightWhenLaidAt) ∈ TB := tb_in (tb_3 (List.mem_of_getElem? (i := 164) rfl)) rfl
theorem tw_542 : (Cond.code yX7_rightWhenLaidAt cX7_rightWhenLaidAt 6 (some (Jvm.ClassFile.FieldType.int))) ∈ TB := tb_in (tb_3 (List.mem_of_getElem? (i := 165) rfl)) rfl
theorem tw_543 : (Cond.methodLink "ShufflingBook" 255 yX3_placeAfterFirstReading) ∈ TB := tb_in (tb_3 (List.mem_of_getElem? (i := 166) rfl)) rfl
theorem tw_544 : (Cond.instanceMethod yX3_placeAfterFirstReading) ∈ TB := tb_in (tb_3 (List.mem_of_getElem? (i := 167) rfl)) rfl
theorem tw_545 : (Cond.selects "ShufflingBook$Readers" yX3_placeAfterFirstReading yX3_placeAfterFirstReading) ∈ TB := tb_in (tb_3 (List.mem_of_getElem? (i := 168) rfl)) rfl
theorem tw_546 : (Cond.code yX3_placeAfterFirstReading cX3_placeAfterFirstReading 4 (some (Jvm.ClassFile.FieldType.int))) ∈ TB := tb_in (tb_3 (List.mem_of_getElem? (i := 169) rfl)) rfl
theorem tw_547 : (Cond.methodLink "ShufflingBook" 258 yX7_placeBeforeLaying) ∈ TB := tb_in (tb_3 (List.mem_of_getElem? (i := 170) rfl)) rfl
theorem tw_548 : (Cond.static yX7_placeBeforeLaying) ∈ TB := tb_in (tb_3 (List.mem_of_getElem? (i := 171) rfl)) rfl
theorem tw_549 : (Cond.code yX7_placeBeforeLaying cX7_placeBeforeLaying 2 (some (Jvm.ClassFile.FieldType.int))) ∈ TB := tb_in (tb_3 (List.mem_of_getElem? (i := 172) rfl)) rfl
theorem tw_550 : (Cond.methodLink "ShufflingBookLaw" 125 yX7_keep) ∈ TB := tb_in (tb_3 (List.mem_of_getElem? (i := 173) rfl)) rfl
theorem tw_551 : (Cond.instanceMethod yX7_keep) ∈ TB := tb_in (tb_3 (List.mem_of_getElem? (i := 174) rfl)) rfl
theorem tw_552 : (Cond.selects "ShufflingBook" yX7_keep yX7_keep) ∈ TB := tb_in (tb_3 (List.mem_of_getElem? (i := 175) rfl)) rfl
theorem tw_553 : (Cond.code yX7_keep cX7_keep 1 (some (Jvm.ClassFile.FieldType.int))) ∈ TB := tb_in (tb_3 (List.mem_of_getElem? (i := 176) rfl)) rfl
theorem tw_554 : (Cond.methodLink "ShufflingBook" 220 yX7_keptPack) ∈ TB := tb_in (tb_3 (List.mem_of_getElem? (i := 177) rfl)) rfl
theorem tw_555 : (Cond.instanceMethod yX7_keptPack) ∈ TB := tb_in (tb_3 (List.mem_of_getElem? (i := 179) rfl)) rfl
theorem tw_556 : (Cond.code yX7_keptPack cX7_keptPack 2 (some (Jvm.ClassFile.FieldType.object "ShufflingBook$Pack"))) ∈ TB := tb_in (tb_3 (List.mem_of_getElem? (i := 180) rfl)) rfl
theorem tw_557 : (Cond.methodLink "ShufflingBook" 224 yX2_copyFrom) ∈ TB := tb_in (tb_3 (List.mem_of_getElem? (i := 181) rfl)) rfl
theorem tw_558 : (Cond.instanceMethod yX2_copyFrom) ∈ TB := tb_in (tb_3 (List.mem_of_getElem? (i := 182) rfl)) rfl
theorem tw_559 : (Cond.selects "ShufflingBook$Pack" yX2_copyFrom yX2_copyFrom) ∈ TB := tb_in (tb_3 (List.mem_of_getElem? (i := 183) rfl)) rfl
theorem tw_560 : (Cond.code yX2_copyFrom cX2_copyFrom 2 none) ∈ TB := tb_in (tb_3 (List.mem_of_getElem? (i := 184) rfl)) rfl
theorem tw_561 : (Cond.methodLink "ShufflingBookLaw" 129 yX7_back) ∈ TB := tb_in (tb_3 (List.mem_of_getElem? (i := 185) rfl)) rfl
theorem tw_562 : (Cond.instanceMethod yX7_back) ∈ TB := tb_in (tb_3 (List.mem_of_getElem? (i := 186) rfl)) rfl
theorem tw_563 : (Cond.selects "ShufflingBook" yX7_back yX7_back) ∈ TB := tb_in (tb_3 (List.mem_of_getElem? (i := 187) rfl)) rfl
theorem tw_564 : (Cond.code yX7_back cX7_back 1 (some (Jvm.ClassFile.FieldType.int))) ∈ TB := tb_in (tb_3 (List.mem_of_getElem? (i := 188) rfl)) rfl
theorem tw_565 : (Cond.methodLink "ShufflingBookLaw" 133 yX7_count) ∈ TB := tb_in (tb_3 (List.mem_of_getElem? (i := 189) rfl)) rfl
theorem tw_566 : (Cond.instanceMethod yX7_count) ∈ TB := tb_in (tb_3 (List.mem_of_getElem? (i := 190) rfl)) rfl
theorem tw_567 : (Cond.selects "ShufflingBook" yX7_count yX7_count) ∈ TB := tb_in (tb_3 (List.mem_of_getElem? (i := 191) rfl)) rfl
theorem tw_568 : (Cond.code yX7_count cX7_count 2 (some (Jvm.ClassFile.FieldType.int))) ∈ TB := tb_in (tb_3 (List.mem_of_getElem? (i := 192) rfl)) rfl
theorem tw_569 : (Cond.classLink "ShufflingBookLaw" 10 "ShufflingBookModel") ∈ TB := tb_in (tb_3 (List.mem_of_getElem? (i := 193) rfl)) rfl
theorem tw_570 : (Cond.instantiable "ShufflingBookModel" 31) ∈ TB := tb_in (tb_3 (List.mem_of_getElem? (i := 194) rfl)) rfl
theorem tw_571 : (Cond.methodLink "ShufflingBookLaw" 12 yX8_init) ∈ TB := tb_in (tb_3 (List.mem_of_getElem? (i := 195) rfl)) rfl
theorem tw_572 : (Cond.instanceMethod yX8_init) ∈ TB := tb_in (tb_3 (List.mem_of_getElem? (i := 196) rfl)) rfl
theorem tw_573 : (Cond.code yX8_init cX8_init 1 none) ∈ TB := tb_in (tb_3 (List.mem_of_getElem? (i := 197) rfl)) rfl
theorem tw_574 : (Cond.methodLink "ShufflingBookModel" 1 ⟨"java/lang/Object", "<init>", "()V"⟩) ∈ TB := tb_in (tb_3 (List.mem_of_getElem? (i := 198) rfl)) rfl
theorem tw_575 : (Cond.methodLink "ShufflingBookModel" 89 yX8_noBook) ∈ TB := tb_in (tb_3 (List.mem_of_getElem? (i := 199) rfl)) rfl
theorem tw_576 : (Cond.instanceMethod yX8_noBook) ∈ TB := tb_in (tb_3 (List.mem_of_getElem? (i := 201) rfl)) rfl
theorem tw_577 : (Cond.code yX8_noBook cX8_noBook 2 none) ∈ TB := tb_in (tb_3 (List.mem_of_getElem? (i := 202) rfl)) rfl
theorem tw_578 : (Cond.methodLink "ShufflingBookModel" 93 yX8_layBook) ∈ TB := tb_in (tb_3 (List.mem_of_getElem? (i := 203) rfl)) rfl
theorem tw_579 : (Cond.instanceMethod yX8_layBook) ∈ TB := tb_in (tb_3 (List.mem_of_getElem? (i := 205) rfl)) rfl
theorem tw_580 : (Cond.code yX8_layBook cX8_layBook 3 none) ∈ TB := tb_in (tb_3 (List.mem_of_getElem? (i := 206) rfl)) rfl
theorem tw_581 : (Cond.methodLink "ShufflingBookModel" 141 yX8_layOne) ∈ TB := tb_in (tb_3 (List.mem_of_getElem? (i := 207) rfl)) rfl
theorem tw_582 : (Cond.instanceMethod yX8_layOne) ∈ TB := tb_in (tb_3 (List.mem_of_getElem? (i := 209) rfl)) rfl
theorem tw_583 : (Cond.code yX8_layOne cX8_layOne 2 none) ∈ TB := tb_in (tb_3 (List.mem_of_getElem? (i := 210) rfl)) rfl
theorem tw_584 : (Cond.methodLink "ShufflingBookModel" 158 yX8_goRead) ∈ TB := tb_in (tb_3 (List.mem_of_getElem? (i := 211) rfl)) rfl
theorem tw_585 : (Cond.instanceMethod yX8_goRead) ∈ TB := tb_in (tb_3 (List.mem_of_getElem? (i := 213) rfl)) rfl
theorem tw_586 : (Cond.code yX8_goRead cX8_goRead 8 none) ∈ TB := tb_in (tb_3 (List.mem_of_getElem? (i := 214) rfl)) rfl
theorem tw_587 : (Cond.methodLink "ShufflingBookModel" 147 yX8_cut) ∈ TB := tb_in (tb_3 (List.mem_of_getElem? (i := 215) rfl)) rfl
theorem tw_588 : (Cond.instanceMethod yX8_cut) ∈ TB := tb_in (tb_3 (List.mem_of_getElem? (i := 217) rfl)) rfl
theorem tw_589 : (Cond.code yX8_cut cX8_cut 6 none) ∈ TB := tb_in (tb_3 (List.mem_of_getElem? (i := 218) rfl)) rfl
theorem tw_590 : (Cond.methodLink "ShufflingBookModel" 151 yX8_layBelow) ∈ TB := tb_in (tb_3 (List.mem_of_getElem? (i := 219) rfl)) rfl
theorem tw_591 : (Cond.instanceMethod yX8_layBelow) ∈ TB := tb_in (tb_3 (List.mem_of_getElem? (i := 221) rfl)) rfl
theorem tw_592 : (Cond.code yX8_layBelow cX8_layBelow 6 none) ∈ TB := tb_in (tb_3 (List.mem_of_getElem? (i := 222) rfl)) rfl
theorem tw_593 : (Cond.fieldLink "ShufflingBookModel" 102 "ShufflingBookModel" "length" "I") ∈ TB := tb_in (tb_3 (List.mem_of_getElem? (i := 223) rfl)) rfl
theorem tw_594 : (Cond.fieldLink "ShufflingBookModel" 7 "ShufflingBookModel" "text" "[I") ∈ TB := tb_in (tb_3 (List.mem_of_getElem? (i := 224) rfl)) rfl
theorem tw_595 : (Cond.fieldLink "ShufflingBookModel" 13 "ShufflingBookModel" "leafMany" "[I") ∈ TB := tb_in (tb_3 (List.mem_of_getElem? (i := 225) rfl)) rfl
theorem tw_596 : (Cond.fieldLink "ShufflingBookModel" 16 "ShufflingBookModel" "reads" "[I") ∈ TB := tb_in (tb_3 (List.mem_of_getElem? (i := 226) rfl)) rfl
theorem tw_597 : (Cond.fieldLink "ShufflingBookModel" 19 "ShufflingBookModel" "kind" "[I") ∈ TB := tb_in (tb_3 (List.mem_of_getElem? (i := 227) rfl)) rfl
theorem tw_598 : (Cond.fieldLink "ShufflingBookModel" 22 "ShufflingBookModel" "above" "[I") ∈ TB := tb_in (tb_3 (List.mem_of_getElem? (i := 228) rfl)) rfl
theorem tw_599 : (Cond.fieldLink "ShufflingBookModel" 25 "ShufflingBookModel" "swapMany" "[I") ∈ TB := tb_in (tb_3 (List.mem_of_getElem? (i := 229) rfl)) rfl
theorem tw_600 : (Cond.fieldLink "ShufflingBookModel" 28 "ShufflingBookModel" "swaps" "[I") ∈ TB := tb_in (tb_3 (List.mem_of_getElem? (i := 230) rfl)) rfl
theorem tw_601 : (Cond.fieldLink "ShufflingBookModel" 31 "ShufflingBookModel" "taleMany" "[I") ∈ TB := tb_in (tb_3 (List.mem_of_getElem? (i := 231) rfl)) rfl
theorem tw_602 : (Cond.fieldLink "ShufflingBookModel" 34 "ShufflingBookModel" "tale" "[I") ∈ TB := tb_in (tb_3 (List.mem_of_getElem? (i := 232) rfl)) rfl
theorem tw_603 : (Cond.fieldLink "ShufflingBookModel" 37 "ShufflingBookModel" "first" "[I") ∈ TB := tb_in (tb_3 (List.mem_of_getElem? (i := 233) rfl)) rfl
theorem tw_604 : (Cond.fieldLink "ShufflingBookModel" 40 "ShufflingBookModel" "pack" "[I") ∈ TB := tb_in (tb_3 (List.mem_of_getElem? (i := 234) rfl)) rfl
theorem tw_605 : (Cond.fieldLink "ShufflingBookModel" 43 "ShufflingBookModel" "readMany" "[I") ∈ TB := tb_in (tb_3 (List.mem_of_getElem? (i := 235) rfl)) rfl
theorem tw_606 : (Cond.fieldLink "ShufflingBookModel" 46 "ShufflingBookModel" "doneMany" "[I") ∈ TB := tb_in (tb_3 (List.mem_of_getElem? (i := 236) rfl)) rfl
theorem tw_607 : (Cond.fieldLink "ShufflingBookModel" 135 "ShufflingBookModel" "keptMany" "I") ∈ TB := tb_in (tb_3 (List.mem_of_getElem? (i := 237) rfl)) rfl
theorem tw_608 : (Cond.fieldLink "ShufflingBookModel" 138 "ShufflingBookModel" "seenMany" "I") ∈ TB := tb_in (tb_3 (List.mem_of_getElem? (i := 238) rfl)) rfl
theorem tw_609 : (Cond.fieldLink "ShufflingBookModel" 49 "ShufflingBookModel" "seenBy" "[J") ∈ TB := tb_in (tb_3 (List.mem_of_getElem? (i := 239) rfl)) rfl
theorem tw_610 : (Cond.fieldLink "ShufflingBookModel" 53 "ShufflingBookModel" "seenAs" "[I") ∈ TB := tb_in (tb_4 (List.mem_of_getElem? (i := 0) rfl)) rfl
theorem tw_611 : (Cond.fieldLink "ShufflingBookModel" 56 "ShufflingBookModel" "seenLeaf" "[I") ∈ TB := tb_in (tb_4 (List.mem_of_getElem? (i := 1) rfl)) rfl
theorem tw_612 : (Cond.fieldLink "ShufflingBookModel" 108 "ShufflingBookModel" "place" "I") ∈ TB := tb_in (tb_4 (List.mem_of_getElem? (i := 2) rfl)) rfl
theorem tw_613 : (Cond.fieldLink "ShufflingBookModel" 59 "ShufflingBookModel" "told" "[I") ∈ TB := tb_in (tb_4 (List.mem_of_getElem? (i := 3) rfl)) rfl
theorem tw_614 : (Cond.fieldLink "ShufflingBookModel" 62 "ShufflingBookModel" "half" "[I") ∈ TB := tb_in (tb_4 (List.mem_of_getElem? (i := 4) rfl)) rfl
theorem tw_615 : (Cond.fieldLink "ShufflingBookModel" 65 "ShufflingBookModel" "from" "[I") ∈ TB := tb_in (tb_4 (List.mem_of_getElem? (i := 5) rfl)) rfl
theorem tw_616 : (Cond.fieldLink "ShufflingBookModel" 68 "ShufflingBookModel" "ends" "[I") ∈ TB := tb_in (tb_4 (List.mem_of_getElem? (i := 6) rfl)) rfl
theorem tw_617 : (Cond.fieldLink "ShufflingBookModel" 71 "ShufflingBookModel" "power" "[I") ∈ TB := tb_in (tb_4 (List.mem_of_getElem? (i := 7) rfl)) rfl
theorem tw_618 : (Cond.fieldLink "ShufflingBookModel" 74 "ShufflingBookModel" "square" "[I") ∈ TB := tb_in (tb_4 (List.mem_of_getElem? (i := 8) rfl)) rfl
theorem tw_619 : (Cond.fieldLink "ShufflingBookModel" 77 "ShufflingBookModel" "spare" "[I") ∈ TB := tb_in (tb_4 (List.mem_of_getElem? (i := 9) rfl)) rfl
theorem tw_620 : (Cond.fieldLink "ShufflingBookModel" 80 "ShufflingBookModel" "leafAt" "[I") ∈ TB := tb_in (tb_4 (List.mem_of_getElem? (i := 10) rfl)) rfl
theorem tw_621 : (Cond.fieldLink "ShufflingBookModel" 83 "ShufflingBookModel" "placeAt" "[I") ∈ TB := tb_in (tb_4 (List.mem_of_getElem? (i := 11) rfl)) rfl
theorem tw_622 : (Cond.fieldLink "ShufflingBookModel" 209 "ShufflingBookModel" "knownMany" "I") ∈ TB := tb_in (tb_4 (List.mem_of_getElem? (i := 12) rfl)) rfl
theorem tw_623 : (Cond.fieldLink "ShufflingBookModel" 86 "ShufflingBookModel" "tried" "[I") ∈ TB := tb_in (tb_4 (List.mem_of_getElem? (i := 13) rfl)) rfl
theorem tw_624 : (Cond.lays "ShufflingBookModel" "ShufflingBookModel" "length" "I") ∈ TB := tb_in (tb_4 (List.mem_of_getElem? (i := 14) rfl)) rfl
theorem tw_625 : (Cond.laysFinal "ShufflingBookModel" "ShufflingBookModel" "text" "[I") ∈ TB := tb_in (tb_4 (List.mem_of_getElem? (i := 16) rfl)) rfl
theorem tw_626 : (Cond.laysFinal "ShufflingBookModel" "ShufflingBookModel" "leafMany" "[I") ∈ TB := tb_in (tb_4 (List.mem_of_getElem? (i := 18) rfl)) rfl
theorem tw_627 : (Cond.laysFinal "ShufflingBookModel" "ShufflingBookModel" "reads" "[I") ∈ TB := tb_in (tb_4 (List.mem_of_getElem? (i := 20) rfl)) rfl
theorem tw_628 : (Cond.laysFinal "ShufflingBookModel" "ShufflingBookModel" "kind" "[I") ∈ TB := tb_in (tb_4 (List.mem_of_getElem? (i := 22) rfl)) rfl
theorem tw_629 : (Cond.laysFinal "ShufflingBookModel" "ShufflingBookModel" "above" "[I") ∈ TB := tb_in (tb_4 (List.mem_of_getElem? (i := 24) rfl)) rfl
theorem tw_630 : (Cond.laysFinal "ShufflingBookModel" "ShufflingBookModel" "swapMany" "[I") ∈ TB := tb_in (tb_4 (List.mem_of_getElem? (i := 26) rfl)) rfl
theorem tw_631 : (Cond.laysFinal "ShufflingBookModel" "ShufflingBookModel" "swaps" "[I") ∈ TB := tb_in (tb_4 (List.mem_of_getElem? (i := 28) rfl)) rfl
theorem tw_632 : (Cond.laysFinal "ShufflingBookModel" "ShufflingBookModel" "taleMany" "[I") ∈ TB := tb_in (tb_4 (List.mem_of_getElem? (i := 30) rfl)) rfl
theorem tw_633 : (Cond.laysFinal "ShufflingBookModel" "ShufflingBookModel" "tale" "[I") ∈ TB := tb_in (tb_4 (List.mem_of_getElem? (i := 32) rfl)) rfl
theorem tw_634 : (Cond.laysFinal "ShufflingBookModel" "ShufflingBookModel" "first" "[I") ∈ TB := tb_in (tb_4 (List.mem_of_getElem? (i := 34) rfl)) rfl
theorem tw_635 : (Cond.laysFinal "ShufflingBookModel" "ShufflingBookModel" "pack" "[I") ∈ TB := tb_in (tb_4 (List.mem_of_getElem? (i := 36) rfl)) rfl
theorem tw_636 : (Cond.laysFinal "ShufflingBookModel" "ShufflingBookModel" "readMany" "[I") ∈ TB := tb_in (tb_4 (List.mem_of_getElem? (i := 38) rfl)) rfl
theorem tw_637 : (Cond.laysFinal "ShufflingBookModel" "ShufflingBookModel" "doneMany" "[I") ∈ TB := tb_in (tb_4 (List.mem_of_getElem? (i := 40) rfl)) rfl
theorem tw_638 : (Cond.lays "ShufflingBookModel" "ShufflingBookModel" "keptMany" "I") ∈ TB := tb_in (tb_4 (List.mem_of_getElem? (i := 42) rfl)) rfl
theorem tw_639 : (Cond.lays "ShufflingBookModel" "ShufflingBookModel" "seenMany" "I") ∈ TB := tb_in (tb_4 (List.mem_of_getElem? (i := 44) rfl)) rfl
theorem tw_640 : (Cond.laysFinal "ShufflingBookModel" "ShufflingBookModel" "seenBy" "[J") ∈ TB := tb_in (tb_4 (List.mem_of_getElem? (i := 46) rfl)) rfl
theorem tw_641 : (Cond.laysFinal "ShufflingBookModel" "ShufflingBookModel" "seenAs" "[I") ∈ TB := tb_in (tb_4 (List.mem_of_getElem? (i := 48) rfl)) rfl
theorem tw_642 : (Cond.laysFinal "ShufflingBookModel" "ShufflingBookModel" "seenLeaf" "[I") ∈ TB := tb_in (tb_4 (List.mem_of_getElem? (i := 50) rfl)) rfl
theorem tw_643 : (Cond.lays "ShufflingBookModel" "ShufflingBookModel" "place" "I") ∈ TB := tb_in (tb_4 (List.mem_of_getElem? (i := 52) rfl)) rfl
theorem tw_644 : (Cond.laysFinal "ShufflingBookModel" "ShufflingBookModel" "told" "[I") ∈ TB := tb_in (tb_4 (List.mem_of_getElem? (i := 54) rfl)) rfl
theorem tw_645 : (Cond.laysFinal "ShufflingBookModel" "ShufflingBookModel" "half" "[I") ∈ TB := tb_in (tb_4 (List.mem_of_getElem? (i := 56) rfl)) rfl
theorem tw_646 : (Cond.laysFinal "ShufflingBookModel" "ShufflingBookModel" "from" "[I") ∈ TB := tb_in (tb_4 (List.mem_of_getElem? (i := 58) rfl)) rfl
theorem tw_647 : (Cond.laysFinal "ShufflingBookModel" "ShufflingBookModel" "ends" "[I") ∈ TB := tb_in (tb_4 (List.mem_of_getElem? (i := 60) rfl)) rfl
theorem tw_648 : (Cond.laysFinal "ShufflingBookModel" "ShufflingBookModel" "power" "[I") ∈ TB := tb_in (tb_4 (List.mem_of_getElem? (i := 62) rfl)) rfl
theorem tw_649 : (Cond.laysFinal "ShufflingBookModel" "ShufflingBookModel" "square" "[I") ∈ TB := tb_in (tb_4 (List.mem_of_getElem? (i := 64) rfl)) rfl
theorem tw_650 : (Cond.laysFinal "ShufflingBookModel" "ShufflingBookModel" "spare" "[I") ∈ TB := tb_in (tb_4 (List.mem_of_getElem? (i := 66) rfl)) rfl
theorem tw_651 : (Cond.laysFinal "ShufflingBookModel" "ShufflingBookModel" "leafAt" "[I") ∈ TB := tb_in (tb_4 (List.mem_of_getElem? (i := 68) rfl)) rfl
theorem tw_652 : (Cond.laysFinal "ShufflingBookModel" "ShufflingBookModel" "placeAt" "[I") ∈ TB := tb_in (tb_4 (List.mem_of_getElem? (i := 70) rfl)) rfl
theorem tw_653 : (Cond.lays "ShufflingBookModel" "ShufflingBookModel" "knownMany" "I") ∈ TB := tb_in (tb_4 (List.mem_of_getElem? (i := 72) rfl)) rfl
theorem tw_654 : (Cond.laysFinal "ShufflingBookModel" "ShufflingBookModel" "tried" "[I") ∈ TB := tb_in (tb_4 (List.mem_of_getElem? (i := 74) rfl)) rfl
theorem tw_655 : (Cond.arrayClass .long) ∈ TB := tb_in (tb_4 (List.mem_of_getElem? (i := 77) rfl)) rfl
theorem tw_656 : (Cond.methodLink "ShufflingBookLaw" 19 yX8_write) ∈ TB := tb_in (tb_4 (List.mem_of_getElem? (i := 78) rfl)) rfl
theorem tw_657 : (Cond.instanceMethod yX8_write) ∈ TB := tb_in (tb_4 (List.mem_of_getElem? (i := 79) rfl)) rfl
theorem tw_658 : (Cond.selects "ShufflingBookModel" yX8_write yX8_write) ∈ TB := tb_in (tb_4 (List.mem_of_getElem? (i := 80) rfl)) rfl
theorem tw_659 : (Cond.code yX8_write cX8_write 5 (some (Jvm.ClassFile.FieldType.int))) ∈ TB := tb_in (tb_4 (List.mem_of_getElem? (i := 81) rfl)) rfl
theorem tw_660 : (Cond.constantLong "ShufflingBookModel" 96 (8)) ∈ TB := tb_in (tb_4 (List.mem_of_getElem? (i := 82) rfl)) rfl
theorem tw_661 : (Cond.methodLink "ShufflingBookModel" 98 yX8_in) ∈ TB := tb_in (tb_4 (List.mem_of_getElem? (i := 83) rfl)) rfl
theorem tw_662 : (Cond.static yX8_in) ∈ TB := tb_in (tb_4 (List.mem_of_getElem? (i := 84) rfl)) rfl
theorem tw_663 : (Cond.code yX8_in cX8_in 6 (some (Jvm.ClassFile.FieldType.boolean))) ∈ TB := tb_in (tb_4 (List.mem_of_getElem? (i := 85) rfl)) rfl
theorem tw_664 : (Cond.constantLong "ShufflingBookModel" 106 (255)) ∈ TB := tb_in (tb_4 (List.mem_of_getElem? (i := 86) rfl)) rfl
theorem tw_665 : (Cond.methodLink "ShufflingBookLaw" 24 yX8_wipe) ∈ TB := tb_in (tb_4 (List.mem_of_getElem? (i := 87) rfl)) rfl
theorem tw_666 : (Cond.instanceMethod yX8_wipe) ∈ TB := tb_in (tb_4 (List.mem_of_getElem? (i := 88) rfl)) rfl
theorem tw_667 : (Cond.selects "ShufflingBookModel" yX8_wipe yX8_wipe) ∈ TB := tb_in (tb_4 (List.mem_of_getElem? (i := 89) rfl)) rfl
theorem tw_668 : (Cond.code yX8_wipe cX8_wipe 2 (some (Jvm.ClassFile.FieldType.int))) ∈ TB := tb_in (tb_4 (List.mem_of_getElem? (i := 90) rfl)) rfl
theorem tw_669 : (Cond.methodLink "ShufflingBookLaw" 28 yX8_fault) ∈ TB := tb_in (tb_4 (List.mem_of_getElem? (i := 91) rfl)) rfl
theorem tw_670 : (Cond.instanceMethod yX8_fault) ∈ TB := tb_in (tb_4 (List.mem_of_getElem? (i := 92) rfl)) rfl
theorem tw_671 : (Cond.selects "ShufflingBookModel" yX8_fault yX8_fault) ∈ TB := tb_in (tb_4 (List.mem_of_getElem? (i := 93) rfl)) rfl
theorem tw_672 : (Cond.code yX8_fault cX8_fault 1 (some (Jvm.ClassFile.FieldType.int))) ∈ TB := tb_in (tb_4 (List.mem_of_getElem? (i := 94) rfl)) rfl
theorem tw_673 : (Cond.methodLink "ShufflingBookModel" 131 yX8_readAll) ∈ TB := tb_in (tb_4 (List.mem_of_getElem? (i := 95) rfl)) rfl
theorem tw_674 : (Cond.instanceMethod yX8_readAll) ∈ TB := tb_in (tb_4 (List.mem_of_getElem? (i := 97) rfl)) rfl
theorem tw_675 : (Cond.code yX8_readAll cX8_readAll 2 (some (Jvm.ClassFile.FieldType.int))) ∈ TB := tb_in (tb_4 (List.mem_of_getElem? (i := 98) rfl)) rfl
theorem tw_676 : (Cond.methodLink "ShufflingBookModel" 127 yX8_item) ∈ TB := tb_in (tb_4 (List.mem_of_getElem? (i := 99) rfl)) rfl
theorem tw_677 : (Cond.instanceMethod yX8_item) ∈ TB := tb_in (tb_4 (List.mem_of_getElem? (i := 101) rfl)) rfl
theorem tw_678 : (Cond.code yX8_item cX8_item 2 (some (Jvm.ClassFile.FieldType.boolean))) ∈ TB := tb_in (tb_4 (List.mem_of_getElem? (i := 102) rfl)) rfl
theorem tw_679 : (Cond.methodLink "ShufflingBookModel" 111 yX8_byteAt) ∈ TB := tb_in (tb_4 (List.mem_of_getElem? (i := 103) rfl)) rfl
theorem tw_680 : (Cond.instanceMethod yX8_byteAt) ∈ TB := tb_in (tb_4 (List.mem_of_getElem? (i := 105) rfl)) rfl
theorem tw_681 : (Cond.code yX8_byteAt cX8_byteAt 2 (some (Jvm.ClassFile.FieldType.int))) ∈ TB := tb_in (tb_4 (List.mem_of_getElem? (i := 106) rfl)) rfl
theorem tw_682 : (Cond.methodLink "ShufflingBookModel" 121 yX8_figures) ∈ TB := tb_in (tb_4 (List.mem_of_getElem? (i := 107) rfl)) rfl
theorem tw_683 : (Cond.instanceMethod yX8_figures) ∈ TB := tb_in (tb_4 (List.mem_of_getElem? (i := 109) rfl)) rfl
theorem tw_684 : (Cond.code yX8_figures cX8_figures 5 (some (Jvm.ClassFile.FieldType.boolean))) ∈ TB := tb_in (tb_4 (List.mem_of_getElem? (i := 110) rfl)) rfl
theorem tw_685 : (Cond.constantLong "ShufflingBookModel" 115 (48)) ∈ TB := tb_in (tb_4 (List.mem_of_getElem? (i := 111) rfl)) rfl
theorem tw_686 : (Cond.constantLong "ShufflingBookModel" 117 (57)) ∈ TB := tb_in (tb_4 (List.mem_of_getElem? (i := 112) rfl)) rfl
theorem tw_687 : (Cond.constantLong "ShufflingBookModel" 119 (2)) ∈ TB := tb_in (tb_4 (List.mem_of_getElem? (i := 113) rfl)) rfl
theorem tw_688 : (Cond.constantLong "ShufflingBookModel" 125 (40)) ∈ TB := tb_in (tb_4 (List.mem_of_getElem? (i := 114) rfl)) rfl
theorem tw_689 : (Cond.methodLink "ShufflingBookLaw" 32 yX8_lay) ∈ TB := tb_in (tb_4 (List.mem_of_getElem? (i := 115) rfl)) rfl
theorem tw_690 : (Cond.instanceMethod yX8_lay) ∈ TB := tb_in (tb_4 (List.mem_of_getElem? (i := 116) rfl)) rfl
theorem tw_691 : (Cond.selects "ShufflingBookModel" yX8_lay yX8_lay) ∈ TB := tb_in (tb_4 (List.mem_of_getElem? (i := 117) rfl)) rfl
theorem tw_692 : (Cond.code yX8_lay cX8_lay 2 (some (Jvm.ClassFile.FieldType.int))) ∈ TB := tb_in (tb_4 (List.mem_of_getElem? (i := 118) rfl)) rfl
theorem tw_693 : (Cond.methodLink "ShufflingBookModel" 144 yX8_areBelow) ∈ TB := tb_in (tb_4 (List.mem_of_getElem? (i := 119) rfl)) rfl
theorem tw_694 : (Cond.instanceMethod yX8_areBelow) ∈ TB := tb_in (tb_4 (List.mem_of_getElem? (i := 121) rfl)) rfl
theorem tw_695 : (Cond.code yX8_areBelow cX8_areBelow 3 (some (Jvm.ClassFile.FieldType.boolean))) ∈ TB := tb_in (tb_4 (List.mem_of_getElem? (i := 122) rfl)) rfl
theorem tw_696 : (Cond.methodLink "ShufflingBookLaw" 37 yX8_leaf) ∈ TB := tb_in (tb_4 (List.mem_of_getElem? (i := 123) rfl)) rfl
theorem tw_697 : (Cond.instanceMethod yX8_leaf) ∈ TB := tb_in (tb_4 (List.mem_of_getElem? (i := 124) rfl)) rfl
theorem tw_698 : (Cond.selects "ShufflingBookModel" yX8_leaf yX8_leaf) ∈ TB := tb_in (tb_4 (List.mem_of_getElem? (i := 125) rfl)) rfl
theorem tw_699 : (Cond.code yX8_leaf cX8_leaf 3 (some (Jvm.ClassFile.FieldType.int))) ∈ TB := tb_in (tb_4 (List.mem_of_getElem? (i := 126) rfl)) rfl
theorem tw_700 : (Cond.methodLink "ShufflingBookModel" 155 yX8_isLeaf) ∈ TB := tb_in (tb_4 (List.mem_of_getElem? (i := 127) rfl)) rfl
theorem tw_701 : (Cond.instanceMethod yX8_isLeaf) ∈ TB := tb_in (tb_4 (List.mem_of_getElem? (i := 129) rfl)) rfl
theorem tw_702 : (Cond.code yX8_isLeaf cX8_isLeaf 2 (some (Jvm.ClassFile.FieldType.boolean))) ∈ TB := tb_in (tb_4 (List.mem_of_getElem? (i := 130) rfl)) rfl
theorem tw_703 : (Cond.methodLink "ShufflingBookLaw" 42 yX8_where) ∈ TB := tb_in (tb_4 (List.mem_of_getElem? (i := 131) rfl)) rfl
theorem tw_704 : (Cond.instanceMethod yX8_where) ∈ TB := tb_in (tb_4 (List.mem_of_getElem? (i := 132) rfl)) rfl
theorem tw_705 : (Cond.selects "ShufflingBookModel" yX8_where yX8_where) ∈ TB := tb_in (tb_4 (List.mem_of_getElem? (i := 133) rfl)) rfl
theorem tw_706 : (Cond.code yX8_where cX8_where 3 (some (Jvm.ClassFile.FieldType.int))) ∈ TB := tb_in (tb_4 (List.mem_of_getElem? (i := 134) rfl)) rfl
theorem tw_707 : (Cond.methodLink "ShufflingBookLaw" 46 yX8_read) ∈ TB := tb_in (tb_4 (List.mem_of_getElem? (i := 135) rfl)) rfl
theorem tw_708 : (Cond.instanceMethod yX8_read) ∈ TB := tb_in (tb_4 (List.mem_of_getElem? (i := 136) rfl)) rfl
theorem tw_709 : (Cond.selects "ShufflingBookModel" yX8_read yX8_read) ∈ TB := tb_in (tb_4 (List.mem_of_getElem? (i := 137) rfl)) rfl
theorem tw_710 : (Cond.code yX8_read cX8_read 2 (some (Jvm.ClassFile.FieldType.int))) ∈ TB := tb_in (tb_4 (List.mem_of_getElem? (i := 138) rfl)) rfl
theorem tw_711 : (Cond.methodLink "ShufflingBookLaw" 50 yX8_finish) ∈ TB := tb_in (tb_4 (List.mem_of_getElem? (i := 139) rfl)) rfl
theorem tw_712 : (Cond.instanceMethod yX8_finish) ∈ TB := tb_in (tb_4 (List.mem_of_getElem? (i := 140) rfl)) rfl
theorem tw_713 : (Cond.selects "ShufflingBookModel" yX8_finish yX8_finish) ∈ TB := tb_in (tb_4 (List.mem_of_getElem? (i := 141) rfl)) rfl
theorem tw_714 : (Cond.code yX8_finish cX8_finish 3 (some (Jvm.ClassFile.FieldType.int))) ∈ TB := tb_in (tb_4 (List.mem_of_getElem? (i := 142) rfl)) rfl
theorem tw_715 : (Cond.methodLink "ShufflingBookModel" 162 yX8_read) ∈ TB := tb_in (tb_4 (List.mem_of_getElem? (i := 143) rfl)) rfl
theorem tw_716 : (Cond.methodLink "ShufflingBookLaw" 54 yX8_change) ∈ TB := tb_in (tb_4 (List.mem_of_getElem? (i := 144) rfl)) rfl
theorem tw_717 : (Cond.instanceMethod yX8_change) ∈ TB := tb_in (tb_4 (List.mem_of_getElem? (i := 145) rfl)) rfl
theorem tw_718 : (Cond.selects "ShufflingBookModel" yX8_change yX8_change) ∈ TB := tb_in (tb_4 (List.mem_of_getElem? (i := 146) rfl)) rfl
theorem tw_719 : (Cond.code yX8_change cX8_change 4 (some (Jvm.ClassFile.FieldType.int))) ∈ TB := tb_in (tb_4 (List.mem_of_getElem? (i := 147) rfl)) rfl
theorem tw_720 : (Cond.methodLink "ShufflingBookLaw" 58 yX8_drop) ∈ TB := tb_in (tb_4 (List.mem_of_getElem? (i := 148) rfl)) rfl
theorem tw_721 : (Cond.instanceMethod yX8_drop) ∈ TB := tb_in (tb_4 (List.mem_of_getElem? (i := 149) rfl)) rfl
theorem tw_722 : (Cond.selects "ShufflingBookModel" yX8_drop yX8_drop) ∈ TB := tb_in (tb_4 (List.mem_of_getElem? (i := 150) rfl)) rfl
theorem tw_723 : (Cond.code yX8_drop cX8_drop 5 (some (Jvm.ClassFile.FieldType.int))) ∈ TB := tb_in (tb_4 (List.mem_of_getElem? (i := 151) rfl)) rfl
theorem tw_724 : (Cond.constantLong "ShufflingBookModel" 165 (9999)) ∈ TB := tb_in (tb_4 (List.mem_of_getElem? (i := 152) rfl)) rfl
theorem tw_725 : (Cond.constantLong "ShufflingBookModel" 167 (7919)) ∈ TB := tb_in (tb_4 (List.mem_of_getElem? (i := 153) rfl)) rfl
theorem tw_726 : (Cond.constantLong "ShufflingBookModel" 169 (6151)) ∈ TB := tb_in (tb_4 (List.mem_of_getElem? (i := 154) rfl)) rfl
theorem tw_727 : (Cond.constantLong "ShufflingBookModel" 171 (65521)) ∈ TB := tb_in (tb_4 (List.mem_of_getElem? (i := 155) rfl)) rfl
theorem tw_728 : (Cond.methodLink "ShufflingBookModel" 173 yX8_change) ∈ TB := tb_in (tb_4 (List.mem_of_getElem? (i := 156) rfl)) rfl
theorem tw_729 : (Cond.methodLink "ShufflingBookLaw" 63 yX8_has) ∈ TB := tb_in (tb_4 (List.mem_of_getElem? (i := 157) rfl)) rfl
theorem tw_730 : (Cond.instanceMethod yX8_has) ∈ TB := tb_in (tb_4 (List.mem_of_getElem? (i := 158) rfl)) rfl
theorem tw_731 : (Cond.selects "ShufflingBookModel" yX8_has yX8_has) ∈ TB := tb_in (tb_4 (List.mem_of_getElem? (i := 159) rfl)) rfl
theorem tw_732 : (Cond.code yX8_has cX8_has 4 (some (Jvm.ClassFile.FieldType.int))) ∈ TB := tb_in (tb_4 (List.mem_of_getElem? (i := 160) rfl)) rfl
theorem tw_733 : (Cond.methodLink "ShufflingBookModel" 183 yX8_isReader) ∈ TB := tb_in (tb_4 (List.mem_of_getElem? (i := 161) rfl)) rfl
theorem tw_734 : (Cond.static yX8_isReader) ∈ TB := tb_in (tb_4 (List.mem_of_getElem? (i := 162) rfl)) rfl
theorem tw_735 : (Cond.code yX8_isReader cX8_isReader 2 (some (Jvm.ClassFile.FieldType.boolean))) ∈ TB := tb_in (tb_4 (List.mem_of_getElem? (i := 163) rfl)) rfl
theorem tw_736 : (Cond.constantLong "ShufflingBookModel" 181 (1000000000000)) ∈ TB := tb_in (tb_4 (List.mem_of_getElem? (i := 164) rfl)) rfl
theorem tw_737 : (Cond.methodLink "ShufflingBookModel" 187 yX8_layPower) ∈ TB := tb_in (tb_4 (List.mem_of_getElem? (i := 165) rfl)) rfl
theorem tw_738 : (Cond.instanceMethod yX8_layPower) ∈ TB := tb_in (tb_4 (List.mem_of_getElem? (i := 167) rfl)) rfl
theorem tw_739 : (Cond.code yX8_layPower cX8_layPower 5 none) ∈ TB := tb_in (tb_4 (List.mem_of_getElem? (i := 168) rfl)) rfl
theorem tw_740 : (Cond.methodLink "ShufflingBookModel" 177 yX8_put) ∈ TB := tb_in (tb_4 (List.mem_of_getElem? (i := 169) rfl)) rfl
theorem tw_741 : (Cond.instanceMethod yX8_put) ∈ TB := tb_in (tb_4 (List.mem_of_getElem? (i := 171) rfl)) rfl
theorem tw_742 : (Cond.code yX8_put cX8_put 4 none) ∈ TB := tb_in (tb_4 (List.mem_of_getElem? (i := 172) rfl)) rfl
theorem tw_743 : (Cond.methodLink "ShufflingBookModel" 191 yX8_placeOf) ∈ TB := tb_in (tb_4 (List.mem_of_getElem? (i := 173) rfl)) rfl
theorem tw_744 : (Cond.instanceMethod yX8_placeOf) ∈ TB := tb_in (tb_4 (List.mem_of_getElem? (i := 175) rfl)) rfl
theorem tw_745 : (Cond.code yX8_placeOf cX8_placeOf 2 (some (Jvm.ClassFile.FieldType.int))) ∈ TB := tb_in (tb_4 (List.mem_of_getElem? (i := 176) rfl)) rfl
theorem tw_746 : (Cond.methodLink "ShufflingBookLaw" 68 yX8_leaves) ∈ TB := tb_in (tb_4 (List.mem_of_getElem? (i := 177) rfl)) rfl
theorem tw_747 : (Cond.instanceMethod yX8_leaves) ∈ TB := tb_in (tb_4 (List.mem_of_getElem? (i := 178) rfl)) rfl
theorem tw_748 : (Cond.selects "ShufflingBookModel" yX8_leaves yX8_leaves) ∈ TB := tb_in (tb_4 (List.mem_of_getElem? (i := 179) rfl)) rfl
theorem tw_749 : (Cond.code yX8_leaves cX8_leaves 3 (some (Jvm.ClassFile.FieldType.long))) ∈ TB := tb_in (tb_4 (List.mem_of_getElem? (i := 180) rfl)) rfl
theorem tw_750 : (Cond.constantLong "ShufflingBookModel" 194 (-1)) ∈ TB := tb_in (tb_4 (List.mem_of_getElem? (i := 181) rfl)) rfl
theorem tw_751 : (Cond.methodLink "ShufflingBookModel" 196 yX8_leavesNow) ∈ TB := tb_in (tb_4 (List.mem_of_getElem? (i := 182) rfl)) rfl
theorem tw_752 : (Cond.instanceMethod yX8_leavesNow) ∈ TB := tb_in (tb_4 (List.mem_of_getElem? (i := 184) rfl)) rfl
theorem tw_753 : (Cond.code yX8_leavesNow cX8_leavesNow 4 (some (Jvm.ClassFile.FieldType.long))) ∈ TB := tb_in (tb_4 (List.mem_of_getElem? (i := 185) rfl)) rfl
theorem tw_754 : (Cond.methodLink "ShufflingBookLaw" 72 yX8_period) ∈ TB := tb_in (tb_4 (List.mem_of_getElem? (i := 186) rfl)) rfl
theorem tw_755 : (Cond.instanceMethod yX8_period) ∈ TB := tb_in (tb_4 (List.mem_of_getElem? (i := 187) rfl)) rfl
theorem tw_756 : (Cond.selects "ShufflingBookModel" yX8_period yX8_period) ∈ TB := tb_in (tb_4 (List.mem_of_getElem? (i := 188) rfl)) rfl
theorem tw_757 : (Cond.code yX8_period cX8_period 2 (some (Jvm.ClassFile.FieldType.int))) ∈ TB := tb_in (tb_4 (List.mem_of_getElem? (i := 189) rfl)) rfl
theorem tw_758 : (Cond.methodLink "ShufflingBookModel" 200 yX8_isAtFirst) ∈ TB := tb_in (tb_4 (List.mem_of_getElem? (i := 190) rfl)) rfl
theorem tw_759 : (Cond.instanceMethod yX8_isAtFirst) ∈ TB := tb_in (tb_4 (List.mem_of_getElem? (i := 192) rfl)) rfl
theorem tw_760 : (Cond.code yX8_isAtFirst cX8_isAtFirst 3 (some (Jvm.ClassFile.FieldType.boolean))) ∈ TB := tb_in (tb_4 (List.mem_of_getElem? (i := 193) rfl)) rfl
theorem tw_761 : (Cond.methodLink "ShufflingBookLaw" 77 yX8_ever) ∈ TB := tb_in (tb_4 (List.mem_of_getElem? (i := 194) rfl)) rfl
theorem tw_762 : (Cond.instanceMethod yX8_ever) ∈ TB := tb_in (tb_4 (List.mem_of_getElem? (i := 195) rfl)) rfl
theorem tw_763 : (Cond.selects "ShufflingBookModel" yX8_ever yX8_ever) ∈ TB := tb_in (tb_4 (List.mem_of_getElem? (i := 196) rfl)) rfl
theorem tw_764 : (Cond.code yX8_ever cX8_ever 10 (some (Jvm.ClassFile.FieldType.long))) ∈ TB := tb_in (tb_4 (List.mem_of_getElem? (i := 197) rfl)) rfl
theorem tw_765 : (Cond.methodLink "ShufflingBookModel" 203 yX8_period) ∈ TB := tb_in (tb_4 (List.mem_of_getElem? (i := 198) rfl)) rfl
theorem tw_766 : (Cond.methodLink "ShufflingBookLaw" 82 yX8_right) ∈ TB := tb_in (tb_4 (List.mem_of_getElem? (i := 199) rfl)) rfl
theorem tw_767 : (Cond.instanceMethod yX8_right) ∈ TB := tb_in (tb_4 (List.mem_of_getElem? (i := 200) rfl)) rfl
theorem tw_768 : (Cond.selects "ShufflingBookModel" yX8_right yX8_right) ∈ TB := tb_in (tb_4 (List.mem_of_getElem? (i := 201) rfl)) rfl
theorem tw_769 : (Cond.code yX8_right cX8_right 5 (some (Jvm.ClassFile.FieldType.int))) ∈ TB := tb_in (tb_4 (List.mem_of_getElem? (i := 202) rfl)) rfl
theorem tw_770 : (Cond.methodLink "ShufflingBookModel" 206 yX8_lesser) ∈ TB := tb_in (tb_4 (List.mem_of_getElem? (i := 203) rfl)) rfl
theorem tw_771 : (Cond.instanceMethod yX8_lesser) ∈ TB := tb_in (tb_4 (List.mem_of_getElem? (i := 205) rfl)) rfl
theorem tw_772 : (Cond.code yX8_lesser cX8_lesser 1 (some (Jvm.ClassFile.FieldType.int))) ∈ TB := tb_in (tb_4 (List.mem_of_getElem? (i := 206) rfl)) rfl
theorem tw_773 : (Cond.methodLink "ShufflingBookLaw" 86 yX8_order) ∈ TB := tb_in (tb_4 (List.mem_of_getElem? (i := 207) rfl)) rfl
theorem tw_774 : (Cond.instanceMethod yX8_order) ∈ TB := tb_in (tb_4 (List.mem_of_getElem? (i := 208) rfl)) rfl
theorem tw_775 : (Cond.selects "ShufflingBookModel" yX8_order yX8_order) ∈ TB := tb_in (tb_4 (List.mem_of_getElem? (i := 209) rfl)) rfl
theorem tw_776 : (Cond.code yX8_order cX8_order 7 (some (Jvm.ClassFile.FieldType.int))) ∈ TB := tb_in (tb_4 (List.mem_of_getElem? (i := 210) rfl)) rfl
theorem tw_777 : (Cond.methodLink "ShufflingBookModel" 212 yX8_noOrder) ∈ TB := tb_in (tb_4 (List.mem_of_getElem? (i := 211) rfl)) rfl
theorem tw_778 : (Cond.instanceMethod yX8_noOrder) ∈ TB := tb_in (tb_4 (List.mem_of_getElem? (i := 213) rfl)) rfl
theorem tw_779 : (Cond.code yX8_noOrder cX8_noOrder 2 none) ∈ TB := tb_in (tb_4 (List.mem_of_getElem? (i := 214) rfl)) rfl
theorem tw_780 : (Cond.methodLink "ShufflingBookModel" 215 yX8_know) ∈ TB := tb_in (tb_4 (List.mem_of_getElem? (i := 215) rfl)) rfl
theorem tw_781 : (Cond.instanceMethod yX8_know) ∈ TB := tb_in (tb_4 (List.mem_of_getElem? (i := 217) rfl)) rfl
theorem tw_782 : (Cond.code yX8_know cX8_know 3 (some (Jvm.ClassFile.FieldType.boolean))) ∈ TB := tb_in (tb_4 (List.mem_of_getElem? (i := 218) rfl)) rfl
theorem tw_783 : (Cond.methodLink "ShufflingBookLaw" 90 yX8_shows) ∈ TB := tb_in (tb_4 (List.mem_of_getElem? (i := 219) rfl)) rfl
theorem tw_784 : (Cond.instanceMethod yX8_shows) ∈ TB := tb_in (tb_4 (List.mem_of_getElem? (i := 220) rfl)) rfl
theorem tw_785 : (Cond.selects "ShufflingBookModel" yX8_shows yX8_shows) ∈ TB := tb_in (tb_4 (List.mem_of_getElem? (i := 221) rfl)) rfl
theorem tw_786 : (Cond.code yX8_shows cX8_shows 3 (some (Jvm.ClassFile.FieldType.int))) ∈ TB := tb_in (tb_4 (List.mem_of_getElem? (i := 222) rfl)) rfl
theorem tw_787 : (Cond.constantLong "ShufflingBookModel" 219 (3)) ∈ TB := tb_in (tb_4 (List.mem_of_getElem? (i := 223) rfl)) rfl
theorem tw_788 : (Cond.methodLink "ShufflingBookModel" 221 yX8_showsBy) ∈ TB := tb_in (tb_4 (List.mem_of_getElem? (i := 224) rfl)) rfl
theorem tw_789 : (Cond.instanceMethod yX8_showsBy) ∈ TB := tb_in (tb_4 (List.mem_of_getElem? (i := 226) rfl)) rfl
theorem tw_790 : (Cond.code yX8_showsBy cX8_showsBy 8 (some (Jvm.ClassFile.FieldType.int))) ∈ TB := tb_in (tb_4 (List.mem_of_getElem? (i := 227) rfl)) rfl
theorem tw_791 : (Cond.methodLink "ShufflingBookLaw" 94 yX8_quickest) ∈ TB := tb_in (tb_4 (List.mem_of_getElem? (i := 228) rfl)) rfl
theorem tw_792 : (Cond.instanceMethod yX8_quickest) ∈ TB := tb_in (tb_4 (List.mem_of_getElem? (i := 229) rfl)) rfl
theorem tw_793 : (Cond.selects "ShufflingBookModel" yX8_quickest yX8_quickest) ∈ TB := tb_in (tb_4 (List.mem_of_getElem? (i := 230) rfl)) rfl
theorem tw_794 : (Cond.code yX8_quickest cX8_quickest 8 (some (Jvm.ClassFile.FieldType.int))) ∈ TB := tb_in (tb_4 (List.mem_of_getElem? (i := 231) rfl)) rfl
theorem tw_795 : (Cond.methodLink "ShufflingBookLaw" 99 yX8_seen) ∈ TB := tb_in (tb_4 (List.mem_of_getElem? (i := 232) rfl)) rfl
theorem tw_796 : (Cond.instanceMethod yX8_seen) ∈ TB := tb_in (tb_4 (List.mem_of_getElem? (i := 233) rfl)) rfl
theorem tw_797 : (Cond.selects "ShufflingBookModel" yX8_seen yX8_seen) ∈ TB := tb_in (tb_4 (List.mem_of_getElem? (i := 234) rfl)) rfl
theorem tw_798 : (Cond.code yX8_seen cX8_seen 5 (some (Jvm.ClassFile.FieldType.int))) ∈ TB := tb_in (tb_4 (List.mem_of_getElem? (i := 235) rfl)) rfl
theorem tw_799 : (Cond.methodLink "ShufflingBookLaw" 103 yX8_forget) ∈ TB := tb_in (tb_4 (List.mem_of_getElem? (i := 236) rfl)) rfl
theorem tw_800 : (Cond.instanceMethod yX8_forget) ∈ TB := tb_in (tb_4 (List.mem_of_getElem? (i := 237) rfl)) rfl
theorem tw_801 : (Cond.selects "ShufflingBookModel" yX8_forget yX8_forget) ∈ TB := tb_in (tb_4 (List.mem_of_getElem? (i := 238) rfl)) rfl
theorem tw_802 : (Cond.code yX8_forget cX8_forget 2 (some (Jvm.ClassFile.FieldType.int))) ∈ TB := tb_in (tb_4 (List.mem_of_getElem? (i := 239) rfl)) rfl
theorem tw_803 : (Cond.methodLink "ShufflingBookLaw" 107 yX8_so) ∈ TB := tb_in (tb_5 (List.mem_of_getElem? (i := 0) rfl)) rfl
theorem tw_804 : (Cond.instanceMethod yX8_so) ∈ TB := tb_in (tb_5 (List.mem_of_getElem? (i := 1) rfl)) rfl
theorem tw_805 : (Cond.selects "ShufflingBookModel" yX8_so yX8_so) ∈ TB := tb_in (tb_5 (List.mem_of_getElem? (i := 2) rfl)) rfl
theorem tw_806 : (Cond.code yX8_so cX8_so 1 (some (Jvm.ClassFile.FieldType.int))) ∈ TB := tb_in (tb_5 (List.mem_of_getElem? (i := 3) rfl)) rfl
theorem tw_807 : (Cond.methodLink "ShufflingBookModel" 224 yX8_isSo) ∈ TB := tb_in (tb_5 (List.mem_of_getElem? (i := 4) rfl)) rfl
theorem tw_808 : (Cond.instanceMethod yX8_isSo) ∈ TB := tb_in (tb_5 (List.mem_of_getElem? (i := 6) rfl)) rfl
theorem tw_809 : (Cond.code yX8_isSo cX8_isSo 3 (some (Jvm.ClassFile.FieldType.boolean))) ∈ TB := tb_in (tb_5 (List.mem_of_getElem? (i := 7) rfl)) rfl
theorem tw_810 : (Cond.methodLink "ShufflingBookLaw" 111 yX8_sure) ∈ TB := tb_in (tb_5 (List.mem_of_getElem? (i := 8) rfl)) rfl
theorem tw_811 : (Cond.instanceMethod yX8_sure) ∈ TB := tb_in (tb_5 (List.mem_of_getElem? (i := 9) rfl)) rfl
theorem tw_812 : (Cond.selects "ShufflingBookModel" yX8_sure yX8_sure) ∈ TB := tb_in (tb_5 (List.mem_of_getElem? (i := 10) rfl)) rfl
theorem tw_813 : (Cond.code yX8_sure cX8_sure 3 (some (Jvm.ClassFile.FieldType.int))) ∈ TB := tb_in (tb_5 (List.mem_of_getElem? (i := 11) rfl)) rfl
theorem tw_814 : (Cond.methodLink "ShufflingBookLaw" 115 yX8_lacks) ∈ TB := tb_in (tb_5 (List.mem_of_getElem? (i := 12) rfl)) rfl
theorem tw_815 : (Cond.instanceMethod yX8_lacks) ∈ TB := tb_in (tb_5 (List.mem_of_getElem? (i := 13) rfl)) rfl
theorem tw_816 : (Cond.selects "ShufflingBookModel" yX8_lacks yX8_lacks) ∈ TB := tb_in (tb_5 (List.mem_of_getElem? (i := 14) rfl)) rfl
theorem tw_817 : (Cond.code yX8_lacks cX8_lacks 6 (some (Jvm.ClassFile.FieldType.int))) ∈ TB := tb_in (tb_5 (List.mem_of_getElem? (i := 15) rfl)) rfl
theorem tw_818 : (Cond.methodLink "ShufflingBookLaw" 120 yX8_notice) ∈ TB := tb_in (tb_5 (List.mem_of_getElem? (i := 16) rfl)) rfl
theorem tw_819 : (Cond.instanceMethod yX8_notice) ∈ TB := tb_in (tb_5 (List.mem_of_getElem? (i := 17) rfl)) rfl
theorem tw_820 : (Cond.selects "ShufflingBookModel" yX8_notice yX8_notice) ∈ TB := tb_in (tb_5 (List.mem_of_getElem? (i := 18) rfl)) rfl
theorem tw_821 : (Cond.code yX8_notice cX8_notice 8 (some (Jvm.ClassFile.FieldType.int))) ∈ TB := tb_in (tb_5 (List.mem_of_getElem? (i := 19) rfl)) rfl
theorem tw_822 : (Cond.constantLong "ShufflingBookModel" 227 (1000)) ∈ TB := tb_in (tb_5 (List.mem_of_getElem? (i := 20) rfl)) rfl
theorem tw_823 : (Cond.methodLink "ShufflingBookLaw" 124 yX8_pleased) ∈ TB := tb_in (tb_5 (List.mem_of_getElem? (i := 21) rfl)) rfl
theorem tw_824 : (Cond.instanceMethod yX8_pleased) ∈ TB := tb_in (tb_5 (List.mem_of_getElem? (i := 22) rfl)) rfl
theorem tw_825 : (Cond.selects "ShufflingBookModel" yX8_pleased yX8_pleased) ∈ TB := tb_in (tb_5 (List.mem_of_getElem? (i := 23) rfl)) rfl
theorem tw_826 : (Cond.code yX8_pleased cX8_pleased 7 (some (Jvm.ClassFile.FieldType.int))) ∈ TB := tb_in (tb_5 (List.mem_of_getElem? (i := 24) rfl)) rfl
theorem tw_827 : (Cond.constantLong "ShufflingBookModel" 229 (100)) ∈ TB := tb_in (tb_5 (List.mem_of_getElem? (i := 25) rfl)) rfl
theorem tw_828 : (Cond.methodLink "ShufflingBookModel" 231 yX8_pleasedBy) ∈ TB := tb_in (tb_5 (List.mem_of_getElem? (i := 26) rfl)) rfl
theorem tw_829 : (Cond.instanceMethod yX8_pleasedBy) ∈ TB := tb_in (tb_5 (List.mem_of_getElem? (i := 28) rfl)) rfl
theorem tw_830 : (Cond.code yX8_pleasedBy cX8_pleasedBy 5 (some (Jvm.ClassFile.FieldType.int))) ∈ TB := tb_in (tb_5 (List.mem_of_getElem? (i := 29) rfl)) rfl
theorem tw_831 : (Cond.methodLink "ShufflingBookLaw" 128 yX8_keep) ∈ TB := tb_in (tb_5 (List.mem_of_getElem? (i := 30) rfl)) rfl
theorem tw_832 : (Cond.instanceMethod yX8_keep) ∈ TB := tb_in (tb_5 (List.mem_of_getElem? (i := 31) rfl)) rfl
theorem tw_833 : (Cond.selects "ShufflingBookModel" yX8_keep yX8_keep) ∈ TB := tb_in (tb_5 (List.mem_of_getElem? (i := 32) rfl)) rfl
theorem tw_834 : (Cond.code yX8_keep cX8_keep 1 (some (Jvm.ClassFile.FieldType.int))) ∈ TB := tb_in (tb_5 (List.mem_of_getElem? (i := 33) rfl)) rfl
theorem tw_835 : (Cond.methodLink "ShufflingBookModel" 234 yX8_copy) ∈ TB := tb_in (tb_5 (List.mem_of_getElem? (i := 34) rfl)) rfl
theorem tw_836 : (Cond.instanceMethod yX8_copy) ∈ TB := tb_in (tb_5 (List.mem_of_getElem? (i := 36) rfl)) rfl
theorem tw_837 : (Cond.code yX8_copy cX8_copy 4 none) ∈ TB := tb_in (tb_5 (List.mem_of_getElem? (i := 37) rfl)) rfl
theorem tw_838 : (Cond.methodLink "ShufflingBookLaw" 132 yX8_back) ∈ TB := tb_in (tb_5 (List.mem_of_getElem? (i := 38) rfl)) rfl
theorem tw_839 : (Cond.instanceMethod yX8_back) ∈ TB := tb_in (tb_5 (List.mem_of_getElem? (i := 39) rfl)) rfl
theorem tw_840 : (Cond.selects "ShufflingBookModel" yX8_back yX8_back) ∈ TB := tb_in (tb_5 (List.mem_of_getElem? (i := 40) rfl)) rfl
theorem tw_841 : (Cond.code yX8_back cX8_back 1 (some (Jvm.ClassFile.FieldType.int))) ∈ TB := tb_in (tb_5 (List.mem_of_getElem? (i := 41) rfl)) rfl
theorem tw_842 : (Cond.methodLink "ShufflingBookLaw" 136 yX8_count) ∈ TB := tb_in (tb_5 (List.mem_of_getElem? (i := 42) rfl)) rfl
theorem tw_843 : (Cond.instanceMethod yX8_count) ∈ TB := tb_in (tb_5 (List.mem_of_getElem? (i := 43) rfl)) rfl
theorem tw_844 : (Cond.selects "ShufflingBookModel" yX8_count yX8_count) ∈ TB := tb_in (tb_5 (List.mem_of_getElem? (i := 44) rfl)) rfl
theorem tw_845 : (Cond.code yX8_count cX8_count 2 (some (Jvm.ClassFile.FieldType.int))) ∈ TB := tb_in (tb_5 (List.mem_of_getElem? (i := 45) rfl)) rfl
theorem tw_846 : (Cond.constantLong "ShufflingBookLaw" 13 (4294967295)) ∈ TB := tb_in (tb_5 (List.mem_of_getElem? (i := 46) rfl)) rfl
theorem tw_847 : (Cond.selects "ShufflingBook$Told" yX6_tellNothing yX6_tellNothing) ∈ TB := tb_in (List.mem_append_left _ (List.mem_of_getElem? (i := 0) rfl)) rfl
theorem tw_848 : (Cond.selects "ShufflingBook" yX7_startAnew yX7_startAnew) ∈ TB := tb_in (List.mem_append_left _ (List.mem_of_getElem? (i := 1) rfl)) rfl
theorem tw_849 : (Cond.selects "ShufflingBook$Readers" yX3_readOneReader yX3_readOneReader) ∈ TB := tb_in (List.mem_append_left _ (List.mem_of_getElem? (i := 2) rfl)) rfl
theorem tw_850 : (Cond.selects "ShufflingBook$Order" yX1_cut yX1_cut) ∈ TB := tb_in (List.mem_append_left _ (List.mem_of_getElem? (i := 3) rfl)) rfl
theorem tw_851 : (Cond.selects "ShufflingBook$Order" yX1_layTop yX1_layTop) ∈ TB := tb_in (List.mem_append_left _ (List.mem_of_getElem? (i := 4) rfl)) rfl
theorem tw_852 : (Cond.selects "ShufflingBook$Readers" yX3_layRings yX3_layRings) ∈ TB := tb_in (List.mem_append_left _ (List.mem_of_getElem? (i := 5) rfl)) rfl
theorem tw_853 : (Cond.selects "ShufflingBook$Readers" yX3_layRing yX3_layRing) ∈ TB := tb_in (List.mem_append_left _ (List.mem_of_getElem? (i := 6) rfl)) rfl
theorem tw_854 : (Cond.selects "ShufflingBook$Readers" yX3_readWithoutFirst yX3_readWithoutFirst) ∈ TB := tb_in (List.mem_append_left _ (List.mem_of_getElem? (i := 7) rfl)) rfl
theorem tw_855 : (Cond.selects "ShufflingBook$Told" yX6_scanItem yX6_scanItem) ∈ TB := tb_in (List.mem_append_left _ (List.mem_of_getElem? (i := 8) rfl)) rfl
theorem tw_856 : (Cond.selects "ShufflingBook$Told" yX6_takeIn yX6_takeIn) ∈ TB := tb_in (List.mem_append_left _ (List.mem_of_getElem? (i := 9) rfl)) rfl
theorem tw_857 : (Cond.selects "ShufflingBook$Told" yX6_takeLeafCount yX6_takeLeafCount) ∈ TB := tb_in (List.mem_append_left _ (List.mem_of_getElem? (i := 10) rfl)) rfl
theorem tw_858 : (Cond.selects "ShufflingBook$Told" yX6_takePerReader yX6_takePerReader) ∈ TB := tb_in (List.mem_append_left _ (List.mem_of_getElem? (i := 11) rfl)) rfl
theorem tw_859 : (Cond.selects "ShufflingBook$Told" yX6_takeLaw yX6_takeLaw) ∈ TB := tb_in (List.mem_append_left _ (List.mem_of_getElem? (i := 12) rfl)) rfl
theorem tw_860 : (Cond.selects "ShufflingBook$Told" yX6_takeSwap yX6_takeSwap) ∈ TB := tb_in (List.mem_append_left _ (List.mem_of_getElem? (i := 13) rfl)) rfl
theorem tw_861 : (Cond.selects "ShufflingBook$Told" yX6_takeTaleLeaf yX6_takeTaleLeaf) ∈ TB := tb_in (List.mem_append_left _ (List.mem_of_getElem? (i := 14) rfl)) rfl
theorem tw_862 : (Cond.selects "ShufflingBook" yX7_isBelowCount yX7_isBelowCount) ∈ TB := tb_in (List.mem_append_left _ (List.mem_of_getElem? (i := 15) rfl)) rfl
theorem tw_863 : (Cond.selects "ShufflingBook" yX7_isTurn yX7_isTurn) ∈ TB := tb_in (List.mem_append_left _ (List.mem_of_getElem? (i := 16) rfl)) rfl
theorem tw_864 : (Cond.selects "ShufflingBook" yX7_leafHad yX7_leafHad) ∈ TB := tb_in (List.mem_append_left _ (List.mem_of_getElem? (i := 17) rfl)) rfl
theorem tw_865 : (Cond.selects "ShufflingBook$Readers" yX3_placeInRing yX3_placeInRing) ∈ TB := tb_in (List.mem_append_left _ (List.mem_of_getElem? (i := 18) rfl)) rfl
theorem tw_866 : (Cond.selects "ShufflingBook" yX7_leavesHad yX7_leavesHad) ∈ TB := tb_in (List.mem_append_left _ (List.mem_of_getElem? (i := 19) rfl)) rfl
theorem tw_867 : (Cond.selects "ShufflingBook$Readers" yX3_readInRing yX3_readInRing) ∈ TB := tb_in (List.mem_append_left _ (List.mem_of_getElem? (i := 20) rfl)) rfl
theorem tw_868 : (Cond.selects "ShufflingBook" yX7_readingsToShowAll yX7_readingsToShowAll) ∈ TB := tb_in (List.mem_append_left _ (List.mem_of_getElem? (i := 21) rfl)) rfl
theorem tw_869 : (Cond.selects "ShufflingBook" yX7_guessFromSeen yX7_guessFromSeen) ∈ TB := tb_in (List.mem_append_left _ (List.mem_of_getElem? (i := 22) rfl)) rfl
theorem tw_870 : (Cond.selects "ShufflingBook" yX7_isReadBy yX7_isReadBy) ∈ TB := tb_in (List.mem_append_left _ (List.mem_of_getElem? (i := 23) rfl)) rfl
theorem tw_871 : (Cond.selects "ShufflingBook" yX7_rightWhenLaidAt yX7_rightWhenLaidAt) ∈ TB := tb_in (List.mem_append_left _ (List.mem_of_getElem? (i := 24) rfl)) rfl
theorem tw_872 : (Cond.selects "ShufflingBook" yX7_keptPack yX7_keptPack) ∈ TB := tb_in (List.mem_append_left _ (List.mem_of_getElem? (i := 25) rfl)) rfl
theorem tw_873 : (Cond.selects "ShufflingBookModel" yX8_noBook yX8_noBook) ∈ TB := tb_in (List.mem_append_left _ (List.mem_of_getElem? (i := 26) rfl)) rfl
theorem tw_874 : (Cond.selects "ShufflingBookModel" yX8_layBook yX8_layBook) ∈ TB := tb_in (List.mem_append_left _ (List.mem_of_getElem? (i := 27) rfl)) rfl
theorem tw_875 : (Cond.selects "ShufflingBookModel" yX8_layOne yX8_layOne) ∈ TB := tb_in (List.mem_append_left _ (List.mem_of_getElem? (i := 28) rfl)) rfl
theorem tw_876 : (Cond.selects "ShufflingBookModel" yX8_goRead yX8_goRead) ∈ TB := tb_in (List.mem_append_left _ (List.mem_of_getElem? (i := 29) rfl)) rfl
theorem tw_877 : (Cond.selects "ShufflingBookModel" yX8_cut yX8_cut) ∈ TB := tb_in (List.mem_append_left _ (List.mem_of_getElem? (i := 30) rfl)) rfl
theorem tw_878 : (Cond.selects "ShufflingBookModel" yX8_layBelow yX8_layBelow) ∈ TB := tb_in (List.mem_append_left _ (List.mem_of_getElem? (i := 31) rfl)) rfl
theorem tw_879 : (Cond.selects "ShufflingBookModel" yX8_readAll yX8_readAll) ∈ TB := tb_in (List.mem_append_left _ (List.mem_of_getElem? (i := 32) rfl)) rfl
theorem tw_880 : (Cond.selects "ShufflingBookModel" yX8_item yX8_item) ∈ TB := tb_in (List.mem_append_left _ (List.mem_of_getElem? (i := 33) rfl)) rfl
theorem tw_881 : (Cond.selects "ShufflingBookModel" yX8_byteAt yX8_byteAt) ∈ TB := tb_in (List.mem_append_left _ (List.mem_of_getElem? (i := 34) rfl)) rfl
theorem tw_882 : (Cond.selects "ShufflingBookModel" yX8_figures yX8_figures) ∈ TB := tb_in (List.mem_append_left _ (List.mem_of_getElem? (i := 35) rfl)) rfl
theorem tw_883 : (Cond.selects "ShufflingBookModel" yX8_areBelow yX8_areBelow) ∈ TB := tb_in (List.mem_append_left _ (List.mem_of_getElem? (i := 36) rfl)) rfl
theorem tw_884 : (Cond.selects "ShufflingBookModel" yX8_isLeaf yX8_isLeaf) ∈ TB := tb_in (List.mem_append_left _ (List.mem_of_getElem? (i := 37) rfl)) rfl
theorem tw_885 : (Cond.selects "ShufflingBookModel" yX8_layPower yX8_layPower) ∈ TB := tb_in (List.mem_append_left _ (List.mem_of_getElem? (i := 38) rfl)) rfl
theorem tw_886 : (Cond.selects "ShufflingBookModel" yX8_put yX8_put) ∈ TB := tb_in (List.mem_append_left _ (List.mem_of_getElem? (i := 39) rfl)) rfl
theorem tw_887 : (Cond.selects "ShufflingBookModel" yX8_placeOf yX8_placeOf) ∈ TB := tb_in (List.mem_append_left _ (List.mem_of_getElem? (i := 40) rfl)) rfl
theorem tw_888 : (Cond.selects "ShufflingBookModel" yX8_leavesNow yX8_leavesNow) ∈ TB := tb_in (List.mem_append_left _ (List.mem_of_getElem? (i := 41) rfl)) rfl
theorem tw_889 : (Cond.selects "ShufflingBookModel" yX8_isAtFirst yX8_isAtFirst) ∈ TB := tb_in (List.mem_append_left _ (List.mem_of_getElem? (i := 42) rfl)) rfl
theorem tw_890 : (Cond.selects "ShufflingBookModel" yX8_lesser yX8_lesser) ∈ TB := tb_in (List.mem_append_left _ (List.mem_of_getElem? (i := 43) rfl)) rfl
theorem tw_891 : (Cond.selects "ShufflingBookModel" yX8_noOrder yX8_noOrder) ∈ TB := tb_in (List.mem_append_left _ (List.mem_of_getElem? (i := 44) rfl)) rfl
theorem tw_892 : (Cond.selects "ShufflingBookModel" yX8_know yX8_know) ∈ TB := tb_in (List.mem_append_left _ (List.mem_of_getElem? (i := 45) rfl)) rfl
theorem tw_893 : (Cond.selects "ShufflingBookModel" yX8_showsBy yX8_showsBy) ∈ TB := tb_in (List.mem_append_left _ (List.mem_of_getElem? (i := 46) rfl)) rfl
theorem tw_894 : (Cond.selects "ShufflingBookModel" yX8_isSo yX8_isSo) ∈ TB := tb_in (List.mem_append_left _ (List.mem_of_getElem? (i := 47) rfl)) rfl
theorem tw_895 : (Cond.selects "ShufflingBookModel" yX8_pleasedBy yX8_pleasedBy) ∈ TB := tb_in (List.mem_append_left _ (List.mem_of_getElem? (i := 48) rfl)) rfl
theorem tw_896 : (Cond.selects "ShufflingBookModel" yX8_copy yX8_copy) ∈ TB := tb_in (List.mem_append_left _ (List.mem_of_getElem? (i := 49) rfl)) rfl
theorem inX0 : ∀ w ∈ wsX00, w ∈ TB := List.forall_mem_cons.mpr ⟨tw_122, List.forall_mem_cons.mpr ⟨tw_123, List.forall_mem_cons.mpr ⟨tw_124, List.forall_mem_cons.mpr ⟨tw_125, List.forall_mem_cons.mpr ⟨tw_126, fun _ h => absurd h List.not_mem_nil⟩⟩⟩⟩⟩
theorem inX1 : ∀ w ∈ wsX10, w ∈ TB := List.forall_mem_cons.mpr ⟨tw_81, List.forall_mem_cons.mpr ⟨tw_82, List.forall_mem_cons.mpr ⟨tw_83, fun _ h => absurd h List.not_mem_nil⟩⟩⟩
theorem inX2 : ∀ w ∈ wsX20, w ∈ TB := List.forall_mem_cons.mpr ⟨tw_138, List.forall_mem_cons.mpr ⟨tw_139, List.forall_mem_cons.mpr ⟨tw_140, fun _ h => absurd h List.not_mem_nil⟩⟩⟩
theorem inX3 : ∀ w ∈ wsX30, w ∈ TB := List.forall_mem_cons.mpr ⟨tw_101, List.forall_mem_cons.mpr ⟨tw_102, List.forall_mem_cons.mpr ⟨tw_103, List.forall_mem_cons.mpr ⟨tw_104, List.forall_mem_cons.mpr ⟨tw_105, List.forall_mem_cons.mpr ⟨tw_106, List.forall_mem_cons.mpr ⟨tw_107, List.forall_mem_cons.mpr ⟨tw_108, List.forall_mem_cons.mpr ⟨tw_109, fun _ h => absurd h List.not_mem_nil⟩⟩⟩⟩⟩⟩⟩⟩⟩
theorem inX4 : ∀ w ∈ wsX40, w ∈ TB := List.forall_mem_cons.mpr ⟨tw_34, fun _ h => absurd h List.not_mem_nil⟩
theorem inX5 : ∀ w ∈ wsX50, w ∈ TB := List.forall_mem_cons.mpr ⟨tw_38, List.forall_mem_cons.mpr ⟨tw_39, fun _ h => absurd h List.not_mem_nil⟩⟩
theorem inX6 : ∀ w ∈ wsX60, w ∈ TB := List.forall_mem_cons.mpr ⟨tw_61, List.forall_mem_cons.mpr ⟨tw_62, List.forall_mem_cons.mpr ⟨tw_63, List.forall_mem_cons.mpr ⟨tw_64, List.forall_mem_cons.mpr ⟨tw_65, List.forall_mem_cons.mpr ⟨tw_66, List.forall_mem_cons.mpr ⟨tw_67, List.forall_mem_cons.mpr ⟨tw_68, List.forall_mem_cons.mpr ⟨tw_69, List.forall_mem_cons.mpr ⟨tw_70, fun _ h => absurd h List.not_mem_nil⟩⟩⟩⟩⟩⟩⟩⟩⟩⟩
theorem inX7 : ∀ w ∈ wsX70, w ∈ TB := List.forall_mem_cons.mpr ⟨tw_232, List.forall_mem_cons.mpr ⟨tw_233, List.forall_mem_cons.mpr ⟨tw_234, List.forall_mem_cons.mpr ⟨tw_235, List.forall_mem_cons.mpr ⟨tw_236, List.forall_mem_cons.mpr ⟨tw_237, List.forall_mem_cons.mpr ⟨tw_238, List.forall_mem_cons.mpr ⟨tw_239, List.forall_mem_cons.mpr ⟨tw_240, List.forall_mem_cons.mpr ⟨tw_241, List.forall_mem_cons.mpr ⟨tw_242, List.forall_mem_cons.mpr ⟨tw_243, List.forall_mem_cons.mpr ⟨tw_244, List.forall_mem_cons.mpr ⟨tw_245, fun _ h => absurd h List.not_mem_nil⟩⟩⟩⟩⟩⟩⟩⟩⟩⟩⟩⟩⟩⟩
theorem inX8 : ∀ w ∈ wsX80, w ∈ TB := List.forall_mem_cons.mpr ⟨tw_624, List.forall_mem_cons.mpr ⟨tw_625, List.forall_mem_cons.mpr ⟨tw_626, List.forall_mem_cons.mpr ⟨tw_627, List.forall_mem_cons.mpr ⟨tw_628, List.forall_mem_cons.mpr ⟨tw_629, List.forall_mem_cons.mpr ⟨tw_630, List.forall_mem_cons.mpr ⟨tw_631, List.forall_mem_cons.mpr ⟨tw_632, List.forall_mem_cons.mpr ⟨tw_633, List.forall_mem_cons.mpr ⟨tw_634, List.forall_mem_cons.mpr ⟨tw_635, List.forall_mem_cons.mpr ⟨tw_636, List.forall_mem_cons.mpr ⟨tw_637, List.forall_mem_cons.mpr ⟨tw_638, List.forall_mem_cons.mpr ⟨tw_639, List.forall_mem_cons.mpr ⟨tw_640, List.forall_mem_cons.mpr ⟨tw_641, List.forall_mem_cons.mpr ⟨tw_642, List.forall_mem_cons.mpr ⟨tw_643, List.forall_mem_cons.mpr ⟨tw_644, List.forall_mem_cons.mpr ⟨tw_645, List.forall_mem_cons.mpr ⟨tw_646, List.forall_mem_cons.mpr ⟨tw_647, List.forall_mem_cons.mpr ⟨tw_648, List.forall_mem_cons.mpr ⟨tw_649, List.forall_mem_cons.mpr ⟨tw_650, List.forall_mem_cons.mpr ⟨tw_651, List.forall_mem_cons.mpr ⟨tw_652, List.forall_mem_cons.mpr ⟨tw_653, List.forall_mem_cons.mpr ⟨tw_654, fun _ h => absurd h List.not_mem_nil⟩⟩⟩⟩⟩⟩⟩⟩⟩⟩⟩⟩⟩⟩⟩⟩⟩⟩⟩⟩⟩⟩⟩⟩⟩⟩⟩⟩⟩⟩⟩
def nestF : List (String × Nat × String × String × String × String) := [("ShufflingBook$Readers", 45, "ShufflingBook$Told", "leafCount", "I", "ShufflingBook"), ("ShufflingBook", 101, "ShufflingBook$Told", "leafCount", "I", "ShufflingBook"), ("ShufflingBook$Readers", 70, "ShufflingBook$Told", "perReader", "I", "ShufflingBook"), ("ShufflingBook$Pack", 39, "ShufflingBook$Told", "perReader", "I", "ShufflingBook"), ("ShufflingBook", 123, "ShufflingBook$Told", "perReader", "I", "ShufflingBook"), ("ShufflingBook$Readers", 73, "ShufflingBook$Told", "kind", "I", "ShufflingBook"), ("ShufflingBook$Pack", 27, "ShufflingBook$Told", "kind", "I", "ShufflingBook"), ("ShufflingBook$Readers", 76, "ShufflingBook$Told", "reach", "I", "ShufflingBook"), ("ShufflingBook$Pack", 32, "ShufflingBook$Told", "reach", "I", "ShufflingBook"), ("ShufflingBook", 228, "ShufflingBook$Told", "taleLength", "I", "ShufflingBook"), ("ShufflingBook$Pack", 42, "ShufflingBook$Order", "size", "I", "ShufflingBook"), ("ShufflingBook", 109, "ShufflingBook$Pack", "order", "LShufflingBook$Order;", "ShufflingBook"), ("ShufflingBook", 126, "ShufflingBook$Pack", "readSoFar", "I", "ShufflingBook"), ("ShufflingBook", 231, "ShufflingBook$Pack", "readersDone", "I", "ShufflingBook")]
def nestM : List (String × Nat × MethodName × String) := [("ShufflingBook", 9, yX5_init, "ShufflingBook"), ("ShufflingBook", 28, yX1_init, "ShufflingBook"), ("ShufflingBook", 38, yX3_init, "ShufflingBook"), ("ShufflingBook$Readers", 11, yX1_init, "ShufflingBook"), ("ShufflingBook", 45, yX0_init, "ShufflingBook"), ("ShufflingBook", 64, yX2_init, "ShufflingBook"), ("ShufflingBook$Pack", 9, yX1_init, "ShufflingBook"), ("ShufflingBook$Text", 41, yX7_within, "ShufflingBook"), ("ShufflingBook$Told", 103, yX7_within, "ShufflingBook")]
theorem nestF_in : ∀ q ∈ nestF, Cond.fieldLinkNest q.1 q.2.1 q.2.2.1 q.2.2.2.1 q.2.2.2.2.1 q.2.2.2.2.2 ∈ lw_tbl := List.forall_mem_cons.mpr ⟨tb_1 (List.mem_of_getElem? (i := 58) rfl), List.forall_mem_cons.mpr ⟨tb_1 (List.mem_of_getElem? (i := 60) rfl), List.forall_mem_cons.mpr ⟨tb_1 (List.mem_of_getElem? (i := 62) rfl), List.forall_mem_cons.mpr ⟨tb_1 (List.mem_of_getElem? (i := 63) rfl), List.forall_mem_cons.mpr ⟨tb_1 (List.mem_of_getElem? (i := 64) rfl), List.forall_mem_cons.mpr ⟨tb_1 (List.mem_of_getElem? (i := 66) rfl), List.forall_mem_cons.mpr ⟨tb_1 (List.mem_of_getElem? (i := 67) rfl), List.forall_mem_cons.mpr ⟨tb_1 (List.mem_of_getElem? (i := 69) rfl), List.forall_mem_cons.mpr ⟨tb_1 (List.mem_of_getElem? (i := 70) rfl), List.forall_mem_cons.mpr ⟨tb_1 (List.mem_of_getElem? (i := 76) rfl), List.forall_mem_cons.mpr ⟨tb_1 (List.mem_of_getElem? (i := 110) rfl), List.forall_mem_cons.mpr ⟨tb_1 (List.mem_of_getElem? (i := 191) rfl), List.forall_mem_cons.mpr ⟨tb_1 (List.mem_of_getElem? (i := 193) rfl), List.forall_mem_cons.mpr ⟨tb_1 (List.mem_of_getElem? (i := 195) rfl), fun _ h => absurd h List.not_mem_nil⟩⟩⟩⟩⟩⟩⟩⟩⟩⟩⟩⟩⟩⟩
theorem nestM_in : ∀ q ∈ nestM, Cond.methodLinkNest q.1 q.2.1 q.2.2.1 q.2.2.2 ∈ lw_tbl := List.forall_mem_cons.mpr ⟨tb_1 (List.mem_of_getElem? (i := 21) rfl), List.forall_mem_cons.mpr ⟨tb_1 (List.mem_of_getElem? (i := 101) rfl), List.forall_mem_cons.mpr ⟨tb_1 (List.mem_of_getElem? (i := 120) rfl), List.forall_mem_cons.mpr ⟨tb_1 (List.mem_of_getElem? (i := 125) rfl), List.forall_mem_cons.mpr ⟨tb_1 (List.mem_of_getElem? (i := 158) rfl), List.forall_mem_cons.mpr ⟨tb_1 (List.mem_of_getElem? (i := 184) rfl), List.forall_mem_cons.mpr ⟨tb_1 (List.mem_of_getElem? (i := 189) rfl), List.forall_mem_cons.mpr ⟨tb_2 (List.mem_of_getElem? (i := 144) rfl), List.forall_mem_cons.mpr ⟨tb_2 (List.mem_of_getElem? (i := 158) rfl), fun _ h => absurd h List.not_mem_nil⟩⟩⟩⟩⟩⟩⟩⟩⟩
end
section
/-! ONE MEMORY: every cell of both machines has a number (its id); a cell's ints are M id; the worlds of the kit are read off M. -/
abbrev Mem : Type := Nat → Nat → Int32
def mu (M : Mem) (i k : Nat) (v : Int32) : Mem := fun a => if a = i then upd (M i) k v else M a
theorem mu_self (M : Mem) (i k : Nat) (v : Int32) : mu M i k v i = upd (M i) k v := if_pos rfl
theorem mu_ne {M : Mem} {i k : Nat} {v : Int32} {a : Nat} (h : a ≠ i) : mu M i k v a = M a := if_neg h
def loL (x : Int64) : Int32 := Int32.ofNat (x.toBitVec.toNat % 4294967296)
def hiL (x : Int64) : Int32 := Int32.ofNat (x.toBitVec.toNat / 4294967296)
def mkL (lo hi : Int32) : Int64 := Int64.ofNat (lo.toBitVec.toNat + 4294967296 * hi.toBitVec.toNat)
theorem mkL_eq (x : Int64) : mkL (loL x) (hiL x) = x := by
  have hx : x.toBitVec.toNat < 18446744073709551616 := x.toBitVec.isLt
  have h1 : (loL x).toBitVec.toNat = x.toBitVec.toNat % 4294967296 := by
    show (BitVec.ofNat 32 _).toNat = _
    rw [BitVec.toNat_ofNat]; omega
  have h2 : (hiL x).toBitVec.toNat = x.toBitVec.toNat / 4294967296 := by
    show (BitVec.ofNat 32 _).toNat = _
    rw [BitVec.toNat_ofNat]; omega
  unfold mkL
  rw [h1, h2, show x.toBitVec.toNat % 4294967296 + 4294967296 * (x.toBitVec.toNat / 4294967296) = x.toBitVec.toNat by omega]
  apply Int64.toBitVec_inj.mp
  show BitVec.ofNat 64 _ = _
  rw [BitVec.ofNat_toNat, BitVec.setWidth_eq]
/-- a long array's cell k lies in two ints -/
def muL (M : Mem) (i k : Nat) (x : Int64) : Mem := mu (mu M i (2 * k) (loL x)) i (2 * k + 1) (hiL x)
def rdL (M : Mem) (i k : Nat) : Int64 := mkL (M i (2 * k)) (M i (2 * k + 1))
theorem rdL_muL (M : Mem) (i k : Nat) (x : Int64) : (fun j => rdL (muL M i k x) i j) = vp_updL (fun j => rdL M i j) k x := by
  funext j
  by_cases h : j = k
  · subst h
    have e1 : muL M i j x i (2 * j) = loL x := by
      unfold muL; rw [mu_self, mu_self]; simp [upd]
    have e2 : muL M i j x i (2 * j + 1) = hiL x := by
      unfold muL; rw [mu_self]; simp [upd]
    simp only [rdL, vp_updL, e1, e2, mkL_eq, if_true]
  · have e1 : muL M i k x i (2 * j) = M i (2 * j) := by
      unfold muL; rw [mu_self, mu_self]
      simp only [upd]
      rw [if_neg (by omega), if_neg (by omega)]
    have e2 : muL M i k x i (2 * j + 1) = M i (2 * j + 1) := by
      unfold muL; rw [mu_self, mu_self]
      simp only [upd]
      rw [if_neg (by omega), if_neg (by omega)]
    simp only [rdL, vp_updL, e1, e2, if_neg h]
def kdL : List Nat := [7, 5, 4, 9, 6, 4, 9, 4, 9, 4, 9, 4, 9, 6, 4, 9, 4, 9, 4, 9, 4, 9, 1, 4, 9, 4, 9, 1, 4, 9, 4, 9, 3, 1, 4, 9, 4, 9, 4, 9, 4, 9, 4, 9, 4, 9, 4, 9, 4, 9, 4, 9, 0, 4, 9, 4, 9, 4, 9, 4, 9, 2, 1, 4, 9, 4, 9, 2, 1, 4, 9, 4, 9, 2, 1, 4, 9, 4, 9, 8, 10, 10, 10, 10, 10, 10, 10, 10, 10, 10, 10, 10, 10, 11, 10, 10, 10, 10, 10, 10, 10, 10, 10, 10, 10, 10]
def kd (i : Nat) : Nat := kdL.getD i 12
def lnL : List Nat := [0, 0, 0, 300, 0, 0, 20, 0, 20, 0, 20, 0, 2, 0, 0, 20, 0, 20, 0, 20, 0, 2, 0, 0, 40, 0, 40, 0, 0, 40, 0, 40, 0, 0, 0, 40, 0, 40, 0, 40, 0, 40, 0, 40, 0, 40, 0, 40, 0, 40, 0, 40, 0, 0, 40, 0, 40, 0, 12, 0, 12, 0, 0, 0, 40, 0, 40, 0, 0, 0, 40, 0, 40, 0, 0, 0, 40, 0, 40, 0, 300, 2, 2, 2, 2, 2, 80, 2, 40, 40, 120, 3, 3, 12, 12, 12, 2, 40, 40, 40, 40, 40, 40, 40, 40, 40]
def ln (i : Nat) : Nat := lnL.getD i 0
def rid (x : Int32) : Nat := x.toNatClampNeg
abbrev gP : Type := va_G × (Nat → Nat) × (Nat × Nat) × (ClassId × ClassId)
abbrev gAD (G : gP) (i : Nat) : Nat := G.2.1 i
def gI (G : gP) (i : Nat) : Prop := G.2.2.1.1 ≤ i ∧ i < G.2.2.1.2
/-- the cell with the number i, of kind k -/
def gF (G : gP) (M : Mem) (k i : Nat) : va_E := match k with
  | 0 => .inr (0, [.ref (gAD G (i + 1)), .ref (gAD G (i + 3)), .int (M i 2), .int (M i 3), .int (M i 4)])
  | 1 => .inr (1, [.ref (gAD G (i + 1)), .ref (gAD G (i + 3)), .int (M i 2)])
  | 2 => .inr (2, [.ref (gAD G (i + 1)), .int (M i 1), .int (M i 2)])
  | 3 => .inr (3, [.ref (gAD G (i + 1)), .int (M i 1), .ref (gAD G (i + 6)), .ref (gAD G (i + 8)), .ref (gAD G (i + 10)), .ref (gAD G (i + 12)), .ref (gAD G (i + 14)), .ref (gAD G (i + 16)), .ref (gAD G (i + 18))])
  | 4 => .inr (4, [.ref (gAD G (i + 1))])
  | 5 => .inr (5, [.ref (gAD G (i + 1)), .int (M i 1)])
  | 6 => .inr (6, [.int (M i 0), .int (M i 1), .int (M i 2), .int (M i 3), .ref (gAD G (i + 1)), .ref (gAD G (i + 3)), .int (M i 6), .ref (gAD G (i + 5)), .int (M i 8), .ref (gAD G (i + 7))])
  | 7 => .inr (7, [.ref (gAD G (i + 1)), .ref (gAD G (rid (M i 1))), .ref (gAD G (rid (M i 2))), .ref (gAD G (i + 22)), .ref (gAD G (i + 27)), .ref (gAD G (i + 32)), .ref (gAD G (i + 52)), .ref (gAD G (i + 57)), .ref (gAD G (i + 59)), .int (M i 9), .ref (gAD G (i + 61)), .ref (gAD G (i + 67)), .ref (gAD G (i + 73)), .int (M i 13)])
  | 8 => .inr (8, [.int (M i 0), .ref (gAD G (i + 1)), .ref (gAD G (i + 2)), .ref (gAD G (i + 3)), .ref (gAD G (i + 4)), .ref (gAD G (i + 5)), .ref (gAD G (i + 6)), .ref (gAD G (i + 7)), .ref (gAD G (i + 8)), .ref (gAD G (i + 9)), .ref (gAD G (i + 10)), .ref (gAD G (i + 11)), .ref (gAD G (i + 12)), .ref (gAD G (i + 13)), .int (M i 14), .int (M i 15), .ref (gAD G (i + 14)), .ref (gAD G (i + 15)), .ref (gAD G (i + 16)), .int (M i 19), .ref (gAD G (i + 17)), .ref (gAD G (i + 18)), .ref (gAD G (i + 19)), .ref (gAD G (i + 20)), .ref (gAD G (i + 21)), .ref (gAD G (i + 22)), .ref (gAD G (i + 23)), .ref (gAD G (i + 24)), .ref (gAD G (i + 25)), .int (M i 29), .ref (gAD G (i + 26))])
  | 9 => .inl (G.2.2.2.1, ln i, .inl (M i))
  | 10 => .inl (G.2.2.2.1, ln i, .inl (M i))
  | 11 => .inl (G.2.2.2.2, ln i, .inr (.inl (fun j => rdL M i j)))
  | _ => .inr (0, [])
def gc (G : gP) (M : Mem) (i : Nat) : va_E := gF G M (kd i) i
theorem gc_k {G : gP} {M : Mem} {i k : Nat} (h : kd i = k) : gc G M i = gF G M k i := by unfold gc; rw [h]
theorem gF_row {G : gP} {M M' : Mem} {k i : Nat} (h : M' i = M i) : gF G M' k i = gF G M k i := by
  unfold gF rdL
  rw [h]
theorem gc_row {G : gP} {M M' : Mem} {i : Nat} (h : M' i = M i) : gc G M' i = gc G M i := gF_row h
def gl (G : gP) (M : Mem) : va_W := (List.range (G.2.2.1.2 - G.2.2.1.1)).map (fun k => (gAD G (G.2.2.1.1 + k), gc G M (G.2.2.1.1 + k)))
def GW (G : gP) (M : Mem) (H : Heap) : Prop := va_P G.1 vwCl (gl G M) H
def gA (G : gP) : Nat → Prop := fun q => ∃ i, gI G i ∧ q = gAD G i
def gIn (G : gP) : Prop := ∀ i j, gI G i → gI G j → gAD G i = gAD G j → i = j
theorem gl_at {G : gP} {M : Mem} {k : Nat} (h : k < G.2.2.1.2 - G.2.2.1.1) : (gl G M)[k]? = some (gAD G (G.2.2.1.1 + k), gc G M (G.2.2.1.1 + k)) := by
  unfold gl
  rw [List.getElem?_map, List.getElem?_range h]
  rfl
theorem gl_len {G : gP} {M : Mem} : (gl G M).length = G.2.2.1.2 - G.2.2.1.1 := by simp [gl]
theorem gl_get {G : gP} {M : Mem} {i : Nat} (h : gI G i) : (gl G M)[i - G.2.2.1.1]? = some (gAD G i, gc G M i) := by
  obtain ⟨h1, h2⟩ := h
  rw [gl_at (by omega), show G.2.2.1.1 + (i - G.2.2.1.1) = i by omega]
theorem gl_set {G : gP} {M M' : Mem} {i : Nat} {e : va_E} (h : gI G i) (he : gc G M' i = e) (hj : ∀ j, j ≠ i → M' j = M j) : (gl G M).set (i - G.2.2.1.1) (gAD G i, e) = gl G M' := by
  obtain ⟨h1, h2⟩ := h
  apply List.ext_getElem?
  intro k
  by_cases hk : k < G.2.2.1.2 - G.2.2.1.1
  · rw [gl_at hk]
    by_cases hki : k = i - G.2.2.1.1
    · subst hki
      rw [List.getElem?_set_self (by rw [gl_len]; omega), show G.2.2.1.1 + (i - G.2.2.1.1) = i by omega, he]
    · rw [List.getElem?_set_ne (Ne.symm hki), gl_at hk, gc_row (hj (G.2.2.1.1 + k) (by omega))]
  · rw [List.getElem?_eq_none (by rw [List.length_set, gl_len]; omega), List.getElem?_eq_none (by rw [gl_len]; omega)]
theorem gl_D {G : gP} {M : Mem} {A : Nat → Prop} (hG : gIn G) (hA : ∀ q, gA G q → A q) : va_D A (gl G M) := by
  have key : ∀ (k : Nat) (q : Nat × va_E), (gl G M)[k]? = some q → k < G.2.2.1.2 - G.2.2.1.1 ∧ q.1 = gAD G (G.2.2.1.1 + k) := by
    intro k q h
    have hk : k < G.2.2.1.2 - G.2.2.1.1 := by
      have := (List.getElem?_eq_some_iff.mp h).1
      rwa [gl_len] at this
    rw [gl_at hk] at h
    cases h
    exact ⟨hk, rfl⟩
  refine ⟨fun i j p q hi hj hpq => ?_, fun k q hk => ?_⟩
  · obtain ⟨i1, i2⟩ := key i p hi
    obtain ⟨j1, j2⟩ := key j q hj
    have := hG (G.2.2.1.1 + i) (G.2.2.1.1 + j) ⟨by omega, by omega⟩ ⟨by omega, by omega⟩ (by rw [← i2, ← j2]; exact hpq)
    omega
  · obtain ⟨k1, k2⟩ := key k q hk
    exact hA _ ⟨G.2.2.1.1 + k, ⟨by omega, by omega⟩, k2⟩
theorem gl_free {G : gP} {M : Mem} {sz : Nat} {A : Nat → Prop} (hA : ∀ q, gA G q → A q) {i : Nat} (h : gI G i) : A (gAD G i) := hA _ ⟨i, h, rfl⟩
def gKK (G : gP) (U : State) : Prop := va_K G.1 vwCl [(G.2.2.2.1, .int), (G.2.2.2.2, .long)] U ∧ (∀ q ∈ nestF, va_Nw (.fieldLinkNest q.1 q.2.1 q.2.2.1 q.2.2.2.1 q.2.2.2.2.1 q.2.2.2.2.2) U) ∧ ∀ q ∈ nestM, va_Nw (.methodLinkNest q.1 q.2.1 q.2.2.1 q.2.2.2) U
theorem gKK.warm {G : gP} {s U : State} (hW : s.WarmedH U.vm) (h : gKK G s) : gKK G U := ⟨va_K.moved hW.alike h.1, fun q hq => va_Nw.warmF hW (h.2.1 q hq), fun q hq => va_Nw.warmM hW (h.2.2 q hq)⟩
theorem gKK.same {G : gP} {u U : State} (hv : u.vm = U.vm) (h : gKK G u) : gKK G U := ⟨va_K.moved (u := u) (U := U) (by rw [hv]; exact Vm.Alike.refl _) h.1, fun q hq => va_Nw.same rfl hv (h.2.1 q hq), fun q hq => va_Nw.same rfl hv (h.2.2 q hq)⟩
def gS (G : gP) (M : Mem) (U : State) : Prop := gKK G U ∧ GW G M U.heap
def gB (G : gP) : Mem → State → Prop := fun M t => GW G M t.heap
def Cx (p : Program) (s : State) (m : MethodId) (args : Array Value) (meth : Method) (c : Code) (G : gP) (A : Nat → Prop) (cc : ByteArray) (nL : Nat) (own : String) : Prop :=
  p.tables.exec = Jvm.exec ∧ c.code = cc ∧ c.maxLocals = nL ∧ s.vm.findClass own = some m.cls ∧ (∀ w ∈ TB, w.before args s = true) ∧ gKK G s ∧ gIn G ∧ (∀ q, gA G q → A q) ∧ meth.locks = false
/-- at pc, with the locals lv and the stack st, the memory M: the rest of the way is good -/
def Wl (p : Program) (l : Launch) (e : Env) (R : Room) (s : State) (m : MethodId) (args : Array Value) (below : List Frame) (meth : Method) (c : Code) (Qf : State → Prop) (G : gP) (A : Nat → Prop) (nL cells slots : Nat) (M : Mem) (pc : Nat) (lv : List (Nat × Value)) (st : List Value) : Prop :=
  ∀ (H : Heap) (locs : List Loc) (ls : Array Slot), GW G M H → va_S A s.heap H locs → lv_has ls nL lv → W p l e R s m args below meth c H locs cells slots Qf (F0 m pc ls st)
theorem gMet {l : Launch} {y : MethodName} {w0 : Cond} {rm : Room} {As : List Value} {M : Mem} {pre : Prop} {Qc : Array Value → State → Outcome → State → Prop} {cc : ByteArray} {maxL : Nat} {ret : Option FieldType} {G : gP} (hy : plainName y.cls = true) (hw0 : w0 = Cond.code y cc maxL ret) (hG : gIn G) (hAs : (lg_sl As).length ≤ maxL) (lv : List (Nat × Value)) (hlv : lv_args 0 As = lv)
    (body : ∀ (p : Program) (e : Env) (s : State) (m : MethodId) (args : Array Value) (below : List Frame) (meth : Method) (c : Code), Cx p s m args meth c G (gA G) cc maxL y.cls → meth.sig.returnType = ret → pre → Wl p l e rm s m args below meth c (MQ below Qc args s 0 0 (gA G)) G (gA G) maxL 0 0 M 0 lv []) :
    Met l y (w0 :: TB) rm (va_Pc As (fun U => gS G M U ∧ pre)) Qc 0 0 (gA G) := by
  subst hw0
  subst hlv
  refine Met.ofW (cc := cc) (maxL := maxL) (ret := ret) hy rfl ?_
  intro p e s m args below meth c s₁ B hml hv
  obtain ⟨rfl, ⟨hK, hW⟩, hpre⟩ := hv
  have hts := atoms_spec (ws := Cond.code y cc maxL ret :: TB) B.pre
  have hb := body p e s m As.toArray below meth c ⟨B.exec, B.bytes, hml, findClass_of_methodNamed B.named, fun w hw => hts w (List.mem_cons_of_mem _ hw), hK, hG, fun _ h => h, B.notSynchronized⟩ B.returns hpre
  rw [lg_entry_eq]
  exact hb s.heap [] _ hW va_S.rf (lv_entry As hAs)
theorem g_good (y : MethodName) (cc : ByteArray) (maxL : Nat) (ret : Option FieldType) (h5 : Cond.code y cc maxL ret ∈ TB) : GoodIn TB (Cond.code y cc maxL ret :: TB) := fun w hw => by
  rcases List.mem_cons.mp hw with rfl | hw
  · exact ⟨h5, good_of_word (tb_good _ h5)⟩
  · exact ⟨hw, good_of_word (tb_good _ hw)⟩
theorem g_goodW {ws : List Cond} (h : ∀ w ∈ ws, w ∈ TB) : GoodIn TB ws := fun w hw => ⟨h w hw, good_of_word (tb_good _ (h w hw))⟩
end
section
section WL
variable {p : Program} {l : Launch} {e : Env} {R : Room} {s : State} {m : MethodId} {args : Array Value} {below : List Frame} {meth : Method} {c : Code} {Qf : State → Prop} {G : gP} {A : Nat → Prop} {nL cells slots : Nat} {M : Mem} {cc : ByteArray} {own : String} {pc : Nat} {lv : List (Nat × Value)} {st : List Value}
theorem wl_iconst (C : Cx p s m args meth c G A cc nL own) {n : Int} {v : Int32} (hdg : decode cc pc = .ok (.iconst n, 1)) (hv : Int32.ofInt n = v) (kk : Wl p l e R s m args below meth c Qf G A nL cells slots M (pc + 1) lv (.int v :: st)) : Wl p l e R s m args below meth c Qf G A nL cells slots M pc lv st := fun H locs ls hG hS hl => lv_iconst C.1 C.2.1 hdg hv (kk H locs ls hG hS hl)
theorem wl_bipush (C : Cx p s m args meth c G A cc nL own) {n : Int} {v : Int32} (hdg : decode cc pc = .ok (.bipush n, 2)) (hv : (Int8.ofInt n).toInt32 = v) (kk : Wl p l e R s m args below meth c Qf G A nL cells slots M (pc + 2) lv (.int v :: st)) : Wl p l e R s m args below meth c Qf G A nL cells slots M pc lv st := fun H locs ls hG hS hl => lv_bipush C.1 C.2.1 hdg hv (kk H locs ls hG hS hl)
theorem wl_sipush (C : Cx p s m args meth c G A cc nL own) {n : Int} {v : Int32} (hdg : decode cc pc = .ok (.sipush n, 3)) (hv : (Int16.ofInt n).toInt32 = v) (kk : Wl p l e R s m args below meth c Qf G A nL cells slots M (pc + 3) lv (.int v :: st)) : Wl p l e R s m args below meth c Qf G A nL cells slots M pc lv st := fun H locs ls hG hS hl => lv_sipush C.1 C.2.1 hdg hv (kk H locs ls hG hS hl)
theorem wl_lconst (C : Cx p s m args meth c G A cc nL own) {n : Fin 2} {v : Int64} (hdg : decode cc pc = .ok (.lconst n, 1)) (hv : Int64.ofNat (n : Nat) = v) (kk : Wl p l e R s m args below meth c Qf G A nL cells slots M (pc + 1) lv (.long v :: st)) : Wl p l e R s m args below meth c Qf G A nL cells slots M pc lv st := fun H locs ls hG hS hl => lv_lconst C.1 C.2.1 hdg hv (kk H locs ls hG hS hl)
theorem wl_iload_n (C : Cx p s m args meth c G A cc nL own) {k : Fin 4} {x : Int32} (hdg : decode cc pc = .ok (.iload_n k, 1)) (q : Nat) (hq : lv[q]? = some ((k : Nat), .int x)) (kk : Wl p l e R s m args below meth c Qf G A nL cells slots M (pc + 1) lv (.int x :: st)) : Wl p l e R s m args below meth c Qf G A nL cells slots M pc lv st := fun H locs ls hG hS hl => lv_iload_n C.1 C.2.1 hdg rfl (lv_at hl q hq) (kk H locs ls hG hS hl)
theorem wl_iload (C : Cx p s m args meth c G A cc nL own) {i : Nat} {x : Int32} (hdg : decode cc pc = .ok (.iload i, 2)) (q : Nat) (hq : lv[q]? = some (i, .int x)) (kk : Wl p l e R s m args below meth c Qf G A nL cells slots M (pc + 2) lv (.int x :: st)) : Wl p l e R s m args below meth c Qf G A nL cells slots M pc lv st := fun H locs ls hG hS hl => lv_iload C.1 C.2.1 hdg (lv_at hl q hq) (kk H locs ls hG hS hl)
theorem wl_lload_n (C : Cx p s m args meth c G A cc nL own) {k : Fin 4} {x : Int64} (hdg : decode cc pc = .ok (.lload_n k, 1)) (q : Nat) (hq : lv[q]? = some ((k : Nat), .long x)) (kk : Wl p l e R s m args below meth c Qf G A nL cells slots M (pc + 1) lv (.long x :: st)) : Wl p l e R s m args below meth c Qf G A nL cells slots M pc lv st := fun H locs ls hG hS hl => lv_lload_n C.1 C.2.1 hdg rfl (lv_at hl q hq) (kk H locs ls hG hS hl)
theorem wl_lload (C : Cx p s m args meth c G A cc nL own) {i : Nat} {x : Int64} (hdg : decode cc pc = .ok (.lload i, 2)) (q : Nat) (hq : lv[q]? = some (i, .long x)) (kk : Wl p l e R s m args below meth c Qf G A nL cells slots M (pc + 2) lv (.long x :: st)) : Wl p l e R s m args below meth c Qf G A nL cells slots M pc lv st := fun H locs ls hG hS hl => lv_lload C.1 C.2.1 hdg (lv_at hl q hq) (kk H locs ls hG hS hl)
theorem wl_aload_n (C : Cx p s m args meth c G A cc nL own) {k : Fin 4} {x : Nat} (hdg : decode cc pc = .ok (.aload_n k, 1)) (q : Nat) (hq : lv[q]? = some ((k : Nat), .ref x)) (kk : Wl p l e R s m args below meth c Qf G A nL cells slots M (pc + 1) lv (.ref x :: st)) : Wl p l e R s m args below meth c Qf G A nL cells slots M pc lv st := fun H locs ls hG hS hl => lv_aload_n C.1 C.2.1 hdg rfl (lv_at hl q hq) (kk H locs ls hG hS hl)
theorem wl_aload (C : Cx p s m args meth c G A cc nL own) {i : Nat} {x : Nat} (hdg : decode cc pc = .ok (.aload i, 2)) (q : Nat) (hq : lv[q]? = some (i, .ref x)) (kk : Wl p l e R s m args below meth c Qf G A nL cells slots M (pc + 2) lv (.ref x :: st)) : Wl p l e R s m args below meth c Qf G A nL cells slots M pc lv st := fun H locs ls hG hS hl => lv_aload C.1 C.2.1 hdg (lv_at hl q hq) (kk H locs ls hG hS hl)
theorem wl_istore_n (C : Cx p s m args meth c G A cc nL own) {k : Fin 4} {i : Nat} {x : Int32} {lv' : List (Nat × Value)} (hdg : decode cc pc = .ok (.istore_n k, 1)) (hi : (k : Nat) = i) (hn : i < nL) (hlv : (i, Value.int x) :: lv.filter (fun q => !(q.1 == i) && !(q.1 + 1 == i && q.2.category == 2)) = lv') (kk : Wl p l e R s m args below meth c Qf G A nL cells slots M (pc + 1) lv' st) : Wl p l e R s m args below meth c Qf G A nL cells slots M pc lv (.int x :: st) := fun H locs ls hG hS hl => lv_istore_n C.1 C.2.1 hdg hi hl hn hlv (fun ls hl => kk H locs ls hG hS hl)
theorem wl_istore (C : Cx p s m args meth c G A cc nL own) {i : Nat} {x : Int32} {lv' : List (Nat × Value)} (hdg : decode cc pc = .ok (.istore i, 2)) (hn : i < nL) (hlv : (i, Value.int x) :: lv.filter (fun q => !(q.1 == i) && !(q.1 + 1 == i && q.2.category == 2)) = lv') (kk : Wl p l e R s m args below meth c Qf G A nL cells slots M (pc + 2) lv' st) : Wl p l e R s m args below meth c Qf G A nL cells slots M pc lv (.int x :: st) := fun H locs ls hG hS hl => lv_istore C.1 C.2.1 hdg hl hn hlv (fun ls hl => kk H locs ls hG hS hl)
theorem wl_lstore_n (C : Cx p s m args meth c G A cc nL own) {k : Fin 4} {i : Nat} {x : Int64} {lv' : List (Nat × Value)} (hdg : decode cc pc = .ok (.lstore_n k, 1)) (hi : (k : Nat) = i) (hn : i + 1 < nL) (hlv : (i, Value.long x) :: lv.filter (fun q => !(q.1 == i) && (!(q.1 == i + 1) && !(q.1 + 1 == i && q.2.category == 2))) = lv') (kk : Wl p l e R s m args below meth c Qf G A nL cells slots M (pc + 1) lv' st) : Wl p l e R s m args below meth c Qf G A nL cells slots M pc lv (.long x :: st) := fun H locs ls hG hS hl => lv_lstore_n C.1 C.2.1 hdg hi hl hn hlv (fun ls hl => kk H locs ls hG hS hl)
theorem wl_lstore (C : Cx p s m args meth c G A cc nL own) {i : Nat} {x : Int64} {lv' : List (Nat × Value)} (hdg : decode cc pc = .ok (.lstore i, 2)) (hn : i + 1 < nL) (hlv : (i, Value.long x) :: lv.filter (fun q => !(q.1 == i) && (!(q.1 == i + 1) && !(q.1 + 1 == i && q.2.category == 2))) = lv') (kk : Wl p l e R s m args below meth c Qf G A nL cells slots M (pc + 2) lv' st) : Wl p l e R s m args below meth c Qf G A nL cells slots M pc lv (.long x :: st) := fun H locs ls hG hS hl => lv_lstore C.1 C.2.1 hdg hl hn hlv (fun ls hl => kk H locs ls hG hS hl)
theorem wl_astore_n (C : Cx p s m args meth c G A cc nL own) {k : Fin 4} {i : Nat} {x : Nat} {lv' : List (Nat × Value)} (hdg : decode cc pc = .ok (.astore_n k, 1)) (hi : (k : Nat) = i) (hn : i < nL) (hlv : (i, Value.ref x) :: lv.filter (fun q => !(q.1 == i) && !(q.1 + 1 == i && q.2.category == 2)) = lv') (kk : Wl p l e R s m args below meth c Qf G A nL cells slots M (pc + 1) lv' st) : Wl p l e R s m args below meth c Qf G A nL cells slots M pc lv (.ref x :: st) := fun H locs ls hG hS hl => lv_astore_n C.1 C.2.1 hdg hi hl hn hlv (fun ls hl => kk H locs ls hG hS hl)
theorem wl_astore (C : Cx p s m args meth c G A cc nL own) {i : Nat} {x : Nat} {lv' : List (Nat × Value)} (hdg : decode cc pc = .ok (.astore i, 2)) (hn : i < nL) (hlv : (i, Value.ref x) :: lv.filter (fun q => !(q.1 == i) && !(q.1 + 1 == i && q.2.category == 2)) = lv') (kk : Wl p l e R s m args below meth c Qf G A nL cells slots M (pc + 2) lv' st) : Wl p l e R s m args below meth c Qf G A nL cells slots M pc lv (.ref x :: st) := fun H locs ls hG hS hl => lv_astore C.1 C.2.1 hdg hl hn hlv (fun ls hl => kk H locs ls hG hS hl)
theorem wl_iinc (C : Cx p s m args meth c G A cc nL own) {i : Nat} {n : Int} {x v : Int32} {lv' : List (Nat × Value)} (hdg : decode cc pc = .ok (.iinc i n, 3)) (q : Nat) (hq : lv[q]? = some (i, .int x)) (hv : x + Int32.ofInt n = v) (hn : i < nL) (hlv : (i, Value.int v) :: lv.filter (fun q => !(q.1 == i) && !(q.1 + 1 == i && q.2.category == 2)) = lv') (kk : Wl p l e R s m args below meth c Qf G A nL cells slots M (pc + 3) lv' st) : Wl p l e R s m args below meth c Qf G A nL cells slots M pc lv st := fun H locs ls hG hS hl => lv_iinc C.1 C.2.1 hdg hl hq hv hn hlv (fun ls hl => kk H locs ls hG hS hl)
theorem wl_iadd (C : Cx p s m args meth c G A cc nL own) {x y : Int32} (hdg : decode cc pc = .ok (.iadd, 1)) (kk : Wl p l e R s m args below meth c Qf G A nL cells slots M (pc + 1) lv (.int (x + y) :: st)) : Wl p l e R s m args below meth c Qf G A nL cells slots M pc lv (.int y :: .int x :: st) := fun H locs ls hG hS hl => lv_iadd C.1 C.2.1 hdg (kk H locs ls hG hS hl)
theorem wl_isub (C : Cx p s m args meth c G A cc nL own) {x y : Int32} (hdg : decode cc pc = .ok (.isub, 1)) (kk : Wl p l e R s m args below meth c Qf G A nL cells slots M (pc + 1) lv (.int (x - y) :: st)) : Wl p l e R s m args below meth c Qf G A nL cells slots M pc lv (.int y :: .int x :: st) := fun H locs ls hG hS hl => lv_isub C.1 C.2.1 hdg (kk H locs ls hG hS hl)
theorem wl_imul (C : Cx p s m args meth c G A cc nL own) {x y : Int32} (hdg : decode cc pc = .ok (.imul, 1)) (kk : Wl p l e R s m args below meth c Qf G A nL cells slots M (pc + 1) lv (.int (x * y) :: st)) : Wl p l e R s m args below meth c Qf G A nL cells slots M pc lv (.int y :: .int x :: st) := fun H locs ls hG hS hl => lv_imul C.1 C.2.1 hdg (kk H locs ls hG hS hl)
theorem wl_iand (C : Cx p s m args meth c G A cc nL own) {x y : Int32} (hdg : decode cc pc = .ok (.iand, 1)) (kk : Wl p l e R s m args below meth c Qf G A nL cells slots M (pc + 1) lv (.int (x &&& y) :: st)) : Wl p l e R s m args below meth c Qf G A nL cells slots M pc lv (.int y :: .int x :: st) := fun H locs ls hG hS hl => lv_iand C.1 C.2.1 hdg (kk H locs ls hG hS hl)
theorem wl_ladd (C : Cx p s m args meth c G A cc nL own) {x y : Int64} (hdg : decode cc pc = .ok (.ladd, 1)) (kk : Wl p l e R s m args below meth c Qf G A nL cells slots M (pc + 1) lv (.long (x + y) :: st)) : Wl p l e R s m args below meth c Qf G A nL cells slots M pc lv (.long y :: .long x :: st) := fun H locs ls hG hS hl => lv_ladd C.1 C.2.1 hdg (kk H locs ls hG hS hl)
theorem wl_lsub (C : Cx p s m args meth c G A cc nL own) {x y : Int64} (hdg : decode cc pc = .ok (.lsub, 1)) (kk : Wl p l e R s m args below meth c Qf G A nL cells slots M (pc + 1) lv (.long (x - y) :: st)) : Wl p l e R s m args below meth c Qf G A nL cells slots M pc lv (.long y :: .long x :: st) := fun H locs ls hG hS hl => lv_lsub C.1 C.2.1 hdg (kk H locs ls hG hS hl)
theorem wl_lmul (C : Cx p s m args meth c G A cc nL own) {x y : Int64} (hdg : decode cc pc = .ok (.lmul, 1)) (kk : Wl p l e R s m args below meth c Qf G A nL cells slots M (pc + 1) lv (.long (x * y) :: st)) : Wl p l e R s m args below meth c Qf G A nL cells slots M pc lv (.long y :: .long x :: st) := fun H locs ls hG hS hl => lv_lmul C.1 C.2.1 hdg (kk H locs ls hG hS hl)
theorem wl_land (C : Cx p s m args meth c G A cc nL own) {x y : Int64} (hdg : decode cc pc = .ok (.land, 1)) (kk : Wl p l e R s m args below meth c Qf G A nL cells slots M (pc + 1) lv (.long (x &&& y) :: st)) : Wl p l e R s m args below meth c Qf G A nL cells slots M pc lv (.long y :: .long x :: st) := fun H locs ls hG hS hl => lv_land C.1 C.2.1 hdg (kk H locs ls hG hS hl)
theorem wl_lor (C : Cx p s m args meth c G A cc nL own) {x y : Int64} (hdg : decode cc pc = .ok (.lor, 1)) (kk : Wl p l e R s m args below meth c Qf G A nL cells slots M (pc + 1) lv (.long (x ||| y) :: st)) : Wl p l e R s m args below meth c Qf G A nL cells slots M pc lv (.long y :: .long x :: st) := fun H locs ls hG hS hl => lv_lor C.1 C.2.1 hdg (kk H locs ls hG hS hl)
theorem wl_lxor (C : Cx p s m args meth c G A cc nL own) {x y : Int64} (hdg : decode cc pc = .ok (.lxor, 1)) (kk : Wl p l e R s m args below meth c Qf G A nL cells slots M (pc + 1) lv (.long (x ^^^ y) :: st)) : Wl p l e R s m args below meth c Qf G A nL cells slots M pc lv (.long y :: .long x :: st) := fun H locs ls hG hS hl => lv_lxor C.1 C.2.1 hdg (kk H locs ls hG hS hl)
theorem wl_idiv (C : Cx p s m args meth c G A cc nL own) {x y : Int32} (hdg : decode cc pc = .ok (.idiv, 1)) (hne : ¬ y = 0) (kk : Wl p l e R s m args below meth c Qf G A nL cells slots M (pc + 1) lv (.int (x / y) :: st)) : Wl p l e R s m args below meth c Qf G A nL cells slots M pc lv (.int y :: .int x :: st) := fun H locs ls hG hS hl => lv_idiv C.1 C.2.1 hdg hne (kk H locs ls hG hS hl)
theorem wl_irem (C : Cx p s m args meth c G A cc nL own) {x y : Int32} (hdg : decode cc pc = .ok (.irem, 1)) (hne : ¬ y = 0) (kk : Wl p l e R s m args below meth c Qf G A nL cells slots M (pc + 1) lv (.int (x - x / y * y) :: st)) : Wl p l e R s m args below meth c Qf G A nL cells slots M pc lv (.int y :: .int x :: st) := fun H locs ls hG hS hl => lv_irem C.1 C.2.1 hdg hne (kk H locs ls hG hS hl)
theorem wl_ldiv (C : Cx p s m args meth c G A cc nL own) {x y : Int64} (hdg : decode cc pc = .ok (.ldiv, 1)) (hne : ¬ y = 0) (kk : Wl p l e R s m args below meth c Qf G A nL cells slots M (pc + 1) lv (.long (x / y) :: st)) : Wl p l e R s m args below meth c Qf G A nL cells slots M pc lv (.long y :: .long x :: st) := fun H locs ls hG hS hl => lv_ldiv C.1 C.2.1 hdg hne (kk H locs ls hG hS hl)
theorem wl_lrem (C : Cx p s m args meth c G A cc nL own) {x y : Int64} (hdg : decode cc pc = .ok (.lrem, 1)) (hne : ¬ y = 0) (kk : Wl p l e R s m args below meth c Qf G A nL cells slots M (pc + 1) lv (.long (x - x / y * y) :: st)) : Wl p l e R s m args below meth c Qf G A nL cells slots M pc lv (.long y :: .long x :: st) := fun H locs ls hG hS hl => lv_lrem C.1 C.2.1 hdg hne (kk H locs ls hG hS hl)
theorem wl_lneg (C : Cx p s m args meth c G A cc nL own) {x : Int64} (hdg : decode cc pc = .ok (.lneg, 1)) (kk : Wl p l e R s m args below meth c Qf G A nL cells slots M (pc + 1) lv (.long (-x) :: st)) : Wl p l e R s m args below meth c Qf G A nL cells slots M pc lv (.long x :: st) := fun H locs ls hG hS hl => lv_lneg C.1 C.2.1 hdg (kk H locs ls hG hS hl)
theorem wl_i2l (C : Cx p s m args meth c G A cc nL own) {x : Int32} (hdg : decode cc pc = .ok (.i2l, 1)) (kk : Wl p l e R s m args below meth c Qf G A nL cells slots M (pc + 1) lv (.long x.toInt64 :: st)) : Wl p l e R s m args below meth c Qf G A nL cells slots M pc lv (.int x :: st) := fun H locs ls hG hS hl => lv_i2l C.1 C.2.1 hdg rfl (kk H locs ls hG hS hl)
theorem wl_l2i (C : Cx p s m args meth c G A cc nL own) {x : Int64} (hdg : decode cc pc = .ok (.l2i, 1)) (kk : Wl p l e R s m args below meth c Qf G A nL cells slots M (pc + 1) lv (.int x.toInt32 :: st)) : Wl p l e R s m args below meth c Qf G A nL cells slots M pc lv (.long x :: st) := fun H locs ls hG hS hl => lv_l2i C.1 C.2.1 hdg rfl (kk H locs ls hG hS hl)
theorem wl_lushr (C : Cx p s m args meth c G A cc nL own) {x : Int64} {y : Int32} (hdg : decode cc pc = .ok (.lushr, 1)) (kk : Wl p l e R s m args below meth c Qf G A nL cells slots M (pc + 1) lv (.long (x.toUInt64 >>> (y.toInt64.toUInt64 &&& Int64.toUInt64 63)).toInt64 :: st)) : Wl p l e R s m args below meth c Qf G A nL cells slots M pc lv (.int y :: .long x :: st) := fun H locs ls hG hS hl => lv_lushr C.1 C.2.1 hdg rfl (kk H locs ls hG hS hl)
theorem wl_lshl (C : Cx p s m args meth c G A cc nL own) {x : Int64} {y : Int32} (hdg : decode cc pc = .ok (.lshl, 1)) (kk : Wl p l e R s m args below meth c Qf G A nL cells slots M (pc + 1) lv (.long (x <<< (y.toInt64 &&& 63)) :: st)) : Wl p l e R s m args below meth c Qf G A nL cells slots M pc lv (.int y :: .long x :: st) := fun H locs ls hG hS hl => lv_lshl C.1 C.2.1 hdg rfl (kk H locs ls hG hS hl)
theorem wl_lshr (C : Cx p s m args meth c G A cc nL own) {x : Int64} {y : Int32} (hdg : decode cc pc = .ok (.lshr, 1)) (kk : Wl p l e R s m args below meth c Qf G A nL cells slots M (pc + 1) lv (.long (x >>> (y.toInt64 &&& 63)) :: st)) : Wl p l e R s m args below meth c Qf G A nL cells slots M pc lv (.int y :: .long x :: st) := fun H locs ls hG hS hl => lv_lshr C.1 C.2.1 hdg rfl (kk H locs ls hG hS hl)
theorem wl_dup (C : Cx p s m args meth c G A cc nL own) {va : Value} (hdg : decode cc pc = .ok (.dup, 1)) (hva : va.category = 1) (kk : Wl p l e R s m args below meth c Qf G A nL cells slots M (pc + 1) lv (va :: va :: st)) : Wl p l e R s m args below meth c Qf G A nL cells slots M pc lv (va :: st) := fun H locs ls hG hS hl => lv_dup C.1 C.2.1 hdg hva (kk H locs ls hG hS hl)
theorem wl_pop (C : Cx p s m args meth c G A cc nL own) {va : Value} (hdg : decode cc pc = .ok (.pop, 1)) (hva : va.category = 1) (kk : Wl p l e R s m args below meth c Qf G A nL cells slots M (pc + 1) lv st) : Wl p l e R s m args below meth c Qf G A nL cells slots M pc lv (va :: st) := fun H locs ls hG hS hl => lv_pop C.1 C.2.1 hdg hva (kk H locs ls hG hS hl)
theorem wl_dup2 (C : Cx p s m args meth c G A cc nL own) {va vb : Value} (hdg : decode cc pc = .ok (.dup2, 1)) (hva : va.category = 1) (hvb : vb.category = 1) (kk : Wl p l e R s m args below meth c Qf G A nL cells slots M (pc + 1) lv (va :: vb :: va :: vb :: st)) : Wl p l e R s m args below meth c Qf G A nL cells slots M pc lv (va :: vb :: st) := fun H locs ls hG hS hl => lv_dup2_11 C.1 C.2.1 hdg hva hvb (kk H locs ls hG hS hl)
theorem wl_lcmp (C : Cx p s m args meth c G A cc nL own) {x y : Int64} (hdg : decode cc pc = .ok (.lcmp, 1)) (kk : Wl p l e R s m args below meth c Qf G A nL cells slots M (pc + 1) lv (.int (lg_cmp x y) :: st)) : Wl p l e R s m args below meth c Qf G A nL cells slots M pc lv (.long y :: .long x :: st) := fun H locs ls hG hS hl => W.lcmp C.1 C.2.1 hdg (kk H locs ls hG hS hl)
theorem wl_goto (C : Cx p s m args meth c G A cc nL own) {off : Int} {tgt : Nat} (hdg : decode cc pc = .ok (.goto off, 3)) (ht : (pc : Int) + off = (tgt : Int)) (kk : Wl p l e R s m args below meth c Qf G A nL cells slots M tgt lv st) : Wl p l e R s m args below meth c Qf G A nL cells slots M pc lv st := fun H locs ls hG hS hl => lv_goto C.1 C.2.1 hdg ht (kk H locs ls hG hS hl)
theorem wl_if_eq (C : Cx p s m args meth c G A cc nL own) {x : Int32} {off : Int} {tgt : Nat} (hdg : decode cc pc = .ok (.ifCond .eq off, 3)) (ht : (pc : Int) + off = (tgt : Int)) (kt : x = 0 → Wl p l e R s m args below meth c Qf G A nL cells slots M tgt lv st) (kf : ¬ x = 0 → Wl p l e R s m args below meth c Qf G A nL cells slots M (pc + 3) lv st) : Wl p l e R s m args below meth c Qf G A nL cells slots M pc lv (.int x :: st) := fun H locs ls hG hS hl => lv_if_eq C.1 C.2.1 hdg ht (fun h => kt h H locs ls hG hS hl) (fun h => kf h H locs ls hG hS hl)
theorem wl_icmp_eq (C : Cx p s m args meth c G A cc nL own) {x y : Int32} {off : Int} {tgt : Nat} (hdg : decode cc pc = .ok (.if_icmp .eq off, 3)) (ht : (pc : Int) + off = (tgt : Int)) (kt : x = y → Wl p l e R s m args below meth c Qf G A nL cells slots M tgt lv st) (kf : ¬ x = y → Wl p l e R s m args below meth c Qf G A nL cells slots M (pc + 3) lv st) : Wl p l e R s m args below meth c Qf G A nL cells slots M pc lv (.int y :: .int x :: st) := fun H locs ls hG hS hl => lv_icmp_eq C.1 C.2.1 hdg ht (fun h => kt h H locs ls hG hS hl) (fun h => kf h H locs ls hG hS hl)
theorem wl_if_ne (C : Cx p s m args meth c G A cc nL own) {x : Int32} {off : Int} {tgt : Nat} (hdg : decode cc pc = .ok (.ifCond .ne off, 3)) (ht : (pc : Int) + off = (tgt : Int)) (kt : ¬ x = 0 → Wl p l e R s m args below meth c Qf G A nL cells slots M tgt lv st) (kf : x = 0 → Wl p l e R s m args below meth c Qf G A nL cells slots M (pc + 3) lv st) : Wl p l e R s m args below meth c Qf G A nL cells slots M pc lv (.int x :: st) := fun H locs ls hG hS hl => lv_if_ne C.1 C.2.1 hdg ht (fun h => kt h H locs ls hG hS hl) (fun h => kf h H locs ls hG hS hl)
theorem wl_icmp_ne (C : Cx p s m args meth c G A cc nL own) {x y : Int32} {off : Int} {tgt : Nat} (hdg : decode cc pc = .ok (.if_icmp .ne off, 3)) (ht : (pc : Int) + off = (tgt : Int)) (kt : ¬ x = y → Wl p l e R s m args below meth c Qf G A nL cells slots M tgt lv st) (kf : x = y → Wl p l e R s m args below meth c Qf G A nL cells slots M (pc + 3) lv st) : Wl p l e R s m args below meth c Qf G A nL cells slots M pc lv (.int y :: .int x :: st) := fun H locs ls hG hS hl => lv_icmp_ne C.1 C.2.1 hdg ht (fun h => kt h H locs ls hG hS hl) (fun h => kf h H locs ls hG hS hl)
theorem wl_if_lt (C : Cx p s m args meth c G A cc nL own) {x : Int32} {off : Int} {tgt : Nat} (hdg : decode cc pc = .ok (.ifCond .lt off, 3)) (ht : (pc : Int) + off = (tgt : Int)) (kt : x < 0 → Wl p l e R s m args below meth c Qf G A nL cells slots M tgt lv st) (kf : ¬ x < 0 → Wl p l e R s m args below meth c Qf G A nL cells slots M (pc + 3) lv st) : Wl p l e R s m args below meth c Qf G A nL cells slots M pc lv (.int x :: st) := fun H locs ls hG hS hl => lv_if_lt C.1 C.2.1 hdg ht (fun h => kt h H locs ls hG hS hl) (fun h => kf h H locs ls hG hS hl)
theorem wl_icmp_lt (C : Cx p s m args meth c G A cc nL own) {x y : Int32} {off : Int} {tgt : Nat} (hdg : decode cc pc = .ok (.if_icmp .lt off, 3)) (ht : (pc : Int) + off = (tgt : Int)) (kt : x < y → Wl p l e R s m args below meth c Qf G A nL cells slots M tgt lv st) (kf : ¬ x < y → Wl p l e R s m args below meth c Qf G A nL cells slots M (pc + 3) lv st) : Wl p l e R s m args below meth c Qf G A nL cells slots M pc lv (.int y :: .int x :: st) := fun H locs ls hG hS hl => lv_icmp_lt C.1 C.2.1 hdg ht (fun h => kt h H locs ls hG hS hl) (fun h => kf h H locs ls hG hS hl)
theorem wl_if_ge (C : Cx p s m args meth c G A cc nL own) {x : Int32} {off : Int} {tgt : Nat} (hdg : decode cc pc = .ok (.ifCond .ge off, 3)) (ht : (pc : Int) + off = (tgt : Int)) (kt : 0 ≤ x → Wl p l e R s m args below meth c Qf G A nL cells slots M tgt lv st) (kf : ¬ 0 ≤ x → Wl p l e R s m args below meth c Qf G A nL cells slots M (pc + 3) lv st) : Wl p l e R s m args below meth c Qf G A nL cells slots M pc lv (.int x :: st) := fun H locs ls hG hS hl => lv_if_ge C.1 C.2.1 hdg ht (fun h => kt h H locs ls hG hS hl) (fun h => kf h H locs ls hG hS hl)
theorem wl_icmp_ge (C : Cx p s m args meth c G A cc nL own) {x y : Int32} {off : Int} {tgt : Nat} (hdg : decode cc pc = .ok (.if_icmp .ge off, 3)) (ht : (pc : Int) + off = (tgt : Int)) (kt : y ≤ x → Wl p l e R s m args below meth c Qf G A nL cells slots M tgt lv st) (kf : ¬ y ≤ x → Wl p l e R s m args below meth c Qf G A nL cells slots M (pc + 3) lv st) : Wl p l e R s m args below meth c Qf G A nL cells slots M pc lv (.int y :: .int x :: st) := fun H locs ls hG hS hl => lv_icmp_ge C.1 C.2.1 hdg ht (fun h => kt h H locs ls hG hS hl) (fun h => kf h H locs ls hG hS hl)
theorem wl_if_gt (C : Cx p s m args meth c G A cc nL own) {x : Int32} {off : Int} {tgt : Nat} (hdg : decode cc pc = .ok (.ifCond .gt off, 3)) (ht : (pc : Int) + off = (tgt : Int)) (kt : 0 < x → Wl p l e R s m args below meth c Qf G A nL cells slots M tgt lv st) (kf : ¬ 0 < x → Wl p l e R s m args below meth c Qf G A nL cells slots M (pc + 3) lv st) : Wl p l e R s m args below meth c Qf G A nL cells slots M pc lv (.int x :: st) := fun H locs ls hG hS hl => lv_if_gt C.1 C.2.1 hdg ht (fun h => kt h H locs ls hG hS hl) (fun h => kf h H locs ls hG hS hl)
theorem wl_icmp_gt (C : Cx p s m args meth c G A cc nL own) {x y : Int32} {off : Int} {tgt : Nat} (hdg : decode cc pc = .ok (.if_icmp .gt off, 3)) (ht : (pc : Int) + off = (tgt : Int)) (kt : y < x → Wl p l e R s m args below meth c Qf G A nL cells slots M tgt lv st) (kf : ¬ y < x → Wl p l e R s m args below meth c Qf G A nL cells slots M (pc + 3) lv st) : Wl p l e R s m args below meth c Qf G A nL cells slots M pc lv (.int y :: .int x :: st) := fun H locs ls hG hS hl => lv_icmp_gt C.1 C.2.1 hdg ht (fun h => kt h H locs ls hG hS hl) (fun h => kf h H locs ls hG hS hl)
theorem wl_if_le (C : Cx p s m args meth c G A cc nL own) {x : Int32} {off : Int} {tgt : Nat} (hdg : decode cc pc = .ok (.ifCond .le off, 3)) (ht : (pc : Int) + off = (tgt : Int)) (kt : x ≤ 0 → Wl p l e R s m args below meth c Qf G A nL cells slots M tgt lv st) (kf : ¬ x ≤ 0 → Wl p l e R s m args below meth c Qf G A nL cells slots M (pc + 3) lv st) : Wl p l e R s m args below meth c Qf G A nL cells slots M pc lv (.int x :: st) := fun H locs ls hG hS hl => lv_if_le C.1 C.2.1 hdg ht (fun h => kt h H locs ls hG hS hl) (fun h => kf h H locs ls hG hS hl)
theorem wl_icmp_le (C : Cx p s m args meth c G A cc nL own) {x y : Int32} {off : Int} {tgt : Nat} (hdg : decode cc pc = .ok (.if_icmp .le off, 3)) (ht : (pc : Int) + off = (tgt : Int)) (kt : x ≤ y → Wl p l e R s m args below meth c Qf G A nL cells slots M tgt lv st) (kf : ¬ x ≤ y → Wl p l e R s m args below meth c Qf G A nL cells slots M (pc + 3) lv st) : Wl p l e R s m args below meth c Qf G A nL cells slots M pc lv (.int y :: .int x :: st) := fun H locs ls hG hS hl => lv_icmp_le C.1 C.2.1 hdg ht (fun h => kt h H locs ls hG hS hl) (fun h => kf h H locs ls hG hS hl)
theorem wl_tabOut (C : Cx p s m args meth c G A cc nL own) {dflt lo hi : Int} {offs : Array Int} {len : Nat} {x : Int32} {tgt : Nat} (hdg : decode cc pc = .ok (.tableswitch dflt lo hi offs, len)) (h : x.toInt < lo ∨ hi < x.toInt) (ht : (pc : Int) + dflt = (tgt : Int)) (kk : Wl p l e R s m args below meth c Qf G A nL cells slots M tgt lv st) : Wl p l e R s m args below meth c Qf G A nL cells slots M pc lv (.int x :: st) := fun H locs ls hG hS hl => lv_tableOut C.1 C.2.1 hdg h ht (kk H locs ls hG hS hl)
theorem wl_tabIn (C : Cx p s m args meth c G A cc nL own) {dflt lo hi : Int} {offs : Array Int} {len : Nat} {x : Int32} {off : Int} {tgt : Nat} (v : Int32) (hx : x = v) (hdg : decode cc pc = .ok (.tableswitch dflt lo hi offs, len)) (h1 : ¬ v.toInt < lo) (h2 : ¬ hi < v.toInt) (ho : offs[(v.toInt - lo).toNat]? = some off) (ht : (pc : Int) + off = (tgt : Int)) (kk : Wl p l e R s m args below meth c Qf G A nL cells slots M tgt lv st) : Wl p l e R s m args below meth c Qf G A nL cells slots M pc lv (.int x :: st) := fun H locs ls hG hS hl => lv_tableIn C.1 C.2.1 hdg (by rw [hx]; exact h1) (by rw [hx]; exact h2) (by rw [hx]; exact ho) ht (kk H locs ls hG hS hl)
theorem wl_ldc2 (C : Cx p s m args meth c G A cc nL own) {index : Nat} {v : Int64} (hc : (Cond.constantLong own index v) ∈ TB) (hdg : decode cc pc = .ok (.ldc2_w index, 3)) (kk : Wl p l e R s m args below meth c Qf G A nL cells slots M (pc + 3) lv (.long v :: st)) : Wl p l e R s m args below meth c Qf G A nL cells slots M pc lv st := fun H locs ls hG hS hl => lv_ldc2 C.1 C.2.1 C.2.2.2.1 (C.2.2.2.2.1 _ hc) hdg (kk H locs ls hG hS hl)
theorem wl_get (C : Cx p s m args meth c G A cc nL own) {ref C0 : String} {T : u_T} {N ci index : Nat} (hin : ∀ w ∈ u_ws C0 T N, w ∈ TB) (hc : vwCl[ci]? = some (C0, T, N)) {i : Nat} {fs : List Value} (hi : gI G i) (hgc : gc G M i = .inr (ci, fs)) (k : Nat) (hk : k < N) (hlink : (Cond.fieldLink own index ref (T k).2.1 (T k).2.2.1) ∈ TB) (hsame : ∀ x, s.fieldFound? (T k).1 (T k).2.1 (T k).2.2.1 = some x → s.fieldFound? ref (T k).2.1 (T k).2.2.1 = some x) {v : Value} (hv : fs[k]? = some v) (hdg : decode cc pc = .ok (.getfield index, 3)) (kk : Wl p l e R s m args below meth c Qf G A nL cells slots M (pc + 3) lv (v :: st)) : Wl p l e R s m args below meth c Qf G A nL cells slots M pc lv (.ref (gAD G i) :: st) := fun H locs ls hG hS hl => va_get (D := G.1) (cl := vwCl) (ws := gl G M) C.1 C.2.1 C.2.2.2.2.1 hin C.2.2.2.1 C.2.2.2.2.2.1.1 hG (i - G.2.2.1.1) (by rw [gl_get hi, hgc]) hc k hk (C.2.2.2.2.1 _ hlink) hsame hv hdg (kk H locs ls hG hS hl)
theorem wl_getN (C : Cx p s m args meth c G A cc nL own) {ref C0 host : String} {T : u_T} {N ci index : Nat} (hin : ∀ w ∈ u_ws C0 T N, w ∈ TB) (hc : vwCl[ci]? = some (C0, T, N)) {i : Nat} {fs : List Value} (hi : gI G i) (hgc : gc G M i = .inr (ci, fs)) (k : Nat) (hk : k < N) (hlink : (own, index, ref, (T k).2.1, (T k).2.2.1, host) ∈ nestF) (hsame : ∀ x, s.fieldFound? (T k).1 (T k).2.1 (T k).2.2.1 = some x → s.fieldFound? ref (T k).2.1 (T k).2.2.1 = some x) {v : Value} (hv : fs[k]? = some v) (hdg : decode cc pc = .ok (.getfield index, 3)) (kk : Wl p l e R s m args below meth c Qf G A nL cells slots M (pc + 3) lv (v :: st)) : Wl p l e R s m args below meth c Qf G A nL cells slots M pc lv (.ref (gAD G i) :: st) := fun H locs ls hG hS hl => va_getN (D := G.1) (cl := vwCl) (ws := gl G M) C.1 C.2.1 C.2.2.2.2.1 hin C.2.2.2.1 C.2.2.2.2.2.1.1 hG (i - G.2.2.1.1) (by rw [gl_get hi, hgc]) hc k hk (va_Nw.use rfl (C.2.2.2.2.2.1.2.1 _ hlink)) hsame hv hdg (kk H locs ls hG hS hl)
theorem wl_put (C : Cx p s m args meth c G A cc nL own) {ref C0 : String} {T : u_T} {N ci index : Nat} (hin : ∀ w ∈ u_ws C0 T N, w ∈ TB) (ty0 : Nat → FieldType) (hty : ∀ k, k < N → parseFieldDescriptor (T k).2.2.1 = some (ty0 k)) (hnm : ∀ a, a < N → ∀ b, b < N → a ≠ b → (T a).2.1 ≠ (T b).2.1) (hc : vwCl[ci]? = some (C0, T, N)) {i : Nat} {fs : List Value} (hi : gI G i) (hgc : gc G M i = .inr (ci, fs)) (k : Nat) (hk : k < N) (hlink : (Cond.fieldLink own index ref (T k).2.1 (T k).2.2.1) ∈ TB) (hsame : ∀ x, s.fieldFound? (T k).1 (T k).2.1 (T k).2.2.1 = some x → s.fieldFound? ref (T k).2.1 (T k).2.2.1 = some x) (hfin : (T k).2.2.2 = false) {ty : FieldType} {v : Value} (hd : parseFieldDescriptor (T k).2.2.1 = some ty) (hn : narrow ty v = v) (hfit : fits ty v = true) (hl0 : k < fs.length) {M' : Mem} (hM1 : gc G M' i = .inr (ci, fs.set k v)) (hM2 : ∀ j, j ≠ i → M' j = M j) (hdg : decode cc pc = .ok (.putfield index, 3)) (kk : Wl p l e R s m args below meth c Qf G A nL cells slots M' (pc + 3) lv st) : Wl p l e R s m args below meth c Qf G A nL cells slots M pc lv (v :: .ref (gAD G i) :: st) := fun H locs ls hG hS hl => va_put (D := G.1) (cl := vwCl) (ws := gl G M) (A := A) C.1 C.2.1 C.2.2.2.2.1 hin ty0 hty hnm C.2.2.2.1 C.2.2.2.2.2.1.1 hG (gl_D C.2.2.2.2.2.2.1 C.2.2.2.2.2.2.2.1) hS (i - G.2.2.1.1) (by rw [gl_get hi, hgc]) hc k hk (C.2.2.2.2.1 _ hlink) hsame hfin hd hn hfit hl0 hdg (fun H1 locs1 hP _ hS1 => kk H1 locs1 ls (by rw [gl_set hi hM1 hM2] at hP; exact hP) hS1 hl)
theorem wl_iald (C : Cx p s m args meth c G A cc nL own) {i n : Nat} {f : Nat → Int32} (hi : gI G i) (hgc : gc G M i = .inl (G.2.2.2.1, n, .inl f)) {j : Int32} (hin : vp_in j n) (hdg : decode cc pc = .ok (.iaload, 1)) (kk : Wl p l e R s m args below meth c Qf G A nL cells slots M (pc + 1) lv (.int (f j.toNatClampNeg) :: st)) : Wl p l e R s m args below meth c Qf G A nL cells slots M pc lv (.int j :: .ref (gAD G i) :: st) := fun H locs ls hG hS hl => va_iald (D := G.1) (cl := vwCl) (ws := gl G M) C.1 C.2.1 C.2.2.2.2.2.1.1 hG (i - G.2.2.1.1) 0 (by rw [gl_get hi, hgc]) rfl hin hdg (kk H locs ls hG hS hl)
theorem wl_lald (C : Cx p s m args meth c G A cc nL own) {i n : Nat} {f : Nat → Int64} (hi : gI G i) (hgc : gc G M i = .inl (G.2.2.2.2, n, .inr (.inl f))) {j : Int32} (hin : vp_in j n) (hdg : decode cc pc = .ok (.laload, 1)) (kk : Wl p l e R s m args below meth c Qf G A nL cells slots M (pc + 1) lv (.long (f j.toNatClampNeg) :: st)) : Wl p l e R s m args below meth c Qf G A nL cells slots M pc lv (.int j :: .ref (gAD G i) :: st) := fun H locs ls hG hS hl => va_lald (D := G.1) (cl := vwCl) (ws := gl G M) C.1 C.2.1 C.2.2.2.2.2.1.1 hG (i - G.2.2.1.1) 1 (by rw [gl_get hi, hgc]) rfl hin hdg (kk H locs ls hG hS hl)
theorem wl_iast (C : Cx p s m args meth c G A cc nL own) {i n : Nat} (hi : gI G i) {f : Nat → Int32} (hgc : gc G M i = .inl (G.2.2.2.1, n, .inl f)) {j x : Int32} (hin : vp_in j n) {M' : Mem} (hM1 : gc G M' i = .inl (G.2.2.2.1, n, .inl (upd f j.toNatClampNeg x))) (hM2 : ∀ j, j ≠ i → M' j = M j) (hdg : decode cc pc = .ok (.iastore, 1)) (kk : Wl p l e R s m args below meth c Qf G A nL cells slots M' (pc + 1) lv st) : Wl p l e R s m args below meth c Qf G A nL cells slots M pc lv (.int x :: .int j :: .ref (gAD G i) :: st) := fun H locs ls hG hS hl => va_iast (D := G.1) (cl := vwCl) (ws := gl G M) (A := A) C.1 C.2.1 C.2.2.2.2.2.1.1 hG (gl_D C.2.2.2.2.2.2.1 C.2.2.2.2.2.2.2.1) hS (i - G.2.2.1.1) 0 (by rw [gl_get hi, hgc]) rfl hin hdg (fun H1 locs1 hP _ hS1 => kk H1 locs1 ls (by rw [gl_set hi hM1 hM2] at hP; exact hP) hS1 hl)
theorem wl_last (C : Cx p s m args meth c G A cc nL own) {i n : Nat} (hi : gI G i) {f : Nat → Int64} (hgc : gc G M i = .inl (G.2.2.2.2, n, .inr (.inl f))) {j : Int32} {x : Int64} (hin : vp_in j n) {M' : Mem} (hM1 : gc G M' i = .inl (G.2.2.2.2, n, .inr (.inl (vp_updL f j.toNatClampNeg x)))) (hM2 : ∀ j, j ≠ i → M' j = M j) (hdg : decode cc pc = .ok (.lastore, 1)) (kk : Wl p l e R s m args below meth c Qf G A nL cells slots M' (pc + 1) lv st) : Wl p l e R s m args below meth c Qf G A nL cells slots M pc lv (.long x :: .int j :: .ref (gAD G i) :: st) := fun H locs ls hG hS hl => va_last (D := G.1) (cl := vwCl) (ws := gl G M) (A := A) C.1 C.2.1 C.2.2.2.2.2.1.1 hG (gl_D C.2.2.2.2.2.2.1 C.2.2.2.2.2.2.2.1) hS (i - G.2.2.1.1) 1 (by rw [gl_get hi, hgc]) rfl hin hdg (fun H1 locs1 hP _ hS1 => kk H1 locs1 ls (by rw [gl_set hi hM1 hM2] at hP; exact hP) hS1 hl)
theorem wl_alen (C : Cx p s m args meth c G A cc nL own) {i : Nat} {x : vp_A} (hi : gI G i) (hgc : gc G M i = .inl (G.2.2.2.1, x)) {v : Int32} (hv : Int32.ofNat x.1 = v) (hdg : decode cc pc = .ok (.arraylength, 1)) (kk : Wl p l e R s m args below meth c Qf G A nL cells slots M (pc + 1) lv (.int v :: st)) : Wl p l e R s m args below meth c Qf G A nL cells slots M pc lv (.ref (gAD G i) :: st) := fun H locs ls hG hS hl => va_alen (D := G.1) (cl := vwCl) (ws := gl G M) C.1 C.2.1 C.2.2.2.2.2.1.1 hG (i - G.2.2.1.1) 0 (by rw [gl_get hi, hgc]) rfl hv hdg (kk H locs ls hG hS hl)
theorem wl_mmin (C : Cx p s m args meth c G A cc nL own) {index : Nat} (hlink : (Cond.methodLink own index yJ9_min_7cf53) ∈ TB) (h1 : Cond.static yJ9_min_7cf53 ∈ TB) (h2 : Cond.initialized "java/lang/Math" ∈ TB) (h3 : Cond.code yJ9_min_7cf53 cJ9_min_7cf53 2 (some .int) ∈ TB) (hframes : 1 ≤ R.frames) (hlocals : (st.map fun v => v.category).sum + 13 ≤ R.locals) (hc : cells ≤ R.cells) (hs : slots ≤ R.slots) {x y : Int32} (hdg : decode cc pc = .ok (.invokestatic index, 3)) (kk : Wl p l e R s m args below meth c Qf G A nL cells slots M (pc + 3) lv (.int (if y < x then y else x) :: st)) : Wl p l e R s m args below meth c Qf G A nL cells slots M pc lv (.int y :: .int x :: st) := fun H locs ls hG hS hl => va_mmin C.1 C.2.1 (by rw [C.2.2.1]; exact hl.1.symm) C.2.2.2.1 (C.2.2.2.2.1 _ hlink) (C.2.2.2.2.1 _ h1) (C.2.2.2.2.1 _ h2) (C.2.2.2.2.1 _ h3) hframes hlocals hc hs hdg (kk H locs ls hG hS hl)
theorem wl_iret (C : Cx p s m args meth c G A cc nL own) (hr : meth.sig.returnType = some .int) {Q : Int32 → Mem → Prop} {v : Int32} (hQ : Q v M) (hdg : decode cc pc = .ok (.ireturn, 1)) : Wl p l e R s m args below meth c (MQ below (va_Qi Q (gB G) A) args s cells slots A) G A nL cells slots M pc lv [.int v] := fun H locs ls hG hS hl => W.iret C.1 C.2.1 hr (fun t ht hW => ⟨⟨v, M, rfl, hQ, by show GW G M t.heap; rw [ht]; exact hG⟩, hS.F ht⟩) hS.2.2 hdg C.2.2.2.2.2.2.2.2
theorem wl_zret (C : Cx p s m args meth c G A cc nL own) (hr : meth.sig.returnType = some .boolean) {Q : Int32 → Mem → Prop} {v : Int32} (hv : v = 0 ∨ v = 1) (hQ : Q v M) (hdg : decode cc pc = .ok (.ireturn, 1)) : Wl p l e R s m args below meth c (MQ below (va_Qi Q (gB G) A) args s cells slots A) G A nL cells slots M pc lv [.int v] := fun H locs ls hG hS hl => W.zret C.1 C.2.1 hr (by rcases hv with rfl | rfl <;> rfl) (fun t ht hW => ⟨⟨v, M, rfl, hQ, by show GW G M t.heap; rw [ht]; exact hG⟩, hS.F ht⟩) hS.2.2 hdg C.2.2.2.2.2.2.2.2
theorem wl_lret (C : Cx p s m args meth c G A cc nL own) (hr : meth.sig.returnType = some .long) {Q : Int64 → Mem → Prop} {v : Int64} (hQ : Q v M) (hdg : decode cc pc = .ok (.lreturn, 1)) : Wl p l e R s m args below meth c (MQ below (va_Ql Q (gB G) A) args s cells slots A) G A nL cells slots M pc lv [.long v] := fun H locs ls hG hS hl => W.lret C.1 C.2.1 hr (fun t ht hW => ⟨⟨v, M, rfl, hQ, by show GW G M t.heap; rw [ht]; exact hG⟩, hS.F ht⟩) hS.2.2 hdg C.2.2.2.2.2.2.2.2
theorem wl_vret (C : Cx p s m args meth c G A cc nL own) (hr : meth.sig.returnType = none) {Q : Mem → Prop} (hQ : Q M) (hdg : decode cc pc = .ok (.return_, 1)) : Wl p l e R s m args below meth c (MQ below (va_Qv Q (gB G) A) args s cells slots A) G A nL cells slots M pc lv [] := fun H locs ls hG hS hl => W.vret C.1 C.2.1 hr (fun t ht hW => ⟨⟨M, rfl, hQ, by show GW G M t.heap; rw [ht]; exact hG⟩, hS.F ht⟩) hS.2.2 hdg C.2.2.2.2.2.2.2.2
theorem wl_aret (C : Cx p s m args meth c G A cc nL own) {cn : String} (hr : meth.sig.returnType = some (.object cn)) {Q : Nat → Mem → Prop} {i : Nat} (hQ : Q i M) (hdg : decode cc pc = .ok (.areturn, 1)) : Wl p l e R s m args below meth c (MQ below (va_Qr (fun u : Nat × Mem => Q u.1 u.2) (fun u a t => a = gAD G u.1 ∧ GW G u.2 t.heap) A) args s cells slots A) G A nL cells slots M pc lv [.ref (gAD G i)] := fun H locs ls hG hS hl => W.aret C.1 C.2.1 hr (Or.inl ⟨cn, rfl⟩) (Or.inr ⟨_, rfl⟩) (fun t ht hW => ⟨⟨(i, M), gAD G i, rfl, hQ, rfl, by show GW G M t.heap; rw [ht]; exact hG⟩, hS.F ht⟩) hS.2.2 hdg C.2.2.2.2.2.2.2.2
theorem g_callV {own : String} {index : Nat} {C0 : String} {y : MethodName} {w0 : Cond} (h : ∀ w ∈ wsV own index C0 y (w0 :: []), w ∈ TB) : GoodIn TB (wsV own index C0 y (w0 :: TB)) := g_goodW fun w hw => by
  unfold wsV at h hw
  rcases List.mem_append.mp hw with hw | hw
  · exact h w (List.mem_append_left _ hw)
  · rcases List.mem_cons.mp hw with rfl | hw
    · exact h _ (List.mem_append_right _ List.mem_cons_self)
    · exact hw
theorem g_callS {own : String} {index : Nat} {y : MethodName} {w0 : Cond} (h : ∀ w ∈ va_wsS own index y (w0 :: []), w ∈ TB) : GoodIn TB (va_wsS own index y (w0 :: TB)) := g_goodW fun w hw => by
  unfold va_wsS at h hw
  rcases List.mem_append.mp hw with hw | hw
  · exact h w (List.mem_append_left _ hw)
  · rcases List.mem_cons.mp hw with rfl | hw
    · exact h _ (List.mem_append_right _ List.mem_cons_self)
    · exact hw
theorem wl_callVi (C : Cx p s m args meth c G A cc nL own) {y : MethodName} {bytes : ByteArray} {maxL index n : Nat} {rt : Option FieldType} {rm : Room} {As rest : List Value} {pre : Prop} {Q : Int32 → Mem → Prop} {i : Nat} {C0 : String} {ci : Nat} {fs : List Value} {T : u_T} {N : Nat} (hM : Met l y (Cond.code y bytes maxL rt :: TB) rm (va_Pc (.ref (gAD G i) :: As) (fun U => gS G M U ∧ pre)) (va_Qi Q (gB G) (gA G)) 0 0 (gA G)) (hpre : pre) (hws : ∀ w ∈ wsV own index C0 y (Cond.code y bytes maxL rt :: []), w ∈ TB) (hd : y.cls = C0 ∧ y.cls ≠ "java/lang/invoke/MethodHandle" ∧ y.cls ≠ "java/lang/invoke/VarHandle" ∧ (parseMethodDescriptor y.desc).map (fun d => d.parameters.length) = some n) (hrm : rm.cells = 0 ∧ rm.slots = 0) (hR : rm.frames + 1 ≤ R.frames ∧ 8 + (maxL + 11) + rm.locals ≤ R.locals) (hi : gI G i) (hgc : gc G M i = .inr (ci, fs)) (hcl : vwCl[ci]? = some (C0, T, N)) (hn : As.length = n) (hcat : (rest.map fun v => v.category).sum ≤ 8) (hf : cells ≤ R.cells ∧ slots ≤ R.slots) (hst : st = As.reverse ++ .ref (gAD G i) :: rest) (hdg : decode cc pc = .ok (.invokevirtual index, 3)) (kk : ∀ (r : Int32) (M1 : Mem), Q r M1 → Wl p l e R s m args below meth c Qf G A nL cells slots M1 (pc + 3) lv (.int r :: rest)) : Wl p l e R s m args below meth c Qf G A nL cells slots M pc lv st := by
  intro H locs ls hG hS hl
  subst hst
  exact va_calli (A0 := A) (A1 := gA G) (mc := 0) (ms := 0) (free := gA G) (va_runV (As := As) (rest := rest) ⟨C.1, C.2.1, C.2.2.1, C.2.2.2.1, C.2.2.2.2.1⟩ hM (cwV n C.2.2.2.2.1 (g_callV hws) rfl hrm.1 hrm.2 hd hR) ⟨fun a U g mk q => ⟨q.1, ⟨gKK.same (u := U) (U := U.calling g mk a) rfl q.2.1.1, q.2.1.2⟩, q.2.2⟩, va_recv (D := G.1) (cl := vwCl) (ws := gl G M) (q0 := i - G.2.2.1.1) C.2.2.2.2.2.1.1 hG hcl (by rw [gl_get hi, hgc]), fun U hU hW => ⟨rfl, ⟨gKK.warm hW C.2.2.2.2.2.1, by rw [hU]; exact hG⟩, hpre⟩⟩ rfl hn hl.1 rfl (lv_room hcat) hdg hf) hS (fun q _ h => C.2.2.2.2.2.2.2.1 q h) C.2.2.2.2.2.2.2.1 (fun r u t H1 locs1 ht _ hw hB _ _ hS1 => kk r u hw H1 locs1 ls (by rw [← ht]; exact hB) hS1 hl)
theorem wl_callVl (C : Cx p s m args meth c G A cc nL own) {y : MethodName} {bytes : ByteArray} {maxL index n : Nat} {rt : Option FieldType} {rm : Room} {As rest : List Value} {pre : Prop} {Q : Int64 → Mem → Prop} {i : Nat} {C0 : String} {ci : Nat} {fs : List Value} {T : u_T} {N : Nat} (hM : Met l y (Cond.code y bytes maxL rt :: TB) rm (va_Pc (.ref (gAD G i) :: As) (fun U => gS G M U ∧ pre)) (va_Ql Q (gB G) (gA G)) 0 0 (gA G)) (hpre : pre) (hws : ∀ w ∈ wsV own index C0 y (Cond.code y bytes maxL rt :: []), w ∈ TB) (hd : y.cls = C0 ∧ y.cls ≠ "java/lang/invoke/MethodHandle" ∧ y.cls ≠ "java/lang/invoke/VarHandle" ∧ (parseMethodDescriptor y.desc).map (fun d => d.parameters.length) = some n) (hrm : rm.cells = 0 ∧ rm.slots = 0) (hR : rm.frames + 1 ≤ R.frames ∧ 8 + (maxL + 11) + rm.locals ≤ R.locals) (hi : gI G i) (hgc : gc G M i = .inr (ci, fs)) (hcl : vwCl[ci]? = some (C0, T, N)) (hn : As.length = n) (hcat : (rest.map fun v => v.category).sum ≤ 8) (hf : cells ≤ R.cells ∧ slots ≤ R.slots) (hst : st = As.reverse ++ .ref (gAD G i) :: rest) (hdg : decode cc pc = .ok (.invokevirtual index, 3)) (kk : ∀ (r : Int64) (M1 : Mem), Q r M1 → Wl p l e R s m args below meth c Qf G A nL cells slots M1 (pc + 3) lv (.long r :: rest)) : Wl p l e R s m args below meth c Qf G A nL cells slots M pc lv st := by
  intro H locs ls hG hS hl
  subst hst
  exact va_calll (A0 := A) (A1 := gA G) (mc := 0) (ms := 0) (free := gA G) (va_runV (As := As) (rest := rest) ⟨C.1, C.2.1, C.2.2.1, C.2.2.2.1, C.2.2.2.2.1⟩ hM (cwV n C.2.2.2.2.1 (g_callV hws) rfl hrm.1 hrm.2 hd hR) ⟨fun a U g mk q => ⟨q.1, ⟨gKK.same (u := U) (U := U.calling g mk a) rfl q.2.1.1, q.2.1.2⟩, q.2.2⟩, va_recv (D := G.1) (cl := vwCl) (ws := gl G M) (q0 := i - G.2.2.1.1) C.2.2.2.2.2.1.1 hG hcl (by rw [gl_get hi, hgc]), fun U hU hW => ⟨rfl, ⟨gKK.warm hW C.2.2.2.2.2.1, by rw [hU]; exact hG⟩, hpre⟩⟩ rfl hn hl.1 rfl (lv_room hcat) hdg hf) hS (fun q _ h => C.2.2.2.2.2.2.2.1 q h) C.2.2.2.2.2.2.2.1 (fun r u t H1 locs1 ht _ hw hB _ _ hS1 => kk r u hw H1 locs1 ls (by rw [← ht]; exact hB) hS1 hl)
theorem wl_callVv (C : Cx p s m args meth c G A cc nL own) {y : MethodName} {bytes : ByteArray} {maxL index n : Nat} {rt : Option FieldType} {rm : Room} {As rest : List Value} {pre : Prop} {Q : Mem → Prop} {i : Nat} {C0 : String} {ci : Nat} {fs : List Value} {T : u_T} {N : Nat} (hM : Met l y (Cond.code y bytes maxL rt :: TB) rm (va_Pc (.ref (gAD G i) :: As) (fun U => gS G M U ∧ pre)) (va_Qv Q (gB G) (gA G)) 0 0 (gA G)) (hpre : pre) (hws : ∀ w ∈ wsV own index C0 y (Cond.code y bytes maxL rt :: []), w ∈ TB) (hd : y.cls = C0 ∧ y.cls ≠ "java/lang/invoke/MethodHandle" ∧ y.cls ≠ "java/lang/invoke/VarHandle" ∧ (parseMethodDescriptor y.desc).map (fun d => d.parameters.length) = some n) (hrm : rm.cells = 0 ∧ rm.slots = 0) (hR : rm.frames + 1 ≤ R.frames ∧ 8 + (maxL + 11) + rm.locals ≤ R.locals) (hi : gI G i) (hgc : gc G M i = .inr (ci, fs)) (hcl : vwCl[ci]? = some (C0, T, N)) (hn : As.length = n) (hcat : (rest.map fun v => v.category).sum ≤ 8) (hf : cells ≤ R.cells ∧ slots ≤ R.slots) (hst : st = As.reverse ++ .ref (gAD G i) :: rest) (hdg : decode cc pc = .ok (.invokevirtual index, 3)) (kk : ∀ (M1 : Mem), Q M1 → Wl p l e R s m args below meth c Qf G A nL cells slots M1 (pc + 3) lv rest) : Wl p l e R s m args below meth c Qf G A nL cells slots M pc lv st := by
  intro H locs ls hG hS hl
  subst hst
  exact va_callv (A0 := A) (A1 := gA G) (mc := 0) (ms := 0) (free := gA G) (va_runV (As := As) (rest := rest) ⟨C.1, C.2.1, C.2.2.1, C.2.2.2.1, C.2.2.2.2.1⟩ hM (cwV n C.2.2.2.2.1 (g_callV hws) rfl hrm.1 hrm.2 hd hR) ⟨fun a U g mk q => ⟨q.1, ⟨gKK.same (u := U) (U := U.calling g mk a) rfl q.2.1.1, q.2.1.2⟩, q.2.2⟩, va_recv (D := G.1) (cl := vwCl) (ws := gl G M) (q0 := i - G.2.2.1.1) C.2.2.2.2.2.1.1 hG hcl (by rw [gl_get hi, hgc]), fun U hU hW => ⟨rfl, ⟨gKK.warm hW C.2.2.2.2.2.1, by rw [hU]; exact hG⟩, hpre⟩⟩ rfl hn hl.1 rfl (lv_room hcat) hdg hf) hS (fun q _ h => C.2.2.2.2.2.2.2.1 q h) C.2.2.2.2.2.2.2.1 (fun u t H1 locs1 ht _ hw hB _ _ hS1 => kk u hw H1 locs1 ls (by rw [← ht]; exact hB) hS1 hl)
theorem wl_callVr (C : Cx p s m args meth c G A cc nL own) {y : MethodName} {bytes : ByteArray} {maxL index n : Nat} {rt : Option FieldType} {rm : Room} {As rest : List Value} {pre : Prop} {Q : Nat → Mem → Prop} {i : Nat} {C0 : String} {ci : Nat} {fs : List Value} {T : u_T} {N : Nat} (hM : Met l y (Cond.code y bytes maxL rt :: TB) rm (va_Pc (.ref (gAD G i) :: As) (fun U => gS G M U ∧ pre)) (va_Qr (fun u : Nat × Mem => Q u.1 u.2) (fun u a t => a = gAD G u.1 ∧ GW G u.2 t.heap) (gA G)) 0 0 (gA G)) (hpre : pre) (hws : ∀ w ∈ wsV own index C0 y (Cond.code y bytes maxL rt :: []), w ∈ TB) (hd : y.cls = C0 ∧ y.cls ≠ "java/lang/invoke/MethodHandle" ∧ y.cls ≠ "java/lang/invoke/VarHandle" ∧ (parseMethodDescriptor y.desc).map (fun d => d.parameters.length) = some n) (hrm : rm.cells = 0 ∧ rm.slots = 0) (hR : rm.frames + 1 ≤ R.frames ∧ 8 + (maxL + 11) + rm.locals ≤ R.locals) (hi : gI G i) (hgc : gc G M i = .inr (ci, fs)) (hcl : vwCl[ci]? = some (C0, T, N)) (hn : As.length = n) (hcat : (rest.map fun v => v.category).sum ≤ 8) (hf : cells ≤ R.cells ∧ slots ≤ R.slots) (hst : st = As.reverse ++ .ref (gAD G i) :: rest) (hdg : decode cc pc = .ok (.invokevirtual index, 3)) (kk : ∀ (r : Nat) (M1 : Mem), Q r M1 → Wl p l e R s m args below meth c Qf G A nL cells slots M1 (pc + 3) lv (.ref (gAD G r) :: rest)) : Wl p l e R s m args below meth c Qf G A nL cells slots M pc lv st := by
  intro H locs ls hG hS hl
  subst hst
  exact va_callr (A0 := A) (A1 := gA G) (mc := 0) (ms := 0) (free := gA G) (va_runV (As := As) (rest := rest) ⟨C.1, C.2.1, C.2.2.1, C.2.2.2.1, C.2.2.2.2.1⟩ hM (cwV n C.2.2.2.2.1 (g_callV hws) rfl hrm.1 hrm.2 hd hR) ⟨fun a U g mk q => ⟨q.1, ⟨gKK.same (u := U) (U := U.calling g mk a) rfl q.2.1.1, q.2.1.2⟩, q.2.2⟩, va_recv (D := G.1) (cl := vwCl) (ws := gl G M) (q0 := i - G.2.2.1.1) C.2.2.2.2.2.1.1 hG hcl (by rw [gl_get hi, hgc]), fun U hU hW => ⟨rfl, ⟨gKK.warm hW C.2.2.2.2.2.1, by rw [hU]; exact hG⟩, hpre⟩⟩ rfl hn hl.1 rfl (lv_room hcat) hdg hf) hS (fun q _ h => C.2.2.2.2.2.2.2.1 q h) C.2.2.2.2.2.2.2.1 (fun u ra t H1 locs1 ht _ hw hB _ _ hS1 => by obtain ⟨hb1, hb2⟩ := hB; subst hb1; exact kk u.1 u.2 hw H1 locs1 ls (by rw [← ht]; exact hb2) hS1 hl)
theorem wl_callSi (C : Cx p s m args meth c G A cc nL own) {y : MethodName} {bytes : ByteArray} {maxL index n : Nat} {rt : Option FieldType} {rm : Room} {As rest : List Value} {pre : Prop} {Q : Int32 → Mem → Prop} (hM : Met l y (Cond.code y bytes maxL rt :: TB) rm (va_Pc As (fun U => gS G M U ∧ pre)) (va_Qi Q (gB G) (gA G)) 0 0 (gA G)) (hpre : pre) (hws : ∀ w ∈ va_wsS own index y (Cond.code y bytes maxL rt :: []), w ∈ TB) (hd : y.cls ≠ "java/lang/invoke/MethodHandle" ∧ y.cls ≠ "java/lang/invoke/VarHandle" ∧ (parseMethodDescriptor y.desc).map (fun d => d.parameters.length) = some n) (hrm : rm.cells = 0 ∧ rm.slots = 0) (hR : rm.frames + 1 ≤ R.frames ∧ 8 + (maxL + 11) + rm.locals ≤ R.locals) (hn : As.length = n) (hcat : (rest.map fun v => v.category).sum ≤ 8) (hf : cells ≤ R.cells ∧ slots ≤ R.slots) (hst : st = As.reverse ++ rest) (hdg : decode cc pc = .ok (.invokestatic index, 3)) (kk : ∀ (r : Int32) (M1 : Mem), Q r M1 → Wl p l e R s m args below meth c Qf G A nL cells slots M1 (pc + 3) lv (.int r :: rest)) : Wl p l e R s m args below meth c Qf G A nL cells slots M pc lv st := by
  intro H locs ls hG hS hl
  subst hst
  exact va_calli (A0 := A) (A1 := gA G) (mc := 0) (ms := 0) (free := gA G) (va_runS (As := As) (rest := rest) ⟨C.1, C.2.1, C.2.2.1, C.2.2.2.1, C.2.2.2.2.1⟩ hM (va_cwS n C.2.2.2.2.1 (g_callS hws) rfl hrm.1 hrm.2 hd hR) ⟨fun a U g mk q => ⟨q.1, ⟨gKK.same (u := U) (U := U.calling g mk a) rfl q.2.1.1, q.2.1.2⟩, q.2.2⟩, fun U hU hW => ⟨rfl, ⟨gKK.warm hW C.2.2.2.2.2.1, by rw [hU]; exact hG⟩, hpre⟩⟩ rfl hn hl.1 rfl (lv_room hcat) hdg hf) hS (fun q _ h => C.2.2.2.2.2.2.2.1 q h) C.2.2.2.2.2.2.2.1 (fun r u t H1 locs1 ht _ hw hB _ _ hS1 => kk r u hw H1 locs1 ls (by rw [← ht]; exact hB) hS1 hl)
theorem wl_callSl (C : Cx p s m args meth c G A cc nL own) {y : MethodName} {bytes : ByteArray} {maxL index n : Nat} {rt : Option FieldType} {rm : Room} {As rest : List Value} {pre : Prop} {Q : Int64 → Mem → Prop} (hM : Met l y (Cond.code y bytes maxL rt :: TB) rm (va_Pc As (fun U => gS G M U ∧ pre)) (va_Ql Q (gB G) (gA G)) 0 0 (gA G)) (hpre : pre) (hws : ∀ w ∈ va_wsS own index y (Cond.code y bytes maxL rt :: []), w ∈ TB) (hd : y.cls ≠ "java/lang/invoke/MethodHandle" ∧ y.cls ≠ "java/lang/invoke/VarHandle" ∧ (parseMethodDescriptor y.desc).map (fun d => d.parameters.length) = some n) (hrm : rm.cells = 0 ∧ rm.slots = 0) (hR : rm.frames + 1 ≤ R.frames ∧ 8 + (maxL + 11) + rm.locals ≤ R.locals) (hn : As.length = n) (hcat : (rest.map fun v => v.category).sum ≤ 8) (hf : cells ≤ R.cells ∧ slots ≤ R.slots) (hst : st = As.reverse ++ rest) (hdg : decode cc pc = .ok (.invokestatic index, 3)) (kk : ∀ (r : Int64) (M1 : Mem), Q r M1 → Wl p l e R s m args below meth c Qf G A nL cells slots M1 (pc + 3) lv (.long r :: rest)) : Wl p l e R s m args below meth c Qf G A nL cells slots M pc lv st := by
  intro H locs ls hG hS hl
  subst hst
  exact va_calll (A0 := A) (A1 := gA G) (mc := 0) (ms := 0) (free := gA G) (va_runS (As := As) (rest := rest) ⟨C.1, C.2.1, C.2.2.1, C.2.2.2.1, C.2.2.2.2.1⟩ hM (va_cwS n C.2.2.2.2.1 (g_callS hws) rfl hrm.1 hrm.2 hd hR) ⟨fun a U g mk q => ⟨q.1, ⟨gKK.same (u := U) (U := U.calling g mk a) rfl q.2.1.1, q.2.1.2⟩, q.2.2⟩, fun U hU hW => ⟨rfl, ⟨gKK.warm hW C.2.2.2.2.2.1, by rw [hU]; exact hG⟩, hpre⟩⟩ rfl hn hl.1 rfl (lv_room hcat) hdg hf) hS (fun q _ h => C.2.2.2.2.2.2.2.1 q h) C.2.2.2.2.2.2.2.1 (fun r u t H1 locs1 ht _ hw hB _ _ hS1 => kk r u hw H1 locs1 ls (by rw [← ht]; exact hB) hS1 hl)
theorem wl_callNi (C : Cx p s m args meth c G A cc nL own) {y : MethodName} {bytes : ByteArray} {maxL index n : Nat} {rt : Option FieldType} {rm : Room} {As rest : List Value} {pre : Prop} {Q : Int32 → Mem → Prop} {host : String} (hM : Met l y (Cond.code y bytes maxL rt :: TB) rm (va_Pc As (fun U => gS G M U ∧ pre)) (va_Qi Q (gB G) (gA G)) 0 0 (gA G)) (hpre : pre) (hnest : (own, index, y, host) ∈ nestM) (hws : Cond.code y bytes maxL rt ∈ TB) (hws2 : Cond.initialized y.cls ∈ TB) (hws3 : Cond.static y ∈ TB) (hd : y.cls ≠ "java/lang/invoke/MethodHandle" ∧ y.cls ≠ "java/lang/invoke/VarHandle" ∧ (parseMethodDescriptor y.desc).map (fun d => d.parameters.length) = some n) (hrm : rm.cells = 0 ∧ rm.slots = 0) (hR : rm.frames + 1 ≤ R.frames ∧ 8 + (maxL + 11) + rm.locals ≤ R.locals) (hn : As.length = n) (hcat : (rest.map fun v => v.category).sum ≤ 8) (hf : cells ≤ R.cells ∧ slots ≤ R.slots) (hst : st = As.reverse ++ rest) (hdg : decode cc pc = .ok (.invokestatic index, 3)) (kk : ∀ (r : Int32) (M1 : Mem), Q r M1 → Wl p l e R s m args below meth c Qf G A nL cells slots M1 (pc + 3) lv (.int r :: rest)) : Wl p l e R s m args below meth c Qf G A nL cells slots M pc lv st := by
  intro H locs ls hG hS hl
  subst hst
  exact va_calli (A0 := A) (A1 := gA G) (mc := 0) (ms := 0) (free := gA G) (va_runSN (As := As) (rest := rest) ⟨C.1, C.2.1, C.2.2.1, C.2.2.2.1, C.2.2.2.2.1⟩ hM ⟨va_cnB n C.2.2.2.2.1 (g_good y bytes maxL rt hws) rfl hrm.1 hrm.2 (C.2.2.2.2.2.1.2.2 _ hnest) (C.2.2.2.2.1 _ hws2) hd hR, C.2.2.2.2.1 _ hws3, trivial⟩ ⟨fun a U g mk q => ⟨q.1, ⟨gKK.same (u := U) (U := U.calling g mk a) rfl q.2.1.1, q.2.1.2⟩, q.2.2⟩, fun U hU hW => ⟨rfl, ⟨gKK.warm hW C.2.2.2.2.2.1, by rw [hU]; exact hG⟩, hpre⟩⟩ rfl hn hl.1 rfl (lv_room hcat) hdg hf) hS (fun q _ h => C.2.2.2.2.2.2.2.1 q h) C.2.2.2.2.2.2.2.1 (fun r u t H1 locs1 ht _ hw hB _ _ hS1 => kk r u hw H1 locs1 ls (by rw [← ht]; exact hB) hS1 hl)
end WL
end
section
def gCl (G : gP) : Prop := ∀ i, i < 79 → gI G i
def gRf (G : gP) : Prop := ∀ i, 79 ≤ i → i < 106 → gI G i
theorem kd_big {i : Nat} (h : 106 ≤ i) : kd i = 12 := by
  unfold kd
  rw [List.getD_eq_getElem?_getD, List.getElem?_eq_none (by have : kdL.length = 106 := rfl; omega)]
  rfl
theorem kc_0 {i : Nat} (h : kd i = 0) : i < 79 := by
  by_cases hi : i < 106
  · have : ∀ j, j < 106 → kd j = 0 → j < 79 := by decide +kernel
    exact this i hi h
  · rw [kd_big (by omega)] at h; exact absurd h (by decide)
theorem gic_0 {G : gP} (hA : gCl G) {i : Nat} (h : kd i = 0) : gI G i := hA i (kc_0 h)
theorem kc_1 {i : Nat} (h : kd i = 1) : i < 79 := by
  by_cases hi : i < 106
  · have : ∀ j, j < 106 → kd j = 1 → j < 79 := by decide +kernel
    exact this i hi h
  · rw [kd_big (by omega)] at h; exact absurd h (by decide)
theorem gic_1 {G : gP} (hA : gCl G) {i : Nat} (h : kd i = 1) : gI G i := hA i (kc_1 h)
theorem kc_2 {i : Nat} (h : kd i = 2) : i < 79 := by
  by_cases hi : i < 106
  · have : ∀ j, j < 106 → kd j = 2 → j < 79 := by decide +kernel
    exact this i hi h
  · rw [kd_big (by omega)] at h; exact absurd h (by decide)
theorem gic_2 {G : gP} (hA : gCl G) {i : Nat} (h : kd i = 2) : gI G i := hA i (kc_2 h)
theorem kc_3 {i : Nat} (h : kd i = 3) : i < 79 := by
  by_cases hi : i < 106
  · have : ∀ j, j < 106 → kd j = 3 → j < 79 := by decide +kernel
    exact this i hi h
  · rw [kd_big (by omega)] at h; exact absurd h (by decide)
theorem gic_3 {G : gP} (hA : gCl G) {i : Nat} (h : kd i = 3) : gI G i := hA i (kc_3 h)
theorem kc_4 {i : Nat} (h : kd i = 4) : i < 79 := by
  by_cases hi : i < 106
  · have : ∀ j, j < 106 → kd j = 4 → j < 79 := by decide +kernel
    exact this i hi h
  · rw [kd_big (by omega)] at h; exact absurd h (by decide)
theorem gic_4 {G : gP} (hA : gCl G) {i : Nat} (h : kd i = 4) : gI G i := hA i (kc_4 h)
theorem kc_5 {i : Nat} (h : kd i = 5) : i < 79 := by
  by_cases hi : i < 106
  · have : ∀ j, j < 106 → kd j = 5 → j < 79 := by decide +kernel
    exact this i hi h
  · rw [kd_big (by omega)] at h; exact absurd h (by decide)
theorem gic_5 {G : gP} (hA : gCl G) {i : Nat} (h : kd i = 5) : gI G i := hA i (kc_5 h)
theorem kc_6 {i : Nat} (h : kd i = 6) : i < 79 := by
  by_cases hi : i < 106
  · have : ∀ j, j < 106 → kd j = 6 → j < 79 := by decide +kernel
    exact this i hi h
  · rw [kd_big (by omega)] at h; exact absurd h (by decide)
theorem gic_6 {G : gP} (hA : gCl G) {i : Nat} (h : kd i = 6) : gI G i := hA i (kc_6 h)
theorem kc_7 {i : Nat} (h : kd i = 7) : i < 79 := by
  by_cases hi : i < 106
  · have : ∀ j, j < 106 → kd j = 7 → j < 79 := by decide +kernel
    exact this i hi h
  · rw [kd_big (by omega)] at h; exact absurd h (by decide)
theorem gic_7 {G : gP} (hA : gCl G) {i : Nat} (h : kd i = 7) : gI G i := hA i (kc_7 h)
theorem kc_9 {i : Nat} (h : kd i = 9) : i < 79 := by
  by_cases hi : i < 106
  · have : ∀ j, j < 106 → kd j = 9 → j < 79 := by decide +kernel
    exact this i hi h
  · rw [kd_big (by omega)] at h; exact absurd h (by decide)
theorem gic_9 {G : gP} (hA : gCl G) {i : Nat} (h : kd i = 9) : gI G i := hA i (kc_9 h)
theorem kr_8 {i : Nat} (h : kd i = 8) : 79 ≤ i ∧ i < 106 := by
  by_cases hi : i < 106
  · have : ∀ j, j < 106 → kd j = 8 → 79 ≤ j := by decide +kernel
    exact ⟨this i hi h, hi⟩
  · rw [kd_big (by omega)] at h; exact absurd h (by decide)
theorem gir_8 {G : gP} (hB : gRf G) {i : Nat} (h : kd i = 8) : gI G i := hB i (kr_8 h).1 (kr_8 h).2
theorem kr_10 {i : Nat} (h : kd i = 10) : 79 ≤ i ∧ i < 106 := by
  by_cases hi : i < 106
  · have : ∀ j, j < 106 → kd j = 10 → 79 ≤ j := by decide +kernel
    exact ⟨this i hi h, hi⟩
  · rw [kd_big (by omega)] at h; exact absurd h (by decide)
theorem gir_10 {G : gP} (hB : gRf G) {i : Nat} (h : kd i = 10) : gI G i := hB i (kr_10 h).1 (kr_10 h).2
theorem kr_11 {i : Nat} (h : kd i = 11) : 79 ≤ i ∧ i < 106 := by
  by_cases hi : i < 106
  · have : ∀ j, j < 106 → kd j = 11 → 79 ≤ j := by decide +kernel
    exact ⟨this i hi h, hi⟩
  · rw [kd_big (by omega)] at h; exact absurd h (by decide)
theorem gir_11 {G : gP} (hB : gRf G) {i : Nat} (h : kd i = 11) : gI G i := hB i (kr_11 h).1 (kr_11 h).2
theorem kq_0 : kd 0 = 7 := rfl
theorem kq_1 : kd 1 = 5 := rfl
theorem kq_2 : kd 2 = 4 := rfl
theorem kq_3 : kd 3 = 9 := rfl
theorem kq_4 : kd 4 = 6 := rfl
theorem kq_5 : kd 5 = 4 := rfl
theorem kq_6 : kd 6 = 9 := rfl
theorem kq_7 : kd 7 = 4 := rfl
theorem kq_8 : kd 8 = 9 := rfl
theorem kq_9 : kd 9 = 4 := rfl
theorem kq_10 : kd 10 = 9 := rfl
theorem kq_11 : kd 11 = 4 := rfl
theorem kq_12 : kd 12 = 9 := rfl
theorem kq_13 : kd 13 = 6 := rfl
theorem kq_14 : kd 14 = 4 := rfl
theorem kq_15 : kd 15 = 9 := rfl
theorem kq_16 : kd 16 = 4 := rfl
theorem kq_17 : kd 17 = 9 := rfl
theorem kq_18 : kd 18 = 4 := rfl
theorem kq_19 : kd 19 = 9 := rfl
theorem kq_20 : kd 20 = 4 := rfl
theorem kq_21 : kd 21 = 9 := rfl
theorem kq_22 : kd 22 = 1 := rfl
theorem kq_23 : kd 23 = 4 := rfl
theorem kq_24 : kd 24 = 9 := rfl
theorem kq_25 : kd 25 = 4 := rfl
theorem kq_26 : kd 26 = 9 := rfl
theorem kq_27 : kd 27 = 1 := rfl
theorem kq_28 : kd 28 = 4 := rfl
theorem kq_29 : kd 29 = 9 := rfl
theorem kq_30 : kd 30 = 4 := rfl
theorem kq_31 : kd 31 = 9 := rfl
theorem kq_32 : kd 32 = 3 := rfl
theorem kq_33 : kd 33 = 1 := rfl
theorem kq_34 : kd 34 = 4 := rfl
theorem kq_35 : kd 35 = 9 := rfl
theorem kq_36 : kd 36 = 4 := rfl
theorem kq_37 : kd 37 = 9 := rfl
theorem kq_38 : kd 38 = 4 := rfl
theorem kq_39 : kd 39 = 9 := rfl
theorem kq_40 : kd 40 = 4 := rfl
theorem kq_41 : kd 41 = 9 := rfl
theorem kq_42 : kd 42 = 4 := rfl
theorem kq_43 : kd 43 = 9 := rfl
theorem kq_44 : kd 44 = 4 := rfl
theorem kq_45 : kd 45 = 9 := rfl
theorem kq_46 : kd 46 = 4 := rfl
theorem kq_47 : kd 47 = 9 := rfl
theorem kq_48 : kd 48 = 4 := rfl
theorem kq_49 : kd 49 = 9 := rfl
theorem kq_50 : kd 50 = 4 := rfl
theorem kq_51 : kd 51 = 9 := rfl
theorem kq_52 : kd 52 = 0 := rfl
theorem kq_53 : kd 53 = 4 := rfl
theorem kq_54 : kd 54 = 9 := rfl
theorem kq_55 : kd 55 = 4 := rfl
theorem kq_56 : kd 56 = 9 := rfl
theorem kq_57 : kd 57 = 4 := rfl
theorem kq_58 : kd 58 = 9 := rfl
theorem kq_59 : kd 59 = 4 := rfl
theorem kq_60 : kd 60 = 9 := rfl
theorem kq_61 : kd 61 = 2 := rfl
theorem kq_62 : kd 62 = 1 := rfl
theorem kq_63 : kd 63 = 4 := rfl
theorem kq_64 : kd 64 = 9 := rfl
theorem kq_65 : kd 65 = 4 := rfl
theorem kq_66 : kd 66 = 9 := rfl
theorem kq_67 : kd 67 = 2 := rfl
theorem kq_68 : kd 68 = 1 := rfl
theorem kq_69 : kd 69 = 4 := rfl
theorem kq_70 : kd 70 = 9 := rfl
theorem kq_71 : kd 71 = 4 := rfl
theorem kq_72 : kd 72 = 9 := rfl
theorem kq_73 : kd 73 = 2 := rfl
theorem kq_74 : kd 74 = 1 := rfl
theorem kq_75 : kd 75 = 4 := rfl
theorem kq_76 : kd 76 = 9 := rfl
theorem kq_77 : kd 77 = 4 := rfl
theorem kq_78 : kd 78 = 9 := rfl
theorem kq_79 : kd 79 = 8 := rfl
theorem kq_80 : kd 80 = 10 := rfl
theorem kq_81 : kd 81 = 10 := rfl
theorem kq_82 : kd 82 = 10 := rfl
theorem kq_83 : kd 83 = 10 := rfl
theorem kq_84 : kd 84 = 10 := rfl
theorem kq_85 : kd 85 = 10 := rfl
theorem kq_86 : kd 86 = 10 := rfl
theorem kq_87 : kd 87 = 10 := rfl
theorem kq_88 : kd 88 = 10 := rfl
theorem kq_89 : kd 89 = 10 := rfl
theorem kq_90 : kd 90 = 10 := rfl
theorem kq_91 : kd 91 = 10 := rfl
theorem kq_92 : kd 92 = 10 := rfl
theorem kq_93 : kd 93 = 11 := rfl
theorem kq_94 : kd 94 = 10 := rfl
theorem kq_95 : kd 95 = 10 := rfl
theorem kq_96 : kd 96 = 10 := rfl
theorem kq_97 : kd 97 = 10 := rfl
theorem kq_98 : kd 98 = 10 := rfl
theorem kq_99 : kd 99 = 10 := rfl
theorem kq_100 : kd 100 = 10 := rfl
theorem kq_101 : kd 101 = 10 := rfl
theorem kq_102 : kd 102 = 10 := rfl
theorem kq_103 : kd 103 = 10 := rfl
theorem kq_104 : kd 104 = 10 := rfl
theorem kq_105 : kd 105 = 10 := rfl
theorem kx_0_1 {i : Nat} (h : kd i = 0) : kd (i + 1) = 4 := by
  by_cases hi : i < 106
  · have : ∀ j, j < 106 → kd j = 0 → kd (j + 1) = 4 := by decide +kernel
    exact this i hi h
  · rw [kd_big (by omega)] at h; exact absurd h (by decide)
theorem kx_0_3 {i : Nat} (h : kd i = 0) : kd (i + 3) = 4 := by
  by_cases hi : i < 106
  · have : ∀ j, j < 106 → kd j = 0 → kd (j + 3) = 4 := by decide +kernel
    exact this i hi h
  · rw [kd_big (by omega)] at h; exact absurd h (by decide)
theorem kx_1_1 {i : Nat} (h : kd i = 1) : kd (i + 1) = 4 := by
  by_cases hi : i < 106
  · have : ∀ j, j < 106 → kd j = 1 → kd (j + 1) = 4 := by decide +kernel
    exact this i hi h
  · rw [kd_big (by omega)] at h; exact absurd h (by decide)
theorem kx_1_3 {i : Nat} (h : kd i = 1) : kd (i + 3) = 4 := by
  by_cases hi : i < 106
  · have : ∀ j, j < 106 → kd j = 1 → kd (j + 3) = 4 := by decide +kernel
    exact this i hi h
  · rw [kd_big (by omega)] at h; exact absurd h (by decide)
theorem kx_2_1 {i : Nat} (h : kd i = 2) : kd (i + 1) = 1 := by
  by_cases hi : i < 106
  · have : ∀ j, j < 106 → kd j = 2 → kd (j + 1) = 1 := by decide +kernel
    exact this i hi h
  · rw [kd_big (by omega)] at h; exact absurd h (by decide)
theorem kx_3_1 {i : Nat} (h : kd i = 3) : kd (i + 1) = 1 := by
  by_cases hi : i < 106
  · have : ∀ j, j < 106 → kd j = 3 → kd (j + 1) = 1 := by decide +kernel
    exact this i hi h
  · rw [kd_big (by omega)] at h; exact absurd h (by decide)
theorem kx_3_6 {i : Nat} (h : kd i = 3) : kd (i + 6) = 4 := by
  by_cases hi : i < 106
  · have : ∀ j, j < 106 → kd j = 3 → kd (j + 6) = 4 := by decide +kernel
    exact this i hi h
  · rw [kd_big (by omega)] at h; exact absurd h (by decide)
theorem kx_3_8 {i : Nat} (h : kd i = 3) : kd (i + 8) = 4 := by
  by_cases hi : i < 106
  · have : ∀ j, j < 106 → kd j = 3 → kd (j + 8) = 4 := by decide +kernel
    exact this i hi h
  · rw [kd_big (by omega)] at h; exact absurd h (by decide)
theorem kx_3_10 {i : Nat} (h : kd i = 3) : kd (i + 10) = 4 := by
  by_cases hi : i < 106
  · have : ∀ j, j < 106 → kd j = 3 → kd (j + 10) = 4 := by decide +kernel
    exact this i hi h
  · rw [kd_big (by omega)] at h; exact absurd h (by decide)
theorem kx_3_12 {i : Nat} (h : kd i = 3) : kd (i + 12) = 4 := by
  by_cases hi : i < 106
  · have : ∀ j, j < 106 → kd j = 3 → kd (j + 12) = 4 := by decide +kernel
    exact this i hi h
  · rw [kd_big (by omega)] at h; exact absurd h (by decide)
theorem kx_3_14 {i : Nat} (h : kd i = 3) : kd (i + 14) = 4 := by
  by_cases hi : i < 106
  · have : ∀ j, j < 106 → kd j = 3 → kd (j + 14) = 4 := by decide +kernel
    exact this i hi h
  · rw [kd_big (by omega)] at h; exact absurd h (by decide)
theorem kx_3_16 {i : Nat} (h : kd i = 3) : kd (i + 16) = 4 := by
  by_cases hi : i < 106
  · have : ∀ j, j < 106 → kd j = 3 → kd (j + 16) = 4 := by decide +kernel
    exact this i hi h
  · rw [kd_big (by omega)] at h; exact absurd h (by decide)
theorem kx_3_18 {i : Nat} (h : kd i = 3) : kd (i + 18) = 4 := by
  by_cases hi : i < 106
  · have : ∀ j, j < 106 → kd j = 3 → kd (j + 18) = 4 := by decide +kernel
    exact this i hi h
  · rw [kd_big (by omega)] at h; exact absurd h (by decide)
theorem kx_4_1 {i : Nat} (h : kd i = 4) : kd (i + 1) = 9 := by
  by_cases hi : i < 106
  · have : ∀ j, j < 106 → kd j = 4 → kd (j + 1) = 9 := by decide +kernel
    exact this i hi h
  · rw [kd_big (by omega)] at h; exact absurd h (by decide)
theorem kx_5_1 {i : Nat} (h : kd i = 5) : kd (i + 1) = 4 := by
  by_cases hi : i < 106
  · have : ∀ j, j < 106 → kd j = 5 → kd (j + 1) = 4 := by decide +kernel
    exact this i hi h
  · rw [kd_big (by omega)] at h; exact absurd h (by decide)
theorem kx_6_1 {i : Nat} (h : kd i = 6) : kd (i + 1) = 4 := by
  by_cases hi : i < 106
  · have : ∀ j, j < 106 → kd j = 6 → kd (j + 1) = 4 := by decide +kernel
    exact this i hi h
  · rw [kd_big (by omega)] at h; exact absurd h (by decide)
theorem kx_6_3 {i : Nat} (h : kd i = 6) : kd (i + 3) = 4 := by
  by_cases hi : i < 106
  · have : ∀ j, j < 106 → kd j = 6 → kd (j + 3) = 4 := by decide +kernel
    exact this i hi h
  · rw [kd_big (by omega)] at h; exact absurd h (by decide)
theorem kx_6_5 {i : Nat} (h : kd i = 6) : kd (i + 5) = 4 := by
  by_cases hi : i < 106
  · have : ∀ j, j < 106 → kd j = 6 → kd (j + 5) = 4 := by decide +kernel
    exact this i hi h
  · rw [kd_big (by omega)] at h; exact absurd h (by decide)
theorem kx_6_7 {i : Nat} (h : kd i = 6) : kd (i + 7) = 4 := by
  by_cases hi : i < 106
  · have : ∀ j, j < 106 → kd j = 6 → kd (j + 7) = 4 := by decide +kernel
    exact this i hi h
  · rw [kd_big (by omega)] at h; exact absurd h (by decide)
theorem tb_ne {x k : Int32} (h : ¬ x = k) : x.toInt ≠ k.toInt := fun q => h (Int32.toInt_inj.mp q)
section GF
variable {p : Program} {l : Launch} {e : Env} {R : Room} {s : State} {m : MethodId} {args : Array Value} {below : List Frame} {meth : Method} {c : Code} {Qf : State → Prop} {G : gP} {A : Nat → Prop} {nL cells slots : Nat} {M : Mem} {cc : ByteArray} {own : String} {pc : Nat} {lv : List (Nat × Value)} {st : List Value} {i : Nat} {index : Nat}
theorem wl_sub {lv' : List (Nat × Value)} (ks : List Nat) (h : lv_pick lv ks = lv') (kk : Wl p l e R s m args below meth c Qf G A nL cells slots M pc lv' st) : Wl p l e R s m args below meth c Qf G A nL cells slots M pc lv st := fun H locs ls hG hS hl => kk H locs ls hG hS (lv_sub hl ks h)
theorem gf_0_0 (C : Cx p s m args meth c G A cc nL own) (hk : kd i = 0) (hi : gI G i) (hlink : (Cond.fieldLink own index "ShufflingBook$Guess" "leaves" "LShufflingBook$Row;") ∈ TB) (hdg : decode cc pc = .ok (.getfield index, 3)) (kk : Wl p l e R s m args below meth c Qf G A nL cells slots M (pc + 3) lv (.ref (gAD G (i + 1)) :: st)) : Wl p l e R s m args below meth c Qf G A nL cells slots M pc lv (.ref (gAD G i) :: st) := wl_get C (T := TX0) (ci := 0) inX0 rfl hi (gc_k hk) 0 (by decide) hlink (fun _ h => h) rfl hdg kk
theorem gf_0_1 (C : Cx p s m args meth c G A cc nL own) (hk : kd i = 0) (hi : gI G i) (hlink : (Cond.fieldLink own index "ShufflingBook$Guess" "places" "LShufflingBook$Row;") ∈ TB) (hdg : decode cc pc = .ok (.getfield index, 3)) (kk : Wl p l e R s m args below meth c Qf G A nL cells slots M (pc + 3) lv (.ref (gAD G (i + 3)) :: st)) : Wl p l e R s m args below meth c Qf G A nL cells slots M pc lv (.ref (gAD G i) :: st) := wl_get C (T := TX0) (ci := 0) inX0 rfl hi (gc_k hk) 1 (by decide) hlink (fun _ h => h) rfl hdg kk
theorem gf_0_2 (C : Cx p s m args meth c G A cc nL own) (hk : kd i = 0) (hi : gI G i) (hlink : (Cond.fieldLink own index "ShufflingBook$Guess" "size" "I") ∈ TB) (hdg : decode cc pc = .ok (.getfield index, 3)) (kk : Wl p l e R s m args below meth c Qf G A nL cells slots M (pc + 3) lv (.int (M i 2) :: st)) : Wl p l e R s m args below meth c Qf G A nL cells slots M pc lv (.ref (gAD G i) :: st) := wl_get C (T := TX0) (ci := 0) inX0 rfl hi (gc_k hk) 2 (by decide) hlink (fun _ h => h) rfl hdg kk
theorem gf_0_3 (C : Cx p s m args meth c G A cc nL own) (hk : kd i = 0) (hi : gI G i) (hlink : (Cond.fieldLink own index "ShufflingBook$Guess" "bound" "I") ∈ TB) (hdg : decode cc pc = .ok (.getfield index, 3)) (kk : Wl p l e R s m args below meth c Qf G A nL cells slots M (pc + 3) lv (.int (M i 3) :: st)) : Wl p l e R s m args below meth c Qf G A nL cells slots M pc lv (.ref (gAD G i) :: st) := wl_get C (T := TX0) (ci := 0) inX0 rfl hi (gc_k hk) 3 (by decide) hlink (fun _ h => h) rfl hdg kk
theorem gf_0_4 (C : Cx p s m args meth c G A cc nL own) (hk : kd i = 0) (hi : gI G i) (hlink : (Cond.fieldLink own index "ShufflingBook$Guess" "consistent" "Z") ∈ TB) (hdg : decode cc pc = .ok (.getfield index, 3)) (kk : Wl p l e R s m args below meth c Qf G A nL cells slots M (pc + 3) lv (.int (M i 4) :: st)) : Wl p l e R s m args below meth c Qf G A nL cells slots M pc lv (.ref (gAD G i) :: st) := wl_get C (T := TX0) (ci := 0) inX0 rfl hi (gc_k hk) 4 (by decide) hlink (fun _ h => h) rfl hdg kk
theorem gf_1_0 (C : Cx p s m args meth c G A cc nL own) (hk : kd i = 1) (hi : gI G i) (hlink : (Cond.fieldLink own index "ShufflingBook$Order" "leaves" "LShufflingBook$Row;") ∈ TB) (hdg : decode cc pc = .ok (.getfield index, 3)) (kk : Wl p l e R s m args below meth c Qf G A nL cells slots M (pc + 3) lv (.ref (gAD G (i + 1)) :: st)) : Wl p l e R s m args below meth c Qf G A nL cells slots M pc lv (.ref (gAD G i) :: st) := wl_get C (T := TX1) (ci := 1) inX1 rfl hi (gc_k hk) 0 (by decide) hlink (fun _ h => h) rfl hdg kk
theorem gf_1_1 (C : Cx p s m args meth c G A cc nL own) (hk : kd i = 1) (hi : gI G i) (hlink : (Cond.fieldLink own index "ShufflingBook$Order" "lifted" "LShufflingBook$Row;") ∈ TB) (hdg : decode cc pc = .ok (.getfield index, 3)) (kk : Wl p l e R s m args below meth c Qf G A nL cells slots M (pc + 3) lv (.ref (gAD G (i + 3)) :: st)) : Wl p l e R s m args below meth c Qf G A nL cells slots M pc lv (.ref (gAD G i) :: st) := wl_get C (T := TX1) (ci := 1) inX1 rfl hi (gc_k hk) 1 (by decide) hlink (fun _ h => h) rfl hdg kk
theorem gf_1_2 (C : Cx p s m args meth c G A cc nL own) (hk : kd i = 1) (hi : gI G i) (hlink : (Cond.fieldLink own index "ShufflingBook$Order" "size" "I") ∈ TB) (hdg : decode cc pc = .ok (.getfield index, 3)) (kk : Wl p l e R s m args below meth c Qf G A nL cells slots M (pc + 3) lv (.int (M i 2) :: st)) : Wl p l e R s m args below meth c Qf G A nL cells slots M pc lv (.ref (gAD G i) :: st) := wl_get C (T := TX1) (ci := 1) inX1 rfl hi (gc_k hk) 2 (by decide) hlink (fun _ h => h) rfl hdg kk
theorem gf_2_0 (C : Cx p s m args meth c G A cc nL own) (hk : kd i = 2) (hi : gI G i) (hlink : (Cond.fieldLink own index "ShufflingBook$Pack" "order" "LShufflingBook$Order;") ∈ TB) (hdg : decode cc pc = .ok (.getfield index, 3)) (kk : Wl p l e R s m args below meth c Qf G A nL cells slots M (pc + 3) lv (.ref (gAD G (i + 1)) :: st)) : Wl p l e R s m args below meth c Qf G A nL cells slots M pc lv (.ref (gAD G i) :: st) := wl_get C (T := TX2) (ci := 2) inX2 rfl hi (gc_k hk) 0 (by decide) hlink (fun _ h => h) rfl hdg kk
theorem gf_2_1 (C : Cx p s m args meth c G A cc nL own) (hk : kd i = 2) (hi : gI G i) (hlink : (Cond.fieldLink own index "ShufflingBook$Pack" "readSoFar" "I") ∈ TB) (hdg : decode cc pc = .ok (.getfield index, 3)) (kk : Wl p l e R s m args below meth c Qf G A nL cells slots M (pc + 3) lv (.int (M i 1) :: st)) : Wl p l e R s m args below meth c Qf G A nL cells slots M pc lv (.ref (gAD G i) :: st) := wl_get C (T := TX2) (ci := 2) inX2 rfl hi (gc_k hk) 1 (by decide) hlink (fun _ h => h) rfl hdg kk
theorem gf_2_2 (C : Cx p s m args meth c G A cc nL own) (hk : kd i = 2) (hi : gI G i) (hlink : (Cond.fieldLink own index "ShufflingBook$Pack" "readersDone" "I") ∈ TB) (hdg : decode cc pc = .ok (.getfield index, 3)) (kk : Wl p l e R s m args below meth c Qf G A nL cells slots M (pc + 3) lv (.int (M i 2) :: st)) : Wl p l e R s m args below meth c Qf G A nL cells slots M pc lv (.ref (gAD G i) :: st) := wl_get C (T := TX2) (ci := 2) inX2 rfl hi (gc_k hk) 2 (by decide) hlink (fun _ h => h) rfl hdg kk
theorem gf_3_0 (C : Cx p s m args meth c G A cc nL own) (hk : kd i = 3) (hi : gI G i) (hlink : (Cond.fieldLink own index "ShufflingBook$Readers" "trial" "LShufflingBook$Order;") ∈ TB) (hdg : decode cc pc = .ok (.getfield index, 3)) (kk : Wl p l e R s m args below meth c Qf G A nL cells slots M (pc + 3) lv (.ref (gAD G (i + 1)) :: st)) : Wl p l e R s m args below meth c Qf G A nL cells slots M pc lv (.ref (gAD G i) :: st) := wl_get C (T := TX3) (ci := 3) inX3 rfl hi (gc_k hk) 0 (by decide) hlink (fun _ h => h) rfl hdg kk
theorem gf_3_1 (C : Cx p s m args meth c G A cc nL own) (hk : kd i = 3) (hi : gI G i) (hlink : (Cond.fieldLink own index "ShufflingBook$Readers" "size" "I") ∈ TB) (hdg : decode cc pc = .ok (.getfield index, 3)) (kk : Wl p l e R s m args below meth c Qf G A nL cells slots M (pc + 3) lv (.int (M i 1) :: st)) : Wl p l e R s m args below meth c Qf G A nL cells slots M pc lv (.ref (gAD G i) :: st) := wl_get C (T := TX3) (ci := 3) inX3 rfl hi (gc_k hk) 1 (by decide) hlink (fun _ h => h) rfl hdg kk
theorem gf_3_2 (C : Cx p s m args meth c G A cc nL own) (hk : kd i = 3) (hi : gI G i) (hlink : (Cond.fieldLink own index "ShufflingBook$Readers" "placeAtTurn" "LShufflingBook$Row;") ∈ TB) (hdg : decode cc pc = .ok (.getfield index, 3)) (kk : Wl p l e R s m args below meth c Qf G A nL cells slots M (pc + 3) lv (.ref (gAD G (i + 6)) :: st)) : Wl p l e R s m args below meth c Qf G A nL cells slots M pc lv (.ref (gAD G i) :: st) := wl_get C (T := TX3) (ci := 3) inX3 rfl hi (gc_k hk) 2 (by decide) hlink (fun _ h => h) rfl hdg kk
theorem gf_3_3 (C : Cx p s m args meth c G A cc nL own) (hk : kd i = 3) (hi : gI G i) (hlink : (Cond.fieldLink own index "ShufflingBook$Readers" "turnAtPlace" "LShufflingBook$Row;") ∈ TB) (hdg : decode cc pc = .ok (.getfield index, 3)) (kk : Wl p l e R s m args below meth c Qf G A nL cells slots M (pc + 3) lv (.ref (gAD G (i + 8)) :: st)) : Wl p l e R s m args below meth c Qf G A nL cells slots M pc lv (.ref (gAD G i) :: st) := wl_get C (T := TX3) (ci := 3) inX3 rfl hi (gc_k hk) 3 (by decide) hlink (fun _ h => h) rfl hdg kk
theorem gf_3_4 (C : Cx p s m args meth c G A cc nL own) (hk : kd i = 3) (hi : gI G i) (hlink : (Cond.fieldLink own index "ShufflingBook$Readers" "fromAfterFirst" "LShufflingBook$Row;") ∈ TB) (hdg : decode cc pc = .ok (.getfield index, 3)) (kk : Wl p l e R s m args below meth c Qf G A nL cells slots M (pc + 3) lv (.ref (gAD G (i + 10)) :: st)) : Wl p l e R s m args below meth c Qf G A nL cells slots M pc lv (.ref (gAD G i) :: st) := wl_get C (T := TX3) (ci := 3) inX3 rfl hi (gc_k hk) 4 (by decide) hlink (fun _ h => h) rfl hdg kk
theorem gf_3_5 (C : Cx p s m args meth c G A cc nL own) (hk : kd i = 3) (hi : gI G i) (hlink : (Cond.fieldLink own index "ShufflingBook$Readers" "ring" "LShufflingBook$Row;") ∈ TB) (hdg : decode cc pc = .ok (.getfield index, 3)) (kk : Wl p l e R s m args below meth c Qf G A nL cells slots M (pc + 3) lv (.ref (gAD G (i + 12)) :: st)) : Wl p l e R s m args below meth c Qf G A nL cells slots M pc lv (.ref (gAD G i) :: st) := wl_get C (T := TX3) (ci := 3) inX3 rfl hi (gc_k hk) 5 (by decide) hlink (fun _ h => h) rfl hdg kk
theorem gf_3_6 (C : Cx p s m args meth c G A cc nL own) (hk : kd i = 3) (hi : gI G i) (hlink : (Cond.fieldLink own index "ShufflingBook$Readers" "ringStart" "LShufflingBook$Row;") ∈ TB) (hdg : decode cc pc = .ok (.getfield index, 3)) (kk : Wl p l e R s m args below meth c Qf G A nL cells slots M (pc + 3) lv (.ref (gAD G (i + 14)) :: st)) : Wl p l e R s m args below meth c Qf G A nL cells slots M pc lv (.ref (gAD G i) :: st) := wl_get C (T := TX3) (ci := 3) inX3 rfl hi (gc_k hk) 6 (by decide) hlink (fun _ h => h) rfl hdg kk
theorem gf_3_7 (C : Cx p s m args meth c G A cc nL own) (hk : kd i = 3) (hi : gI G i) (hlink : (Cond.fieldLink own index "ShufflingBook$Readers" "ringLength" "LShufflingBook$Row;") ∈ TB) (hdg : decode cc pc = .ok (.getfield index, 3)) (kk : Wl p l e R s m args below meth c Qf G A nL cells slots M (pc + 3) lv (.ref (gAD G (i + 16)) :: st)) : Wl p l e R s m args below meth c Qf G A nL cells slots M pc lv (.ref (gAD G i) :: st) := wl_get C (T := TX3) (ci := 3) inX3 rfl hi (gc_k hk) 7 (by decide) hlink (fun _ h => h) rfl hdg kk
theorem gf_3_8 (C : Cx p s m args meth c G A cc nL own) (hk : kd i = 3) (hi : gI G i) (hlink : (Cond.fieldLink own index "ShufflingBook$Readers" "indexInRing" "LShufflingBook$Row;") ∈ TB) (hdg : decode cc pc = .ok (.getfield index, 3)) (kk : Wl p l e R s m args below meth c Qf G A nL cells slots M (pc + 3) lv (.ref (gAD G (i + 18)) :: st)) : Wl p l e R s m args below meth c Qf G A nL cells slots M pc lv (.ref (gAD G i) :: st) := wl_get C (T := TX3) (ci := 3) inX3 rfl hi (gc_k hk) 8 (by decide) hlink (fun _ h => h) rfl hdg kk
theorem gf_4_0 (C : Cx p s m args meth c G A cc nL own) (hk : kd i = 4) (hi : gI G i) (hlink : (Cond.fieldLink own index "ShufflingBook$Row" "cells" "[I") ∈ TB) (hdg : decode cc pc = .ok (.getfield index, 3)) (kk : Wl p l e R s m args below meth c Qf G A nL cells slots M (pc + 3) lv (.ref (gAD G (i + 1)) :: st)) : Wl p l e R s m args below meth c Qf G A nL cells slots M pc lv (.ref (gAD G i) :: st) := wl_get C (T := TX4) (ci := 4) inX4 rfl hi (gc_k hk) 0 (by decide) hlink (fun _ h => h) rfl hdg kk
theorem gf_5_0 (C : Cx p s m args meth c G A cc nL own) (hk : kd i = 5) (hi : gI G i) (hlink : (Cond.fieldLink own index "ShufflingBook$Text" "bytes" "LShufflingBook$Row;") ∈ TB) (hdg : decode cc pc = .ok (.getfield index, 3)) (kk : Wl p l e R s m args below meth c Qf G A nL cells slots M (pc + 3) lv (.ref (gAD G (i + 1)) :: st)) : Wl p l e R s m args below meth c Qf G A nL cells slots M pc lv (.ref (gAD G i) :: st) := wl_get C (T := TX5) (ci := 5) inX5 rfl hi (gc_k hk) 0 (by decide) hlink (fun _ h => h) rfl hdg kk
theorem gf_5_1 (C : Cx p s m args meth c G A cc nL own) (hk : kd i = 5) (hi : gI G i) (hlink : (Cond.fieldLink own index "ShufflingBook$Text" "length" "I") ∈ TB) (hdg : decode cc pc = .ok (.getfield index, 3)) (kk : Wl p l e R s m args below meth c Qf G A nL cells slots M (pc + 3) lv (.int (M i 1) :: st)) : Wl p l e R s m args below meth c Qf G A nL cells slots M pc lv (.ref (gAD G i) :: st) := wl_get C (T := TX5) (ci := 5) inX5 rfl hi (gc_k hk) 1 (by decide) hlink (fun _ h => h) rfl hdg kk
theorem gf_6_0 (C : Cx p s m args meth c G A cc nL own) (hk : kd i = 6) (hi : gI G i) (hlink : (Cond.fieldLink own index "ShufflingBook$Told" "leafCount" "I") ∈ TB) (hdg : decode cc pc = .ok (.getfield index, 3)) (kk : Wl p l e R s m args below meth c Qf G A nL cells slots M (pc + 3) lv (.int (M i 0) :: st)) : Wl p l e R s m args below meth c Qf G A nL cells slots M pc lv (.ref (gAD G i) :: st) := wl_get C (T := TX6) (ci := 6) inX6 rfl hi (gc_k hk) 0 (by decide) hlink (fun _ h => h) rfl hdg kk
theorem gf_6_1 (C : Cx p s m args meth c G A cc nL own) (hk : kd i = 6) (hi : gI G i) (hlink : (Cond.fieldLink own index "ShufflingBook$Told" "perReader" "I") ∈ TB) (hdg : decode cc pc = .ok (.getfield index, 3)) (kk : Wl p l e R s m args below meth c Qf G A nL cells slots M (pc + 3) lv (.int (M i 1) :: st)) : Wl p l e R s m args below meth c Qf G A nL cells slots M pc lv (.ref (gAD G i) :: st) := wl_get C (T := TX6) (ci := 6) inX6 rfl hi (gc_k hk) 1 (by decide) hlink (fun _ h => h) rfl hdg kk
theorem gf_6_4 (C : Cx p s m args meth c G A cc nL own) (hk : kd i = 6) (hi : gI G i) (hlink : (Cond.fieldLink own index "ShufflingBook$Told" "swapFrom" "LShufflingBook$Row;") ∈ TB) (hdg : decode cc pc = .ok (.getfield index, 3)) (kk : Wl p l e R s m args below meth c Qf G A nL cells slots M (pc + 3) lv (.ref (gAD G (i + 1)) :: st)) : Wl p l e R s m args below meth c Qf G A nL cells slots M pc lv (.ref (gAD G i) :: st) := wl_get C (T := TX6) (ci := 6) inX6 rfl hi (gc_k hk) 4 (by decide) hlink (fun _ h => h) rfl hdg kk
theorem gf_6_5 (C : Cx p s m args meth c G A cc nL own) (hk : kd i = 6) (hi : gI G i) (hlink : (Cond.fieldLink own index "ShufflingBook$Told" "swapTo" "LShufflingBook$Row;") ∈ TB) (hdg : decode cc pc = .ok (.getfield index, 3)) (kk : Wl p l e R s m args below meth c Qf G A nL cells slots M (pc + 3) lv (.ref (gAD G (i + 3)) :: st)) : Wl p l e R s m args below meth c Qf G A nL cells slots M pc lv (.ref (gAD G i) :: st) := wl_get C (T := TX6) (ci := 6) inX6 rfl hi (gc_k hk) 5 (by decide) hlink (fun _ h => h) rfl hdg kk
theorem gf_6_6 (C : Cx p s m args meth c G A cc nL own) (hk : kd i = 6) (hi : gI G i) (hlink : (Cond.fieldLink own index "ShufflingBook$Told" "swapCount" "I") ∈ TB) (hdg : decode cc pc = .ok (.getfield index, 3)) (kk : Wl p l e R s m args below meth c Qf G A nL cells slots M (pc + 3) lv (.int (M i 6) :: st)) : Wl p l e R s m args below meth c Qf G A nL cells slots M pc lv (.ref (gAD G i) :: st) := wl_get C (T := TX6) (ci := 6) inX6 rfl hi (gc_k hk) 6 (by decide) hlink (fun _ h => h) rfl hdg kk
theorem gf_6_7 (C : Cx p s m args meth c G A cc nL own) (hk : kd i = 6) (hi : gI G i) (hlink : (Cond.fieldLink own index "ShufflingBook$Told" "tale" "LShufflingBook$Row;") ∈ TB) (hdg : decode cc pc = .ok (.getfield index, 3)) (kk : Wl p l e R s m args below meth c Qf G A nL cells slots M (pc + 3) lv (.ref (gAD G (i + 5)) :: st)) : Wl p l e R s m args below meth c Qf G A nL cells slots M pc lv (.ref (gAD G i) :: st) := wl_get C (T := TX6) (ci := 6) inX6 rfl hi (gc_k hk) 7 (by decide) hlink (fun _ h => h) rfl hdg kk
theorem gf_6_8 (C : Cx p s m args meth c G A cc nL own) (hk : kd i = 6) (hi : gI G i) (hlink : (Cond.fieldLink own index "ShufflingBook$Told" "taleLength" "I") ∈ TB) (hdg : decode cc pc = .ok (.getfield index, 3)) (kk : Wl p l e R s m args below meth c Qf G A nL cells slots M (pc + 3) lv (.int (M i 8) :: st)) : Wl p l e R s m args below meth c Qf G A nL cells slots M pc lv (.ref (gAD G i) :: st) := wl_get C (T := TX6) (ci := 6) inX6 rfl hi (gc_k hk) 8 (by decide) hlink (fun _ h => h) rfl hdg kk
theorem gf_6_9 (C : Cx p s m args meth c G A cc nL own) (hk : kd i = 6) (hi : gI G i) (hlink : (Cond.fieldLink own index "ShufflingBook$Told" "numbers" "LShufflingBook$Row;") ∈ TB) (hdg : decode cc pc = .ok (.getfield index, 3)) (kk : Wl p l e R s m args below meth c Qf G A nL cells slots M (pc + 3) lv (.ref (gAD G (i + 7)) :: st)) : Wl p l e R s m args below meth c Qf G A nL cells slots M pc lv (.ref (gAD G i) :: st) := wl_get C (T := TX6) (ci := 6) inX6 rfl hi (gc_k hk) 9 (by decide) hlink (fun _ h => h) rfl hdg kk
theorem gf_7_0 (C : Cx p s m args meth c G A cc nL own) (hk : kd i = 7) (hi : gI G i) (hlink : (Cond.fieldLink own index "ShufflingBook" "text" "LShufflingBook$Text;") ∈ TB) (hdg : decode cc pc = .ok (.getfield index, 3)) (kk : Wl p l e R s m args below meth c Qf G A nL cells slots M (pc + 3) lv (.ref (gAD G (i + 1)) :: st)) : Wl p l e R s m args below meth c Qf G A nL cells slots M pc lv (.ref (gAD G i) :: st) := wl_get C (T := TX7) (ci := 7) inX7 rfl hi (gc_k hk) 0 (by decide) hlink (fun _ h => h) rfl hdg kk
theorem gf_7_1 (C : Cx p s m args meth c G A cc nL own) (hk : kd i = 7) (hi : gI G i) (hlink : (Cond.fieldLink own index "ShufflingBook" "draft" "LShufflingBook$Told;") ∈ TB) (hdg : decode cc pc = .ok (.getfield index, 3)) (kk : Wl p l e R s m args below meth c Qf G A nL cells slots M (pc + 3) lv (.ref (gAD G (rid (M i 1))) :: st)) : Wl p l e R s m args below meth c Qf G A nL cells slots M pc lv (.ref (gAD G i) :: st) := wl_get C (T := TX7) (ci := 7) inX7 rfl hi (gc_k hk) 1 (by decide) hlink (fun _ h => h) rfl hdg kk
theorem gf_7_2 (C : Cx p s m args meth c G A cc nL own) (hk : kd i = 7) (hi : gI G i) (hlink : (Cond.fieldLink own index "ShufflingBook" "laid" "LShufflingBook$Told;") ∈ TB) (hdg : decode cc pc = .ok (.getfield index, 3)) (kk : Wl p l e R s m args below meth c Qf G A nL cells slots M (pc + 3) lv (.ref (gAD G (rid (M i 2))) :: st)) : Wl p l e R s m args below meth c Qf G A nL cells slots M pc lv (.ref (gAD G i) :: st) := wl_get C (T := TX7) (ci := 7) inX7 rfl hi (gc_k hk) 2 (by decide) hlink (fun _ h => h) rfl hdg kk
theorem gf_7_3 (C : Cx p s m args meth c G A cc nL own) (hk : kd i = 7) (hi : gI G i) (hlink : (Cond.fieldLink own index "ShufflingBook" "firstOrder" "LShufflingBook$Order;") ∈ TB) (hdg : decode cc pc = .ok (.getfield index, 3)) (kk : Wl p l e R s m args below meth c Qf G A nL cells slots M (pc + 3) lv (.ref (gAD G (i + 22)) :: st)) : Wl p l e R s m args below meth c Qf G A nL cells slots M pc lv (.ref (gAD G i) :: st) := wl_get C (T := TX7) (ci := 7) inX7 rfl hi (gc_k hk) 3 (by decide) hlink (fun _ h => h) rfl hdg kk
theorem gf_7_4 (C : Cx p s m args meth c G A cc nL own) (hk : kd i = 7) (hi : gI G i) (hlink : (Cond.fieldLink own index "ShufflingBook" "trial" "LShufflingBook$Order;") ∈ TB) (hdg : decode cc pc = .ok (.getfield index, 3)) (kk : Wl p l e R s m args below meth c Qf G A nL cells slots M (pc + 3) lv (.ref (gAD G (i + 27)) :: st)) : Wl p l e R s m args below meth c Qf G A nL cells slots M pc lv (.ref (gAD G i) :: st) := wl_get C (T := TX7) (ci := 7) inX7 rfl hi (gc_k hk) 4 (by decide) hlink (fun _ h => h) rfl hdg kk
theorem gf_7_5 (C : Cx p s m args meth c G A cc nL own) (hk : kd i = 7) (hi : gI G i) (hlink : (Cond.fieldLink own index "ShufflingBook" "readers" "LShufflingBook$Readers;") ∈ TB) (hdg : decode cc pc = .ok (.getfield index, 3)) (kk : Wl p l e R s m args below meth c Qf G A nL cells slots M (pc + 3) lv (.ref (gAD G (i + 32)) :: st)) : Wl p l e R s m args below meth c Qf G A nL cells slots M pc lv (.ref (gAD G i) :: st) := wl_get C (T := TX7) (ci := 7) inX7 rfl hi (gc_k hk) 5 (by decide) hlink (fun _ h => h) rfl hdg kk
theorem gf_7_6 (C : Cx p s m args meth c G A cc nL own) (hk : kd i = 7) (hi : gI G i) (hlink : (Cond.fieldLink own index "ShufflingBook" "guess" "LShufflingBook$Guess;") ∈ TB) (hdg : decode cc pc = .ok (.getfield index, 3)) (kk : Wl p l e R s m args below meth c Qf G A nL cells slots M (pc + 3) lv (.ref (gAD G (i + 52)) :: st)) : Wl p l e R s m args below meth c Qf G A nL cells slots M pc lv (.ref (gAD G i) :: st) := wl_get C (T := TX7) (ci := 7) inX7 rfl hi (gc_k hk) 6 (by decide) hlink (fun _ h => h) rfl hdg kk
theorem gf_7_7 (C : Cx p s m args meth c G A cc nL own) (hk : kd i = 7) (hi : gI G i) (hlink : (Cond.fieldLink own index "ShufflingBook" "seenPlace" "LShufflingBook$Row;") ∈ TB) (hdg : decode cc pc = .ok (.getfield index, 3)) (kk : Wl p l e R s m args below meth c Qf G A nL cells slots M (pc + 3) lv (.ref (gAD G (i + 57)) :: st)) : Wl p l e R s m args below meth c Qf G A nL cells slots M pc lv (.ref (gAD G i) :: st) := wl_get C (T := TX7) (ci := 7) inX7 rfl hi (gc_k hk) 7 (by decide) hlink (fun _ h => h) rfl hdg kk
theorem gf_7_8 (C : Cx p s m args meth c G A cc nL own) (hk : kd i = 7) (hi : gI G i) (hlink : (Cond.fieldLink own index "ShufflingBook" "seenLeaf" "LShufflingBook$Row;") ∈ TB) (hdg : decode cc pc = .ok (.getfield index, 3)) (kk : Wl p l e R s m args below meth c Qf G A nL cells slots M (pc + 3) lv (.ref (gAD G (i + 59)) :: st)) : Wl p l e R s m args below meth c Qf G A nL cells slots M pc lv (.ref (gAD G i) :: st) := wl_get C (T := TX7) (ci := 7) inX7 rfl hi (gc_k hk) 8 (by decide) hlink (fun _ h => h) rfl hdg kk
theorem gf_7_9 (C : Cx p s m args meth c G A cc nL own) (hk : kd i = 7) (hi : gI G i) (hlink : (Cond.fieldLink own index "ShufflingBook" "seenCount" "I") ∈ TB) (hdg : decode cc pc = .ok (.getfield index, 3)) (kk : Wl p l e R s m args below meth c Qf G A nL cells slots M (pc + 3) lv (.int (M i 9) :: st)) : Wl p l e R s m args below meth c Qf G A nL cells slots M pc lv (.ref (gAD G i) :: st) := wl_get C (T := TX7) (ci := 7) inX7 rfl hi (gc_k hk) 9 (by decide) hlink (fun _ h => h) rfl hdg kk
theorem gf_7_10 (C : Cx p s m args meth c G A cc nL own) (hk : kd i = 7) (hi : gI G i) (hlink : (Cond.fieldLink own index "ShufflingBook" "pack" "LShufflingBook$Pack;") ∈ TB) (hdg : decode cc pc = .ok (.getfield index, 3)) (kk : Wl p l e R s m args below meth c Qf G A nL cells slots M (pc + 3) lv (.ref (gAD G (i + 61)) :: st)) : Wl p l e R s m args below meth c Qf G A nL cells slots M pc lv (.ref (gAD G i) :: st) := wl_get C (T := TX7) (ci := 7) inX7 rfl hi (gc_k hk) 10 (by decide) hlink (fun _ h => h) rfl hdg kk
theorem gf_7_11 (C : Cx p s m args meth c G A cc nL own) (hk : kd i = 7) (hi : gI G i) (hlink : (Cond.fieldLink own index "ShufflingBook" "olderKept" "LShufflingBook$Pack;") ∈ TB) (hdg : decode cc pc = .ok (.getfield index, 3)) (kk : Wl p l e R s m args below meth c Qf G A nL cells slots M (pc + 3) lv (.ref (gAD G (i + 67)) :: st)) : Wl p l e R s m args below meth c Qf G A nL cells slots M pc lv (.ref (gAD G i) :: st) := wl_get C (T := TX7) (ci := 7) inX7 rfl hi (gc_k hk) 11 (by decide) hlink (fun _ h => h) rfl hdg kk
theorem gf_7_12 (C : Cx p s m args meth c G A cc nL own) (hk : kd i = 7) (hi : gI G i) (hlink : (Cond.fieldLink own index "ShufflingBook" "newerKept" "LShufflingBook$Pack;") ∈ TB) (hdg : decode cc pc = .ok (.getfield index, 3)) (kk : Wl p l e R s m args below meth c Qf G A nL cells slots M (pc + 3) lv (.ref (gAD G (i + 73)) :: st)) : Wl p l e R s m args below meth c Qf G A nL cells slots M pc lv (.ref (gAD G i) :: st) := wl_get C (T := TX7) (ci := 7) inX7 rfl hi (gc_k hk) 12 (by decide) hlink (fun _ h => h) rfl hdg kk
theorem gf_7_13 (C : Cx p s m args meth c G A cc nL own) (hk : kd i = 7) (hi : gI G i) (hlink : (Cond.fieldLink own index "ShufflingBook" "keptCount" "I") ∈ TB) (hdg : decode cc pc = .ok (.getfield index, 3)) (kk : Wl p l e R s m args below meth c Qf G A nL cells slots M (pc + 3) lv (.int (M i 13) :: st)) : Wl p l e R s m args below meth c Qf G A nL cells slots M pc lv (.ref (gAD G i) :: st) := wl_get C (T := TX7) (ci := 7) inX7 rfl hi (gc_k hk) 13 (by decide) hlink (fun _ h => h) rfl hdg kk
theorem gf_8_0 (C : Cx p s m args meth c G A cc nL own) (hk : kd i = 8) (hi : gI G i) (hlink : (Cond.fieldLink own index "ShufflingBookModel" "length" "I") ∈ TB) (hdg : decode cc pc = .ok (.getfield index, 3)) (kk : Wl p l e R s m args below meth c Qf G A nL cells slots M (pc + 3) lv (.int (M i 0) :: st)) : Wl p l e R s m args below meth c Qf G A nL cells slots M pc lv (.ref (gAD G i) :: st) := wl_get C (T := TX8) (ci := 8) inX8 rfl hi (gc_k hk) 0 (by decide) hlink (fun _ h => h) rfl hdg kk
theorem gf_8_1 (C : Cx p s m args meth c G A cc nL own) (hk : kd i = 8) (hi : gI G i) (hlink : (Cond.fieldLink own index "ShufflingBookModel" "text" "[I") ∈ TB) (hdg : decode cc pc = .ok (.getfield index, 3)) (kk : Wl p l e R s m args below meth c Qf G A nL cells slots M (pc + 3) lv (.ref (gAD G (i + 1)) :: st)) : Wl p l e R s m args below meth c Qf G A nL cells slots M pc lv (.ref (gAD G i) :: st) := wl_get C (T := TX8) (ci := 8) inX8 rfl hi (gc_k hk) 1 (by decide) hlink (fun _ h => h) rfl hdg kk
theorem gf_8_2 (C : Cx p s m args meth c G A cc nL own) (hk : kd i = 8) (hi : gI G i) (hlink : (Cond.fieldLink own index "ShufflingBookModel" "leafMany" "[I") ∈ TB) (hdg : decode cc pc = .ok (.getfield index, 3)) (kk : Wl p l e R s m args below meth c Qf G A nL cells slots M (pc + 3) lv (.ref (gAD G (i + 2)) :: st)) : Wl p l e R s m args below meth c Qf G A nL cells slots M pc lv (.ref (gAD G i) :: st) := wl_get C (T := TX8) (ci := 8) inX8 rfl hi (gc_k hk) 2 (by decide) hlink (fun _ h => h) rfl hdg kk
theorem gf_8_3 (C : Cx p s m args meth c G A cc nL own) (hk : kd i = 8) (hi : gI G i) (hlink : (Cond.fieldLink own index "ShufflingBookModel" "reads" "[I") ∈ TB) (hdg : decode cc pc = .ok (.getfield index, 3)) (kk : Wl p l e R s m args below meth c Qf G A nL cells slots M (pc + 3) lv (.ref (gAD G (i + 3)) :: st)) : Wl p l e R s m args below meth c Qf G A nL cells slots M pc lv (.ref (gAD G i) :: st) := wl_get C (T := TX8) (ci := 8) inX8 rfl hi (gc_k hk) 3 (by decide) hlink (fun _ h => h) rfl hdg kk
theorem gf_8_4 (C : Cx p s m args meth c G A cc nL own) (hk : kd i = 8) (hi : gI G i) (hlink : (Cond.fieldLink own index "ShufflingBookModel" "kind" "[I") ∈ TB) (hdg : decode cc pc = .ok (.getfield index, 3)) (kk : Wl p l e R s m args below meth c Qf G A nL cells slots M (pc + 3) lv (.ref (gAD G (i + 4)) :: st)) : Wl p l e R s m args below meth c Qf G A nL cells slots M pc lv (.ref (gAD G i) :: st) := wl_get C (T := TX8) (ci := 8) inX8 rfl hi (gc_k hk) 4 (by decide) hlink (fun _ h => h) rfl hdg kk
theorem gf_8_5 (C : Cx p s m args meth c G A cc nL own) (hk : kd i = 8) (hi : gI G i) (hlink : (Cond.fieldLink own index "ShufflingBookModel" "above" "[I") ∈ TB) (hdg : decode cc pc = .ok (.getfield index, 3)) (kk : Wl p l e R s m args below meth c Qf G A nL cells slots M (pc + 3) lv (.ref (gAD G (i + 5)) :: st)) : Wl p l e R s m args below meth c Qf G A nL cells slots M pc lv (.ref (gAD G i) :: st) := wl_get C (T := TX8) (ci := 8) inX8 rfl hi (gc_k hk) 5 (by decide) hlink (fun _ h => h) rfl hdg kk
theorem gf_8_6 (C : Cx p s m args meth c G A cc nL own) (hk : kd i = 8) (hi : gI G i) (hlink : (Cond.fieldLink own index "ShufflingBookModel" "swapMany" "[I") ∈ TB) (hdg : decode cc pc = .ok (.getfield index, 3)) (kk : Wl p l e R s m args below meth c Qf G A nL cells slots M (pc + 3) lv (.ref (gAD G (i + 6)) :: st)) : Wl p l e R s m args below meth c Qf G A nL cells slots M pc lv (.ref (gAD G i) :: st) := wl_get C (T := TX8) (ci := 8) inX8 rfl hi (gc_k hk) 6 (by decide) hlink (fun _ h => h) rfl hdg kk
theorem gf_8_7 (C : Cx p s m args meth c G A cc nL own) (hk : kd i = 8) (hi : gI G i) (hlink : (Cond.fieldLink own index "ShufflingBookModel" "swaps" "[I") ∈ TB) (hdg : decode cc pc = .ok (.getfield index, 3)) (kk : Wl p l e R s m args below meth c Qf G A nL cells slots M (pc + 3) lv (.ref (gAD G (i + 7)) :: st)) : Wl p l e R s m args below meth c Qf G A nL cells slots M pc lv (.ref (gAD G i) :: st) := wl_get C (T := TX8) (ci := 8) inX8 rfl hi (gc_k hk) 7 (by decide) hlink (fun _ h => h) rfl hdg kk
theorem gf_8_8 (C : Cx p s m args meth c G A cc nL own) (hk : kd i = 8) (hi : gI G i) (hlink : (Cond.fieldLink own index "ShufflingBookModel" "taleMany" "[I") ∈ TB) (hdg : decode cc pc = .ok (.getfield index, 3)) (kk : Wl p l e R s m args below meth c Qf G A nL cells slots M (pc + 3) lv (.ref (gAD G (i + 8)) :: st)) : Wl p l e R s m args below meth c Qf G A nL cells slots M pc lv (.ref (gAD G i) :: st) := wl_get C (T := TX8) (ci := 8) inX8 rfl hi (gc_k hk) 8 (by decide) hlink (fun _ h => h) rfl hdg kk
theorem gf_8_9 (C : Cx p s m args meth c G A cc nL own) (hk : kd i = 8) (hi : gI G i) (hlink : (Cond.fieldLink own index "ShufflingBookModel" "tale" "[I") ∈ TB) (hdg : decode cc pc = .ok (.getfield index, 3)) (kk : Wl p l e R s m args below meth c Qf G A nL cells slots M (pc + 3) lv (.ref (gAD G (i + 9)) :: st)) : Wl p l e R s m args below meth c Qf G A nL cells slots M pc lv (.ref (gAD G i) :: st) := wl_get C (T := TX8) (ci := 8) inX8 rfl hi (gc_k hk) 9 (by decide) hlink (fun _ h => h) rfl hdg kk
theorem gf_8_10 (C : Cx p s m args meth c G A cc nL own) (hk : kd i = 8) (hi : gI G i) (hlink : (Cond.fieldLink own index "ShufflingBookModel" "first" "[I") ∈ TB) (hdg : decode cc pc = .ok (.getfield index, 3)) (kk : Wl p l e R s m args below meth c Qf G A nL cells slots M (pc + 3) lv (.ref (gAD G (i + 10)) :: st)) : Wl p l e R s m args below meth c Qf G A nL cells slots M pc lv (.ref (gAD G i) :: st) := wl_get C (T := TX8) (ci := 8) inX8 rfl hi (gc_k hk) 10 (by decide) hlink (fun _ h => h) rfl hdg kk
theorem gf_8_11 (C : Cx p s m args meth c G A cc nL own) (hk : kd i = 8) (hi : gI G i) (hlink : (Cond.fieldLink own index "ShufflingBookModel" "pack" "[I") ∈ TB) (hdg : decode cc pc = .ok (.getfield index, 3)) (kk : Wl p l e R s m args below meth c Qf G A nL cells slots M (pc + 3) lv (.ref (gAD G (i + 11)) :: st)) : Wl p l e R s m args below meth c Qf G A nL cells slots M pc lv (.ref (gAD G i) :: st) := wl_get C (T := TX8) (ci := 8) inX8 rfl hi (gc_k hk) 11 (by decide) hlink (fun _ h => h) rfl hdg kk
theorem gf_8_12 (C : Cx p s m args meth c G A cc nL own) (hk : kd i = 8) (hi : gI G i) (hlink : (Cond.fieldLink own index "ShufflingBookModel" "readMany" "[I") ∈ TB) (hdg : decode cc pc = .ok (.getfield index, 3)) (kk : Wl p l e R s m args below meth c Qf G A nL cells slots M (pc + 3) lv (.ref (gAD G (i + 12)) :: st)) : Wl p l e R s m args below meth c Qf G A nL cells slots M pc lv (.ref (gAD G i) :: st) := wl_get C (T := TX8) (ci := 8) inX8 rfl hi (gc_k hk) 12 (by decide) hlink (fun _ h => h) rfl hdg kk
theorem gf_8_13 (C : Cx p s m args meth c G A cc nL own) (hk : kd i = 8) (hi : gI G i) (hlink : (Cond.fieldLink own index "ShufflingBookModel" "doneMany" "[I") ∈ TB) (hdg : decode cc pc = .ok (.getfield index, 3)) (kk : Wl p l e R s m args below meth c Qf G A nL cells slots M (pc + 3) lv (.ref (gAD G (i + 13)) :: st)) : Wl p l e R s m args below meth c Qf G A nL cells slots M pc lv (.ref (gAD G i) :: st) := wl_get C (T := TX8) (ci := 8) inX8 rfl hi (gc_k hk) 13 (by decide) hlink (fun _ h => h) rfl hdg kk
theorem gf_8_14 (C : Cx p s m args meth c G A cc nL own) (hk : kd i = 8) (hi : gI G i) (hlink : (Cond.fieldLink own index "ShufflingBookModel" "keptMany" "I") ∈ TB) (hdg : decode cc pc = .ok (.getfield index, 3)) (kk : Wl p l e R s m args below meth c Qf G A nL cells slots M (pc + 3) lv (.int (M i 14) :: st)) : Wl p l e R s m args below meth c Qf G A nL cells slots M pc lv (.ref (gAD G i) :: st) := wl_get C (T := TX8) (ci := 8) inX8 rfl hi (gc_k hk) 14 (by decide) hlink (fun _ h => h) rfl hdg kk
theorem gf_8_15 (C : Cx p s m args meth c G A cc nL own) (hk : kd i = 8) (hi : gI G i) (hlink : (Cond.fieldLink own index "ShufflingBookModel" "seenMany" "I") ∈ TB) (hdg : decode cc pc = .ok (.getfield index, 3)) (kk : Wl p l e R s m args below meth c Qf G A nL cells slots M (pc + 3) lv (.int (M i 15) :: st)) : Wl p l e R s m args below meth c Qf G A nL cells slots M pc lv (.ref (gAD G i) :: st) := wl_get C (T := TX8) (ci := 8) inX8 rfl hi (gc_k hk) 15 (by decide) hlink (fun _ h => h) rfl hdg kk
theorem gf_8_16 (C : Cx p s m args meth c G A cc nL own) (hk : kd i = 8) (hi : gI G i) (hlink : (Cond.fieldLink own index "ShufflingBookModel" "seenBy" "[J") ∈ TB) (hdg : decode cc pc = .ok (.getfield index, 3)) (kk : Wl p l e R s m args below meth c Qf G A nL cells slots M (pc + 3) lv (.ref (gAD G (i + 14)) :: st)) : Wl p l e R s m args below meth c Qf G A nL cells slots M pc lv (.ref (gAD G i) :: st) := wl_get C (T := TX8) (ci := 8) inX8 rfl hi (gc_k hk) 16 (by decide) hlink (fun _ h => h) rfl hdg kk
theorem gf_8_17 (C : Cx p s m args meth c G A cc nL own) (hk : kd i = 8) (hi : gI G i) (hlink : (Cond.fieldLink own index "ShufflingBookModel" "seenAs" "[I") ∈ TB) (hdg : decode cc pc = .ok (.getfield index, 3)) (kk : Wl p l e R s m args below meth c Qf G A nL cells slots M (pc + 3) lv (.ref (gAD G (i + 15)) :: st)) : Wl p l e R s m args below meth c Qf G A nL cells slots M pc lv (.ref (gAD G i) :: st) := wl_get C (T := TX8) (ci := 8) inX8 rfl hi (gc_k hk) 17 (by decide) hlink (fun _ h => h) rfl hdg kk
theorem gf_8_18 (C : Cx p s m args meth c G A cc nL own) (hk : kd i = 8) (hi : gI G i) (hlink : (Cond.fieldLink own index "ShufflingBookModel" "seenLeaf" "[I") ∈ TB) (hdg : decode cc pc = .ok (.getfield index, 3)) (kk : Wl p l e R s m args below meth c Qf G A nL cells slots M (pc + 3) lv (.ref (gAD G (i + 16)) :: st)) : Wl p l e R s m args below meth c Qf G A nL cells slots M pc lv (.ref (gAD G i) :: st) := wl_get C (T := TX8) (ci := 8) inX8 rfl hi (gc_k hk) 18 (by decide) hlink (fun _ h => h) rfl hdg kk
theorem gf_8_19 (C : Cx p s m args meth c G A cc nL own) (hk : kd i = 8) (hi : gI G i) (hlink : (Cond.fieldLink own index "ShufflingBookModel" "place" "I") ∈ TB) (hdg : decode cc pc = .ok (.getfield index, 3)) (kk : Wl p l e R s m args below meth c Qf G A nL cells slots M (pc + 3) lv (.int (M i 19) :: st)) : Wl p l e R s m args below meth c Qf G A nL cells slots M pc lv (.ref (gAD G i) :: st) := wl_get C (T := TX8) (ci := 8) inX8 rfl hi (gc_k hk) 19 (by decide) hlink (fun _ h => h) rfl hdg kk
theorem gf_8_20 (C : Cx p s m args meth c G A cc nL own) (hk : kd i = 8) (hi : gI G i) (hlink : (Cond.fieldLink own index "ShufflingBookModel" "told" "[I") ∈ TB) (hdg : decode cc pc = .ok (.getfield index, 3)) (kk : Wl p l e R s m args below meth c Qf G A nL cells slots M (pc + 3) lv (.ref (gAD G (i + 17)) :: st)) : Wl p l e R s m args below meth c Qf G A nL cells slots M pc lv (.ref (gAD G i) :: st) := wl_get C (T := TX8) (ci := 8) inX8 rfl hi (gc_k hk) 20 (by decide) hlink (fun _ h => h) rfl hdg kk
theorem gf_8_21 (C : Cx p s m args meth c G A cc nL own) (hk : kd i = 8) (hi : gI G i) (hlink : (Cond.fieldLink own index "ShufflingBookModel" "half" "[I") ∈ TB) (hdg : decode cc pc = .ok (.getfield index, 3)) (kk : Wl p l e R s m args below meth c Qf G A nL cells slots M (pc + 3) lv (.ref (gAD G (i + 18)) :: st)) : Wl p l e R s m args below meth c Qf G A nL cells slots M pc lv (.ref (gAD G i) :: st) := wl_get C (T := TX8) (ci := 8) inX8 rfl hi (gc_k hk) 21 (by decide) hlink (fun _ h => h) rfl hdg kk
theorem gf_8_22 (C : Cx p s m args meth c G A cc nL own) (hk : kd i = 8) (hi : gI G i) (hlink : (Cond.fieldLink own index "ShufflingBookModel" "from" "[I") ∈ TB) (hdg : decode cc pc = .ok (.getfield index, 3)) (kk : Wl p l e R s m args below meth c Qf G A nL cells slots M (pc + 3) lv (.ref (gAD G (i + 19)) :: st)) : Wl p l e R s m args below meth c Qf G A nL cells slots M pc lv (.ref (gAD G i) :: st) := wl_get C (T := TX8) (ci := 8) inX8 rfl hi (gc_k hk) 22 (by decide) hlink (fun _ h => h) rfl hdg kk
theorem gf_8_23 (C : Cx p s m args meth c G A cc nL own) (hk : kd i = 8) (hi : gI G i) (hlink : (Cond.fieldLink own index "ShufflingBookModel" "ends" "[I") ∈ TB) (hdg : decode cc pc = .ok (.getfield index, 3)) (kk : Wl p l e R s m args below meth c Qf G A nL cells slots M (pc + 3) lv (.ref (gAD G (i + 20)) :: st)) : Wl p l e R s m args below meth c Qf G A nL cells slots M pc lv (.ref (gAD G i) :: st) := wl_get C (T := TX8) (ci := 8) inX8 rfl hi (gc_k hk) 23 (by decide) hlink (fun _ h => h) rfl hdg kk
theorem gf_8_24 (C : Cx p s m args meth c G A cc nL own) (hk : kd i = 8) (hi : gI G i) (hlink : (Cond.fieldLink own index "ShufflingBookModel" "power" "[I") ∈ TB) (hdg : decode cc pc = .ok (.getfield index, 3)) (kk : Wl p l e R s m args below meth c Qf G A nL cells slots M (pc + 3) lv (.ref (gAD G (i + 21)) :: st)) : Wl p l e R s m args below meth c Qf G A nL cells slots M pc lv (.ref (gAD G i) :: st) := wl_get C (T := TX8) (ci := 8) inX8 rfl hi (gc_k hk) 24 (by decide) hlink (fun _ h => h) rfl hdg kk
theorem gf_8_25 (C : Cx p s m args meth c G A cc nL own) (hk : kd i = 8) (hi : gI G i) (hlink : (Cond.fieldLink own index "ShufflingBookModel" "square" "[I") ∈ TB) (hdg : decode cc pc = .ok (.getfield index, 3)) (kk : Wl p l e R s m args below meth c Qf G A nL cells slots M (pc + 3) lv (.ref (gAD G (i + 22)) :: st)) : Wl p l e R s m args below meth c Qf G A nL cells slots M pc lv (.ref (gAD G i) :: st) := wl_get C (T := TX8) (ci := 8) inX8 rfl hi (gc_k hk) 25 (by decide) hlink (fun _ h => h) rfl hdg kk
theorem gf_8_26 (C : Cx p s m args meth c G A cc nL own) (hk : kd i = 8) (hi : gI G i) (hlink : (Cond.fieldLink own index "ShufflingBookModel" "spare" "[I") ∈ TB) (hdg : decode cc pc = .ok (.getfield index, 3)) (kk : Wl p l e R s m args below meth c Qf G A nL cells slots M (pc + 3) lv (.ref (gAD G (i + 23)) :: st)) : Wl p l e R s m args below meth c Qf G A nL cells slots M pc lv (.ref (gAD G i) :: st) := wl_get C (T := TX8) (ci := 8) inX8 rfl hi (gc_k hk) 26 (by decide) hlink (fun _ h => h) rfl hdg kk
theorem gf_8_27 (C : Cx p s m args meth c G A cc nL own) (hk : kd i = 8) (hi : gI G i) (hlink : (Cond.fieldLink own index "ShufflingBookModel" "leafAt" "[I") ∈ TB) (hdg : decode cc pc = .ok (.getfield index, 3)) (kk : Wl p l e R s m args below meth c Qf G A nL cells slots M (pc + 3) lv (.ref (gAD G (i + 24)) :: st)) : Wl p l e R s m args below meth c Qf G A nL cells slots M pc lv (.ref (gAD G i) :: st) := wl_get C (T := TX8) (ci := 8) inX8 rfl hi (gc_k hk) 27 (by decide) hlink (fun _ h => h) rfl hdg kk
theorem gf_8_28 (C : Cx p s m args meth c G A cc nL own) (hk : kd i = 8) (hi : gI G i) (hlink : (Cond.fieldLink own index "ShufflingBookModel" "placeAt" "[I") ∈ TB) (hdg : decode cc pc = .ok (.getfield index, 3)) (kk : Wl p l e R s m args below meth c Qf G A nL cells slots M (pc + 3) lv (.ref (gAD G (i + 25)) :: st)) : Wl p l e R s m args below meth c Qf G A nL cells slots M pc lv (.ref (gAD G i) :: st) := wl_get C (T := TX8) (ci := 8) inX8 rfl hi (gc_k hk) 28 (by decide) hlink (fun _ h => h) rfl hdg kk
theorem gf_8_29 (C : Cx p s m args meth c G A cc nL own) (hk : kd i = 8) (hi : gI G i) (hlink : (Cond.fieldLink own index "ShufflingBookModel" "knownMany" "I") ∈ TB) (hdg : decode cc pc = .ok (.getfield index, 3)) (kk : Wl p l e R s m args below meth c Qf G A nL cells slots M (pc + 3) lv (.int (M i 29) :: st)) : Wl p l e R s m args below meth c Qf G A nL cells slots M pc lv (.ref (gAD G i) :: st) := wl_get C (T := TX8) (ci := 8) inX8 rfl hi (gc_k hk) 29 (by decide) hlink (fun _ h => h) rfl hdg kk
theorem gf_8_30 (C : Cx p s m args meth c G A cc nL own) (hk : kd i = 8) (hi : gI G i) (hlink : (Cond.fieldLink own index "ShufflingBookModel" "tried" "[I") ∈ TB) (hdg : decode cc pc = .ok (.getfield index, 3)) (kk : Wl p l e R s m args below meth c Qf G A nL cells slots M (pc + 3) lv (.ref (gAD G (i + 26)) :: st)) : Wl p l e R s m args below meth c Qf G A nL cells slots M pc lv (.ref (gAD G i) :: st) := wl_get C (T := TX8) (ci := 8) inX8 rfl hi (gc_k hk) 30 (by decide) hlink (fun _ h => h) rfl hdg kk
theorem gfN_1_2 (C : Cx p s m args meth c G A cc nL own) (hk : kd i = 1) (hi : gI G i) (hlink : (own, index, "ShufflingBook$Order", "size", "I", "ShufflingBook") ∈ nestF) (hdg : decode cc pc = .ok (.getfield index, 3)) (kk : Wl p l e R s m args below meth c Qf G A nL cells slots M (pc + 3) lv (.int (M i 2) :: st)) : Wl p l e R s m args below meth c Qf G A nL cells slots M pc lv (.ref (gAD G i) :: st) := wl_getN C (T := TX1) (ci := 1) inX1 rfl hi (gc_k hk) 2 (by decide) hlink (fun _ h => h) rfl hdg kk
theorem gfN_2_0 (C : Cx p s m args meth c G A cc nL own) (hk : kd i = 2) (hi : gI G i) (hlink : (own, index, "ShufflingBook$Pack", "order", "LShufflingBook$Order;", "ShufflingBook") ∈ nestF) (hdg : decode cc pc = .ok (.getfield index, 3)) (kk : Wl p l e R s m args below meth c Qf G A nL cells slots M (pc + 3) lv (.ref (gAD G (i + 1)) :: st)) : Wl p l e R s m args below meth c Qf G A nL cells slots M pc lv (.ref (gAD G i) :: st) := wl_getN C (T := TX2) (ci := 2) inX2 rfl hi (gc_k hk) 0 (by decide) hlink (fun _ h => h) rfl hdg kk
theorem gfN_2_1 (C : Cx p s m args meth c G A cc nL own) (hk : kd i = 2) (hi : gI G i) (hlink : (own, index, "ShufflingBook$Pack", "readSoFar", "I", "ShufflingBook") ∈ nestF) (hdg : decode cc pc = .ok (.getfield index, 3)) (kk : Wl p l e R s m args below meth c Qf G A nL cells slots M (pc + 3) lv (.int (M i 1) :: st)) : Wl p l e R s m args below meth c Qf G A nL cells slots M pc lv (.ref (gAD G i) :: st) := wl_getN C (T := TX2) (ci := 2) inX2 rfl hi (gc_k hk) 1 (by decide) hlink (fun _ h => h) rfl hdg kk
theorem gfN_2_2 (C : Cx p s m args meth c G A cc nL own) (hk : kd i = 2) (hi : gI G i) (hlink : (own, index, "ShufflingBook$Pack", "readersDone", "I", "ShufflingBook") ∈ nestF) (hdg : decode cc pc = .ok (.getfield index, 3)) (kk : Wl p l e R s m args below meth c Qf G A nL cells slots M (pc + 3) lv (.int (M i 2) :: st)) : Wl p l e R s m args below meth c Qf G A nL cells slots M pc lv (.ref (gAD G i) :: st) := wl_getN C (T := TX2) (ci := 2) inX2 rfl hi (gc_k hk) 2 (by decide) hlink (fun _ h => h) rfl hdg kk
theorem gfN_6_0 (C : Cx p s m args meth c G A cc nL own) (hk : kd i = 6) (hi : gI G i) (hlink : (own, index, "ShufflingBook$Told", "leafCount", "I", "ShufflingBook") ∈ nestF) (hdg : decode cc pc = .ok (.getfield index, 3)) (kk : Wl p l e R s m args below meth c Qf G A nL cells slots M (pc + 3) lv (.int (M i 0) :: st)) : Wl p l e R s m args below meth c Qf G A nL cells slots M pc lv (.ref (gAD G i) :: st) := wl_getN C (T := TX6) (ci := 6) inX6 rfl hi (gc_k hk) 0 (by decide) hlink (fun _ h => h) rfl hdg kk
theorem gfN_6_1 (C : Cx p s m args meth c G A cc nL own) (hk : kd i = 6) (hi : gI G i) (hlink : (own, index, "ShufflingBook$Told", "perReader", "I", "ShufflingBook") ∈ nestF) (hdg : decode cc pc = .ok (.getfield index, 3)) (kk : Wl p l e R s m args below meth c Qf G A nL cells slots M (pc + 3) lv (.int (M i 1) :: st)) : Wl p l e R s m args below meth c Qf G A nL cells slots M pc lv (.ref (gAD G i) :: st) := wl_getN C (T := TX6) (ci := 6) inX6 rfl hi (gc_k hk) 1 (by decide) hlink (fun _ h => h) rfl hdg kk
theorem gfN_6_2 (C : Cx p s m args meth c G A cc nL own) (hk : kd i = 6) (hi : gI G i) (hlink : (own, index, "ShufflingBook$Told", "kind", "I", "ShufflingBook") ∈ nestF) (hdg : decode cc pc = .ok (.getfield index, 3)) (kk : Wl p l e R s m args below meth c Qf G A nL cells slots M (pc + 3) lv (.int (M i 2) :: st)) : Wl p l e R s m args below meth c Qf G A nL cells slots M pc lv (.ref (gAD G i) :: st) := wl_getN C (T := TX6) (ci := 6) inX6 rfl hi (gc_k hk) 2 (by decide) hlink (fun _ h => h) rfl hdg kk
theorem gfN_6_3 (C : Cx p s m args meth c G A cc nL own) (hk : kd i = 6) (hi : gI G i) (hlink : (own, index, "ShufflingBook$Told", "reach", "I", "ShufflingBook") ∈ nestF) (hdg : decode cc pc = .ok (.getfield index, 3)) (kk : Wl p l e R s m args below meth c Qf G A nL cells slots M (pc + 3) lv (.int (M i 3) :: st)) : Wl p l e R s m args below meth c Qf G A nL cells slots M pc lv (.ref (gAD G i) :: st) := wl_getN C (T := TX6) (ci := 6) inX6 rfl hi (gc_k hk) 3 (by decide) hlink (fun _ h => h) rfl hdg kk
theorem gfN_6_8 (C : Cx p s m args meth c G A cc nL own) (hk : kd i = 6) (hi : gI G i) (hlink : (own, index, "ShufflingBook$Told", "taleLength", "I", "ShufflingBook") ∈ nestF) (hdg : decode cc pc = .ok (.getfield index, 3)) (kk : Wl p l e R s m args below meth c Qf G A nL cells slots M (pc + 3) lv (.int (M i 8) :: st)) : Wl p l e R s m args below meth c Qf G A nL cells slots M pc lv (.ref (gAD G i) :: st) := wl_getN C (T := TX6) (ci := 6) inX6 rfl hi (gc_k hk) 8 (by decide) hlink (fun _ h => h) rfl hdg kk
theorem gp_0_2 (C : Cx p s m args meth c G A cc nL own) {x : Int32} (hk : kd i = 0) (hi : gI G i) (hlink : (Cond.fieldLink own index "ShufflingBook$Guess" "size" "I") ∈ TB) (hdg : decode cc pc = .ok (.putfield index, 3)) (kk : Wl p l e R s m args below meth c Qf G A nL cells slots (mu M i 2 x) (pc + 3) lv st) : Wl p l e R s m args below meth c Qf G A nL cells slots M pc lv (.int x :: .ref (gAD G i) :: st) := wl_put C (T := TX0) (ci := 0) (ty := .int) (v := .int x) inX0 tyX0 tyX0_ok nmX0 rfl hi (gc_k hk) 2 (by decide) hlink (fun _ h => h) rfl (by decide +kernel) rfl rfl (Nat.le_of_ble_eq_true rfl) (M' := mu M i 2 x) (by rw [gc_k hk]; simp [gF, mu_self, upd]) (fun _ h => mu_ne h) hdg kk
theorem gp_0_3 (C : Cx p s m args meth c G A cc nL own) {x : Int32} (hk : kd i = 0) (hi : gI G i) (hlink : (Cond.fieldLink own index "ShufflingBook$Guess" "bound" "I") ∈ TB) (hdg : decode cc pc = .ok (.putfield index, 3)) (kk : Wl p l e R s m args below meth c Qf G A nL cells slots (mu M i 3 x) (pc + 3) lv st) : Wl p l e R s m args below meth c Qf G A nL cells slots M pc lv (.int x :: .ref (gAD G i) :: st) := wl_put C (T := TX0) (ci := 0) (ty := .int) (v := .int x) inX0 tyX0 tyX0_ok nmX0 rfl hi (gc_k hk) 3 (by decide) hlink (fun _ h => h) rfl (by decide +kernel) rfl rfl (Nat.le_of_ble_eq_true rfl) (M' := mu M i 3 x) (by rw [gc_k hk]; simp [gF, mu_self, upd]) (fun _ h => mu_ne h) hdg kk
theorem gp_0_4 (C : Cx p s m args meth c G A cc nL own) {x : Int32} (hk : kd i = 0) (hi : gI G i) (hlink : (Cond.fieldLink own index "ShufflingBook$Guess" "consistent" "Z") ∈ TB) (hv : x = 0 ∨ x = 1) (hdg : decode cc pc = .ok (.putfield index, 3)) (kk : Wl p l e R s m args below meth c Qf G A nL cells slots (mu M i 4 x) (pc + 3) lv st) : Wl p l e R s m args below meth c Qf G A nL cells slots M pc lv (.int x :: .ref (gAD G i) :: st) := wl_put C (T := TX0) (ci := 0) (ty := .boolean) (v := .int x) inX0 tyX0 tyX0_ok nmX0 rfl hi (gc_k hk) 4 (by decide) hlink (fun _ h => h) rfl (by decide +kernel) (by rcases hv with rfl | rfl <;> rfl) (by rcases hv with rfl | rfl <;> rfl) (Nat.le_of_ble_eq_true rfl) (M' := mu M i 4 x) (by rw [gc_k hk]; simp [gF, mu_self, upd]) (fun _ h => mu_ne h) hdg kk
theorem gp_1_2 (C : Cx p s m args meth c G A cc nL own) {x : Int32} (hk : kd i = 1) (hi : gI G i) (hlink : (Cond.fieldLink own index "ShufflingBook$Order" "size" "I") ∈ TB) (hdg : decode cc pc = .ok (.putfield index, 3)) (kk : Wl p l e R s m args below meth c Qf G A nL cells slots (mu M i 2 x) (pc + 3) lv st) : Wl p l e R s m args below meth c Qf G A nL cells slots M pc lv (.int x :: .ref (gAD G i) :: st) := wl_put C (T := TX1) (ci := 1) (ty := .int) (v := .int x) inX1 tyX1 tyX1_ok nmX1 rfl hi (gc_k hk) 2 (by decide) hlink (fun _ h => h) rfl (by decide +kernel) rfl rfl (Nat.le_of_ble_eq_true rfl) (M' := mu M i 2 x) (by rw [gc_k hk]; simp [gF, mu_self, upd]) (fun _ h => mu_ne h) hdg kk
theorem gp_2_1 (C : Cx p s m args meth c G A cc nL own) {x : Int32} (hk : kd i = 2) (hi : gI G i) (hlink : (Cond.fieldLink own index "ShufflingBook$Pack" "readSoFar" "I") ∈ TB) (hdg : decode cc pc = .ok (.putfield index, 3)) (kk : Wl p l e R s m args below meth c Qf G A nL cells slots (mu M i 1 x) (pc + 3) lv st) : Wl p l e R s m args below meth c Qf G A nL cells slots M pc lv (.int x :: .ref (gAD G i) :: st) := wl_put C (T := TX2) (ci := 2) (ty := .int) (v := .int x) inX2 tyX2 tyX2_ok nmX2 rfl hi (gc_k hk) 1 (by decide) hlink (fun _ h => h) rfl (by decide +kernel) rfl rfl (Nat.le_of_ble_eq_true rfl) (M' := mu M i 1 x) (by rw [gc_k hk]; simp [gF, mu_self, upd]) (fun _ h => mu_ne h) hdg kk
theorem gp_2_2 (C : Cx p s m args meth c G A cc nL own) {x : Int32} (hk : kd i = 2) (hi : gI G i) (hlink : (Cond.fieldLink own index "ShufflingBook$Pack" "readersDone" "I") ∈ TB) (hdg : decode cc pc = .ok (.putfield index, 3)) (kk : Wl p l e R s m args below meth c Qf G A nL cells slots (mu M i 2 x) (pc + 3) lv st) : Wl p l e R s m args below meth c Qf G A nL cells slots M pc lv (.int x :: .ref (gAD G i) :: st) := wl_put C (T := TX2) (ci := 2) (ty := .int) (v := .int x) inX2 tyX2 tyX2_ok nmX2 rfl hi (gc_k hk) 2 (by decide) hlink (fun _ h => h) rfl (by decide +kernel) rfl rfl (Nat.le_of_ble_eq_true rfl) (M' := mu M i 2 x) (by rw [gc_k hk]; simp [gF, mu_self, upd]) (fun _ h => mu_ne h) hdg kk
theorem gp_3_1 (C : Cx p s m args meth c G A cc nL own) {x : Int32} (hk : kd i = 3) (hi : gI G i) (hlink : (Cond.fieldLink own index "ShufflingBook$Readers" "size" "I") ∈ TB) (hdg : decode cc pc = .ok (.putfield index, 3)) (kk : Wl p l e R s m args below meth c Qf G A nL cells slots (mu M i 1 x) (pc + 3) lv st) : Wl p l e R s m args below meth c Qf G A nL cells slots M pc lv (.int x :: .ref (gAD G i) :: st) := wl_put C (T := TX3) (ci := 3) (ty := .int) (v := .int x) inX3 tyX3 tyX3_ok nmX3 rfl hi (gc_k hk) 1 (by decide) hlink (fun _ h => h) rfl (by decide +kernel) rfl rfl (Nat.le_of_ble_eq_true rfl) (M' := mu M i 1 x) (by rw [gc_k hk]; simp [gF, mu_self, upd]) (fun _ h => mu_ne h) hdg kk
theorem gp_5_1 (C : Cx p s m args meth c G A cc nL own) {x : Int32} (hk : kd i = 5) (hi : gI G i) (hlink : (Cond.fieldLink own index "ShufflingBook$Text" "length" "I") ∈ TB) (hdg : decode cc pc = .ok (.putfield index, 3)) (kk : Wl p l e R s m args below meth c Qf G A nL cells slots (mu M i 1 x) (pc + 3) lv st) : Wl p l e R s m args below meth c Qf G A nL cells slots M pc lv (.int x :: .ref (gAD G i) :: st) := wl_put C (T := TX5) (ci := 5) (ty := .int) (v := .int x) inX5 tyX5 tyX5_ok nmX5 rfl hi (gc_k hk) 1 (by decide) hlink (fun _ h => h) rfl (by decide +kernel) rfl rfl (Nat.le_of_ble_eq_true rfl) (M' := mu M i 1 x) (by rw [gc_k hk]; simp [gF, mu_self, upd]) (fun _ h => mu_ne h) hdg kk
theorem gp_6_0 (C : Cx p s m args meth c G A cc nL own) {x : Int32} (hk : kd i = 6) (hi : gI G i) (hlink : (Cond.fieldLink own index "ShufflingBook$Told" "leafCount" "I") ∈ TB) (hdg : decode cc pc = .ok (.putfield index, 3)) (kk : Wl p l e R s m args below meth c Qf G A nL cells slots (mu M i 0 x) (pc + 3) lv st) : Wl p l e R s m args below meth c Qf G A nL cells slots M pc lv (.int x :: .ref (gAD G i) :: st) := wl_put C (T := TX6) (ci := 6) (ty := .int) (v := .int x) inX6 tyX6 tyX6_ok nmX6 rfl hi (gc_k hk) 0 (by decide) hlink (fun _ h => h) rfl (by decide +kernel) rfl rfl (Nat.le_of_ble_eq_true rfl) (M' := mu M i 0 x) (by rw [gc_k hk]; simp [gF, mu_self, upd]) (fun _ h => mu_ne h) hdg kk
theorem gp_6_1 (C : Cx p s m args meth c G A cc nL own) {x : Int32} (hk : kd i = 6) (hi : gI G i) (hlink : (Cond.fieldLink own index "ShufflingBook$Told" "perReader" "I") ∈ TB) (hdg : decode cc pc = .ok (.putfield index, 3)) (kk : Wl p l e R s m args below meth c Qf G A nL cells slots (mu M i 1 x) (pc + 3) lv st) : Wl p l e R s m args below meth c Qf G A nL cells slots M pc lv (.int x :: .ref (gAD G i) :: st) := wl_put C (T := TX6) (ci := 6) (ty := .int) (v := .int x) inX6 tyX6 tyX6_ok nmX6 rfl hi (gc_k hk) 1 (by decide) hlink (fun _ h => h) rfl (by decide +kernel) rfl rfl (Nat.le_of_ble_eq_true rfl) (M' := mu M i 1 x) (by rw [gc_k hk]; simp [gF, mu_self, upd]) (fun _ h => mu_ne h) hdg kk
theorem gp_6_2 (C : Cx p s m args meth c G A cc nL own) {x : Int32} (hk : kd i = 6) (hi : gI G i) (hlink : (Cond.fieldLink own index "ShufflingBook$Told" "kind" "I") ∈ TB) (hdg : decode cc pc = .ok (.putfield index, 3)) (kk : Wl p l e R s m args below meth c Qf G A nL cells slots (mu M i 2 x) (pc + 3) lv st) : Wl p l e R s m args below meth c Qf G A nL cells slots M pc lv (.int x :: .ref (gAD G i) :: st) := wl_put C (T := TX6) (ci := 6) (ty := .int) (v := .int x) inX6 tyX6 tyX6_ok nmX6 rfl hi (gc_k hk) 2 (by decide) hlink (fun _ h => h) rfl (by decide +kernel) rfl rfl (Nat.le_of_ble_eq_true rfl) (M' := mu M i 2 x) (by rw [gc_k hk]; simp [gF, mu_self, upd]) (fun _ h => mu_ne h) hdg kk
theorem gp_6_3 (C : Cx p s m args meth c G A cc nL own) {x : Int32} (hk : kd i = 6) (hi : gI G i) (hlink : (Cond.fieldLink own index "ShufflingBook$Told" "reach" "I") ∈ TB) (hdg : decode cc pc = .ok (.putfield index, 3)) (kk : Wl p l e R s m args below meth c Qf G A nL cells slots (mu M i 3 x) (pc + 3) lv st) : Wl p l e R s m args below meth c Qf G A nL cells slots M pc lv (.int x :: .ref (gAD G i) :: st) := wl_put C (T := TX6) (ci := 6) (ty := .int) (v := .int x) inX6 tyX6 tyX6_ok nmX6 rfl hi (gc_k hk) 3 (by decide) hlink (fun _ h => h) rfl (by decide +kernel) rfl rfl (Nat.le_of_ble_eq_true rfl) (M' := mu M i 3 x) (by rw [gc_k hk]; simp [gF, mu_self, upd]) (fun _ h => mu_ne h) hdg kk
theorem gp_6_6 (C : Cx p s m args meth c G A cc nL own) {x : Int32} (hk : kd i = 6) (hi : gI G i) (hlink : (Cond.fieldLink own index "ShufflingBook$Told" "swapCount" "I") ∈ TB) (hdg : decode cc pc = .ok (.putfield index, 3)) (kk : Wl p l e R s m args below meth c Qf G A nL cells slots (mu M i 6 x) (pc + 3) lv st) : Wl p l e R s m args below meth c Qf G A nL cells slots M pc lv (.int x :: .ref (gAD G i) :: st) := wl_put C (T := TX6) (ci := 6) (ty := .int) (v := .int x) inX6 tyX6 tyX6_ok nmX6 rfl hi (gc_k hk) 6 (by decide) hlink (fun _ h => h) rfl (by decide +kernel) rfl rfl (Nat.le_of_ble_eq_true rfl) (M' := mu M i 6 x) (by rw [gc_k hk]; simp [gF, mu_self, upd]) (fun _ h => mu_ne h) hdg kk
theorem gp_6_8 (C : Cx p s m args meth c G A cc nL own) {x : Int32} (hk : kd i = 6) (hi : gI G i) (hlink : (Cond.fieldLink own index "ShufflingBook$Told" "taleLength" "I") ∈ TB) (hdg : decode cc pc = .ok (.putfield index, 3)) (kk : Wl p l e R s m args below meth c Qf G A nL cells slots (mu M i 8 x) (pc + 3) lv st) : Wl p l e R s m args below meth c Qf G A nL cells slots M pc lv (.int x :: .ref (gAD G i) :: st) := wl_put C (T := TX6) (ci := 6) (ty := .int) (v := .int x) inX6 tyX6 tyX6_ok nmX6 rfl hi (gc_k hk) 8 (by decide) hlink (fun _ h => h) rfl (by decide +kernel) rfl rfl (Nat.le_of_ble_eq_true rfl) (M' := mu M i 8 x) (by rw [gc_k hk]; simp [gF, mu_self, upd]) (fun _ h => mu_ne h) hdg kk
theorem gp_7_1 (C : Cx p s m args meth c G A cc nL own) {t : Nat} (hk : kd i = 7) (hi : gI G i) (hlink : (Cond.fieldLink own index "ShufflingBook" "draft" "LShufflingBook$Told;") ∈ TB) (hv : rid (Int32.ofNat t) = t) (hdg : decode cc pc = .ok (.putfield index, 3)) (kk : Wl p l e R s m args below meth c Qf G A nL cells slots (mu M i 1 (Int32.ofNat t)) (pc + 3) lv st) : Wl p l e R s m args below meth c Qf G A nL cells slots M pc lv (.ref (gAD G t) :: .ref (gAD G i) :: st) := wl_put C (T := TX7) (ci := 7) (ty := (.object "ShufflingBook$Told")) (v := .ref (gAD G t)) inX7 tyX7 tyX7_ok nmX7 rfl hi (gc_k hk) 1 (by decide) hlink (fun _ h => h) rfl (by decide +kernel) rfl rfl (Nat.le_of_ble_eq_true rfl) (M' := mu M i 1 (Int32.ofNat t)) (by rw [gc_k hk]; simp [gF, mu_self, upd, hv]) (fun _ h => mu_ne h) hdg kk
theorem gp_7_2 (C : Cx p s m args meth c G A cc nL own) {t : Nat} (hk : kd i = 7) (hi : gI G i) (hlink : (Cond.fieldLink own index "ShufflingBook" "laid" "LShufflingBook$Told;") ∈ TB) (hv : rid (Int32.ofNat t) = t) (hdg : decode cc pc = .ok (.putfield index, 3)) (kk : Wl p l e R s m args below meth c Qf G A nL cells slots (mu M i 2 (Int32.ofNat t)) (pc + 3) lv st) : Wl p l e R s m args below meth c Qf G A nL cells slots M pc lv (.ref (gAD G t) :: .ref (gAD G i) :: st) := wl_put C (T := TX7) (ci := 7) (ty := (.object "ShufflingBook$Told")) (v := .ref (gAD G t)) inX7 tyX7 tyX7_ok nmX7 rfl hi (gc_k hk) 2 (by decide) hlink (fun _ h => h) rfl (by decide +kernel) rfl rfl (Nat.le_of_ble_eq_true rfl) (M' := mu M i 2 (Int32.ofNat t)) (by rw [gc_k hk]; simp [gF, mu_self, upd, hv]) (fun _ h => mu_ne h) hdg kk
theorem gp_7_9 (C : Cx p s m args meth c G A cc nL own) {x : Int32} (hk : kd i = 7) (hi : gI G i) (hlink : (Cond.fieldLink own index "ShufflingBook" "seenCount" "I") ∈ TB) (hdg : decode cc pc = .ok (.putfield index, 3)) (kk : Wl p l e R s m args below meth c Qf G A nL cells slots (mu M i 9 x) (pc + 3) lv st) : Wl p l e R s m args below meth c Qf G A nL cells slots M pc lv (.int x :: .ref (gAD G i) :: st) := wl_put C (T := TX7) (ci := 7) (ty := .int) (v := .int x) inX7 tyX7 tyX7_ok nmX7 rfl hi (gc_k hk) 9 (by decide) hlink (fun _ h => h) rfl (by decide +kernel) rfl rfl (Nat.le_of_ble_eq_true rfl) (M' := mu M i 9 x) (by rw [gc_k hk]; simp [gF, mu_self, upd]) (fun _ h => mu_ne h) hdg kk
theorem gp_7_13 (C : Cx p s m args meth c G A cc nL own) {x : Int32} (hk : kd i = 7) (hi : gI G i) (hlink : (Cond.fieldLink own index "ShufflingBook" "keptCount" "I") ∈ TB) (hdg : decode cc pc = .ok (.putfield index, 3)) (kk : Wl p l e R s m args below meth c Qf G A nL cells slots (mu M i 13 x) (pc + 3) lv st) : Wl p l e R s m args below meth c Qf G A nL cells slots M pc lv (.int x :: .ref (gAD G i) :: st) := wl_put C (T := TX7) (ci := 7) (ty := .int) (v := .int x) inX7 tyX7 tyX7_ok nmX7 rfl hi (gc_k hk) 13 (by decide) hlink (fun _ h => h) rfl (by decide +kernel) rfl rfl (Nat.le_of_ble_eq_true rfl) (M' := mu M i 13 x) (by rw [gc_k hk]; simp [gF, mu_self, upd]) (fun _ h => mu_ne h) hdg kk
theorem gp_8_0 (C : Cx p s m args meth c G A cc nL own) {x : Int32} (hk : kd i = 8) (hi : gI G i) (hlink : (Cond.fieldLink own index "ShufflingBookModel" "length" "I") ∈ TB) (hdg : decode cc pc = .ok (.putfield index, 3)) (kk : Wl p l e R s m args below meth c Qf G A nL cells slots (mu M i 0 x) (pc + 3) lv st) : Wl p l e R s m args below meth c Qf G A nL cells slots M pc lv (.int x :: .ref (gAD G i) :: st) := wl_put C (T := TX8) (ci := 8) (ty := .int) (v := .int x) inX8 tyX8 tyX8_ok nmX8 rfl hi (gc_k hk) 0 (by decide) hlink (fun _ h => h) rfl (by decide +kernel) rfl rfl (Nat.le_of_ble_eq_true rfl) (M' := mu M i 0 x) (by rw [gc_k hk]; simp [gF, mu_self, upd]) (fun _ h => mu_ne h) hdg kk
theorem gp_8_14 (C : Cx p s m args meth c G A cc nL own) {x : Int32} (hk : kd i = 8) (hi : gI G i) (hlink : (Cond.fieldLink own index "ShufflingBookModel" "keptMany" "I") ∈ TB) (hdg : decode cc pc = .ok (.putfield index, 3)) (kk : Wl p l e R s m args below meth c Qf G A nL cells slots (mu M i 14 x) (pc + 3) lv st) : Wl p l e R s m args below meth c Qf G A nL cells slots M pc lv (.int x :: .ref (gAD G i) :: st) := wl_put C (T := TX8) (ci := 8) (ty := .int) (v := .int x) inX8 tyX8 tyX8_ok nmX8 rfl hi (gc_k hk) 14 (by decide) hlink (fun _ h => h) rfl (by decide +kernel) rfl rfl (Nat.le_of_ble_eq_true rfl) (M' := mu M i 14 x) (by rw [gc_k hk]; simp [gF, mu_self, upd]) (fun _ h => mu_ne h) hdg kk
theorem gp_8_15 (C : Cx p s m args meth c G A cc nL own) {x : Int32} (hk : kd i = 8) (hi : gI G i) (hlink : (Cond.fieldLink own index "ShufflingBookModel" "seenMany" "I") ∈ TB) (hdg : decode cc pc = .ok (.putfield index, 3)) (kk : Wl p l e R s m args below meth c Qf G A nL cells slots (mu M i 15 x) (pc + 3) lv st) : Wl p l e R s m args below meth c Qf G A nL cells slots M pc lv (.int x :: .ref (gAD G i) :: st) := wl_put C (T := TX8) (ci := 8) (ty := .int) (v := .int x) inX8 tyX8 tyX8_ok nmX8 rfl hi (gc_k hk) 15 (by decide) hlink (fun _ h => h) rfl (by decide +kernel) rfl rfl (Nat.le_of_ble_eq_true rfl) (M' := mu M i 15 x) (by rw [gc_k hk]; simp [gF, mu_self, upd]) (fun _ h => mu_ne h) hdg kk
theorem gp_8_19 (C : Cx p s m args meth c G A cc nL own) {x : Int32} (hk : kd i = 8) (hi : gI G i) (hlink : (Cond.fieldLink own index "ShufflingBookModel" "place" "I") ∈ TB) (hdg : decode cc pc = .ok (.putfield index, 3)) (kk : Wl p l e R s m args below meth c Qf G A nL cells slots (mu M i 19 x) (pc + 3) lv st) : Wl p l e R s m args below meth c Qf G A nL cells slots M pc lv (.int x :: .ref (gAD G i) :: st) := wl_put C (T := TX8) (ci := 8) (ty := .int) (v := .int x) inX8 tyX8 tyX8_ok nmX8 rfl hi (gc_k hk) 19 (by decide) hlink (fun _ h => h) rfl (by decide +kernel) rfl rfl (Nat.le_of_ble_eq_true rfl) (M' := mu M i 19 x) (by rw [gc_k hk]; simp [gF, mu_self, upd]) (fun _ h => mu_ne h) hdg kk
theorem gp_8_29 (C : Cx p s m args meth c G A cc nL own) {x : Int32} (hk : kd i = 8) (hi : gI G i) (hlink : (Cond.fieldLink own index "ShufflingBookModel" "knownMany" "I") ∈ TB) (hdg : decode cc pc = .ok (.putfield index, 3)) (kk : Wl p l e R s m args below meth c Qf G A nL cells slots (mu M i 29 x) (pc + 3) lv st) : Wl p l e R s m args below meth c Qf G A nL cells slots M pc lv (.int x :: .ref (gAD G i) :: st) := wl_put C (T := TX8) (ci := 8) (ty := .int) (v := .int x) inX8 tyX8 tyX8_ok nmX8 rfl hi (gc_k hk) 29 (by decide) hlink (fun _ h => h) rfl (by decide +kernel) rfl rfl (Nat.le_of_ble_eq_true rfl) (M' := mu M i 29 x) (by rw [gc_k hk]; simp [gF, mu_self, upd]) (fun _ h => mu_ne h) hdg kk
theorem ga_ld9 (C : Cx p s m args meth c G A cc nL own) (hk : kd i = 9) (hi : gI G i) {j : Int32} (hin : vp_in j (ln i)) (hdg : decode cc pc = .ok (.iaload, 1)) (kk : Wl p l e R s m args below meth c Qf G A nL cells slots M (pc + 1) lv (.int (M i j.toNatClampNeg) :: st)) : Wl p l e R s m args below meth c Qf G A nL cells slots M pc lv (.int j :: .ref (gAD G i) :: st) := wl_iald C hi (gc_k hk) hin hdg kk
theorem ga_st9 (C : Cx p s m args meth c G A cc nL own) (hk : kd i = 9) (hi : gI G i) {j x : Int32} (hin : vp_in j (ln i)) (hdg : decode cc pc = .ok (.iastore, 1)) (kk : Wl p l e R s m args below meth c Qf G A nL cells slots (mu M i j.toNatClampNeg x) (pc + 1) lv st) : Wl p l e R s m args below meth c Qf G A nL cells slots M pc lv (.int x :: .int j :: .ref (gAD G i) :: st) := wl_iast C hi (gc_k hk) hin (by rw [gc_k hk]; simp only [gF, mu_self]) (fun _ h => mu_ne h) hdg kk
theorem ga_len9 (C : Cx p s m args meth c G A cc nL own) (hk : kd i = 9) (hi : gI G i) (hdg : decode cc pc = .ok (.arraylength, 1)) (kk : Wl p l e R s m args below meth c Qf G A nL cells slots M (pc + 1) lv (.int (Int32.ofNat (ln i)) :: st)) : Wl p l e R s m args below meth c Qf G A nL cells slots M pc lv (.ref (gAD G i) :: st) := wl_alen C hi (gc_k hk) rfl hdg kk
theorem ga_ld10 (C : Cx p s m args meth c G A cc nL own) (hk : kd i = 10) (hi : gI G i) {j : Int32} (hin : vp_in j (ln i)) (hdg : decode cc pc = .ok (.iaload, 1)) (kk : Wl p l e R s m args below meth c Qf G A nL cells slots M (pc + 1) lv (.int (M i j.toNatClampNeg) :: st)) : Wl p l e R s m args below meth c Qf G A nL cells slots M pc lv (.int j :: .ref (gAD G i) :: st) := wl_iald C hi (gc_k hk) hin hdg kk
theorem ga_st10 (C : Cx p s m args meth c G A cc nL own) (hk : kd i = 10) (hi : gI G i) {j x : Int32} (hin : vp_in j (ln i)) (hdg : decode cc pc = .ok (.iastore, 1)) (kk : Wl p l e R s m args below meth c Qf G A nL cells slots (mu M i j.toNatClampNeg x) (pc + 1) lv st) : Wl p l e R s m args below meth c Qf G A nL cells slots M pc lv (.int x :: .int j :: .ref (gAD G i) :: st) := wl_iast C hi (gc_k hk) hin (by rw [gc_k hk]; simp only [gF, mu_self]) (fun _ h => mu_ne h) hdg kk
theorem ga_len10 (C : Cx p s m args meth c G A cc nL own) (hk : kd i = 10) (hi : gI G i) (hdg : decode cc pc = .ok (.arraylength, 1)) (kk : Wl p l e R s m args below meth c Qf G A nL cells slots M (pc + 1) lv (.int (Int32.ofNat (ln i)) :: st)) : Wl p l e R s m args below meth c Qf G A nL cells slots M pc lv (.ref (gAD G i) :: st) := wl_alen C hi (gc_k hk) rfl hdg kk
theorem ga_lld (C : Cx p s m args meth c G A cc nL own) (hk : kd i = 11) (hi : gI G i) {j : Int32} (hin : vp_in j (ln i)) (hdg : decode cc pc = .ok (.laload, 1)) (kk : Wl p l e R s m args below meth c Qf G A nL cells slots M (pc + 1) lv (.long (rdL M i j.toNatClampNeg) :: st)) : Wl p l e R s m args below meth c Qf G A nL cells slots M pc lv (.int j :: .ref (gAD G i) :: st) := wl_lald C hi (gc_k hk) hin hdg kk
theorem ga_lst (C : Cx p s m args meth c G A cc nL own) (hk : kd i = 11) (hi : gI G i) {j : Int32} {x : Int64} (hin : vp_in j (ln i)) (hdg : decode cc pc = .ok (.lastore, 1)) (kk : Wl p l e R s m args below meth c Qf G A nL cells slots (muL M i j.toNatClampNeg x) (pc + 1) lv st) : Wl p l e R s m args below meth c Qf G A nL cells slots M pc lv (.long x :: .int j :: .ref (gAD G i) :: st) := wl_last C hi (gc_k hk) hin (by rw [gc_k hk]; simp only [gF, rdL_muL]) (fun a h => by unfold muL; rw [mu_ne h, mu_ne h]) hdg kk
end GF
theorem cw_RX7_75 : ∀ w ∈ wsV RX7 75 RX7 yX7_startAnew (Cond.code yX7_startAnew cX7_startAnew 1 none :: []), w ∈ TB := List.forall_mem_cons.mpr ⟨tw_141, List.forall_mem_cons.mpr ⟨tw_142, List.forall_mem_cons.mpr ⟨tw_848, List.forall_mem_cons.mpr ⟨tw_1, List.forall_mem_cons.mpr ⟨tw_143, fun _ h => absurd h List.not_mem_nil⟩⟩⟩⟩⟩
theorem cw_RX7_78 : ∀ w ∈ va_wsS RX7 78 yX7_within (Cond.code yX7_within cX7_within 3 (some (Jvm.ClassFile.FieldType.boolean)) :: []), w ∈ TB := List.forall_mem_cons.mpr ⟨tw_250, List.forall_mem_cons.mpr ⟨tw_251, List.forall_mem_cons.mpr ⟨tw_1, List.forall_mem_cons.mpr ⟨tw_252, fun _ h => absurd h List.not_mem_nil⟩⟩⟩⟩
theorem cw_RX7_82 : ∀ w ∈ wsV RX7 82 RX5 yX5_size (Cond.code yX5_size cX5_size 1 (some (Jvm.ClassFile.FieldType.int)) :: []), w ∈ TB := List.forall_mem_cons.mpr ⟨tw_253, List.forall_mem_cons.mpr ⟨tw_254, List.forall_mem_cons.mpr ⟨tw_255, List.forall_mem_cons.mpr ⟨tw_2, List.forall_mem_cons.mpr ⟨tw_256, fun _ h => absurd h List.not_mem_nil⟩⟩⟩⟩⟩
theorem cw_RX7_86 : ∀ w ∈ wsV RX7 86 RX5 yX5_append (Cond.code yX5_append cX5_append 5 none :: []), w ∈ TB := List.forall_mem_cons.mpr ⟨tw_257, List.forall_mem_cons.mpr ⟨tw_258, List.forall_mem_cons.mpr ⟨tw_259, List.forall_mem_cons.mpr ⟨tw_2, List.forall_mem_cons.mpr ⟨tw_260, fun _ h => absurd h List.not_mem_nil⟩⟩⟩⟩⟩
theorem cw_RX7_90 : ∀ w ∈ wsV RX7 90 RX5 yX5_clear (Cond.code yX5_clear cX5_clear 2 (some (Jvm.ClassFile.FieldType.int)) :: []), w ∈ TB := List.forall_mem_cons.mpr ⟨tw_267, List.forall_mem_cons.mpr ⟨tw_268, List.forall_mem_cons.mpr ⟨tw_269, List.forall_mem_cons.mpr ⟨tw_2, List.forall_mem_cons.mpr ⟨tw_270, fun _ h => absurd h List.not_mem_nil⟩⟩⟩⟩⟩
theorem cw_RX7_93 : ∀ w ∈ wsV RX7 93 RX6 yX6_scan (Cond.code yX6_scan cX6_scan 4 (some (Jvm.ClassFile.FieldType.int)) :: []), w ∈ TB := List.forall_mem_cons.mpr ⟨tw_275, List.forall_mem_cons.mpr ⟨tw_276, List.forall_mem_cons.mpr ⟨tw_277, List.forall_mem_cons.mpr ⟨tw_5, List.forall_mem_cons.mpr ⟨tw_278, fun _ h => absurd h List.not_mem_nil⟩⟩⟩⟩⟩
theorem cw_RX7_97 : ∀ w ∈ wsV RX7 97 RX6 yX6_fitsItsLeaves (Cond.code yX6_fitsItsLeaves cX6_fitsItsLeaves 2 (some (Jvm.ClassFile.FieldType.boolean)) :: []), w ∈ TB := List.forall_mem_cons.mpr ⟨tw_326, List.forall_mem_cons.mpr ⟨tw_327, List.forall_mem_cons.mpr ⟨tw_328, List.forall_mem_cons.mpr ⟨tw_5, List.forall_mem_cons.mpr ⟨tw_329, fun _ h => absurd h List.not_mem_nil⟩⟩⟩⟩⟩
theorem cw_RX7_105 : ∀ w ∈ wsV RX7 105 RX7 yX7_isBelowCount (Cond.code yX7_isBelowCount cX7_isBelowCount 2 (some (Jvm.ClassFile.FieldType.boolean)) :: []), w ∈ TB := List.forall_mem_cons.mpr ⟨tw_334, List.forall_mem_cons.mpr ⟨tw_335, List.forall_mem_cons.mpr ⟨tw_862, List.forall_mem_cons.mpr ⟨tw_1, List.forall_mem_cons.mpr ⟨tw_336, fun _ h => absurd h List.not_mem_nil⟩⟩⟩⟩⟩
theorem cw_RX7_112 : ∀ w ∈ wsV RX7 112 RX1 yX1_leafAt (Cond.code yX1_leafAt cX1_leafAt 2 (some (Jvm.ClassFile.FieldType.int)) :: []), w ∈ TB := List.forall_mem_cons.mpr ⟨tw_337, List.forall_mem_cons.mpr ⟨tw_204, List.forall_mem_cons.mpr ⟨tw_205, List.forall_mem_cons.mpr ⟨tw_6, List.forall_mem_cons.mpr ⟨tw_206, fun _ h => absurd h List.not_mem_nil⟩⟩⟩⟩⟩
theorem cw_RX7_116 : ∀ w ∈ wsV RX7 116 RX1 yX1_placeOf (Cond.code yX1_placeOf cX1_placeOf 3 (some (Jvm.ClassFile.FieldType.int)) :: []), w ∈ TB := List.forall_mem_cons.mpr ⟨tw_342, List.forall_mem_cons.mpr ⟨tw_343, List.forall_mem_cons.mpr ⟨tw_344, List.forall_mem_cons.mpr ⟨tw_6, List.forall_mem_cons.mpr ⟨tw_345, fun _ h => absurd h List.not_mem_nil⟩⟩⟩⟩⟩
theorem cw_RX7_119 : ∀ w ∈ wsV RX7 119 RX2 yX2_readOne (Cond.code yX2_readOne cX2_readOne 3 (some (Jvm.ClassFile.FieldType.int)) :: []), w ∈ TB := List.forall_mem_cons.mpr ⟨tw_350, List.forall_mem_cons.mpr ⟨tw_351, List.forall_mem_cons.mpr ⟨tw_352, List.forall_mem_cons.mpr ⟨tw_9, List.forall_mem_cons.mpr ⟨tw_353, fun _ h => absurd h List.not_mem_nil⟩⟩⟩⟩⟩
theorem cw_RX7_129 : ∀ w ∈ wsV RX7 129 RX1 yX1_swap (Cond.code yX1_swap cX1_swap 4 none :: []), w ∈ TB := List.forall_mem_cons.mpr ⟨tw_363, List.forall_mem_cons.mpr ⟨tw_161, List.forall_mem_cons.mpr ⟨tw_162, List.forall_mem_cons.mpr ⟨tw_6, List.forall_mem_cons.mpr ⟨tw_163, fun _ h => absurd h List.not_mem_nil⟩⟩⟩⟩⟩
theorem cw_RX7_133 : ∀ w ∈ wsV RX7 133 RX2 yX2_fall (Cond.code yX2_fall cX2_fall 5 none :: []), w ∈ TB := List.forall_mem_cons.mpr ⟨tw_368, List.forall_mem_cons.mpr ⟨tw_369, List.forall_mem_cons.mpr ⟨tw_370, List.forall_mem_cons.mpr ⟨tw_9, List.forall_mem_cons.mpr ⟨tw_371, fun _ h => absurd h List.not_mem_nil⟩⟩⟩⟩⟩
theorem cw_RX7_136 : ∀ w ∈ va_wsS RX7 136 yX7_isReader (Cond.code yX7_isReader cX7_isReader 2 (some (Jvm.ClassFile.FieldType.boolean)) :: []), w ∈ TB := List.forall_mem_cons.mpr ⟨tw_380, List.forall_mem_cons.mpr ⟨tw_381, List.forall_mem_cons.mpr ⟨tw_1, List.forall_mem_cons.mpr ⟨tw_382, fun _ h => absurd h List.not_mem_nil⟩⟩⟩⟩
theorem cw_RX7_140 : ∀ w ∈ wsV RX7 140 RX7 yX7_isTurn (Cond.code yX7_isTurn cX7_isTurn 2 (some (Jvm.ClassFile.FieldType.boolean)) :: []), w ∈ TB := List.forall_mem_cons.mpr ⟨tw_384, List.forall_mem_cons.mpr ⟨tw_385, List.forall_mem_cons.mpr ⟨tw_863, List.forall_mem_cons.mpr ⟨tw_1, List.forall_mem_cons.mpr ⟨tw_386, fun _ h => absurd h List.not_mem_nil⟩⟩⟩⟩⟩
theorem cw_RX7_143 : ∀ w ∈ wsV RX7 143 RX7 yX7_leafHad (Cond.code yX7_leafHad cX7_leafHad 4 (some (Jvm.ClassFile.FieldType.int)) :: []), w ∈ TB := List.forall_mem_cons.mpr ⟨tw_387, List.forall_mem_cons.mpr ⟨tw_388, List.forall_mem_cons.mpr ⟨tw_864, List.forall_mem_cons.mpr ⟨tw_1, List.forall_mem_cons.mpr ⟨tw_389, fun _ h => absurd h List.not_mem_nil⟩⟩⟩⟩⟩
theorem cw_RX7_147 : ∀ w ∈ wsV RX7 147 RX7 yX7_leavesHad (Cond.code yX7_leavesHad cX7_leavesHad 6 (some (Jvm.ClassFile.FieldType.long)) :: []), w ∈ TB := List.forall_mem_cons.mpr ⟨tw_404, List.forall_mem_cons.mpr ⟨tw_405, List.forall_mem_cons.mpr ⟨tw_866, List.forall_mem_cons.mpr ⟨tw_1, List.forall_mem_cons.mpr ⟨tw_406, fun _ h => absurd h List.not_mem_nil⟩⟩⟩⟩⟩
theorem cw_RX7_153 : ∀ w ∈ wsV RX7 153 RX3 yX3_roundsTogether (Cond.code yX3_roundsTogether cX3_roundsTogether 3 (some (Jvm.ClassFile.FieldType.int)) :: []), w ∈ TB := List.forall_mem_cons.mpr ⟨tw_415, List.forall_mem_cons.mpr ⟨tw_416, List.forall_mem_cons.mpr ⟨tw_417, List.forall_mem_cons.mpr ⟨tw_7, List.forall_mem_cons.mpr ⟨tw_418, fun _ h => absurd h List.not_mem_nil⟩⟩⟩⟩⟩
theorem cw_RX7_156 : ∀ w ∈ wsV RX7 156 RX3 yX3_isNeverRead (Cond.code yX3_isNeverRead cX3_isNeverRead 2 (some (Jvm.ClassFile.FieldType.boolean)) :: []), w ∈ TB := List.forall_mem_cons.mpr ⟨tw_426, List.forall_mem_cons.mpr ⟨tw_427, List.forall_mem_cons.mpr ⟨tw_428, List.forall_mem_cons.mpr ⟨tw_7, List.forall_mem_cons.mpr ⟨tw_429, fun _ h => absurd h List.not_mem_nil⟩⟩⟩⟩⟩
theorem cw_RX7_159 : ∀ w ∈ wsV RX7 159 RX3 yX3_isAlwaysRead (Cond.code yX3_isAlwaysRead cX3_isAlwaysRead 2 (some (Jvm.ClassFile.FieldType.boolean)) :: []), w ∈ TB := List.forall_mem_cons.mpr ⟨tw_437, List.forall_mem_cons.mpr ⟨tw_438, List.forall_mem_cons.mpr ⟨tw_439, List.forall_mem_cons.mpr ⟨tw_7, List.forall_mem_cons.mpr ⟨tw_440, fun _ h => absurd h List.not_mem_nil⟩⟩⟩⟩⟩
theorem cw_RX7_162 : ∀ w ∈ va_wsS RX7 162 yX7_bit (Cond.code yX7_bit cX7_bit 1 (some (Jvm.ClassFile.FieldType.long)) :: []), w ∈ TB := List.forall_mem_cons.mpr ⟨tw_407, List.forall_mem_cons.mpr ⟨tw_408, List.forall_mem_cons.mpr ⟨tw_1, List.forall_mem_cons.mpr ⟨tw_409, fun _ h => absurd h List.not_mem_nil⟩⟩⟩⟩
theorem cw_RX7_166 : ∀ w ∈ wsV RX7 166 RX6 yX6_toldTurns (Cond.code yX6_toldTurns cX6_toldTurns 1 (some (Jvm.ClassFile.FieldType.int)) :: []), w ∈ TB := List.forall_mem_cons.mpr ⟨tw_445, List.forall_mem_cons.mpr ⟨tw_446, List.forall_mem_cons.mpr ⟨tw_447, List.forall_mem_cons.mpr ⟨tw_5, List.forall_mem_cons.mpr ⟨tw_448, fun _ h => absurd h List.not_mem_nil⟩⟩⟩⟩⟩
theorem cw_RX7_169 : ∀ w ∈ wsV RX7 169 RX6 yX6_taleLeaf (Cond.code yX6_taleLeaf cX6_taleLeaf 2 (some (Jvm.ClassFile.FieldType.int)) :: []), w ∈ TB := List.forall_mem_cons.mpr ⟨tw_450, List.forall_mem_cons.mpr ⟨tw_451, List.forall_mem_cons.mpr ⟨tw_452, List.forall_mem_cons.mpr ⟨tw_5, List.forall_mem_cons.mpr ⟨tw_453, fun _ h => absurd h List.not_mem_nil⟩⟩⟩⟩⟩
theorem cw_RX7_172 : ∀ w ∈ wsV RX7 172 RX0 yX0_begin (Cond.code yX0_begin cX0_begin 2 none :: []), w ∈ TB := List.forall_mem_cons.mpr ⟨tw_458, List.forall_mem_cons.mpr ⟨tw_459, List.forall_mem_cons.mpr ⟨tw_460, List.forall_mem_cons.mpr ⟨tw_8, List.forall_mem_cons.mpr ⟨tw_461, fun _ h => absurd h List.not_mem_nil⟩⟩⟩⟩⟩
theorem cw_RX7_175 : ∀ w ∈ wsV RX7 175 RX3 yX3_placeRead (Cond.code yX3_placeRead cX3_placeRead 4 (some (Jvm.ClassFile.FieldType.int)) :: []), w ∈ TB := List.forall_mem_cons.mpr ⟨tw_390, List.forall_mem_cons.mpr ⟨tw_391, List.forall_mem_cons.mpr ⟨tw_392, List.forall_mem_cons.mpr ⟨tw_7, List.forall_mem_cons.mpr ⟨tw_393, fun _ h => absurd h List.not_mem_nil⟩⟩⟩⟩⟩
theorem cw_RX7_178 : ∀ w ∈ wsV RX7 178 RX0 yX0_bind (Cond.code yX0_bind cX0_bind 5 none :: []), w ∈ TB := List.forall_mem_cons.mpr ⟨tw_463, List.forall_mem_cons.mpr ⟨tw_464, List.forall_mem_cons.mpr ⟨tw_465, List.forall_mem_cons.mpr ⟨tw_8, List.forall_mem_cons.mpr ⟨tw_466, fun _ h => absurd h List.not_mem_nil⟩⟩⟩⟩⟩
theorem cw_RX7_181 : ∀ w ∈ wsV RX7 181 RX0 yX0_holds (Cond.code yX0_holds cX0_holds 1 (some (Jvm.ClassFile.FieldType.boolean)) :: []), w ∈ TB := List.forall_mem_cons.mpr ⟨tw_469, List.forall_mem_cons.mpr ⟨tw_470, List.forall_mem_cons.mpr ⟨tw_471, List.forall_mem_cons.mpr ⟨tw_8, List.forall_mem_cons.mpr ⟨tw_472, fun _ h => absurd h List.not_mem_nil⟩⟩⟩⟩⟩
theorem cw_RX7_184 : ∀ w ∈ wsV RX7 184 RX0 yX0_fillUp (Cond.code yX0_fillUp cX0_fillUp 3 none :: []), w ∈ TB := List.forall_mem_cons.mpr ⟨tw_473, List.forall_mem_cons.mpr ⟨tw_474, List.forall_mem_cons.mpr ⟨tw_475, List.forall_mem_cons.mpr ⟨tw_8, List.forall_mem_cons.mpr ⟨tw_476, fun _ h => absurd h List.not_mem_nil⟩⟩⟩⟩⟩
theorem cw_RX7_187 : ∀ w ∈ wsV RX7 187 RX0 yX0_leafAt (Cond.code yX0_leafAt cX0_leafAt 2 (some (Jvm.ClassFile.FieldType.int)) :: []), w ∈ TB := List.forall_mem_cons.mpr ⟨tw_478, List.forall_mem_cons.mpr ⟨tw_479, List.forall_mem_cons.mpr ⟨tw_480, List.forall_mem_cons.mpr ⟨tw_8, List.forall_mem_cons.mpr ⟨tw_481, fun _ h => absurd h List.not_mem_nil⟩⟩⟩⟩⟩
theorem cw_RX7_188 : ∀ w ∈ wsV RX7 188 RX7 yX7_readingsToShowAll (Cond.code yX7_readingsToShowAll cX7_readingsToShowAll 6 (some (Jvm.ClassFile.FieldType.int)) :: []), w ∈ TB := List.forall_mem_cons.mpr ⟨tw_486, List.forall_mem_cons.mpr ⟨tw_487, List.forall_mem_cons.mpr ⟨tw_868, List.forall_mem_cons.mpr ⟨tw_1, List.forall_mem_cons.mpr ⟨tw_488, fun _ h => absurd h List.not_mem_nil⟩⟩⟩⟩⟩
theorem cw_RX7_195 : ∀ w ∈ wsV RX7 195 RX4 yX4_put (Cond.code yX4_put cX4_put 3 none :: []), w ∈ TB := List.forall_mem_cons.mpr ⟨tw_499, List.forall_mem_cons.mpr ⟨tw_153, List.forall_mem_cons.mpr ⟨tw_154, List.forall_mem_cons.mpr ⟨tw_3, List.forall_mem_cons.mpr ⟨tw_155, fun _ h => absurd h List.not_mem_nil⟩⟩⟩⟩⟩
theorem cw_RX7_198 : ∀ w ∈ wsV RX7 198 RX7 yX7_guessFromSeen (Cond.code yX7_guessFromSeen cX7_guessFromSeen 2 none :: []), w ∈ TB := List.forall_mem_cons.mpr ⟨tw_508, List.forall_mem_cons.mpr ⟨tw_509, List.forall_mem_cons.mpr ⟨tw_869, List.forall_mem_cons.mpr ⟨tw_1, List.forall_mem_cons.mpr ⟨tw_510, fun _ h => absurd h List.not_mem_nil⟩⟩⟩⟩⟩
theorem cw_RX7_201 : ∀ w ∈ wsV RX7 201 RX0 yX0_isAllButOne (Cond.code yX0_isAllButOne cX0_isAllButOne 1 (some (Jvm.ClassFile.FieldType.boolean)) :: []), w ∈ TB := List.forall_mem_cons.mpr ⟨tw_516, List.forall_mem_cons.mpr ⟨tw_517, List.forall_mem_cons.mpr ⟨tw_518, List.forall_mem_cons.mpr ⟨tw_8, List.forall_mem_cons.mpr ⟨tw_519, fun _ h => absurd h List.not_mem_nil⟩⟩⟩⟩⟩
theorem cw_RX7_204 : ∀ w ∈ wsV RX7 204 RX3 yX3_placeFoundBy (Cond.code yX3_placeFoundBy cX3_placeFoundBy 4 (some (Jvm.ClassFile.FieldType.int)) :: []), w ∈ TB := List.forall_mem_cons.mpr ⟨tw_524, List.forall_mem_cons.mpr ⟨tw_525, List.forall_mem_cons.mpr ⟨tw_526, List.forall_mem_cons.mpr ⟨tw_7, List.forall_mem_cons.mpr ⟨tw_527, fun _ h => absurd h List.not_mem_nil⟩⟩⟩⟩⟩
theorem cw_RX7_207 : ∀ w ∈ wsV RX7 207 RX3 yX3_turnAt (Cond.code yX3_turnAt cX3_turnAt 2 (some (Jvm.ClassFile.FieldType.int)) :: []), w ∈ TB := List.forall_mem_cons.mpr ⟨tw_528, List.forall_mem_cons.mpr ⟨tw_434, List.forall_mem_cons.mpr ⟨tw_435, List.forall_mem_cons.mpr ⟨tw_7, List.forall_mem_cons.mpr ⟨tw_436, fun _ h => absurd h List.not_mem_nil⟩⟩⟩⟩⟩
theorem cw_RX7_210 : ∀ w ∈ wsV RX7 210 RX7 yX7_isReadBy (Cond.code yX7_isReadBy cX7_isReadBy 3 (some (Jvm.ClassFile.FieldType.boolean)) :: []), w ∈ TB := List.forall_mem_cons.mpr ⟨tw_533, List.forall_mem_cons.mpr ⟨tw_534, List.forall_mem_cons.mpr ⟨tw_870, List.forall_mem_cons.mpr ⟨tw_1, List.forall_mem_cons.mpr ⟨tw_535, fun _ h => absurd h List.not_mem_nil⟩⟩⟩⟩⟩
theorem cw_RX7_214 : ∀ w ∈ wsV RX7 214 RX7 yX7_rightWhenLaidAt (Cond.code yX7_rightWhenLaidAt cX7_rightWhenLaidAt 6 (some (Jvm.ClassFile.FieldType.int)) :: []), w ∈ TB := List.forall_mem_cons.mpr ⟨tw_540, List.forall_mem_cons.mpr ⟨tw_541, List.forall_mem_cons.mpr ⟨tw_871, List.forall_mem_cons.mpr ⟨tw_1, List.forall_mem_cons.mpr ⟨tw_542, fun _ h => absurd h List.not_mem_nil⟩⟩⟩⟩⟩
theorem cw_RX7_220 : ∀ w ∈ wsV RX7 220 RX7 yX7_keptPack (Cond.code yX7_keptPack cX7_keptPack 2 (some (Jvm.ClassFile.FieldType.object "ShufflingBook$Pack")) :: []), w ∈ TB := List.forall_mem_cons.mpr ⟨tw_554, List.forall_mem_cons.mpr ⟨tw_555, List.forall_mem_cons.mpr ⟨tw_872, List.forall_mem_cons.mpr ⟨tw_1, List.forall_mem_cons.mpr ⟨tw_556, fun _ h => absurd h List.not_mem_nil⟩⟩⟩⟩⟩
theorem cw_RX7_224 : ∀ w ∈ wsV RX7 224 RX2 yX2_copyFrom (Cond.code yX2_copyFrom cX2_copyFrom 2 none :: []), w ∈ TB := List.forall_mem_cons.mpr ⟨tw_557, List.forall_mem_cons.mpr ⟨tw_558, List.forall_mem_cons.mpr ⟨tw_559, List.forall_mem_cons.mpr ⟨tw_9, List.forall_mem_cons.mpr ⟨tw_560, fun _ h => absurd h List.not_mem_nil⟩⟩⟩⟩⟩
theorem cw_RX7_234 : ∀ w ∈ wsV RX7 234 RX6 yX6_orderFirst (Cond.code yX6_orderFirst cX6_orderFirst 3 none :: []), w ∈ TB := List.forall_mem_cons.mpr ⟨tw_144, List.forall_mem_cons.mpr ⟨tw_145, List.forall_mem_cons.mpr ⟨tw_146, List.forall_mem_cons.mpr ⟨tw_5, List.forall_mem_cons.mpr ⟨tw_147, fun _ h => absurd h List.not_mem_nil⟩⟩⟩⟩⟩
theorem cw_RX7_238 : ∀ w ∈ wsV RX7 238 RX3 yX3_follow (Cond.code yX3_follow cX3_follow 2 none :: []), w ∈ TB := List.forall_mem_cons.mpr ⟨tw_165, List.forall_mem_cons.mpr ⟨tw_166, List.forall_mem_cons.mpr ⟨tw_167, List.forall_mem_cons.mpr ⟨tw_7, List.forall_mem_cons.mpr ⟨tw_168, fun _ h => absurd h List.not_mem_nil⟩⟩⟩⟩⟩
theorem cw_RX7_242 : ∀ w ∈ wsV RX7 242 RX2 yX2_startWith (Cond.code yX2_startWith cX2_startWith 2 none :: []), w ∈ TB := List.forall_mem_cons.mpr ⟨tw_210, List.forall_mem_cons.mpr ⟨tw_211, List.forall_mem_cons.mpr ⟨tw_212, List.forall_mem_cons.mpr ⟨tw_9, List.forall_mem_cons.mpr ⟨tw_213, fun _ h => absurd h List.not_mem_nil⟩⟩⟩⟩⟩
theorem cw_RX7_245 : ∀ w ∈ wsV RX7 245 RX4 yX4_at (Cond.code yX4_at cX4_at 2 (some (Jvm.ClassFile.FieldType.int)) :: []), w ∈ TB := List.forall_mem_cons.mpr ⟨tw_511, List.forall_mem_cons.mpr ⟨tw_157, List.forall_mem_cons.mpr ⟨tw_158, List.forall_mem_cons.mpr ⟨tw_3, List.forall_mem_cons.mpr ⟨tw_159, fun _ h => absurd h List.not_mem_nil⟩⟩⟩⟩⟩
theorem cw_RX7_248 : ∀ w ∈ wsV RX7 248 RX1 yX1_number (Cond.code yX1_number cX1_number 3 none :: []), w ∈ TB := List.forall_mem_cons.mpr ⟨tw_489, List.forall_mem_cons.mpr ⟨tw_149, List.forall_mem_cons.mpr ⟨tw_150, List.forall_mem_cons.mpr ⟨tw_6, List.forall_mem_cons.mpr ⟨tw_151, fun _ h => absurd h List.not_mem_nil⟩⟩⟩⟩⟩
theorem cw_RX7_251 : ∀ w ∈ wsV RX7 251 RX1 yX1_readTop (Cond.code yX1_readTop cX1_readTop 5 (some (Jvm.ClassFile.FieldType.int)) :: []), w ∈ TB := List.forall_mem_cons.mpr ⟨tw_490, List.forall_mem_cons.mpr ⟨tw_178, List.forall_mem_cons.mpr ⟨tw_179, List.forall_mem_cons.mpr ⟨tw_6, List.forall_mem_cons.mpr ⟨tw_180, fun _ h => absurd h List.not_mem_nil⟩⟩⟩⟩⟩
theorem cw_RX7_255 : ∀ w ∈ wsV RX7 255 RX3 yX3_placeAfterFirstReading (Cond.code yX3_placeAfterFirstReading cX3_placeAfterFirstReading 4 (some (Jvm.ClassFile.FieldType.int)) :: []), w ∈ TB := List.forall_mem_cons.mpr ⟨tw_543, List.forall_mem_cons.mpr ⟨tw_544, List.forall_mem_cons.mpr ⟨tw_545, List.forall_mem_cons.mpr ⟨tw_7, List.forall_mem_cons.mpr ⟨tw_546, fun _ h => absurd h List.not_mem_nil⟩⟩⟩⟩⟩
theorem cw_RX7_258 : ∀ w ∈ va_wsS RX7 258 yX7_placeBeforeLaying (Cond.code yX7_placeBeforeLaying cX7_placeBeforeLaying 2 (some (Jvm.ClassFile.FieldType.int)) :: []), w ∈ TB := List.forall_mem_cons.mpr ⟨tw_547, List.forall_mem_cons.mpr ⟨tw_548, List.forall_mem_cons.mpr ⟨tw_1, List.forall_mem_cons.mpr ⟨tw_549, fun _ h => absurd h List.not_mem_nil⟩⟩⟩⟩
theorem cw_RX0_34 : ∀ w ∈ wsV RX0 34 RX4 yX4_fill (Cond.code yX4_fill cX4_fill 3 none :: []), w ∈ TB := List.forall_mem_cons.mpr ⟨tw_462, List.forall_mem_cons.mpr ⟨tw_174, List.forall_mem_cons.mpr ⟨tw_175, List.forall_mem_cons.mpr ⟨tw_3, List.forall_mem_cons.mpr ⟨tw_176, fun _ h => absurd h List.not_mem_nil⟩⟩⟩⟩⟩
theorem cw_RX0_37 : ∀ w ∈ wsV RX0 37 RX4 yX4_at (Cond.code yX4_at cX4_at 2 (some (Jvm.ClassFile.FieldType.int)) :: []), w ∈ TB := List.forall_mem_cons.mpr ⟨tw_467, List.forall_mem_cons.mpr ⟨tw_157, List.forall_mem_cons.mpr ⟨tw_158, List.forall_mem_cons.mpr ⟨tw_3, List.forall_mem_cons.mpr ⟨tw_159, fun _ h => absurd h List.not_mem_nil⟩⟩⟩⟩⟩
theorem cw_RX0_41 : ∀ w ∈ wsV RX0 41 RX4 yX4_put (Cond.code yX4_put cX4_put 3 none :: []), w ∈ TB := List.forall_mem_cons.mpr ⟨tw_468, List.forall_mem_cons.mpr ⟨tw_153, List.forall_mem_cons.mpr ⟨tw_154, List.forall_mem_cons.mpr ⟨tw_3, List.forall_mem_cons.mpr ⟨tw_155, fun _ h => absurd h List.not_mem_nil⟩⟩⟩⟩⟩
theorem cw_RX0_45 : ∀ w ∈ wsV RX0 45 RX0 yX0_bind (Cond.code yX0_bind cX0_bind 5 none :: []), w ∈ TB := List.forall_mem_cons.mpr ⟨tw_477, List.forall_mem_cons.mpr ⟨tw_464, List.forall_mem_cons.mpr ⟨tw_465, List.forall_mem_cons.mpr ⟨tw_8, List.forall_mem_cons.mpr ⟨tw_466, fun _ h => absurd h List.not_mem_nil⟩⟩⟩⟩⟩
theorem cw_RX1_27 : ∀ w ∈ wsV RX1 27 RX4 yX4_put (Cond.code yX4_put cX4_put 3 none :: []), w ∈ TB := List.forall_mem_cons.mpr ⟨tw_152, List.forall_mem_cons.mpr ⟨tw_153, List.forall_mem_cons.mpr ⟨tw_154, List.forall_mem_cons.mpr ⟨tw_3, List.forall_mem_cons.mpr ⟨tw_155, fun _ h => absurd h List.not_mem_nil⟩⟩⟩⟩⟩
theorem cw_RX1_31 : ∀ w ∈ wsV RX1 31 RX4 yX4_at (Cond.code yX4_at cX4_at 2 (some (Jvm.ClassFile.FieldType.int)) :: []), w ∈ TB := List.forall_mem_cons.mpr ⟨tw_164, List.forall_mem_cons.mpr ⟨tw_157, List.forall_mem_cons.mpr ⟨tw_158, List.forall_mem_cons.mpr ⟨tw_3, List.forall_mem_cons.mpr ⟨tw_159, fun _ h => absurd h List.not_mem_nil⟩⟩⟩⟩⟩
theorem cw_RX1_35 : ∀ w ∈ wsV RX1 35 RX4 yX4_copyFrom (Cond.code yX4_copyFrom cX4_copyFrom 3 none :: []), w ∈ TB := List.forall_mem_cons.mpr ⟨tw_184, List.forall_mem_cons.mpr ⟨tw_185, List.forall_mem_cons.mpr ⟨tw_186, List.forall_mem_cons.mpr ⟨tw_3, List.forall_mem_cons.mpr ⟨tw_187, fun _ h => absurd h List.not_mem_nil⟩⟩⟩⟩⟩
theorem cw_RX1_39 : ∀ w ∈ wsV RX1 39 RX1 yX1_cut (Cond.code yX1_cut cX1_cut 4 none :: []), w ∈ TB := List.forall_mem_cons.mpr ⟨tw_181, List.forall_mem_cons.mpr ⟨tw_182, List.forall_mem_cons.mpr ⟨tw_850, List.forall_mem_cons.mpr ⟨tw_6, List.forall_mem_cons.mpr ⟨tw_183, fun _ h => absurd h List.not_mem_nil⟩⟩⟩⟩⟩
theorem cw_RX1_42 : ∀ w ∈ wsV RX1 42 RX1 yX1_layTop (Cond.code yX1_layTop cX1_layTop 4 none :: []), w ∈ TB := List.forall_mem_cons.mpr ⟨tw_189, List.forall_mem_cons.mpr ⟨tw_190, List.forall_mem_cons.mpr ⟨tw_851, List.forall_mem_cons.mpr ⟨tw_6, List.forall_mem_cons.mpr ⟨tw_191, fun _ h => absurd h List.not_mem_nil⟩⟩⟩⟩⟩
theorem cw_RX2_16 : ∀ w ∈ wsV RX2 16 RX1 yX1_copyFrom (Cond.code yX1_copyFrom cX1_copyFrom 2 none :: []), w ∈ TB := List.forall_mem_cons.mpr ⟨tw_214, List.forall_mem_cons.mpr ⟨tw_215, List.forall_mem_cons.mpr ⟨tw_216, List.forall_mem_cons.mpr ⟨tw_6, List.forall_mem_cons.mpr ⟨tw_217, fun _ h => absurd h List.not_mem_nil⟩⟩⟩⟩⟩
theorem cw_RX2_35 : ∀ w ∈ wsV RX2 35 RX1 yX1_readTop (Cond.code yX1_readTop cX1_readTop 5 (some (Jvm.ClassFile.FieldType.int)) :: []), w ∈ TB := List.forall_mem_cons.mpr ⟨tw_354, List.forall_mem_cons.mpr ⟨tw_178, List.forall_mem_cons.mpr ⟨tw_179, List.forall_mem_cons.mpr ⟨tw_6, List.forall_mem_cons.mpr ⟨tw_180, fun _ h => absurd h List.not_mem_nil⟩⟩⟩⟩⟩
theorem cw_RX2_51 : ∀ w ∈ wsV RX2 51 RX1 yX1_swap (Cond.code yX1_swap cX1_swap 4 none :: []), w ∈ TB := List.forall_mem_cons.mpr ⟨tw_375, List.forall_mem_cons.mpr ⟨tw_161, List.forall_mem_cons.mpr ⟨tw_162, List.forall_mem_cons.mpr ⟨tw_6, List.forall_mem_cons.mpr ⟨tw_163, fun _ h => absurd h List.not_mem_nil⟩⟩⟩⟩⟩
theorem cw_RX3_54 : ∀ w ∈ wsV RX3 54 RX3 yX3_readOneReader (Cond.code yX3_readOneReader cX3_readOneReader 4 none :: []), w ∈ TB := List.forall_mem_cons.mpr ⟨tw_169, List.forall_mem_cons.mpr ⟨tw_170, List.forall_mem_cons.mpr ⟨tw_849, List.forall_mem_cons.mpr ⟨tw_7, List.forall_mem_cons.mpr ⟨tw_171, fun _ h => absurd h List.not_mem_nil⟩⟩⟩⟩⟩
theorem cw_RX3_58 : ∀ w ∈ wsV RX3 58 RX3 yX3_layRings (Cond.code yX3_layRings cX3_layRings 3 none :: []), w ∈ TB := List.forall_mem_cons.mpr ⟨tw_197, List.forall_mem_cons.mpr ⟨tw_198, List.forall_mem_cons.mpr ⟨tw_852, List.forall_mem_cons.mpr ⟨tw_7, List.forall_mem_cons.mpr ⟨tw_199, fun _ h => absurd h List.not_mem_nil⟩⟩⟩⟩⟩
theorem cw_RX3_61 : ∀ w ∈ wsV RX3 61 RX3 yX3_readWithoutFirst (Cond.code yX3_readWithoutFirst cX3_readWithoutFirst 3 none :: []), w ∈ TB := List.forall_mem_cons.mpr ⟨tw_207, List.forall_mem_cons.mpr ⟨tw_208, List.forall_mem_cons.mpr ⟨tw_854, List.forall_mem_cons.mpr ⟨tw_7, List.forall_mem_cons.mpr ⟨tw_209, fun _ h => absurd h List.not_mem_nil⟩⟩⟩⟩⟩
theorem cw_RX3_64 : ∀ w ∈ wsV RX3 64 RX1 yX1_number (Cond.code yX1_number cX1_number 3 none :: []), w ∈ TB := List.forall_mem_cons.mpr ⟨tw_172, List.forall_mem_cons.mpr ⟨tw_149, List.forall_mem_cons.mpr ⟨tw_150, List.forall_mem_cons.mpr ⟨tw_6, List.forall_mem_cons.mpr ⟨tw_151, fun _ h => absurd h List.not_mem_nil⟩⟩⟩⟩⟩
theorem cw_RX3_67 : ∀ w ∈ wsV RX3 67 RX4 yX4_fill (Cond.code yX4_fill cX4_fill 3 none :: []), w ∈ TB := List.forall_mem_cons.mpr ⟨tw_173, List.forall_mem_cons.mpr ⟨tw_174, List.forall_mem_cons.mpr ⟨tw_175, List.forall_mem_cons.mpr ⟨tw_3, List.forall_mem_cons.mpr ⟨tw_176, fun _ h => absurd h List.not_mem_nil⟩⟩⟩⟩⟩
theorem cw_RX3_79 : ∀ w ∈ wsV RX3 79 RX1 yX1_readTop (Cond.code yX1_readTop cX1_readTop 5 (some (Jvm.ClassFile.FieldType.int)) :: []), w ∈ TB := List.forall_mem_cons.mpr ⟨tw_177, List.forall_mem_cons.mpr ⟨tw_178, List.forall_mem_cons.mpr ⟨tw_179, List.forall_mem_cons.mpr ⟨tw_6, List.forall_mem_cons.mpr ⟨tw_180, fun _ h => absurd h List.not_mem_nil⟩⟩⟩⟩⟩
theorem cw_RX3_83 : ∀ w ∈ wsV RX3 83 RX4 yX4_put (Cond.code yX4_put cX4_put 3 none :: []), w ∈ TB := List.forall_mem_cons.mpr ⟨tw_195, List.forall_mem_cons.mpr ⟨tw_153, List.forall_mem_cons.mpr ⟨tw_154, List.forall_mem_cons.mpr ⟨tw_3, List.forall_mem_cons.mpr ⟨tw_155, fun _ h => absurd h List.not_mem_nil⟩⟩⟩⟩⟩
theorem cw_RX3_87 : ∀ w ∈ wsV RX3 87 RX4 yX4_at (Cond.code yX4_at cX4_at 2 (some (Jvm.ClassFile.FieldType.int)) :: []), w ∈ TB := List.forall_mem_cons.mpr ⟨tw_196, List.forall_mem_cons.mpr ⟨tw_157, List.forall_mem_cons.mpr ⟨tw_158, List.forall_mem_cons.mpr ⟨tw_3, List.forall_mem_cons.mpr ⟨tw_159, fun _ h => absurd h List.not_mem_nil⟩⟩⟩⟩⟩
theorem cw_RX3_91 : ∀ w ∈ wsV RX3 91 RX1 yX1_leafAt (Cond.code yX1_leafAt cX1_leafAt 2 (some (Jvm.ClassFile.FieldType.int)) :: []), w ∈ TB := List.forall_mem_cons.mpr ⟨tw_203, List.forall_mem_cons.mpr ⟨tw_204, List.forall_mem_cons.mpr ⟨tw_205, List.forall_mem_cons.mpr ⟨tw_6, List.forall_mem_cons.mpr ⟨tw_206, fun _ h => absurd h List.not_mem_nil⟩⟩⟩⟩⟩
theorem cw_RX3_94 : ∀ w ∈ wsV RX3 94 RX3 yX3_layRing (Cond.code yX3_layRing cX3_layRing 6 (some (Jvm.ClassFile.FieldType.int)) :: []), w ∈ TB := List.forall_mem_cons.mpr ⟨tw_200, List.forall_mem_cons.mpr ⟨tw_201, List.forall_mem_cons.mpr ⟨tw_853, List.forall_mem_cons.mpr ⟨tw_7, List.forall_mem_cons.mpr ⟨tw_202, fun _ h => absurd h List.not_mem_nil⟩⟩⟩⟩⟩
theorem cw_RX3_98 : ∀ w ∈ va_wsS RX3 98 yJ9_floorMod_f86c9 (Cond.code yJ9_floorMod_f86c9 cJ9_floorMod_f86c9 6 (some (Jvm.ClassFile.FieldType.long)) :: []), w ∈ TB := List.forall_mem_cons.mpr ⟨tw_397, List.forall_mem_cons.mpr ⟨tw_398, List.forall_mem_cons.mpr ⟨tw_4, List.forall_mem_cons.mpr ⟨tw_399, fun _ h => absurd h List.not_mem_nil⟩⟩⟩⟩
theorem cw_RX3_104 : ∀ w ∈ wsV RX3 104 RX3 yX3_placeInRing (Cond.code yX3_placeInRing cX3_placeInRing 6 (some (Jvm.ClassFile.FieldType.int)) :: []), w ∈ TB := List.forall_mem_cons.mpr ⟨tw_394, List.forall_mem_cons.mpr ⟨tw_395, List.forall_mem_cons.mpr ⟨tw_865, List.forall_mem_cons.mpr ⟨tw_7, List.forall_mem_cons.mpr ⟨tw_396, fun _ h => absurd h List.not_mem_nil⟩⟩⟩⟩⟩
theorem cw_RX3_108 : ∀ w ∈ wsV RX3 108 RX3 yX3_readInRing (Cond.code yX3_readInRing cX3_readInRing 4 (some (Jvm.ClassFile.FieldType.int)) :: []), w ∈ TB := List.forall_mem_cons.mpr ⟨tw_430, List.forall_mem_cons.mpr ⟨tw_431, List.forall_mem_cons.mpr ⟨tw_867, List.forall_mem_cons.mpr ⟨tw_7, List.forall_mem_cons.mpr ⟨tw_432, fun _ h => absurd h List.not_mem_nil⟩⟩⟩⟩⟩
theorem cw_RX3_111 : ∀ w ∈ wsV RX3 111 RX3 yX3_turnAt (Cond.code yX3_turnAt cX3_turnAt 2 (some (Jvm.ClassFile.FieldType.int)) :: []), w ∈ TB := List.forall_mem_cons.mpr ⟨tw_433, List.forall_mem_cons.mpr ⟨tw_434, List.forall_mem_cons.mpr ⟨tw_435, List.forall_mem_cons.mpr ⟨tw_7, List.forall_mem_cons.mpr ⟨tw_436, fun _ h => absurd h List.not_mem_nil⟩⟩⟩⟩⟩
theorem cw_RX3_114 : ∀ w ∈ va_wsS RX3 114 yX3_commonMultiple (Cond.code yX3_commonMultiple cX3_commonMultiple 3 (some (Jvm.ClassFile.FieldType.int)) :: []), w ∈ TB := List.forall_mem_cons.mpr ⟨tw_419, List.forall_mem_cons.mpr ⟨tw_420, List.forall_mem_cons.mpr ⟨tw_7, List.forall_mem_cons.mpr ⟨tw_421, fun _ h => absurd h List.not_mem_nil⟩⟩⟩⟩
theorem cw_RX4_21 : ∀ w ∈ wsV RX4 21 RX4 yX4_at (Cond.code yX4_at cX4_at 2 (some (Jvm.ClassFile.FieldType.int)) :: []), w ∈ TB := List.forall_mem_cons.mpr ⟨tw_188, List.forall_mem_cons.mpr ⟨tw_157, List.forall_mem_cons.mpr ⟨tw_158, List.forall_mem_cons.mpr ⟨tw_3, List.forall_mem_cons.mpr ⟨tw_159, fun _ h => absurd h List.not_mem_nil⟩⟩⟩⟩⟩
theorem cw_RX5_24 : ∀ w ∈ wsV RX5 24 RX4 yX4_at (Cond.code yX4_at cX4_at 2 (some (Jvm.ClassFile.FieldType.int)) :: []), w ∈ TB := List.forall_mem_cons.mpr ⟨tw_287, List.forall_mem_cons.mpr ⟨tw_157, List.forall_mem_cons.mpr ⟨tw_158, List.forall_mem_cons.mpr ⟨tw_3, List.forall_mem_cons.mpr ⟨tw_159, fun _ h => absurd h List.not_mem_nil⟩⟩⟩⟩⟩
theorem cw_RX5_30 : ∀ w ∈ wsV RX5 30 RX4 yX4_put (Cond.code yX4_put cX4_put 3 none :: []), w ∈ TB := List.forall_mem_cons.mpr ⟨tw_262, List.forall_mem_cons.mpr ⟨tw_153, List.forall_mem_cons.mpr ⟨tw_154, List.forall_mem_cons.mpr ⟨tw_3, List.forall_mem_cons.mpr ⟨tw_155, fun _ h => absurd h List.not_mem_nil⟩⟩⟩⟩⟩
theorem cw_RX5_34 : ∀ w ∈ wsV RX5 34 RX5 yX5_byteAt (Cond.code yX5_byteAt cX5_byteAt 2 (some (Jvm.ClassFile.FieldType.int)) :: []), w ∈ TB := List.forall_mem_cons.mpr ⟨tw_295, List.forall_mem_cons.mpr ⟨tw_284, List.forall_mem_cons.mpr ⟨tw_285, List.forall_mem_cons.mpr ⟨tw_2, List.forall_mem_cons.mpr ⟨tw_286, fun _ h => absurd h List.not_mem_nil⟩⟩⟩⟩⟩
theorem cw_RX5_37 : ∀ w ∈ va_wsS RX5 37 yX5_isFigure (Cond.code yX5_isFigure cX5_isFigure 1 (some (Jvm.ClassFile.FieldType.boolean)) :: []), w ∈ TB := List.forall_mem_cons.mpr ⟨tw_296, List.forall_mem_cons.mpr ⟨tw_297, List.forall_mem_cons.mpr ⟨tw_2, List.forall_mem_cons.mpr ⟨tw_298, fun _ h => absurd h List.not_mem_nil⟩⟩⟩⟩
theorem cw_RX6_29 : ∀ w ∈ wsV RX6 29 RX6 yX6_tellNothing (Cond.code yX6_tellNothing cX6_tellNothing 1 none :: []), w ∈ TB := List.forall_mem_cons.mpr ⟨tw_48, List.forall_mem_cons.mpr ⟨tw_49, List.forall_mem_cons.mpr ⟨tw_847, List.forall_mem_cons.mpr ⟨tw_5, List.forall_mem_cons.mpr ⟨tw_50, fun _ h => absurd h List.not_mem_nil⟩⟩⟩⟩⟩
theorem cw_RX6_51 : ∀ w ∈ wsV RX6 51 RX5 yX5_size (Cond.code yX5_size cX5_size 1 (some (Jvm.ClassFile.FieldType.int)) :: []), w ∈ TB := List.forall_mem_cons.mpr ⟨tw_279, List.forall_mem_cons.mpr ⟨tw_254, List.forall_mem_cons.mpr ⟨tw_255, List.forall_mem_cons.mpr ⟨tw_2, List.forall_mem_cons.mpr ⟨tw_256, fun _ h => absurd h List.not_mem_nil⟩⟩⟩⟩⟩
theorem cw_RX6_57 : ∀ w ∈ wsV RX6 57 RX6 yX6_scanItem (Cond.code yX6_scanItem cX6_scanItem 8 (some (Jvm.ClassFile.FieldType.int)) :: []), w ∈ TB := List.forall_mem_cons.mpr ⟨tw_280, List.forall_mem_cons.mpr ⟨tw_281, List.forall_mem_cons.mpr ⟨tw_855, List.forall_mem_cons.mpr ⟨tw_5, List.forall_mem_cons.mpr ⟨tw_282, fun _ h => absurd h List.not_mem_nil⟩⟩⟩⟩⟩
theorem cw_RX6_61 : ∀ w ∈ wsV RX6 61 RX5 yX5_byteAt (Cond.code yX5_byteAt cX5_byteAt 2 (some (Jvm.ClassFile.FieldType.int)) :: []), w ∈ TB := List.forall_mem_cons.mpr ⟨tw_283, List.forall_mem_cons.mpr ⟨tw_284, List.forall_mem_cons.mpr ⟨tw_285, List.forall_mem_cons.mpr ⟨tw_2, List.forall_mem_cons.mpr ⟨tw_286, fun _ h => absurd h List.not_mem_nil⟩⟩⟩⟩⟩
theorem cw_RX6_65 : ∀ w ∈ va_wsS RX6 65 yX6_numbersWanted (Cond.code yX6_numbersWanted cX6_numbersWanted 1 (some (Jvm.ClassFile.FieldType.int)) :: []), w ∈ TB := List.forall_mem_cons.mpr ⟨tw_288, List.forall_mem_cons.mpr ⟨tw_289, List.forall_mem_cons.mpr ⟨tw_5, List.forall_mem_cons.mpr ⟨tw_290, fun _ h => absurd h List.not_mem_nil⟩⟩⟩⟩
theorem cw_RX6_68 : ∀ w ∈ wsV RX6 68 RX5 yX5_figuresFrom (Cond.code yX5_figuresFrom cX5_figuresFrom 2 (some (Jvm.ClassFile.FieldType.int)) :: []), w ∈ TB := List.forall_mem_cons.mpr ⟨tw_291, List.forall_mem_cons.mpr ⟨tw_292, List.forall_mem_cons.mpr ⟨tw_293, List.forall_mem_cons.mpr ⟨tw_2, List.forall_mem_cons.mpr ⟨tw_294, fun _ h => absurd h List.not_mem_nil⟩⟩⟩⟩⟩
theorem cw_RX6_71 : ∀ w ∈ wsV RX6 71 RX5 yX5_numberAt (Cond.code yX5_numberAt cX5_numberAt 5 (some (Jvm.ClassFile.FieldType.int)) :: []), w ∈ TB := List.forall_mem_cons.mpr ⟨tw_299, List.forall_mem_cons.mpr ⟨tw_300, List.forall_mem_cons.mpr ⟨tw_301, List.forall_mem_cons.mpr ⟨tw_2, List.forall_mem_cons.mpr ⟨tw_302, fun _ h => absurd h List.not_mem_nil⟩⟩⟩⟩⟩
theorem cw_RX6_75 : ∀ w ∈ wsV RX6 75 RX4 yX4_put (Cond.code yX4_put cX4_put 3 none :: []), w ∈ TB := List.forall_mem_cons.mpr ⟨tw_303, List.forall_mem_cons.mpr ⟨tw_153, List.forall_mem_cons.mpr ⟨tw_154, List.forall_mem_cons.mpr ⟨tw_3, List.forall_mem_cons.mpr ⟨tw_155, fun _ h => absurd h List.not_mem_nil⟩⟩⟩⟩⟩
theorem cw_RX6_79 : ∀ w ∈ wsV RX6 79 RX4 yX4_at (Cond.code yX4_at cX4_at 2 (some (Jvm.ClassFile.FieldType.int)) :: []), w ∈ TB := List.forall_mem_cons.mpr ⟨tw_156, List.forall_mem_cons.mpr ⟨tw_157, List.forall_mem_cons.mpr ⟨tw_158, List.forall_mem_cons.mpr ⟨tw_3, List.forall_mem_cons.mpr ⟨tw_159, fun _ h => absurd h List.not_mem_nil⟩⟩⟩⟩⟩
theorem cw_RX6_82 : ∀ w ∈ wsV RX6 82 RX6 yX6_takeIn (Cond.code yX6_takeIn cX6_takeIn 4 (some (Jvm.ClassFile.FieldType.boolean)) :: []), w ∈ TB := List.forall_mem_cons.mpr ⟨tw_304, List.forall_mem_cons.mpr ⟨tw_305, List.forall_mem_cons.mpr ⟨tw_856, List.forall_mem_cons.mpr ⟨tw_5, List.forall_mem_cons.mpr ⟨tw_306, fun _ h => absurd h List.not_mem_nil⟩⟩⟩⟩⟩
theorem cw_RX6_86 : ∀ w ∈ wsV RX6 86 RX6 yX6_takeLeafCount (Cond.code yX6_takeLeafCount cX6_takeLeafCount 2 (some (Jvm.ClassFile.FieldType.boolean)) :: []), w ∈ TB := List.forall_mem_cons.mpr ⟨tw_307, List.forall_mem_cons.mpr ⟨tw_308, List.forall_mem_cons.mpr ⟨tw_857, List.forall_mem_cons.mpr ⟨tw_5, List.forall_mem_cons.mpr ⟨tw_309, fun _ h => absurd h List.not_mem_nil⟩⟩⟩⟩⟩
theorem cw_RX6_90 : ∀ w ∈ wsV RX6 90 RX6 yX6_takePerReader (Cond.code yX6_takePerReader cX6_takePerReader 2 (some (Jvm.ClassFile.FieldType.boolean)) :: []), w ∈ TB := List.forall_mem_cons.mpr ⟨tw_310, List.forall_mem_cons.mpr ⟨tw_311, List.forall_mem_cons.mpr ⟨tw_858, List.forall_mem_cons.mpr ⟨tw_5, List.forall_mem_cons.mpr ⟨tw_312, fun _ h => absurd h List.not_mem_nil⟩⟩⟩⟩⟩
theorem cw_RX6_93 : ∀ w ∈ wsV RX6 93 RX6 yX6_takeLaw (Cond.code yX6_takeLaw cX6_takeLaw 3 (some (Jvm.ClassFile.FieldType.boolean)) :: []), w ∈ TB := List.forall_mem_cons.mpr ⟨tw_313, List.forall_mem_cons.mpr ⟨tw_314, List.forall_mem_cons.mpr ⟨tw_859, List.forall_mem_cons.mpr ⟨tw_5, List.forall_mem_cons.mpr ⟨tw_315, fun _ h => absurd h List.not_mem_nil⟩⟩⟩⟩⟩
theorem cw_RX6_97 : ∀ w ∈ wsV RX6 97 RX6 yX6_takeSwap (Cond.code yX6_takeSwap cX6_takeSwap 3 (some (Jvm.ClassFile.FieldType.boolean)) :: []), w ∈ TB := List.forall_mem_cons.mpr ⟨tw_316, List.forall_mem_cons.mpr ⟨tw_317, List.forall_mem_cons.mpr ⟨tw_860, List.forall_mem_cons.mpr ⟨tw_5, List.forall_mem_cons.mpr ⟨tw_318, fun _ h => absurd h List.not_mem_nil⟩⟩⟩⟩⟩
theorem cw_RX6_100 : ∀ w ∈ wsV RX6 100 RX6 yX6_takeTaleLeaf (Cond.code yX6_takeTaleLeaf cX6_takeTaleLeaf 2 (some (Jvm.ClassFile.FieldType.boolean)) :: []), w ∈ TB := List.forall_mem_cons.mpr ⟨tw_319, List.forall_mem_cons.mpr ⟨tw_320, List.forall_mem_cons.mpr ⟨tw_861, List.forall_mem_cons.mpr ⟨tw_5, List.forall_mem_cons.mpr ⟨tw_321, fun _ h => absurd h List.not_mem_nil⟩⟩⟩⟩⟩
theorem cw_RX6_106 : ∀ w ∈ wsV RX6 106 RX1 yX1_number (Cond.code yX1_number cX1_number 3 none :: []), w ∈ TB := List.forall_mem_cons.mpr ⟨tw_148, List.forall_mem_cons.mpr ⟨tw_149, List.forall_mem_cons.mpr ⟨tw_150, List.forall_mem_cons.mpr ⟨tw_6, List.forall_mem_cons.mpr ⟨tw_151, fun _ h => absurd h List.not_mem_nil⟩⟩⟩⟩⟩
theorem cw_RX6_111 : ∀ w ∈ wsV RX6 111 RX1 yX1_swap (Cond.code yX1_swap cX1_swap 4 none :: []), w ∈ TB := List.forall_mem_cons.mpr ⟨tw_160, List.forall_mem_cons.mpr ⟨tw_161, List.forall_mem_cons.mpr ⟨tw_162, List.forall_mem_cons.mpr ⟨tw_6, List.forall_mem_cons.mpr ⟨tw_163, fun _ h => absurd h List.not_mem_nil⟩⟩⟩⟩⟩
theorem cw_RX8_89 : ∀ w ∈ wsV RX8 89 RX8 yX8_noBook (Cond.code yX8_noBook cX8_noBook 2 none :: []), w ∈ TB := List.forall_mem_cons.mpr ⟨tw_575, List.forall_mem_cons.mpr ⟨tw_576, List.forall_mem_cons.mpr ⟨tw_873, List.forall_mem_cons.mpr ⟨tw_10, List.forall_mem_cons.mpr ⟨tw_577, fun _ h => absurd h List.not_mem_nil⟩⟩⟩⟩⟩
theorem cw_RX8_93 : ∀ w ∈ wsV RX8 93 RX8 yX8_layBook (Cond.code yX8_layBook cX8_layBook 3 none :: []), w ∈ TB := List.forall_mem_cons.mpr ⟨tw_578, List.forall_mem_cons.mpr ⟨tw_579, List.forall_mem_cons.mpr ⟨tw_874, List.forall_mem_cons.mpr ⟨tw_10, List.forall_mem_cons.mpr ⟨tw_580, fun _ h => absurd h List.not_mem_nil⟩⟩⟩⟩⟩
theorem cw_RX8_98 : ∀ w ∈ va_wsS RX8 98 yX8_in (Cond.code yX8_in cX8_in 6 (some (Jvm.ClassFile.FieldType.boolean)) :: []), w ∈ TB := List.forall_mem_cons.mpr ⟨tw_661, List.forall_mem_cons.mpr ⟨tw_662, List.forall_mem_cons.mpr ⟨tw_10, List.forall_mem_cons.mpr ⟨tw_663, fun _ h => absurd h List.not_mem_nil⟩⟩⟩⟩
theorem cw_RX8_111 : ∀ w ∈ wsV RX8 111 RX8 yX8_byteAt (Cond.code yX8_byteAt cX8_byteAt 2 (some (Jvm.ClassFile.FieldType.int)) :: []), w ∈ TB := List.forall_mem_cons.mpr ⟨tw_679, List.forall_mem_cons.mpr ⟨tw_680, List.forall_mem_cons.mpr ⟨tw_881, List.forall_mem_cons.mpr ⟨tw_10, List.forall_mem_cons.mpr ⟨tw_681, fun _ h => absurd h List.not_mem_nil⟩⟩⟩⟩⟩
theorem cw_RX8_121 : ∀ w ∈ wsV RX8 121 RX8 yX8_figures (Cond.code yX8_figures cX8_figures 5 (some (Jvm.ClassFile.FieldType.boolean)) :: []), w ∈ TB := List.forall_mem_cons.mpr ⟨tw_682, List.forall_mem_cons.mpr ⟨tw_683, List.forall_mem_cons.mpr ⟨tw_882, List.forall_mem_cons.mpr ⟨tw_10, List.forall_mem_cons.mpr ⟨tw_684, fun _ h => absurd h List.not_mem_nil⟩⟩⟩⟩⟩
theorem cw_RX8_127 : ∀ w ∈ wsV RX8 127 RX8 yX8_item (Cond.code yX8_item cX8_item 2 (some (Jvm.ClassFile.FieldType.boolean)) :: []), w ∈ TB := List.forall_mem_cons.mpr ⟨tw_676, List.forall_mem_cons.mpr ⟨tw_677, List.forall_mem_cons.mpr ⟨tw_880, List.forall_mem_cons.mpr ⟨tw_10, List.forall_mem_cons.mpr ⟨tw_678, fun _ h => absurd h List.not_mem_nil⟩⟩⟩⟩⟩
theorem cw_RX8_131 : ∀ w ∈ wsV RX8 131 RX8 yX8_readAll (Cond.code yX8_readAll cX8_readAll 2 (some (Jvm.ClassFile.FieldType.int)) :: []), w ∈ TB := List.forall_mem_cons.mpr ⟨tw_673, List.forall_mem_cons.mpr ⟨tw_674, List.forall_mem_cons.mpr ⟨tw_879, List.forall_mem_cons.mpr ⟨tw_10, List.forall_mem_cons.mpr ⟨tw_675, fun _ h => absurd h List.not_mem_nil⟩⟩⟩⟩⟩
theorem cw_RX8_141 : ∀ w ∈ wsV RX8 141 RX8 yX8_layOne (Cond.code yX8_layOne cX8_layOne 2 none :: []), w ∈ TB := List.forall_mem_cons.mpr ⟨tw_581, List.forall_mem_cons.mpr ⟨tw_582, List.forall_mem_cons.mpr ⟨tw_875, List.forall_mem_cons.mpr ⟨tw_10, List.forall_mem_cons.mpr ⟨tw_583, fun _ h => absurd h List.not_mem_nil⟩⟩⟩⟩⟩
theorem cw_RX8_144 : ∀ w ∈ wsV RX8 144 RX8 yX8_areBelow (Cond.code yX8_areBelow cX8_areBelow 3 (some (Jvm.ClassFile.FieldType.boolean)) :: []), w ∈ TB := List.forall_mem_cons.mpr ⟨tw_693, List.forall_mem_cons.mpr ⟨tw_694, List.forall_mem_cons.mpr ⟨tw_883, List.forall_mem_cons.mpr ⟨tw_10, List.forall_mem_cons.mpr ⟨tw_695, fun _ h => absurd h List.not_mem_nil⟩⟩⟩⟩⟩
theorem cw_RX8_147 : ∀ w ∈ wsV RX8 147 RX8 yX8_cut (Cond.code yX8_cut cX8_cut 6 none :: []), w ∈ TB := List.forall_mem_cons.mpr ⟨tw_587, List.forall_mem_cons.mpr ⟨tw_588, List.forall_mem_cons.mpr ⟨tw_877, List.forall_mem_cons.mpr ⟨tw_10, List.forall_mem_cons.mpr ⟨tw_589, fun _ h => absurd h List.not_mem_nil⟩⟩⟩⟩⟩
theorem cw_RX8_151 : ∀ w ∈ wsV RX8 151 RX8 yX8_layBelow (Cond.code yX8_layBelow cX8_layBelow 6 none :: []), w ∈ TB := List.forall_mem_cons.mpr ⟨tw_590, List.forall_mem_cons.mpr ⟨tw_591, List.forall_mem_cons.mpr ⟨tw_878, List.forall_mem_cons.mpr ⟨tw_10, List.forall_mem_cons.mpr ⟨tw_592, fun _ h => absurd h List.not_mem_nil⟩⟩⟩⟩⟩
theorem cw_RX8_155 : ∀ w ∈ wsV RX8 155 RX8 yX8_isLeaf (Cond.code yX8_isLeaf cX8_isLeaf 2 (some (Jvm.ClassFile.FieldType.boolean)) :: []), w ∈ TB := List.forall_mem_cons.mpr ⟨tw_700, List.forall_mem_cons.mpr ⟨tw_701, List.forall_mem_cons.mpr ⟨tw_884, List.forall_mem_cons.mpr ⟨tw_10, List.forall_mem_cons.mpr ⟨tw_702, fun _ h => absurd h List.not_mem_nil⟩⟩⟩⟩⟩
theorem cw_RX8_158 : ∀ w ∈ wsV RX8 158 RX8 yX8_goRead (Cond.code yX8_goRead cX8_goRead 8 none :: []), w ∈ TB := List.forall_mem_cons.mpr ⟨tw_584, List.forall_mem_cons.mpr ⟨tw_585, List.forall_mem_cons.mpr ⟨tw_876, List.forall_mem_cons.mpr ⟨tw_10, List.forall_mem_cons.mpr ⟨tw_586, fun _ h => absurd h List.not_mem_nil⟩⟩⟩⟩⟩
theorem cw_RX8_162 : ∀ w ∈ wsV RX8 162 RX8 yX8_read (Cond.code yX8_read cX8_read 2 (some (Jvm.ClassFile.FieldType.int)) :: []), w ∈ TB := List.forall_mem_cons.mpr ⟨tw_715, List.forall_mem_cons.mpr ⟨tw_708, List.forall_mem_cons.mpr ⟨tw_709, List.forall_mem_cons.mpr ⟨tw_10, List.forall_mem_cons.mpr ⟨tw_710, fun _ h => absurd h List.not_mem_nil⟩⟩⟩⟩⟩
theorem cw_RX8_173 : ∀ w ∈ wsV RX8 173 RX8 yX8_change (Cond.code yX8_change cX8_change 4 (some (Jvm.ClassFile.FieldType.int)) :: []), w ∈ TB := List.forall_mem_cons.mpr ⟨tw_728, List.forall_mem_cons.mpr ⟨tw_717, List.forall_mem_cons.mpr ⟨tw_718, List.forall_mem_cons.mpr ⟨tw_10, List.forall_mem_cons.mpr ⟨tw_719, fun _ h => absurd h List.not_mem_nil⟩⟩⟩⟩⟩
theorem cw_RX8_177 : ∀ w ∈ wsV RX8 177 RX8 yX8_put (Cond.code yX8_put cX8_put 4 none :: []), w ∈ TB := List.forall_mem_cons.mpr ⟨tw_740, List.forall_mem_cons.mpr ⟨tw_741, List.forall_mem_cons.mpr ⟨tw_886, List.forall_mem_cons.mpr ⟨tw_10, List.forall_mem_cons.mpr ⟨tw_742, fun _ h => absurd h List.not_mem_nil⟩⟩⟩⟩⟩
theorem cw_RX8_183 : ∀ w ∈ va_wsS RX8 183 yX8_isReader (Cond.code yX8_isReader cX8_isReader 2 (some (Jvm.ClassFile.FieldType.boolean)) :: []), w ∈ TB := List.forall_mem_cons.mpr ⟨tw_733, List.forall_mem_cons.mpr ⟨tw_734, List.forall_mem_cons.mpr ⟨tw_10, List.forall_mem_cons.mpr ⟨tw_735, fun _ h => absurd h List.not_mem_nil⟩⟩⟩⟩
theorem cw_RX8_187 : ∀ w ∈ wsV RX8 187 RX8 yX8_layPower (Cond.code yX8_layPower cX8_layPower 5 none :: []), w ∈ TB := List.forall_mem_cons.mpr ⟨tw_737, List.forall_mem_cons.mpr ⟨tw_738, List.forall_mem_cons.mpr ⟨tw_885, List.forall_mem_cons.mpr ⟨tw_10, List.forall_mem_cons.mpr ⟨tw_739, fun _ h => absurd h List.not_mem_nil⟩⟩⟩⟩⟩
theorem cw_RX8_191 : ∀ w ∈ wsV RX8 191 RX8 yX8_placeOf (Cond.code yX8_placeOf cX8_placeOf 2 (some (Jvm.ClassFile.FieldType.int)) :: []), w ∈ TB := List.forall_mem_cons.mpr ⟨tw_743, List.forall_mem_cons.mpr ⟨tw_744, List.forall_mem_cons.mpr ⟨tw_887, List.forall_mem_cons.mpr ⟨tw_10, List.forall_mem_cons.mpr ⟨tw_745, fun _ h => absurd h List.not_mem_nil⟩⟩⟩⟩⟩
theorem cw_RX8_196 : ∀ w ∈ wsV RX8 196 RX8 yX8_leavesNow (Cond.code yX8_leavesNow cX8_leavesNow 4 (some (Jvm.ClassFile.FieldType.long)) :: []), w ∈ TB := List.forall_mem_cons.mpr ⟨tw_751, List.forall_mem_cons.mpr ⟨tw_752, List.forall_mem_cons.mpr ⟨tw_888, List.forall_mem_cons.mpr ⟨tw_10, List.forall_mem_cons.mpr ⟨tw_753, fun _ h => absurd h List.not_mem_nil⟩⟩⟩⟩⟩
theorem cw_RX8_200 : ∀ w ∈ wsV RX8 200 RX8 yX8_isAtFirst (Cond.code yX8_isAtFirst cX8_isAtFirst 3 (some (Jvm.ClassFile.FieldType.boolean)) :: []), w ∈ TB := List.forall_mem_cons.mpr ⟨tw_758, List.forall_mem_cons.mpr ⟨tw_759, List.forall_mem_cons.mpr ⟨tw_889, List.forall_mem_cons.mpr ⟨tw_10, List.forall_mem_cons.mpr ⟨tw_760, fun _ h => absurd h List.not_mem_nil⟩⟩⟩⟩⟩
theorem cw_RX8_203 : ∀ w ∈ wsV RX8 203 RX8 yX8_period (Cond.code yX8_period cX8_period 2 (some (Jvm.ClassFile.FieldType.int)) :: []), w ∈ TB := List.forall_mem_cons.mpr ⟨tw_765, List.forall_mem_cons.mpr ⟨tw_755, List.forall_mem_cons.mpr ⟨tw_756, List.forall_mem_cons.mpr ⟨tw_10, List.forall_mem_cons.mpr ⟨tw_757, fun _ h => absurd h List.not_mem_nil⟩⟩⟩⟩⟩
theorem cw_RX8_206 : ∀ w ∈ wsV RX8 206 RX8 yX8_lesser (Cond.code yX8_lesser cX8_lesser 1 (some (Jvm.ClassFile.FieldType.int)) :: []), w ∈ TB := List.forall_mem_cons.mpr ⟨tw_770, List.forall_mem_cons.mpr ⟨tw_771, List.forall_mem_cons.mpr ⟨tw_890, List.forall_mem_cons.mpr ⟨tw_10, List.forall_mem_cons.mpr ⟨tw_772, fun _ h => absurd h List.not_mem_nil⟩⟩⟩⟩⟩
theorem cw_RX8_212 : ∀ w ∈ wsV RX8 212 RX8 yX8_noOrder (Cond.code yX8_noOrder cX8_noOrder 2 none :: []), w ∈ TB := List.forall_mem_cons.mpr ⟨tw_777, List.forall_mem_cons.mpr ⟨tw_778, List.forall_mem_cons.mpr ⟨tw_891, List.forall_mem_cons.mpr ⟨tw_10, List.forall_mem_cons.mpr ⟨tw_779, fun _ h => absurd h List.not_mem_nil⟩⟩⟩⟩⟩
theorem cw_RX8_215 : ∀ w ∈ wsV RX8 215 RX8 yX8_know (Cond.code yX8_know cX8_know 3 (some (Jvm.ClassFile.FieldType.boolean)) :: []), w ∈ TB := List.forall_mem_cons.mpr ⟨tw_780, List.forall_mem_cons.mpr ⟨tw_781, List.forall_mem_cons.mpr ⟨tw_892, List.forall_mem_cons.mpr ⟨tw_10, List.forall_mem_cons.mpr ⟨tw_782, fun _ h => absurd h List.not_mem_nil⟩⟩⟩⟩⟩
theorem cw_RX8_221 : ∀ w ∈ wsV RX8 221 RX8 yX8_showsBy (Cond.code yX8_showsBy cX8_showsBy 8 (some (Jvm.ClassFile.FieldType.int)) :: []), w ∈ TB := List.forall_mem_cons.mpr ⟨tw_788, List.forall_mem_cons.mpr ⟨tw_789, List.forall_mem_cons.mpr ⟨tw_893, List.forall_mem_cons.mpr ⟨tw_10, List.forall_mem_cons.mpr ⟨tw_790, fun _ h => absurd h List.not_mem_nil⟩⟩⟩⟩⟩
theorem cw_RX8_224 : ∀ w ∈ wsV RX8 224 RX8 yX8_isSo (Cond.code yX8_isSo cX8_isSo 3 (some (Jvm.ClassFile.FieldType.boolean)) :: []), w ∈ TB := List.forall_mem_cons.mpr ⟨tw_807, List.forall_mem_cons.mpr ⟨tw_808, List.forall_mem_cons.mpr ⟨tw_894, List.forall_mem_cons.mpr ⟨tw_10, List.forall_mem_cons.mpr ⟨tw_809, fun _ h => absurd h List.not_mem_nil⟩⟩⟩⟩⟩
theorem cw_RX8_231 : ∀ w ∈ wsV RX8 231 RX8 yX8_pleasedBy (Cond.code yX8_pleasedBy cX8_pleasedBy 5 (some (Jvm.ClassFile.FieldType.int)) :: []), w ∈ TB := List.forall_mem_cons.mpr ⟨tw_828, List.forall_mem_cons.mpr ⟨tw_829, List.forall_mem_cons.mpr ⟨tw_895, List.forall_mem_cons.mpr ⟨tw_10, List.forall_mem_cons.mpr ⟨tw_830, fun _ h => absurd h List.not_mem_nil⟩⟩⟩⟩⟩
theorem cw_RX8_234 : ∀ w ∈ wsV RX8 234 RX8 yX8_copy (Cond.code yX8_copy cX8_copy 4 none :: []), w ∈ TB := List.forall_mem_cons.mpr ⟨tw_835, List.forall_mem_cons.mpr ⟨tw_836, List.forall_mem_cons.mpr ⟨tw_896, List.forall_mem_cons.mpr ⟨tw_10, List.forall_mem_cons.mpr ⟨tw_837, fun _ h => absurd h List.not_mem_nil⟩⟩⟩⟩⟩
theorem hd_J9_floorMod_f86c9 : yJ9_floorMod_f86c9.cls ≠ "java/lang/invoke/MethodHandle" ∧ yJ9_floorMod_f86c9.cls ≠ "java/lang/invoke/VarHandle" ∧ (parseMethodDescriptor yJ9_floorMod_f86c9.desc).map (fun d => d.parameters.length) = some 2 := by decide +kernel
theorem hd_X0_begin : yX0_begin.cls = RX0 ∧ yX0_begin.cls ≠ "java/lang/invoke/MethodHandle" ∧ yX0_begin.cls ≠ "java/lang/invoke/VarHandle" ∧ (parseMethodDescriptor yX0_begin.desc).map (fun d => d.parameters.length) = some 1 := by decide +kernel
theorem hd_X0_bind : yX0_bind.cls = RX0 ∧ yX0_bind.cls ≠ "java/lang/invoke/MethodHandle" ∧ yX0_bind.cls ≠ "java/lang/invoke/VarHandle" ∧ (parseMethodDescriptor yX0_bind.desc).map (fun d => d.parameters.length) = some 2 := by decide +kernel
theorem hd_X0_fillUp : yX0_fillUp.cls = RX0 ∧ yX0_fillUp.cls ≠ "java/lang/invoke/MethodHandle" ∧ yX0_fillUp.cls ≠ "java/lang/invoke/VarHandle" ∧ (parseMethodDescriptor yX0_fillUp.desc).map (fun d => d.parameters.length) = some 0 := by decide +kernel
theorem hd_X0_holds : yX0_holds.cls = RX0 ∧ yX0_holds.cls ≠ "java/lang/invoke/MethodHandle" ∧ yX0_holds.cls ≠ "java/lang/invoke/VarHandle" ∧ (parseMethodDescriptor yX0_holds.desc).map (fun d => d.parameters.length) = some 0 := by decide +kernel
theorem hd_X0_isAllButOne : yX0_isAllButOne.cls = RX0 ∧ yX0_isAllButOne.cls ≠ "java/lang/invoke/MethodHandle" ∧ yX0_isAllButOne.cls ≠ "java/lang/invoke/VarHandle" ∧ (parseMethodDescriptor yX0_isAllButOne.desc).map (fun d => d.parameters.length) = some 0 := by decide +kernel
theorem hd_X0_leafAt : yX0_leafAt.cls = RX0 ∧ yX0_leafAt.cls ≠ "java/lang/invoke/MethodHandle" ∧ yX0_leafAt.cls ≠ "java/lang/invoke/VarHandle" ∧ (parseMethodDescriptor yX0_leafAt.desc).map (fun d => d.parameters.length) = some 1 := by decide +kernel
theorem hd_X1_copyFrom : yX1_copyFrom.cls = RX1 ∧ yX1_copyFrom.cls ≠ "java/lang/invoke/MethodHandle" ∧ yX1_copyFrom.cls ≠ "java/lang/invoke/VarHandle" ∧ (parseMethodDescriptor yX1_copyFrom.desc).map (fun d => d.parameters.length) = some 1 := by decide +kernel
theorem hd_X1_cut : yX1_cut.cls = RX1 ∧ yX1_cut.cls ≠ "java/lang/invoke/MethodHandle" ∧ yX1_cut.cls ≠ "java/lang/invoke/VarHandle" ∧ (parseMethodDescriptor yX1_cut.desc).map (fun d => d.parameters.length) = some 0 := by decide +kernel
theorem hd_X1_layTop : yX1_layTop.cls = RX1 ∧ yX1_layTop.cls ≠ "java/lang/invoke/MethodHandle" ∧ yX1_layTop.cls ≠ "java/lang/invoke/VarHandle" ∧ (parseMethodDescriptor yX1_layTop.desc).map (fun d => d.parameters.length) = some 1 := by decide +kernel
theorem hd_X1_leafAt : yX1_leafAt.cls = RX1 ∧ yX1_leafAt.cls ≠ "java/lang/invoke/MethodHandle" ∧ yX1_leafAt.cls ≠ "java/lang/invoke/VarHandle" ∧ (parseMethodDescriptor yX1_leafAt.desc).map (fun d => d.parameters.length) = some 1 := by decide +kernel
theorem hd_X1_number : yX1_number.cls = RX1 ∧ yX1_number.cls ≠ "java/lang/invoke/MethodHandle" ∧ yX1_number.cls ≠ "java/lang/invoke/VarHandle" ∧ (parseMethodDescriptor yX1_number.desc).map (fun d => d.parameters.length) = some 1 := by decide +kernel
theorem hd_X1_placeOf : yX1_placeOf.cls = RX1 ∧ yX1_placeOf.cls ≠ "java/lang/invoke/MethodHandle" ∧ yX1_placeOf.cls ≠ "java/lang/invoke/VarHandle" ∧ (parseMethodDescriptor yX1_placeOf.desc).map (fun d => d.parameters.length) = some 1 := by decide +kernel
theorem hd_X1_readTop : yX1_readTop.cls = RX1 ∧ yX1_readTop.cls ≠ "java/lang/invoke/MethodHandle" ∧ yX1_readTop.cls ≠ "java/lang/invoke/VarHandle" ∧ (parseMethodDescriptor yX1_readTop.desc).map (fun d => d.parameters.length) = some 3 := by decide +kernel
theorem hd_X1_swap : yX1_swap.cls = RX1 ∧ yX1_swap.cls ≠ "java/lang/invoke/MethodHandle" ∧ yX1_swap.cls ≠ "java/lang/invoke/VarHandle" ∧ (parseMethodDescriptor yX1_swap.desc).map (fun d => d.parameters.length) = some 2 := by decide +kernel
theorem hd_X2_copyFrom : yX2_copyFrom.cls = RX2 ∧ yX2_copyFrom.cls ≠ "java/lang/invoke/MethodHandle" ∧ yX2_copyFrom.cls ≠ "java/lang/invoke/VarHandle" ∧ (parseMethodDescriptor yX2_copyFrom.desc).map (fun d => d.parameters.length) = some 1 := by decide +kernel
theorem hd_X2_fall : yX2_fall.cls = RX2 ∧ yX2_fall.cls ≠ "java/lang/invoke/MethodHandle" ∧ yX2_fall.cls ≠ "java/lang/invoke/VarHandle" ∧ (parseMethodDescriptor yX2_fall.desc).map (fun d => d.parameters.length) = some 1 := by decide +kernel
theorem hd_X2_readOne : yX2_readOne.cls = RX2 ∧ yX2_readOne.cls ≠ "java/lang/invoke/MethodHandle" ∧ yX2_readOne.cls ≠ "java/lang/invoke/VarHandle" ∧ (parseMethodDescriptor yX2_readOne.desc).map (fun d => d.parameters.length) = some 1 := by decide +kernel
theorem hd_X2_startWith : yX2_startWith.cls = RX2 ∧ yX2_startWith.cls ≠ "java/lang/invoke/MethodHandle" ∧ yX2_startWith.cls ≠ "java/lang/invoke/VarHandle" ∧ (parseMethodDescriptor yX2_startWith.desc).map (fun d => d.parameters.length) = some 1 := by decide +kernel
theorem hd_X3_commonMultiple : yX3_commonMultiple.cls ≠ "java/lang/invoke/MethodHandle" ∧ yX3_commonMultiple.cls ≠ "java/lang/invoke/VarHandle" ∧ (parseMethodDescriptor yX3_commonMultiple.desc).map (fun d => d.parameters.length) = some 2 := by decide +kernel
theorem hd_X3_follow : yX3_follow.cls = RX3 ∧ yX3_follow.cls ≠ "java/lang/invoke/MethodHandle" ∧ yX3_follow.cls ≠ "java/lang/invoke/VarHandle" ∧ (parseMethodDescriptor yX3_follow.desc).map (fun d => d.parameters.length) = some 1 := by decide +kernel
theorem hd_X3_isAlwaysRead : yX3_isAlwaysRead.cls = RX3 ∧ yX3_isAlwaysRead.cls ≠ "java/lang/invoke/MethodHandle" ∧ yX3_isAlwaysRead.cls ≠ "java/lang/invoke/VarHandle" ∧ (parseMethodDescriptor yX3_isAlwaysRead.desc).map (fun d => d.parameters.length) = some 1 := by decide +kernel
theorem hd_X3_isNeverRead : yX3_isNeverRead.cls = RX3 ∧ yX3_isNeverRead.cls ≠ "java/lang/invoke/MethodHandle" ∧ yX3_isNeverRead.cls ≠ "java/lang/invoke/VarHandle" ∧ (parseMethodDescriptor yX3_isNeverRead.desc).map (fun d => d.parameters.length) = some 1 := by decide +kernel
theorem hd_X3_layRing : yX3_layRing.cls = RX3 ∧ yX3_layRing.cls ≠ "java/lang/invoke/MethodHandle" ∧ yX3_layRing.cls ≠ "java/lang/invoke/VarHandle" ∧ (parseMethodDescriptor yX3_layRing.desc).map (fun d => d.parameters.length) = some 2 := by decide +kernel
theorem hd_X3_layRings : yX3_layRings.cls = RX3 ∧ yX3_layRings.cls ≠ "java/lang/invoke/MethodHandle" ∧ yX3_layRings.cls ≠ "java/lang/invoke/VarHandle" ∧ (parseMethodDescriptor yX3_layRings.desc).map (fun d => d.parameters.length) = some 0 := by decide +kernel
theorem hd_X3_placeAfterFirstReading : yX3_placeAfterFirstReading.cls = RX3 ∧ yX3_placeAfterFirstReading.cls ≠ "java/lang/invoke/MethodHandle" ∧ yX3_placeAfterFirstReading.cls ≠ "java/lang/invoke/VarHandle" ∧ (parseMethodDescriptor yX3_placeAfterFirstReading.desc).map (fun d => d.parameters.length) = some 2 := by decide +kernel
theorem hd_X3_placeFoundBy : yX3_placeFoundBy.cls = RX3 ∧ yX3_placeFoundBy.cls ≠ "java/lang/invoke/MethodHandle" ∧ yX3_placeFoundBy.cls ≠ "java/lang/invoke/VarHandle" ∧ (parseMethodDescriptor yX3_placeFoundBy.desc).map (fun d => d.parameters.length) = some 2 := by decide +kernel
theorem hd_X3_placeInRing : yX3_placeInRing.cls = RX3 ∧ yX3_placeInRing.cls ≠ "java/lang/invoke/MethodHandle" ∧ yX3_placeInRing.cls ≠ "java/lang/invoke/VarHandle" ∧ (parseMethodDescriptor yX3_placeInRing.desc).map (fun d => d.parameters.length) = some 2 := by decide +kernel
theorem hd_X3_placeRead : yX3_placeRead.cls = RX3 ∧ yX3_placeRead.cls ≠ "java/lang/invoke/MethodHandle" ∧ yX3_placeRead.cls ≠ "java/lang/invoke/VarHandle" ∧ (parseMethodDescriptor yX3_placeRead.desc).map (fun d => d.parameters.length) = some 2 := by decide +kernel
theorem hd_X3_readInRing : yX3_readInRing.cls = RX3 ∧ yX3_readInRing.cls ≠ "java/lang/invoke/MethodHandle" ∧ yX3_readInRing.cls ≠ "java/lang/invoke/VarHandle" ∧ (parseMethodDescriptor yX3_readInRing.desc).map (fun d => d.parameters.length) = some 1 := by decide +kernel
theorem hd_X3_readOneReader : yX3_readOneReader.cls = RX3 ∧ yX3_readOneReader.cls ≠ "java/lang/invoke/MethodHandle" ∧ yX3_readOneReader.cls ≠ "java/lang/invoke/VarHandle" ∧ (parseMethodDescriptor yX3_readOneReader.desc).map (fun d => d.parameters.length) = some 1 := by decide +kernel
theorem hd_X3_readWithoutFirst : yX3_readWithoutFirst.cls = RX3 ∧ yX3_readWithoutFirst.cls ≠ "java/lang/invoke/MethodHandle" ∧ yX3_readWithoutFirst.cls ≠ "java/lang/invoke/VarHandle" ∧ (parseMethodDescriptor yX3_readWithoutFirst.desc).map (fun d => d.parameters.length) = some 1 := by decide +kernel
theorem hd_X3_roundsTogether : yX3_roundsTogether.cls = RX3 ∧ yX3_roundsTogether.cls ≠ "java/lang/invoke/MethodHandle" ∧ yX3_roundsTogether.cls ≠ "java/lang/invoke/VarHandle" ∧ (parseMethodDescriptor yX3_roundsTogether.desc).map (fun d => d.parameters.length) = some 0 := by decide +kernel
theorem hd_X3_turnAt : yX3_turnAt.cls = RX3 ∧ yX3_turnAt.cls ≠ "java/lang/invoke/MethodHandle" ∧ yX3_turnAt.cls ≠ "java/lang/invoke/VarHandle" ∧ (parseMethodDescriptor yX3_turnAt.desc).map (fun d => d.parameters.length) = some 1 := by decide +kernel
theorem hd_X4_at : yX4_at.cls = RX4 ∧ yX4_at.cls ≠ "java/lang/invoke/MethodHandle" ∧ yX4_at.cls ≠ "java/lang/invoke/VarHandle" ∧ (parseMethodDescriptor yX4_at.desc).map (fun d => d.parameters.length) = some 1 := by decide +kernel
theorem hd_X4_copyFrom : yX4_copyFrom.cls = RX4 ∧ yX4_copyFrom.cls ≠ "java/lang/invoke/MethodHandle" ∧ yX4_copyFrom.cls ≠ "java/lang/invoke/VarHandle" ∧ (parseMethodDescriptor yX4_copyFrom.desc).map (fun d => d.parameters.length) = some 1 := by decide +kernel
theorem hd_X4_fill : yX4_fill.cls = RX4 ∧ yX4_fill.cls ≠ "java/lang/invoke/MethodHandle" ∧ yX4_fill.cls ≠ "java/lang/invoke/VarHandle" ∧ (parseMethodDescriptor yX4_fill.desc).map (fun d => d.parameters.length) = some 1 := by decide +kernel
theorem hd_X4_put : yX4_put.cls = RX4 ∧ yX4_put.cls ≠ "java/lang/invoke/MethodHandle" ∧ yX4_put.cls ≠ "java/lang/invoke/VarHandle" ∧ (parseMethodDescriptor yX4_put.desc).map (fun d => d.parameters.length) = some 2 := by decide +kernel
theorem hd_X5_append : yX5_append.cls = RX5 ∧ yX5_append.cls ≠ "java/lang/invoke/MethodHandle" ∧ yX5_append.cls ≠ "java/lang/invoke/VarHandle" ∧ (parseMethodDescriptor yX5_append.desc).map (fun d => d.parameters.length) = some 2 := by decide +kernel
theorem hd_X5_byteAt : yX5_byteAt.cls = RX5 ∧ yX5_byteAt.cls ≠ "java/lang/invoke/MethodHandle" ∧ yX5_byteAt.cls ≠ "java/lang/invoke/VarHandle" ∧ (parseMethodDescriptor yX5_byteAt.desc).map (fun d => d.parameters.length) = some 1 := by decide +kernel
theorem hd_X5_clear : yX5_clear.cls = RX5 ∧ yX5_clear.cls ≠ "java/lang/invoke/MethodHandle" ∧ yX5_clear.cls ≠ "java/lang/invoke/VarHandle" ∧ (parseMethodDescriptor yX5_clear.desc).map (fun d => d.parameters.length) = some 0 := by decide +kernel
theorem hd_X5_figuresFrom : yX5_figuresFrom.cls = RX5 ∧ yX5_figuresFrom.cls ≠ "java/lang/invoke/MethodHandle" ∧ yX5_figuresFrom.cls ≠ "java/lang/invoke/VarHandle" ∧ (parseMethodDescriptor yX5_figuresFrom.desc).map (fun d => d.parameters.length) = some 1 := by decide +kernel
theorem hd_X5_isFigure : yX5_isFigure.cls ≠ "java/lang/invoke/MethodHandle" ∧ yX5_isFigure.cls ≠ "java/lang/invoke/VarHandle" ∧ (parseMethodDescriptor yX5_isFigure.desc).map (fun d => d.parameters.length) = some 1 := by decide +kernel
theorem hd_X5_numberAt : yX5_numberAt.cls = RX5 ∧ yX5_numberAt.cls ≠ "java/lang/invoke/MethodHandle" ∧ yX5_numberAt.cls ≠ "java/lang/invoke/VarHandle" ∧ (parseMethodDescriptor yX5_numberAt.desc).map (fun d => d.parameters.length) = some 2 := by decide +kernel
theorem hd_X5_size : yX5_size.cls = RX5 ∧ yX5_size.cls ≠ "java/lang/invoke/MethodHandle" ∧ yX5_size.cls ≠ "java/lang/invoke/VarHandle" ∧ (parseMethodDescriptor yX5_size.desc).map (fun d => d.parameters.length) = some 0 := by decide +kernel
theorem hd_X6_fitsItsLeaves : yX6_fitsItsLeaves.cls = RX6 ∧ yX6_fitsItsLeaves.cls ≠ "java/lang/invoke/MethodHandle" ∧ yX6_fitsItsLeaves.cls ≠ "java/lang/invoke/VarHandle" ∧ (parseMethodDescriptor yX6_fitsItsLeaves.desc).map (fun d => d.parameters.length) = some 0 := by decide +kernel
theorem hd_X6_numbersWanted : yX6_numbersWanted.cls ≠ "java/lang/invoke/MethodHandle" ∧ yX6_numbersWanted.cls ≠ "java/lang/invoke/VarHandle" ∧ (parseMethodDescriptor yX6_numbersWanted.desc).map (fun d => d.parameters.length) = some 1 := by decide +kernel
theorem hd_X6_orderFirst : yX6_orderFirst.cls = RX6 ∧ yX6_orderFirst.cls ≠ "java/lang/invoke/MethodHandle" ∧ yX6_orderFirst.cls ≠ "java/lang/invoke/VarHandle" ∧ (parseMethodDescriptor yX6_orderFirst.desc).map (fun d => d.parameters.length) = some 1 := by decide +kernel
theorem hd_X6_scan : yX6_scan.cls = RX6 ∧ yX6_scan.cls ≠ "java/lang/invoke/MethodHandle" ∧ yX6_scan.cls ≠ "java/lang/invoke/VarHandle" ∧ (parseMethodDescriptor yX6_scan.desc).map (fun d => d.parameters.length) = some 1 := by decide +kernel
theorem hd_X6_scanItem : yX6_scanItem.cls = RX6 ∧ yX6_scanItem.cls ≠ "java/lang/invoke/MethodHandle" ∧ yX6_scanItem.cls ≠ "java/lang/invoke/VarHandle" ∧ (parseMethodDescriptor yX6_scanItem.desc).map (fun d => d.parameters.length) = some 2 := by decide +kernel
theorem hd_X6_takeIn : yX6_takeIn.cls = RX6 ∧ yX6_takeIn.cls ≠ "java/lang/invoke/MethodHandle" ∧ yX6_takeIn.cls ≠ "java/lang/invoke/VarHandle" ∧ (parseMethodDescriptor yX6_takeIn.desc).map (fun d => d.parameters.length) = some 3 := by decide +kernel
theorem hd_X6_takeLaw : yX6_takeLaw.cls = RX6 ∧ yX6_takeLaw.cls ≠ "java/lang/invoke/MethodHandle" ∧ yX6_takeLaw.cls ≠ "java/lang/invoke/VarHandle" ∧ (parseMethodDescriptor yX6_takeLaw.desc).map (fun d => d.parameters.length) = some 2 := by decide +kernel
theorem hd_X6_takeLeafCount : yX6_takeLeafCount.cls = RX6 ∧ yX6_takeLeafCount.cls ≠ "java/lang/invoke/MethodHandle" ∧ yX6_takeLeafCount.cls ≠ "java/lang/invoke/VarHandle" ∧ (parseMethodDescriptor yX6_takeLeafCount.desc).map (fun d => d.parameters.length) = some 1 := by decide +kernel
theorem hd_X6_takePerReader : yX6_takePerReader.cls = RX6 ∧ yX6_takePerReader.cls ≠ "java/lang/invoke/MethodHandle" ∧ yX6_takePerReader.cls ≠ "java/lang/invoke/VarHandle" ∧ (parseMethodDescriptor yX6_takePerReader.desc).map (fun d => d.parameters.length) = some 1 := by decide +kernel
theorem hd_X6_takeSwap : yX6_takeSwap.cls = RX6 ∧ yX6_takeSwap.cls ≠ "java/lang/invoke/MethodHandle" ∧ yX6_takeSwap.cls ≠ "java/lang/invoke/VarHandle" ∧ (parseMethodDescriptor yX6_takeSwap.desc).map (fun d => d.parameters.length) = some 2 := by decide +kernel
theorem hd_X6_takeTaleLeaf : yX6_takeTaleLeaf.cls = RX6 ∧ yX6_takeTaleLeaf.cls ≠ "java/lang/invoke/MethodHandle" ∧ yX6_takeTaleLeaf.cls ≠ "java/lang/invoke/VarHandle" ∧ (parseMethodDescriptor yX6_takeTaleLeaf.desc).map (fun d => d.parameters.length) = some 1 := by decide +kernel
theorem hd_X6_taleLeaf : yX6_taleLeaf.cls = RX6 ∧ yX6_taleLeaf.cls ≠ "java/lang/invoke/MethodHandle" ∧ yX6_taleLeaf.cls ≠ "java/lang/invoke/VarHandle" ∧ (parseMethodDescriptor yX6_taleLeaf.desc).map (fun d => d.parameters.length) = some 1 := by decide +kernel
theorem hd_X6_tellNothing : yX6_tellNothing.cls = RX6 ∧ yX6_tellNothing.cls ≠ "java/lang/invoke/MethodHandle" ∧ yX6_tellNothing.cls ≠ "java/lang/invoke/VarHandle" ∧ (parseMethodDescriptor yX6_tellNothing.desc).map (fun d => d.parameters.length) = some 0 := by decide +kernel
theorem hd_X6_toldTurns : yX6_toldTurns.cls = RX6 ∧ yX6_toldTurns.cls ≠ "java/lang/invoke/MethodHandle" ∧ yX6_toldTurns.cls ≠ "java/lang/invoke/VarHandle" ∧ (parseMethodDescriptor yX6_toldTurns.desc).map (fun d => d.parameters.length) = some 0 := by decide +kernel
theorem hd_X7_bit : yX7_bit.cls ≠ "java/lang/invoke/MethodHandle" ∧ yX7_bit.cls ≠ "java/lang/invoke/VarHandle" ∧ (parseMethodDescriptor yX7_bit.desc).map (fun d => d.parameters.length) = some 1 := by decide +kernel
theorem hd_X7_guessFromSeen : yX7_guessFromSeen.cls = RX7 ∧ yX7_guessFromSeen.cls ≠ "java/lang/invoke/MethodHandle" ∧ yX7_guessFromSeen.cls ≠ "java/lang/invoke/VarHandle" ∧ (parseMethodDescriptor yX7_guessFromSeen.desc).map (fun d => d.parameters.length) = some 0 := by decide +kernel
theorem hd_X7_isBelowCount : yX7_isBelowCount.cls = RX7 ∧ yX7_isBelowCount.cls ≠ "java/lang/invoke/MethodHandle" ∧ yX7_isBelowCount.cls ≠ "java/lang/invoke/VarHandle" ∧ (parseMethodDescriptor yX7_isBelowCount.desc).map (fun d => d.parameters.length) = some 1 := by decide +kernel
theorem hd_X7_isReadBy : yX7_isReadBy.cls = RX7 ∧ yX7_isReadBy.cls ≠ "java/lang/invoke/MethodHandle" ∧ yX7_isReadBy.cls ≠ "java/lang/invoke/VarHandle" ∧ (parseMethodDescriptor yX7_isReadBy.desc).map (fun d => d.parameters.length) = some 2 := by decide +kernel
theorem hd_X7_isReader : yX7_isReader.cls ≠ "java/lang/invoke/MethodHandle" ∧ yX7_isReader.cls ≠ "java/lang/invoke/VarHandle" ∧ (parseMethodDescriptor yX7_isReader.desc).map (fun d => d.parameters.length) = some 1 := by decide +kernel
theorem hd_X7_isTurn : yX7_isTurn.cls = RX7 ∧ yX7_isTurn.cls ≠ "java/lang/invoke/MethodHandle" ∧ yX7_isTurn.cls ≠ "java/lang/invoke/VarHandle" ∧ (parseMethodDescriptor yX7_isTurn.desc).map (fun d => d.parameters.length) = some 1 := by decide +kernel
theorem hd_X7_keptPack : yX7_keptPack.cls = RX7 ∧ yX7_keptPack.cls ≠ "java/lang/invoke/MethodHandle" ∧ yX7_keptPack.cls ≠ "java/lang/invoke/VarHandle" ∧ (parseMethodDescriptor yX7_keptPack.desc).map (fun d => d.parameters.length) = some 1 := by decide +kernel
theorem hd_X7_leafHad : yX7_leafHad.cls = RX7 ∧ yX7_leafHad.cls ≠ "java/lang/invoke/MethodHandle" ∧ yX7_leafHad.cls ≠ "java/lang/invoke/VarHandle" ∧ (parseMethodDescriptor yX7_leafHad.desc).map (fun d => d.parameters.length) = some 2 := by decide +kernel
theorem hd_X7_leavesHad : yX7_leavesHad.cls = RX7 ∧ yX7_leavesHad.cls ≠ "java/lang/invoke/MethodHandle" ∧ yX7_leavesHad.cls ≠ "java/lang/invoke/VarHandle" ∧ (parseMethodDescriptor yX7_leavesHad.desc).map (fun d => d.parameters.length) = some 1 := by decide +kernel
theorem hd_X7_placeBeforeLaying : yX7_placeBeforeLaying.cls ≠ "java/lang/invoke/MethodHandle" ∧ yX7_placeBeforeLaying.cls ≠ "java/lang/invoke/VarHandle" ∧ (parseMethodDescriptor yX7_placeBeforeLaying.desc).map (fun d => d.parameters.length) = some 2 := by decide +kernel
theorem hd_X7_readingsToShowAll : yX7_readingsToShowAll.cls = RX7 ∧ yX7_readingsToShowAll.cls ≠ "java/lang/invoke/MethodHandle" ∧ yX7_readingsToShowAll.cls ≠ "java/lang/invoke/VarHandle" ∧ (parseMethodDescriptor yX7_readingsToShowAll.desc).map (fun d => d.parameters.length) = some 2 := by decide +kernel
theorem hd_X7_rightWhenLaidAt : yX7_rightWhenLaidAt.cls = RX7 ∧ yX7_rightWhenLaidAt.cls ≠ "java/lang/invoke/MethodHandle" ∧ yX7_rightWhenLaidAt.cls ≠ "java/lang/invoke/VarHandle" ∧ (parseMethodDescriptor yX7_rightWhenLaidAt.desc).map (fun d => d.parameters.length) = some 2 := by decide +kernel
theorem hd_X7_startAnew : yX7_startAnew.cls = RX7 ∧ yX7_startAnew.cls ≠ "java/lang/invoke/MethodHandle" ∧ yX7_startAnew.cls ≠ "java/lang/invoke/VarHandle" ∧ (parseMethodDescriptor yX7_startAnew.desc).map (fun d => d.parameters.length) = some 0 := by decide +kernel
theorem hd_X7_within : yX7_within.cls ≠ "java/lang/invoke/MethodHandle" ∧ yX7_within.cls ≠ "java/lang/invoke/VarHandle" ∧ (parseMethodDescriptor yX7_within.desc).map (fun d => d.parameters.length) = some 3 := by decide +kernel
theorem hd_X8_areBelow : yX8_areBelow.cls = RX8 ∧ yX8_areBelow.cls ≠ "java/lang/invoke/MethodHandle" ∧ yX8_areBelow.cls ≠ "java/lang/invoke/VarHandle" ∧ (parseMethodDescriptor yX8_areBelow.desc).map (fun d => d.parameters.length) = some 0 := by decide +kernel
theorem hd_X8_byteAt : yX8_byteAt.cls = RX8 ∧ yX8_byteAt.cls ≠ "java/lang/invoke/MethodHandle" ∧ yX8_byteAt.cls ≠ "java/lang/invoke/VarHandle" ∧ (parseMethodDescriptor yX8_byteAt.desc).map (fun d => d.parameters.length) = some 1 := by decide +kernel
theorem hd_X8_change : yX8_change.cls = RX8 ∧ yX8_change.cls ≠ "java/lang/invoke/MethodHandle" ∧ yX8_change.cls ≠ "java/lang/invoke/VarHandle" ∧ (parseMethodDescriptor yX8_change.desc).map (fun d => d.parameters.length) = some 2 := by decide +kernel
theorem hd_X8_copy : yX8_copy.cls = RX8 ∧ yX8_copy.cls ≠ "java/lang/invoke/MethodHandle" ∧ yX8_copy.cls ≠ "java/lang/invoke/VarHandle" ∧ (parseMethodDescriptor yX8_copy.desc).map (fun d => d.parameters.length) = some 2 := by decide +kernel
theorem hd_X8_cut : yX8_cut.cls = RX8 ∧ yX8_cut.cls ≠ "java/lang/invoke/MethodHandle" ∧ yX8_cut.cls ≠ "java/lang/invoke/VarHandle" ∧ (parseMethodDescriptor yX8_cut.desc).map (fun d => d.parameters.length) = some 2 := by decide +kernel
theorem hd_X8_figures : yX8_figures.cls = RX8 ∧ yX8_figures.cls ≠ "java/lang/invoke/MethodHandle" ∧ yX8_figures.cls ≠ "java/lang/invoke/VarHandle" ∧ (parseMethodDescriptor yX8_figures.desc).map (fun d => d.parameters.length) = some 1 := by decide +kernel
theorem hd_X8_goRead : yX8_goRead.cls = RX8 ∧ yX8_goRead.cls ≠ "java/lang/invoke/MethodHandle" ∧ yX8_goRead.cls ≠ "java/lang/invoke/VarHandle" ∧ (parseMethodDescriptor yX8_goRead.desc).map (fun d => d.parameters.length) = some 5 := by decide +kernel
theorem hd_X8_in : yX8_in.cls ≠ "java/lang/invoke/MethodHandle" ∧ yX8_in.cls ≠ "java/lang/invoke/VarHandle" ∧ (parseMethodDescriptor yX8_in.desc).map (fun d => d.parameters.length) = some 3 := by decide +kernel
theorem hd_X8_isAtFirst : yX8_isAtFirst.cls = RX8 ∧ yX8_isAtFirst.cls ≠ "java/lang/invoke/MethodHandle" ∧ yX8_isAtFirst.cls ≠ "java/lang/invoke/VarHandle" ∧ (parseMethodDescriptor yX8_isAtFirst.desc).map (fun d => d.parameters.length) = some 0 := by decide +kernel
theorem hd_X8_isLeaf : yX8_isLeaf.cls = RX8 ∧ yX8_isLeaf.cls ≠ "java/lang/invoke/MethodHandle" ∧ yX8_isLeaf.cls ≠ "java/lang/invoke/VarHandle" ∧ (parseMethodDescriptor yX8_isLeaf.desc).map (fun d => d.parameters.length) = some 1 := by decide +kernel
theorem hd_X8_isReader : yX8_isReader.cls ≠ "java/lang/invoke/MethodHandle" ∧ yX8_isReader.cls ≠ "java/lang/invoke/VarHandle" ∧ (parseMethodDescriptor yX8_isReader.desc).map (fun d => d.parameters.length) = some 1 := by decide +kernel
theorem hd_X8_isSo : yX8_isSo.cls = RX8 ∧ yX8_isSo.cls ≠ "java/lang/invoke/MethodHandle" ∧ yX8_isSo.cls ≠ "java/lang/invoke/VarHandle" ∧ (parseMethodDescriptor yX8_isSo.desc).map (fun d => d.parameters.length) = some 0 := by decide +kernel
theorem hd_X8_item : yX8_item.cls = RX8 ∧ yX8_item.cls ≠ "java/lang/invoke/MethodHandle" ∧ yX8_item.cls ≠ "java/lang/invoke/VarHandle" ∧ (parseMethodDescriptor yX8_item.desc).map (fun d => d.parameters.length) = some 0 := by decide +kernel
theorem hd_X8_know : yX8_know.cls = RX8 ∧ yX8_know.cls ≠ "java/lang/invoke/MethodHandle" ∧ yX8_know.cls ≠ "java/lang/invoke/VarHandle" ∧ (parseMethodDescriptor yX8_know.desc).map (fun d => d.parameters.length) = some 2 := by decide +kernel
theorem hd_X8_layBelow : yX8_layBelow.cls = RX8 ∧ yX8_layBelow.cls ≠ "java/lang/invoke/MethodHandle" ∧ yX8_layBelow.cls ≠ "java/lang/invoke/VarHandle" ∧ (parseMethodDescriptor yX8_layBelow.desc).map (fun d => d.parameters.length) = some 3 := by decide +kernel
theorem hd_X8_layBook : yX8_layBook.cls = RX8 ∧ yX8_layBook.cls ≠ "java/lang/invoke/MethodHandle" ∧ yX8_layBook.cls ≠ "java/lang/invoke/VarHandle" ∧ (parseMethodDescriptor yX8_layBook.desc).map (fun d => d.parameters.length) = some 0 := by decide +kernel
theorem hd_X8_layOne : yX8_layOne.cls = RX8 ∧ yX8_layOne.cls ≠ "java/lang/invoke/MethodHandle" ∧ yX8_layOne.cls ≠ "java/lang/invoke/VarHandle" ∧ (parseMethodDescriptor yX8_layOne.desc).map (fun d => d.parameters.length) = some 0 := by decide +kernel
theorem hd_X8_layPower : yX8_layPower.cls = RX8 ∧ yX8_layPower.cls ≠ "java/lang/invoke/MethodHandle" ∧ yX8_layPower.cls ≠ "java/lang/invoke/VarHandle" ∧ (parseMethodDescriptor yX8_layPower.desc).map (fun d => d.parameters.length) = some 1 := by decide +kernel
theorem hd_X8_leavesNow : yX8_leavesNow.cls = RX8 ∧ yX8_leavesNow.cls ≠ "java/lang/invoke/MethodHandle" ∧ yX8_leavesNow.cls ≠ "java/lang/invoke/VarHandle" ∧ (parseMethodDescriptor yX8_leavesNow.desc).map (fun d => d.parameters.length) = some 0 := by decide +kernel
theorem hd_X8_lesser : yX8_lesser.cls = RX8 ∧ yX8_lesser.cls ≠ "java/lang/invoke/MethodHandle" ∧ yX8_lesser.cls ≠ "java/lang/invoke/VarHandle" ∧ (parseMethodDescriptor yX8_lesser.desc).map (fun d => d.parameters.length) = some 0 := by decide +kernel
theorem hd_X8_noBook : yX8_noBook.cls = RX8 ∧ yX8_noBook.cls ≠ "java/lang/invoke/MethodHandle" ∧ yX8_noBook.cls ≠ "java/lang/invoke/VarHandle" ∧ (parseMethodDescriptor yX8_noBook.desc).map (fun d => d.parameters.length) = some 1 := by decide +kernel
theorem hd_X8_noOrder : yX8_noOrder.cls = RX8 ∧ yX8_noOrder.cls ≠ "java/lang/invoke/MethodHandle" ∧ yX8_noOrder.cls ≠ "java/lang/invoke/VarHandle" ∧ (parseMethodDescriptor yX8_noOrder.desc).map (fun d => d.parameters.length) = some 0 := by decide +kernel
theorem hd_X8_period : yX8_period.cls = RX8 ∧ yX8_period.cls ≠ "java/lang/invoke/MethodHandle" ∧ yX8_period.cls ≠ "java/lang/invoke/VarHandle" ∧ (parseMethodDescriptor yX8_period.desc).map (fun d => d.parameters.length) = some 0 := by decide +kernel
theorem hd_X8_placeOf : yX8_placeOf.cls = RX8 ∧ yX8_placeOf.cls ≠ "java/lang/invoke/MethodHandle" ∧ yX8_placeOf.cls ≠ "java/lang/invoke/VarHandle" ∧ (parseMethodDescriptor yX8_placeOf.desc).map (fun d => d.parameters.length) = some 1 := by decide +kernel
theorem hd_X8_pleasedBy : yX8_pleasedBy.cls = RX8 ∧ yX8_pleasedBy.cls ≠ "java/lang/invoke/MethodHandle" ∧ yX8_pleasedBy.cls ≠ "java/lang/invoke/VarHandle" ∧ (parseMethodDescriptor yX8_pleasedBy.desc).map (fun d => d.parameters.length) = some 2 := by decide +kernel
theorem hd_X8_put : yX8_put.cls = RX8 ∧ yX8_put.cls ≠ "java/lang/invoke/MethodHandle" ∧ yX8_put.cls ≠ "java/lang/invoke/VarHandle" ∧ (parseMethodDescriptor yX8_put.desc).map (fun d => d.parameters.length) = some 2 := by decide +kernel
theorem hd_X8_read : yX8_read.cls = RX8 ∧ yX8_read.cls ≠ "java/lang/invoke/MethodHandle" ∧ yX8_read.cls ≠ "java/lang/invoke/VarHandle" ∧ (parseMethodDescriptor yX8_read.desc).map (fun d => d.parameters.length) = some 0 := by decide +kernel
theorem hd_X8_readAll : yX8_readAll.cls = RX8 ∧ yX8_readAll.cls ≠ "java/lang/invoke/MethodHandle" ∧ yX8_readAll.cls ≠ "java/lang/invoke/VarHandle" ∧ (parseMethodDescriptor yX8_readAll.desc).map (fun d => d.parameters.length) = some 0 := by decide +kernel
theorem hd_X8_showsBy : yX8_showsBy.cls = RX8 ∧ yX8_showsBy.cls ≠ "java/lang/invoke/MethodHandle" ∧ yX8_showsBy.cls ≠ "java/lang/invoke/VarHandle" ∧ (parseMethodDescriptor yX8_showsBy.desc).map (fun d => d.parameters.length) = some 2 := by decide +kernel
end
