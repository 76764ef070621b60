def TB : List Cond := lw_tbl.filter goodWord
theorem tb_in {w : Cond} (h : w ∈ lw_tbl) (hg : goodWord w = true) : w ∈ TB := List.mem_filter.mpr ⟨h, hg⟩
theorem tb_good : ∀ w ∈ TB, goodWord w = true := fun w h => (List.mem_filter.mp h).2
theorem tb_tbl : ∀ w ∈ TB, w ∈ lw_tbl := fun w h => (List.mem_filter.mp h).1
theorem tb_1 {w : Cond} (h : w ∈ tables_1_1) : w ∈ lw_tbl := List.mem_append_right _ (List.mem_append_left _ h)
theorem tb_2 {w : Cond} (h : w ∈ tables_1_2) : w ∈ lw_tbl := List.mem_append_right _ (List.mem_append_right _ (List.mem_append_left _ h))
theorem tb_3 {w : Cond} (h : w ∈ tables_1_3) : w ∈ lw_tbl := List.mem_append_right _ (List.mem_append_right _ (List.mem_append_right _ (h)))
theorem tw_0 : (Cond.initialized "ShufflingBookLaw") ∈ TB := tb_in (tb_1 (List.mem_of_getElem? (i := 0) rfl)) rfl
theorem tw_1 : (Cond.initialized "ShufflingBook") ∈ TB := tb_in (tb_1 (List.mem_of_getElem? (i := 1) rfl)) rfl
theorem tw_2 : (Cond.initialized "ShufflingBook$Text") ∈ TB := tb_in (tb_1 (List.mem_of_getElem? (i := 2) rfl)) rfl
theorem tw_3 : (Cond.initialized "ShufflingBook$Row") ∈ TB := tb_in (tb_1 (List.mem_of_getElem? (i := 3) rfl)) rfl
theorem tw_4 : (Cond.initialized "java/lang/Math") ∈ TB := tb_in (tb_1 (List.mem_of_getElem? (i := 4) rfl)) rfl
theorem tw_5 : (Cond.initialized "ShufflingBook$Told") ∈ TB := tb_in (tb_1 (List.mem_of_getElem? (i := 5) rfl)) rfl
theorem tw_6 : (Cond.initialized "ShufflingBook$Order") ∈ TB := tb_in (tb_1 (List.mem_of_getElem? (i := 6) rfl)) rfl
theorem tw_7 : (Cond.initialized "ShufflingBook$Readers") ∈ TB := tb_in (tb_1 (List.mem_of_getElem? (i := 7) rfl)) rfl
theorem tw_8 : (Cond.initialized "ShufflingBook$Guess") ∈ TB := tb_in (tb_1 (List.mem_of_getElem? (i := 8) rfl)) rfl
theorem tw_9 : (Cond.initialized "ShufflingBook$Pack") ∈ TB := tb_in (tb_1 (List.mem_of_getElem? (i := 9) rfl)) rfl
theorem tw_10 : (Cond.classLink "ShufflingBookLaw" 11 "ShufflingBook") ∈ TB := tb_in (tb_1 (List.mem_of_getElem? (i := 10) rfl)) rfl
theorem tw_11 : (Cond.instantiable "ShufflingBook" 14) ∈ TB := tb_in (tb_1 (List.mem_of_getElem? (i := 11) rfl)) rfl
theorem tw_12 : (Cond.methodLink "ShufflingBookLaw" 136 yX7_init) ∈ TB := tb_in (tb_1 (List.mem_of_getElem? (i := 12) rfl)) rfl
theorem tw_13 : (Cond.instanceMethod yX7_init) ∈ TB := tb_in (tb_1 (List.mem_of_getElem? (i := 13) rfl)) rfl
theorem tw_14 : (Cond.code yX7_init cX7_init 1 none) ∈ TB := tb_in (tb_1 (List.mem_of_getElem? (i := 14) rfl)) rfl
theorem tw_15 : (Cond.methodLink "ShufflingBook" 1 ⟨"java/lang/Object", "<init>", "()V"⟩) ∈ TB := tb_in (tb_1 (List.mem_of_getElem? (i := 15) rfl)) rfl
theorem tw_16 : (Cond.instanceMethod ⟨"java/lang/Object", "<init>", "()V"⟩) ∈ TB := tb_in (tb_1 (List.mem_of_getElem? (i := 16) rfl)) rfl
theorem tw_17 : (Cond.code ⟨"java/lang/Object", "<init>", "()V"⟩ object_method_1_code 1 none) ∈ TB := tb_in (tb_1 (List.mem_of_getElem? (i := 17) rfl)) rfl
theorem tw_18 : (Cond.classLink "ShufflingBook" 7 "ShufflingBook$Text") ∈ TB := tb_in (tb_1 (List.mem_of_getElem? (i := 18) rfl)) rfl
theorem tw_19 : (Cond.instantiable "ShufflingBook$Text" 2) ∈ TB := tb_in (tb_1 (List.mem_of_getElem? (i := 19) rfl)) rfl
theorem tw_20 : (Cond.instanceMethod yX5_init) ∈ TB := tb_in (tb_1 (List.mem_of_getElem? (i := 21) rfl)) rfl
theorem tw_21 : (Cond.code yX5_init cX5_init 1 none) ∈ TB := tb_in (tb_1 (List.mem_of_getElem? (i := 22) rfl)) rfl
theorem tw_22 : (Cond.methodLink "ShufflingBook$Text" 3 ⟨"java/lang/Object", "<init>", "()V"⟩) ∈ TB := tb_in (tb_1 (List.mem_of_getElem? (i := 23) rfl)) rfl
theorem tw_23 : (Cond.classLink "ShufflingBook$Text" 9 "ShufflingBook$Row") ∈ TB := tb_in (tb_1 (List.mem_of_getElem? (i := 24) rfl)) rfl
theorem tw_24 : (Cond.instantiable "ShufflingBook$Row" 1) ∈ TB := tb_in (tb_1 (List.mem_of_getElem? (i := 25) rfl)) rfl
theorem tw_25 : (Cond.methodLink "ShufflingBook$Text" 11 yX4_init) ∈ TB := tb_in (tb_1 (List.mem_of_getElem? (i := 26) rfl)) rfl
theorem tw_26 : (Cond.instanceMethod yX4_init) ∈ TB := tb_in (tb_1 (List.mem_of_getElem? (i := 27) rfl)) rfl
theorem tw_27 : (Cond.code yX4_init cX4_init 2 none) ∈ TB := tb_in (tb_1 (List.mem_of_getElem? (i := 28) rfl)) rfl
theorem tw_28 : (Cond.methodLink "ShufflingBook$Row" 3 ⟨"java/lang/Object", "<init>", "()V"⟩) ∈ TB := tb_in (tb_1 (List.mem_of_getElem? (i := 29) rfl)) rfl
theorem tw_29 : (Cond.methodLink "ShufflingBook$Row" 9 yJ9_max_7cf53) ∈ TB := tb_in (tb_1 (List.mem_of_getElem? (i := 30) rfl)) rfl
theorem tw_30 : (Cond.static yJ9_max_7cf53) ∈ TB := tb_in (tb_1 (List.mem_of_getElem? (i := 31) rfl)) rfl
theorem tw_31 : (Cond.code yJ9_max_7cf53 cJ9_max_7cf53 2 (some (Jvm.ClassFile.FieldType.int))) ∈ TB := tb_in (tb_1 (List.mem_of_getElem? (i := 32) rfl)) rfl
theorem tw_32 : (Cond.fieldLink "ShufflingBook$Row" 15 "ShufflingBook$Row" "cells" "[I") ∈ TB := tb_in (tb_1 (List.mem_of_getElem? (i := 33) rfl)) rfl
theorem tw_33 : (Cond.laysFinal "ShufflingBook$Row" "ShufflingBook$Row" "cells" "[I") ∈ TB := tb_in (tb_1 (List.mem_of_getElem? (i := 34) rfl)) rfl
theorem tw_34 : (Cond.arrayClass .int) ∈ TB := tb_in (tb_1 (List.mem_of_getElem? (i := 37) rfl)) rfl
theorem tw_35 : (Cond.fieldLink "ShufflingBook$Text" 14 "ShufflingBook$Text" "bytes" "LShufflingBook$Row;") ∈ TB := tb_in (tb_1 (List.mem_of_getElem? (i := 38) rfl)) rfl
theorem tw_36 : (Cond.fieldLink "ShufflingBook$Text" 20 "ShufflingBook$Text" "length" "I") ∈ TB := tb_in (tb_1 (List.mem_of_getElem? (i := 39) rfl)) rfl
theorem tw_37 : (Cond.laysFinal "ShufflingBook$Text" "ShufflingBook$Text" "bytes" "LShufflingBook$Row;") ∈ TB := tb_in (tb_1 (List.mem_of_getElem? (i := 40) rfl)) rfl
theorem tw_38 : (Cond.lays "ShufflingBook$Text" "ShufflingBook$Text" "length" "I") ∈ TB := tb_in (tb_1 (List.mem_of_getElem? (i := 42) rfl)) rfl
theorem tw_39 : (Cond.classLink "ShufflingBook" 16 "ShufflingBook$Told") ∈ TB := tb_in (tb_1 (List.mem_of_getElem? (i := 45) rfl)) rfl
theorem tw_40 : (Cond.instantiable "ShufflingBook$Told" 10) ∈ TB := tb_in (tb_1 (List.mem_of_getElem? (i := 46) rfl)) rfl
theorem tw_41 : (Cond.methodLink "ShufflingBook" 18 yX6_init) ∈ TB := tb_in (tb_1 (List.mem_of_getElem? (i := 47) rfl)) rfl
theorem tw_42 : (Cond.instanceMethod yX6_init) ∈ TB := tb_in (tb_1 (List.mem_of_getElem? (i := 48) rfl)) rfl
theorem tw_43 : (Cond.code yX6_init cX6_init 1 none) ∈ TB := tb_in (tb_1 (List.mem_of_getElem? (i := 49) rfl)) rfl
theorem tw_44 : (Cond.methodLink "ShufflingBook$Told" 3 ⟨"java/lang/Object", "<init>", "()V"⟩) ∈ TB := tb_in (tb_1 (List.mem_of_getElem? (i := 50) rfl)) rfl
theorem tw_45 : (Cond.classLink "ShufflingBook$Told" 9 "ShufflingBook$Row") ∈ TB := tb_in (tb_1 (List.mem_of_getElem? (i := 51) rfl)) rfl
theorem tw_46 : (Cond.methodLink "ShufflingBook$Told" 11 yX4_init) ∈ TB := tb_in (tb_1 (List.mem_of_getElem? (i := 52) rfl)) rfl
theorem tw_47 : (Cond.methodLink "ShufflingBook$Told" 29 yX6_tellNothing) ∈ TB := tb_in (tb_1 (List.mem_of_getElem? (i := 53) rfl)) rfl
theorem tw_48 : (Cond.instanceMethod yX6_tellNothing) ∈ TB := tb_in (tb_1 (List.mem_of_getElem? (i := 55) rfl)) rfl
theorem tw_49 : (Cond.code yX6_tellNothing cX6_tellNothing 1 none) ∈ TB := tb_in (tb_1 (List.mem_of_getElem? (i := 56) rfl)) rfl
theorem tw_50 : (Cond.fieldLink "ShufflingBook$Told" 32 "ShufflingBook$Told" "leafCount" "I") ∈ TB := tb_in (tb_1 (List.mem_of_getElem? (i := 58) rfl)) rfl
theorem tw_51 : (Cond.fieldLink "ShufflingBook$Told" 36 "ShufflingBook$Told" "perReader" "I") ∈ TB := tb_in (tb_1 (List.mem_of_getElem? (i := 60) rfl)) rfl
theorem tw_52 : (Cond.fieldLink "ShufflingBook$Told" 39 "ShufflingBook$Told" "kind" "I") ∈ TB := tb_in (tb_1 (List.mem_of_getElem? (i := 64) rfl)) rfl
theorem tw_53 : (Cond.fieldLink "ShufflingBook$Told" 42 "ShufflingBook$Told" "reach" "I") ∈ TB := tb_in (tb_1 (List.mem_of_getElem? (i := 67) rfl)) rfl
theorem tw_54 : (Cond.fieldLink "ShufflingBook$Told" 14 "ShufflingBook$Told" "swapFrom" "LShufflingBook$Row;") ∈ TB := tb_in (tb_1 (List.mem_of_getElem? (i := 70) rfl)) rfl
theorem tw_55 : (Cond.fieldLink "ShufflingBook$Told" 20 "ShufflingBook$Told" "swapTo" "LShufflingBook$Row;") ∈ TB := tb_in (tb_1 (List.mem_of_getElem? (i := 71) rfl)) rfl
theorem tw_56 : (Cond.fieldLink "ShufflingBook$Told" 45 "ShufflingBook$Told" "swapCount" "I") ∈ TB := tb_in (tb_1 (List.mem_of_getElem? (i := 72) rfl)) rfl
theorem tw_57 : (Cond.fieldLink "ShufflingBook$Told" 23 "ShufflingBook$Told" "tale" "LShufflingBook$Row;") ∈ TB := tb_in (tb_1 (List.mem_of_getElem? (i := 73) rfl)) rfl
theorem tw_58 : (Cond.fieldLink "ShufflingBook$Told" 48 "ShufflingBook$Told" "taleLength" "I") ∈ TB := tb_in (tb_1 (List.mem_of_getElem? (i := 74) rfl)) rfl
theorem tw_59 : (Cond.fieldLink "ShufflingBook$Told" 26 "ShufflingBook$Told" "numbers" "LShufflingBook$Row;") ∈ TB := tb_in (tb_1 (List.mem_of_getElem? (i := 76) rfl)) rfl
theorem tw_60 : (Cond.lays "ShufflingBook$Told" "ShufflingBook$Told" "leafCount" "I") ∈ TB := tb_in (tb_1 (List.mem_of_getElem? (i := 77) rfl)) rfl
theorem tw_61 : (Cond.lays "ShufflingBook$Told" "ShufflingBook$Told" "perReader" "I") ∈ TB := tb_in (tb_1 (List.mem_of_getElem? (i := 79) rfl)) rfl
theorem tw_62 : (Cond.lays "ShufflingBook$Told" "ShufflingBook$Told" "kind" "I") ∈ TB := tb_in (tb_1 (List.mem_of_getElem? (i := 81) rfl)) rfl
theorem tw_63 : (Cond.lays "ShufflingBook$Told" "ShufflingBook$Told" "reach" "I") ∈ TB := tb_in (tb_1 (List.mem_of_getElem? (i := 83) rfl)) rfl
theorem tw_64 : (Cond.laysFinal "ShufflingBook$Told" "ShufflingBook$Told" "swapFrom" "LShufflingBook$Row;") ∈ TB := tb_in (tb_1 (List.mem_of_getElem? (i := 85) rfl)) rfl
theorem tw_65 : (Cond.laysFinal "ShufflingBook$Told" "ShufflingBook$Told" "swapTo" "LShufflingBook$Row;") ∈ TB := tb_in (tb_1 (List.mem_of_getElem? (i := 87) rfl)) rfl
theorem tw_66 : (Cond.lays "ShufflingBook$Told" "ShufflingBook$Told" "swapCount" "I") ∈ TB := tb_in (tb_1 (List.mem_of_getElem? (i := 89) rfl)) rfl
theorem tw_67 : (Cond.laysFinal "ShufflingBook$Told" "ShufflingBook$Told" "tale" "LShufflingBook$Row;") ∈ TB := tb_in (tb_1 (List.mem_of_getElem? (i := 91) rfl)) rfl
theorem tw_68 : (Cond.lays "ShufflingBook$Told" "ShufflingBook$Told" "taleLength" "I") ∈ TB := tb_in (tb_1 (List.mem_of_getElem? (i := 93) rfl)) rfl
theorem tw_69 : (Cond.laysFinal "ShufflingBook$Told" "ShufflingBook$Told" "numbers" "LShufflingBook$Row;") ∈ TB := tb_in (tb_1 (List.mem_of_getElem? (i := 95) rfl)) rfl
theorem tw_70 : (Cond.classLink "ShufflingBook" 26 "ShufflingBook$Order") ∈ TB := tb_in (tb_1 (List.mem_of_getElem? (i := 98) rfl)) rfl
theorem tw_71 : (Cond.instantiable "ShufflingBook$Order" 3) ∈ TB := tb_in (tb_1 (List.mem_of_getElem? (i := 99) rfl)) rfl
theorem tw_72 : (Cond.instanceMethod yX1_init) ∈ TB := tb_in (tb_1 (List.mem_of_getElem? (i := 101) rfl)) rfl
theorem tw_73 : (Cond.code yX1_init cX1_init 1 none) ∈ TB := tb_in (tb_1 (List.mem_of_getElem? (i := 102) rfl)) rfl
theorem tw_74 : (Cond.methodLink "ShufflingBook$Order" 3 ⟨"java/lang/Object", "<init>", "()V"⟩) ∈ TB := tb_in (tb_1 (List.mem_of_getElem? (i := 103) rfl)) rfl
theorem tw_75 : (Cond.classLink "ShufflingBook$Order" 9 "ShufflingBook$Row") ∈ TB := tb_in (tb_1 (List.mem_of_getElem? (i := 104) rfl)) rfl
theorem tw_76 : (Cond.methodLink "ShufflingBook$Order" 11 yX4_init) ∈ TB := tb_in (tb_1 (List.mem_of_getElem? (i := 105) rfl)) rfl
theorem tw_77 : (Cond.fieldLink "ShufflingBook$Order" 14 "ShufflingBook$Order" "leaves" "LShufflingBook$Row;") ∈ TB := tb_in (tb_1 (List.mem_of_getElem? (i := 106) rfl)) rfl
theorem tw_78 : (Cond.fieldLink "ShufflingBook$Order" 20 "ShufflingBook$Order" "lifted" "LShufflingBook$Row;") ∈ TB := tb_in (tb_1 (List.mem_of_getElem? (i := 107) rfl)) rfl
theorem tw_79 : (Cond.fieldLink "ShufflingBook$Order" 23 "ShufflingBook$Order" "size" "I") ∈ TB := tb_in (tb_1 (List.mem_of_getElem? (i := 108) rfl)) rfl
theorem tw_80 : (Cond.laysFinal "ShufflingBook$Order" "ShufflingBook$Order" "leaves" "LShufflingBook$Row;") ∈ TB := tb_in (tb_1 (List.mem_of_getElem? (i := 110) rfl)) rfl
theorem tw_81 : (Cond.laysFinal "ShufflingBook$Order" "ShufflingBook$Order" "lifted" "LShufflingBook$Row;") ∈ TB := tb_in (tb_1 (List.mem_of_getElem? (i := 112) rfl)) rfl
theorem tw_82 : (Cond.lays "ShufflingBook$Order" "ShufflingBook$Order" "size" "I") ∈ TB := tb_in (tb_1 (List.mem_of_getElem? (i := 114) rfl)) rfl
theorem tw_83 : (Cond.classLink "ShufflingBook" 36 "ShufflingBook$Readers") ∈ TB := tb_in (tb_1 (List.mem_of_getElem? (i := 117) rfl)) rfl
theorem tw_84 : (Cond.instantiable "ShufflingBook$Readers" 9) ∈ TB := tb_in (tb_1 (List.mem_of_getElem? (i := 118) rfl)) rfl
theorem tw_85 : (Cond.instanceMethod yX3_init) ∈ TB := tb_in (tb_1 (List.mem_of_getElem? (i := 120) rfl)) rfl
theorem tw_86 : (Cond.code yX3_init cX3_init 1 none) ∈ TB := tb_in (tb_1 (List.mem_of_getElem? (i := 121) rfl)) rfl
theorem tw_87 : (Cond.methodLink "ShufflingBook$Readers" 3 ⟨"java/lang/Object", "<init>", "()V"⟩) ∈ TB := tb_in (tb_1 (List.mem_of_getElem? (i := 122) rfl)) rfl
theorem tw_88 : (Cond.classLink "ShufflingBook$Readers" 9 "ShufflingBook$Order") ∈ TB := tb_in (tb_1 (List.mem_of_getElem? (i := 123) rfl)) rfl
theorem tw_89 : (Cond.classLink "ShufflingBook$Readers" 18 "ShufflingBook$Row") ∈ TB := tb_in (tb_1 (List.mem_of_getElem? (i := 125) rfl)) rfl
theorem tw_90 : (Cond.methodLink "ShufflingBook$Readers" 20 yX4_init) ∈ TB := tb_in (tb_1 (List.mem_of_getElem? (i := 126) rfl)) rfl
theorem tw_91 : (Cond.fieldLink "ShufflingBook$Readers" 12 "ShufflingBook$Readers" "trial" "LShufflingBook$Order;") ∈ TB := tb_in (tb_1 (List.mem_of_getElem? (i := 127) rfl)) rfl
theorem tw_92 : (Cond.fieldLink "ShufflingBook$Readers" 51 "ShufflingBook$Readers" "size" "I") ∈ TB := tb_in (tb_1 (List.mem_of_getElem? (i := 128) rfl)) rfl
theorem tw_93 : (Cond.fieldLink "ShufflingBook$Readers" 23 "ShufflingBook$Readers" "placeAtTurn" "LShufflingBook$Row;") ∈ TB := tb_in (tb_1 (List.mem_of_getElem? (i := 129) rfl)) rfl
theorem tw_94 : (Cond.fieldLink "ShufflingBook$Readers" 27 "ShufflingBook$Readers" "turnAtPlace" "LShufflingBook$Row;") ∈ TB := tb_in (tb_1 (List.mem_of_getElem? (i := 130) rfl)) rfl
theorem tw_95 : (Cond.fieldLink "ShufflingBook$Readers" 30 "ShufflingBook$Readers" "fromAfterFirst" "LShufflingBook$Row;") ∈ TB := tb_in (tb_1 (List.mem_of_getElem? (i := 131) rfl)) rfl
theorem tw_96 : (Cond.fieldLink "ShufflingBook$Readers" 33 "ShufflingBook$Readers" "ring" "LShufflingBook$Row;") ∈ TB := tb_in (tb_1 (List.mem_of_getElem? (i := 132) rfl)) rfl
theorem tw_97 : (Cond.fieldLink "ShufflingBook$Readers" 36 "ShufflingBook$Readers" "ringStart" "LShufflingBook$Row;") ∈ TB := tb_in (tb_1 (List.mem_of_getElem? (i := 133) rfl)) rfl
theorem tw_98 : (Cond.fieldLink "ShufflingBook$Readers" 39 "ShufflingBook$Readers" "ringLength" "LShufflingBook$Row;") ∈ TB := tb_in (tb_1 (List.mem_of_getElem? (i := 134) rfl)) rfl
theorem tw_99 : (Cond.fieldLink "ShufflingBook$Readers" 42 "ShufflingBook$Readers" "indexInRing" "LShufflingBook$Row;") ∈ TB := tb_in (tb_1 (List.mem_of_getElem? (i := 135) rfl)) rfl
theorem tw_100 : (Cond.laysFinal "ShufflingBook$Readers" "ShufflingBook$Readers" "trial" "LShufflingBook$Order;") ∈ TB := tb_in (tb_1 (List.mem_of_getElem? (i := 136) rfl)) rfl
theorem tw_101 : (Cond.lays "ShufflingBook$Readers" "ShufflingBook$Readers" "size" "I") ∈ TB := tb_in (tb_1 (List.mem_of_getElem? (i := 138) rfl)) rfl
theorem tw_102 : (Cond.laysFinal "ShufflingBook$Readers" "ShufflingBook$Readers" "placeAtTurn" "LShufflingBook$Row;") ∈ TB := tb_in (tb_1 (List.mem_of_getElem? (i := 140) rfl)) rfl
theorem tw_103 : (Cond.laysFinal "ShufflingBook$Readers" "ShufflingBook$Readers" "turnAtPlace" "LShufflingBook$Row;") ∈ TB := tb_in (tb_1 (List.mem_of_getElem? (i := 142) rfl)) rfl
theorem tw_104 : (Cond.laysFinal "ShufflingBook$Readers" "ShufflingBook$Readers" "fromAfterFirst" "LShufflingBook$Row;") ∈ TB := tb_in (tb_1 (List.mem_of_getElem? (i := 144) rfl)) rfl
theorem tw_105 : (Cond.laysFinal "ShufflingBook$Readers" "ShufflingBook$Readers" "ring" "LShufflingBook$Row;") ∈ TB := tb_in (tb_1 (List.mem_of_getElem? (i := 146) rfl)) rfl
theorem tw_106 : (Cond.laysFinal "ShufflingBook$Readers" "ShufflingBook$Readers" "ringStart" "LShufflingBook$Row;") ∈ TB := tb_in (tb_1 (List.mem_of_getElem? (i := 148) rfl)) rfl
theorem tw_107 : (Cond.laysFinal "ShufflingBook$Readers" "ShufflingBook$Readers" "ringLength" "LShufflingBook$Row;") ∈ TB := tb_in (tb_1 (List.mem_of_getElem? (i := 150) rfl)) rfl
theorem tw_108 : (Cond.laysFinal "ShufflingBook$Readers" "ShufflingBook$Readers" "indexInRing" "LShufflingBook$Row;") ∈ TB := tb_in (tb_1 (List.mem_of_getElem? (i := 152) rfl)) rfl
theorem tw_109 : (Cond.classLink "ShufflingBook" 43 "ShufflingBook$Guess") ∈ TB := tb_in (tb_1 (List.mem_of_getElem? (i := 155) rfl)) rfl
theorem tw_110 : (Cond.instantiable "ShufflingBook$Guess" 5) ∈ TB := tb_in (tb_1 (List.mem_of_getElem? (i := 156) rfl)) rfl
theorem tw_111 : (Cond.instanceMethod yX0_init) ∈ TB := tb_in (tb_1 (List.mem_of_getElem? (i := 158) rfl)) rfl
theorem tw_112 : (Cond.code yX0_init cX0_init 1 none) ∈ TB := tb_in (tb_1 (List.mem_of_getElem? (i := 159) rfl)) rfl
theorem tw_113 : (Cond.methodLink "ShufflingBook$Guess" 3 ⟨"java/lang/Object", "<init>", "()V"⟩) ∈ TB := tb_in (tb_1 (List.mem_of_getElem? (i := 160) rfl)) rfl
theorem tw_114 : (Cond.classLink "ShufflingBook$Guess" 9 "ShufflingBook$Row") ∈ TB := tb_in (tb_1 (List.mem_of_getElem? (i := 161) rfl)) rfl
theorem tw_115 : (Cond.methodLink "ShufflingBook$Guess" 11 yX4_init) ∈ TB := tb_in (tb_1 (List.mem_of_getElem? (i := 162) rfl)) rfl
theorem tw_116 : (Cond.fieldLink "ShufflingBook$Guess" 14 "ShufflingBook$Guess" "leaves" "LShufflingBook$Row;") ∈ TB := tb_in (tb_1 (List.mem_of_getElem? (i := 163) rfl)) rfl
theorem tw_117 : (Cond.fieldLink "ShufflingBook$Guess" 20 "ShufflingBook$Guess" "places" "LShufflingBook$Row;") ∈ TB := tb_in (tb_1 (List.mem_of_getElem? (i := 164) rfl)) rfl
theorem tw_118 : (Cond.fieldLink "ShufflingBook$Guess" 23 "ShufflingBook$Guess" "size" "I") ∈ TB := tb_in (tb_1 (List.mem_of_getElem? (i := 165) rfl)) rfl
theorem tw_119 : (Cond.fieldLink "ShufflingBook$Guess" 27 "ShufflingBook$Guess" "bound" "I") ∈ TB := tb_in (tb_1 (List.mem_of_getElem? (i := 166) rfl)) rfl
theorem tw_120 : (Cond.fieldLink "ShufflingBook$Guess" 30 "ShufflingBook$Guess" "consistent" "Z") ∈ TB := tb_in (tb_1 (List.mem_of_getElem? (i := 167) rfl)) rfl
theorem tw_121 : (Cond.laysFinal "ShufflingBook$Guess" "ShufflingBook$Guess" "leaves" "LShufflingBook$Row;") ∈ TB := tb_in (tb_1 (List.mem_of_getElem? (i := 168) rfl)) rfl
theorem tw_122 : (Cond.laysFinal "ShufflingBook$Guess" "ShufflingBook$Guess" "places" "LShufflingBook$Row;") ∈ TB := tb_in (tb_1 (List.mem_of_getElem? (i := 170) rfl)) rfl
theorem tw_123 : (Cond.lays "ShufflingBook$Guess" "ShufflingBook$Guess" "size" "I") ∈ TB := tb_in (tb_1 (List.mem_of_getElem? (i := 172) rfl)) rfl
theorem tw_124 : (Cond.lays "ShufflingBook$Guess" "ShufflingBook$Guess" "bound" "I") ∈ TB := tb_in (tb_1 (List.mem_of_getElem? (i := 174) rfl)) rfl
theorem tw_125 : (Cond.lays "ShufflingBook$Guess" "ShufflingBook$Guess" "consistent" "Z") ∈ TB := tb_in (tb_1 (List.mem_of_getElem? (i := 176) rfl)) rfl
theorem tw_126 : (Cond.classLink "ShufflingBook" 50 "ShufflingBook$Row") ∈ TB := tb_in (tb_1 (List.mem_of_getElem? (i := 179) rfl)) rfl
theorem tw_127 : (Cond.methodLink "ShufflingBook" 52 yX4_init) ∈ TB := tb_in (tb_1 (List.mem_of_getElem? (i := 180) rfl)) rfl
theorem tw_128 : (Cond.classLink "ShufflingBook" 62 "ShufflingBook$Pack") ∈ TB := tb_in (tb_1 (List.mem_of_getElem? (i := 181) rfl)) rfl
theorem tw_129 : (Cond.instantiable "ShufflingBook$Pack" 3) ∈ TB := tb_in (tb_1 (List.mem_of_getElem? (i := 182) rfl)) rfl
theorem tw_130 : (Cond.instanceMethod yX2_init) ∈ TB := tb_in (tb_1 (List.mem_of_getElem? (i := 184) rfl)) rfl
theorem tw_131 : (Cond.code yX2_init cX2_init 1 none) ∈ TB := tb_in (tb_1 (List.mem_of_getElem? (i := 185) rfl)) rfl
theorem tw_132 : (Cond.methodLink "ShufflingBook$Pack" 1 ⟨"java/lang/Object", "<init>", "()V"⟩) ∈ TB := tb_in (tb_1 (List.mem_of_getElem? (i := 186) rfl)) rfl
theorem tw_133 : (Cond.classLink "ShufflingBook$Pack" 7 "ShufflingBook$Order") ∈ TB := tb_in (tb_1 (List.mem_of_getElem? (i := 187) rfl)) rfl
theorem tw_134 : (Cond.fieldLink "ShufflingBook$Pack" 10 "ShufflingBook$Pack" "order" "LShufflingBook$Order;") ∈ TB := tb_in (tb_1 (List.mem_of_getElem? (i := 189) rfl)) rfl
theorem tw_135 : (Cond.fieldLink "ShufflingBook$Pack" 20 "ShufflingBook$Pack" "readSoFar" "I") ∈ TB := tb_in (tb_1 (List.mem_of_getElem? (i := 191) rfl)) rfl
theorem tw_136 : (Cond.fieldLink "ShufflingBook$Pack" 24 "ShufflingBook$Pack" "readersDone" "I") ∈ TB := tb_in (tb_1 (List.mem_of_getElem? (i := 193) rfl)) rfl
theorem tw_137 : (Cond.laysFinal "ShufflingBook$Pack" "ShufflingBook$Pack" "order" "LShufflingBook$Order;") ∈ TB := tb_in (tb_1 (List.mem_of_getElem? (i := 195) rfl)) rfl
theorem tw_138 : (Cond.lays "ShufflingBook$Pack" "ShufflingBook$Pack" "readSoFar" "I") ∈ TB := tb_in (tb_1 (List.mem_of_getElem? (i := 197) rfl)) rfl
theorem tw_139 : (Cond.lays "ShufflingBook$Pack" "ShufflingBook$Pack" "readersDone" "I") ∈ TB := tb_in (tb_1 (List.mem_of_getElem? (i := 199) rfl)) rfl
theorem tw_140 : (Cond.methodLink "ShufflingBook" 75 yX7_startAnew) ∈ TB := tb_in (tb_1 (List.mem_of_getElem? (i := 202) rfl)) rfl
theorem tw_141 : (Cond.instanceMethod yX7_startAnew) ∈ TB := tb_in (tb_1 (List.mem_of_getElem? (i := 204) rfl)) rfl
theorem tw_142 : (Cond.code yX7_startAnew cX7_startAnew 1 none) ∈ TB := tb_in (tb_1 (List.mem_of_getElem? (i := 205) rfl)) rfl
theorem tw_143 : (Cond.methodLink "ShufflingBook" 234 yX6_orderFirst) ∈ TB := tb_in (tb_1 (List.mem_of_getElem? (i := 206) rfl)) rfl
theorem tw_144 : (Cond.instanceMethod yX6_orderFirst) ∈ TB := tb_in (tb_1 (List.mem_of_getElem? (i := 207) rfl)) rfl
theorem tw_145 : (Cond.selects "ShufflingBook$Told" yX6_orderFirst yX6_orderFirst) ∈ TB := tb_in (tb_1 (List.mem_of_getElem? (i := 208) rfl)) rfl
theorem tw_146 : (Cond.code yX6_orderFirst cX6_orderFirst 3 none) ∈ TB := tb_in (tb_1 (List.mem_of_getElem? (i := 209) rfl)) rfl
theorem tw_147 : (Cond.methodLink "ShufflingBook$Told" 106 yX1_number) ∈ TB := tb_in (tb_1 (List.mem_of_getElem? (i := 210) rfl)) rfl
theorem tw_148 : (Cond.instanceMethod yX1_number) ∈ TB := tb_in (tb_1 (List.mem_of_getElem? (i := 211) rfl)) rfl
theorem tw_149 : (Cond.selects "ShufflingBook$Order" yX1_number yX1_number) ∈ TB := tb_in (tb_1 (List.mem_of_getElem? (i := 212) rfl)) rfl
theorem tw_150 : (Cond.code yX1_number cX1_number 3 none) ∈ TB := tb_in (tb_1 (List.mem_of_getElem? (i := 213) rfl)) rfl
theorem tw_151 : (Cond.methodLink "ShufflingBook$Order" 27 yX4_put) ∈ TB := tb_in (tb_1 (List.mem_of_getElem? (i := 214) rfl)) rfl
theorem tw_152 : (Cond.instanceMethod yX4_put) ∈ TB := tb_in (tb_1 (List.mem_of_getElem? (i := 215) rfl)) rfl
theorem tw_153 : (Cond.selects "ShufflingBook$Row" yX4_put yX4_put) ∈ TB := tb_in (tb_1 (List.mem_of_getElem? (i := 216) rfl)) rfl
theorem tw_154 : (Cond.code yX4_put cX4_put 3 none) ∈ TB := tb_in (tb_1 (List.mem_of_getElem? (i := 217) rfl)) rfl
theorem tw_155 : (Cond.methodLink "ShufflingBook$Told" 79 yX4_at) ∈ TB := tb_in (tb_1 (List.mem_of_getElem? (i := 218) rfl)) rfl
theorem tw_156 : (Cond.instanceMethod yX4_at) ∈ TB := tb_in (tb_1 (List.mem_of_getElem? (i := 219) rfl)) rfl
theorem tw_157 : (Cond.selects "ShufflingBook$Row" yX4_at yX4_at) ∈ TB := tb_in (tb_1 (List.mem_of_getElem? (i := 220) rfl)) rfl
theorem tw_158 : (Cond.code yX4_at cX4_at 2 (some (Jvm.ClassFile.FieldType.int))) ∈ TB := tb_in (tb_1 (List.mem_of_getElem? (i := 221) rfl)) rfl
theorem tw_159 : (Cond.methodLink "ShufflingBook$Told" 111 yX1_swap) ∈ TB := tb_in (tb_1 (List.mem_of_getElem? (i := 222) rfl)) rfl
theorem tw_160 : (Cond.instanceMethod yX1_swap) ∈ TB := tb_in (tb_1 (List.mem_of_getElem? (i := 223) rfl)) rfl
theorem tw_161 : (Cond.selects "ShufflingBook$Order" yX1_swap yX1_swap) ∈ TB := tb_in (tb_1 (List.mem_of_getElem? (i := 224) rfl)) rfl
theorem tw_162 : (Cond.code yX1_swap cX1_swap 4 none) ∈ TB := tb_in (tb_1 (List.mem_of_getElem? (i := 225) rfl)) rfl
theorem tw_163 : (Cond.methodLink "ShufflingBook$Order" 31 yX4_at) ∈ TB := tb_in (tb_1 (List.mem_of_getElem? (i := 226) rfl)) rfl
theorem tw_164 : (Cond.methodLink "ShufflingBook" 238 yX3_follow) ∈ TB := tb_in (tb_1 (List.mem_of_getElem? (i := 227) rfl)) rfl
theorem tw_165 : (Cond.instanceMethod yX3_follow) ∈ TB := tb_in (tb_1 (List.mem_of_getElem? (i := 228) rfl)) rfl
theorem tw_166 : (Cond.selects "ShufflingBook$Readers" yX3_follow yX3_follow) ∈ TB := tb_in (tb_1 (List.mem_of_getElem? (i := 229) rfl)) rfl
theorem tw_167 : (Cond.code yX3_follow cX3_follow 2 none) ∈ TB := tb_in (tb_1 (List.mem_of_getElem? (i := 230) rfl)) rfl
theorem tw_168 : (Cond.methodLink "ShufflingBook$Readers" 54 yX3_readOneReader) ∈ TB := tb_in (tb_1 (List.mem_of_getElem? (i := 231) rfl)) rfl
theorem tw_169 : (Cond.instanceMethod yX3_readOneReader) ∈ TB := tb_in (tb_1 (List.mem_of_getElem? (i := 233) rfl)) rfl
theorem tw_170 : (Cond.code yX3_readOneReader cX3_readOneReader 4 none) ∈ TB := tb_in (tb_1 (List.mem_of_getElem? (i := 234) rfl)) rfl
theorem tw_171 : (Cond.methodLink "ShufflingBook$Readers" 64 yX1_number) ∈ TB := tb_in (tb_1 (List.mem_of_getElem? (i := 235) rfl)) rfl
theorem tw_172 : (Cond.methodLink "ShufflingBook$Readers" 67 yX4_fill) ∈ TB := tb_in (tb_1 (List.mem_of_getElem? (i := 236) rfl)) rfl
theorem tw_173 : (Cond.instanceMethod yX4_fill) ∈ TB := tb_in (tb_1 (List.mem_of_getElem? (i := 237) rfl)) rfl
theorem tw_174 : (Cond.selects "ShufflingBook$Row" yX4_fill yX4_fill) ∈ TB := tb_in (tb_1 (List.mem_of_getElem? (i := 238) rfl)) rfl
theorem tw_175 : (Cond.code yX4_fill cX4_fill 3 none) ∈ TB := tb_in (tb_1 (List.mem_of_getElem? (i := 239) rfl)) rfl
theorem tw_176 : (Cond.methodLink "ShufflingBook$Readers" 79 yX1_readTop) ∈ TB := tb_in (tb_2 (List.mem_of_getElem? (i := 0) rfl)) rfl
theorem tw_177 : (Cond.instanceMethod yX1_readTop) ∈ TB := tb_in (tb_2 (List.mem_of_getElem? (i := 1) rfl)) rfl
theorem tw_178 : (Cond.selects "ShufflingBook$Order" yX1_readTop yX1_readTop) ∈ TB := tb_in (tb_2 (List.mem_of_getElem? (i := 2) rfl)) rfl
theorem tw_179 : (Cond.code yX1_readTop cX1_readTop 5 (some (Jvm.ClassFile.FieldType.int))) ∈ TB := tb_in (tb_2 (List.mem_of_getElem? (i := 3) rfl)) rfl
theorem tw_180 : (Cond.methodLink "ShufflingBook$Order" 39 yX1_cut) ∈ TB := tb_in (tb_2 (List.mem_of_getElem? (i := 4) rfl)) rfl
theorem tw_181 : (Cond.instanceMethod yX1_cut) ∈ TB := tb_in (tb_2 (List.mem_of_getElem? (i := 6) rfl)) rfl
theorem tw_182 : (Cond.code yX1_cut cX1_cut 4 none) ∈ TB := tb_in (tb_2 (List.mem_of_getElem? (i := 7) rfl)) rfl
theorem tw_183 : (Cond.methodLink "ShufflingBook$Order" 35 yX4_copyFrom) ∈ TB := tb_in (tb_2 (List.mem_of_getElem? (i := 8) rfl)) rfl
theorem tw_184 : (Cond.instanceMethod yX4_copyFrom) ∈ TB := tb_in (tb_2 (List.mem_of_getElem? (i := 9) rfl)) rfl
theorem tw_185 : (Cond.selects "ShufflingBook$Row" yX4_copyFrom yX4_copyFrom) ∈ TB := tb_in (tb_2 (List.mem_of_getElem? (i := 10) rfl)) rfl
theorem tw_186 : (Cond.code yX4_copyFrom cX4_copyFrom 3 none) ∈ TB := tb_in (tb_2 (List.mem_of_getElem? (i := 11) rfl)) rfl
theorem tw_187 : (Cond.methodLink "ShufflingBook$Row" 21 yX4_at) ∈ TB := tb_in (tb_2 (List.mem_of_getElem? (i := 12) rfl)) rfl
theorem tw_188 : (Cond.methodLink "ShufflingBook$Order" 42 yX1_layTop) ∈ TB := tb_in (tb_2 (List.mem_of_getElem? (i := 13) rfl)) rfl
theorem tw_189 : (Cond.instanceMethod yX1_layTop) ∈ TB := tb_in (tb_2 (List.mem_of_getElem? (i := 15) rfl)) rfl
theorem tw_190 : (Cond.code yX1_layTop cX1_layTop 4 none) ∈ TB := tb_in (tb_2 (List.mem_of_getElem? (i := 16) rfl)) rfl
theorem tw_191 : (Cond.methodLink "ShufflingBook$Order" 45 yJ9_min_7cf53) ∈ TB := tb_in (tb_2 (List.mem_of_getElem? (i := 17) rfl)) rfl
theorem tw_192 : (Cond.static yJ9_min_7cf53) ∈ TB := tb_in (tb_2 (List.mem_of_getElem? (i := 18) rfl)) rfl
theorem tw_193 : (Cond.code yJ9_min_7cf53 cJ9_min_7cf53 2 (some (Jvm.ClassFile.FieldType.int))) ∈ TB := tb_in (tb_2 (List.mem_of_getElem? (i := 19) rfl)) rfl
theorem tw_194 : (Cond.methodLink "ShufflingBook$Readers" 83 yX4_put) ∈ TB := tb_in (tb_2 (List.mem_of_getElem? (i := 20) rfl)) rfl
theorem tw_195 : (Cond.methodLink "ShufflingBook$Readers" 87 yX4_at) ∈ TB := tb_in (tb_2 (List.mem_of_getElem? (i := 21) rfl)) rfl
theorem tw_196 : (Cond.methodLink "ShufflingBook$Readers" 58 yX3_layRings) ∈ TB := tb_in (tb_2 (List.mem_of_getElem? (i := 22) rfl)) rfl
theorem tw_197 : (Cond.instanceMethod yX3_layRings) ∈ TB := tb_in (tb_2 (List.mem_of_getElem? (i := 24) rfl)) rfl
theorem tw_198 : (Cond.code yX3_layRings cX3_layRings 3 none) ∈ TB := tb_in (tb_2 (List.mem_of_getElem? (i := 25) rfl)) rfl
theorem tw_199 : (Cond.methodLink "ShufflingBook$Readers" 94 yX3_layRing) ∈ TB := tb_in (tb_2 (List.mem_of_getElem? (i := 26) rfl)) rfl
theorem tw_200 : (Cond.instanceMethod yX3_layRing) ∈ TB := tb_in (tb_2 (List.mem_of_getElem? (i := 28) rfl)) rfl
theorem tw_201 : (Cond.code yX3_layRing cX3_layRing 6 (some (Jvm.ClassFile.FieldType.int))) ∈ TB := tb_in (tb_2 (List.mem_of_getElem? (i := 29) rfl)) rfl
theorem tw_202 : (Cond.methodLink "ShufflingBook$Readers" 91 yX1_leafAt) ∈ TB := tb_in (tb_2 (List.mem_of_getElem? (i := 30) rfl)) rfl
theorem tw_203 : (Cond.instanceMethod yX1_leafAt) ∈ TB := tb_in (tb_2 (List.mem_of_getElem? (i := 31) rfl)) rfl
theorem tw_204 : (Cond.selects "ShufflingBook$Order" yX1_leafAt yX1_leafAt) ∈ TB := tb_in (tb_2 (List.mem_of_getElem? (i := 32) rfl)) rfl
theorem tw_205 : (Cond.code yX1_leafAt cX1_leafAt 2 (some (Jvm.ClassFile.FieldType.int))) ∈ TB := tb_in (tb_2 (List.mem_of_getElem? (i := 33) rfl)) rfl
theorem tw_206 : (Cond.methodLink "ShufflingBook$Readers" 61 yX3_readWithoutFirst) ∈ TB := tb_in (tb_2 (List.mem_of_getElem? (i := 34) rfl)) rfl
theorem tw_207 : (Cond.instanceMethod yX3_readWithoutFirst) ∈ TB := tb_in (tb_2 (List.mem_of_getElem? (i := 36) rfl)) rfl
theorem tw_208 : (Cond.code yX3_readWithoutFirst cX3_readWithoutFirst 3 none) ∈ TB := tb_in (tb_2 (List.mem_of_getElem? (i := 37) rfl)) rfl
theorem tw_209 : (Cond.methodLink "ShufflingBook" 242 yX2_startWith) ∈ TB := tb_in (tb_2 (List.mem_of_getElem? (i := 38) rfl)) rfl
theorem tw_210 : (Cond.instanceMethod yX2_startWith) ∈ TB := tb_in (tb_2 (List.mem_of_getElem? (i := 39) rfl)) rfl
theorem tw_211 : (Cond.selects "ShufflingBook$Pack" yX2_startWith yX2_startWith) ∈ TB := tb_in (tb_2 (List.mem_of_getElem? (i := 40) rfl)) rfl
theorem tw_212 : (Cond.code yX2_startWith cX2_startWith 2 none) ∈ TB := tb_in (tb_2 (List.mem_of_getElem? (i := 41) rfl)) rfl
theorem tw_213 : (Cond.methodLink "ShufflingBook$Pack" 16 yX1_copyFrom) ∈ TB := tb_in (tb_2 (List.mem_of_getElem? (i := 42) rfl)) rfl
theorem tw_214 : (Cond.instanceMethod yX1_copyFrom) ∈ TB := tb_in (tb_2 (List.mem_of_getElem? (i := 43) rfl)) rfl
theorem tw_215 : (Cond.selects "ShufflingBook$Order" yX1_copyFrom yX1_copyFrom) ∈ TB := tb_in (tb_2 (List.mem_of_getElem? (i := 44) rfl)) rfl
theorem tw_216 : (Cond.code yX1_copyFrom cX1_copyFrom 2 none) ∈ TB := tb_in (tb_2 (List.mem_of_getElem? (i := 45) rfl)) rfl
theorem tw_217 : (Cond.fieldLink "ShufflingBook" 10 "ShufflingBook" "text" "LShufflingBook$Text;") ∈ TB := tb_in (tb_2 (List.mem_of_getElem? (i := 46) rfl)) rfl
theorem tw_218 : (Cond.fieldLink "ShufflingBook" 19 "ShufflingBook" "draft" "LShufflingBook$Told;") ∈ TB := tb_in (tb_2 (List.mem_of_getElem? (i := 47) rfl)) rfl
theorem tw_219 : (Cond.fieldLink "ShufflingBook" 23 "ShufflingBook" "laid" "LShufflingBook$Told;") ∈ TB := tb_in (tb_2 (List.mem_of_getElem? (i := 48) rfl)) rfl
theorem tw_220 : (Cond.fieldLink "ShufflingBook" 29 "ShufflingBook" "firstOrder" "LShufflingBook$Order;") ∈ TB := tb_in (tb_2 (List.mem_of_getElem? (i := 49) rfl)) rfl
theorem tw_221 : (Cond.fieldLink "ShufflingBook" 33 "ShufflingBook" "trial" "LShufflingBook$Order;") ∈ TB := tb_in (tb_2 (List.mem_of_getElem? (i := 50) rfl)) rfl
theorem tw_222 : (Cond.fieldLink "ShufflingBook" 39 "ShufflingBook" "readers" "LShufflingBook$Readers;") ∈ TB := tb_in (tb_2 (List.mem_of_getElem? (i := 51) rfl)) rfl
theorem tw_223 : (Cond.fieldLink "ShufflingBook" 46 "ShufflingBook" "guess" "LShufflingBook$Guess;") ∈ TB := tb_in (tb_2 (List.mem_of_getElem? (i := 52) rfl)) rfl
theorem tw_224 : (Cond.fieldLink "ShufflingBook" 55 "ShufflingBook" "seenPlace" "LShufflingBook$Row;") ∈ TB := tb_in (tb_2 (List.mem_of_getElem? (i := 53) rfl)) rfl
theorem tw_225 : (Cond.fieldLink "ShufflingBook" 59 "ShufflingBook" "seenLeaf" "LShufflingBook$Row;") ∈ TB := tb_in (tb_2 (List.mem_of_getElem? (i := 54) rfl)) rfl
theorem tw_226 : (Cond.fieldLink "ShufflingBook" 192 "ShufflingBook" "seenCount" "I") ∈ TB := tb_in (tb_2 (List.mem_of_getElem? (i := 55) rfl)) rfl
theorem tw_227 : (Cond.fieldLink "ShufflingBook" 65 "ShufflingBook" "pack" "LShufflingBook$Pack;") ∈ TB := tb_in (tb_2 (List.mem_of_getElem? (i := 56) rfl)) rfl
theorem tw_228 : (Cond.fieldLink "ShufflingBook" 69 "ShufflingBook" "olderKept" "LShufflingBook$Pack;") ∈ TB := tb_in (tb_2 (List.mem_of_getElem? (i := 57) rfl)) rfl
theorem tw_229 : (Cond.fieldLink "ShufflingBook" 72 "ShufflingBook" "newerKept" "LShufflingBook$Pack;") ∈ TB := tb_in (tb_2 (List.mem_of_getElem? (i := 58) rfl)) rfl
theorem tw_230 : (Cond.fieldLink "ShufflingBook" 217 "ShufflingBook" "keptCount" "I") ∈ TB := tb_in (tb_2 (List.mem_of_getElem? (i := 59) rfl)) rfl
theorem tw_231 : (Cond.laysFinal "ShufflingBook" "ShufflingBook" "text" "LShufflingBook$Text;") ∈ TB := tb_in (tb_2 (List.mem_of_getElem? (i := 60) rfl)) rfl
theorem tw_232 : (Cond.lays "ShufflingBook" "ShufflingBook" "draft" "LShufflingBook$Told;") ∈ TB := tb_in (tb_2 (List.mem_of_getElem? (i := 62) rfl)) rfl
theorem tw_233 : (Cond.lays "ShufflingBook" "ShufflingBook" "laid" "LShufflingBook$Told;") ∈ TB := tb_in (tb_2 (List.mem_of_getElem? (i := 64) rfl)) rfl
theorem tw_234 : (Cond.laysFinal "ShufflingBook" "ShufflingBook" "firstOrder" "LShufflingBook$Order;") ∈ TB := tb_in (tb_2 (List.mem_of_getElem? (i := 66) rfl)) rfl
theorem tw_235 : (Cond.laysFinal "ShufflingBook" "ShufflingBook" "trial" "LShufflingBook$Order;") ∈ TB := tb_in (tb_2 (List.mem_of_getElem? (i := 68) rfl)) rfl
theorem tw_236 : (Cond.laysFinal "ShufflingBook" "ShufflingBook" "readers" "LShufflingBook$Readers;") ∈ TB := tb_in (tb_2 (List.mem_of_getElem? (i := 70) rfl)) rfl
theorem tw_237 : (Cond.laysFinal "ShufflingBook" "ShufflingBook" "guess" "LShufflingBook$Guess;") ∈ TB := tb_in (tb_2 (List.mem_of_getElem? (i := 72) rfl)) rfl
theorem tw_238 : (Cond.laysFinal "ShufflingBook" "ShufflingBook" "seenPlace" "LShufflingBook$Row;") ∈ TB := tb_in (tb_2 (List.mem_of_getElem? (i := 74) rfl)) rfl
theorem tw_239 : (Cond.laysFinal "ShufflingBook" "ShufflingBook" "seenLeaf" "LShufflingBook$Row;") ∈ TB := tb_in (tb_2 (List.mem_of_getElem? (i := 76) rfl)) rfl
theorem tw_240 : (Cond.lays "ShufflingBook" "ShufflingBook" "seenCount" "I") ∈ TB := tb_in (tb_2 (List.mem_of_getElem? (i := 78) rfl)) rfl
theorem tw_241 : (Cond.laysFinal "ShufflingBook" "ShufflingBook" "pack" "LShufflingBook$Pack;") ∈ TB := tb_in (tb_2 (List.mem_of_getElem? (i := 80) rfl)) rfl
theorem tw_242 : (Cond.laysFinal "ShufflingBook" "ShufflingBook" "olderKept" "LShufflingBook$Pack;") ∈ TB := tb_in (tb_2 (List.mem_of_getElem? (i := 82) rfl)) rfl
theorem tw_243 : (Cond.laysFinal "ShufflingBook" "ShufflingBook" "newerKept" "LShufflingBook$Pack;") ∈ TB := tb_in (tb_2 (List.mem_of_getElem? (i := 84) rfl)) rfl
theorem tw_244 : (Cond.lays "ShufflingBook" "ShufflingBook" "keptCount" "I") ∈ TB := tb_in (tb_2 (List.mem_of_getElem? (i := 86) rfl)) rfl
theorem tw_245 : (Cond.methodLink "ShufflingBookLaw" 10 yX7_write) ∈ TB := tb_in (tb_2 (List.mem_of_getElem? (i := 89) rfl)) rfl
theorem tw_246 : (Cond.instanceMethod yX7_write) ∈ TB := tb_in (tb_2 (List.mem_of_getElem? (i := 90) rfl)) rfl
theorem tw_247 : (Cond.selects "ShufflingBook" yX7_write yX7_write) ∈ TB := tb_in (tb_2 (List.mem_of_getElem? (i := 91) rfl)) rfl
theorem tw_248 : (Cond.code yX7_write cX7_write 4 (some (Jvm.ClassFile.FieldType.int))) ∈ TB := tb_in (tb_2 (List.mem_of_getElem? (i := 92) rfl)) rfl
theorem tw_249 : (Cond.methodLink "ShufflingBook" 78 yX7_within) ∈ TB := tb_in (tb_2 (List.mem_of_getElem? (i := 93) rfl)) rfl
theorem tw_250 : (Cond.static yX7_within) ∈ TB := tb_in (tb_2 (List.mem_of_getElem? (i := 94) rfl)) rfl
theorem tw_251 : (Cond.code yX7_within cX7_within 3 (some (Jvm.ClassFile.FieldType.boolean))) ∈ TB := tb_in (tb_2 (List.mem_of_getElem? (i := 95) rfl)) rfl
theorem tw_252 : (Cond.methodLink "ShufflingBook" 82 yX5_size) ∈ TB := tb_in (tb_2 (List.mem_of_getElem? (i := 96) rfl)) rfl
theorem tw_253 : (Cond.instanceMethod yX5_size) ∈ TB := tb_in (tb_2 (List.mem_of_getElem? (i := 97) rfl)) rfl
theorem tw_254 : (Cond.selects "ShufflingBook$Text" yX5_size yX5_size) ∈ TB := tb_in (tb_2 (List.mem_of_getElem? (i := 98) rfl)) rfl
theorem tw_255 : (Cond.code yX5_size cX5_size 1 (some (Jvm.ClassFile.FieldType.int))) ∈ TB := tb_in (tb_2 (List.mem_of_getElem? (i := 99) rfl)) rfl
theorem tw_256 : (Cond.methodLink "ShufflingBook" 86 yX5_append) ∈ TB := tb_in (tb_2 (List.mem_of_getElem? (i := 100) rfl)) rfl
theorem tw_257 : (Cond.instanceMethod yX5_append) ∈ TB := tb_in (tb_2 (List.mem_of_getElem? (i := 101) rfl)) rfl
theorem tw_258 : (Cond.selects "ShufflingBook$Text" yX5_append yX5_append) ∈ TB := tb_in (tb_2 (List.mem_of_getElem? (i := 102) rfl)) rfl
theorem tw_259 : (Cond.code yX5_append cX5_append 5 none) ∈ TB := tb_in (tb_2 (List.mem_of_getElem? (i := 103) rfl)) rfl
theorem tw_260 : (Cond.constantLong "ShufflingBook$Text" 28 (255)) ∈ TB := tb_in (tb_2 (List.mem_of_getElem? (i := 104) rfl)) rfl
theorem tw_261 : (Cond.methodLink "ShufflingBook$Text" 30 yX4_put) ∈ TB := tb_in (tb_2 (List.mem_of_getElem? (i := 105) rfl)) rfl
theorem tw_262 : (Cond.methodLink "ShufflingBookLaw" 141 yX7_leaf) ∈ TB := tb_in (tb_2 (List.mem_of_getElem? (i := 106) rfl)) rfl
theorem tw_263 : (Cond.instanceMethod yX7_leaf) ∈ TB := tb_in (tb_2 (List.mem_of_getElem? (i := 107) rfl)) rfl
theorem tw_264 : (Cond.selects "ShufflingBook" yX7_leaf yX7_leaf) ∈ TB := tb_in (tb_2 (List.mem_of_getElem? (i := 108) rfl)) rfl
theorem tw_265 : (Cond.code yX7_leaf cX7_leaf 3 (some (Jvm.ClassFile.FieldType.int))) ∈ TB := tb_in (tb_2 (List.mem_of_getElem? (i := 109) rfl)) rfl
theorem tw_266 : (Cond.methodLink "ShufflingBook" 105 yX7_isBelowCount) ∈ TB := tb_in (tb_2 (List.mem_of_getElem? (i := 110) rfl)) rfl
theorem tw_267 : (Cond.instanceMethod yX7_isBelowCount) ∈ TB := tb_in (tb_2 (List.mem_of_getElem? (i := 112) rfl)) rfl
theorem tw_268 : (Cond.code yX7_isBelowCount cX7_isBelowCount 2 (some (Jvm.ClassFile.FieldType.boolean))) ∈ TB := tb_in (tb_2 (List.mem_of_getElem? (i := 113) rfl)) rfl
theorem tw_269 : (Cond.methodLink "ShufflingBook" 112 yX1_leafAt) ∈ TB := tb_in (tb_2 (List.mem_of_getElem? (i := 114) rfl)) rfl
theorem tw_270 : (Cond.methodLink "ShufflingBookLaw" 127 yX7_where) ∈ TB := tb_in (tb_2 (List.mem_of_getElem? (i := 115) rfl)) rfl
theorem tw_271 : (Cond.instanceMethod yX7_where) ∈ TB := tb_in (tb_2 (List.mem_of_getElem? (i := 116) rfl)) rfl
theorem tw_272 : (Cond.selects "ShufflingBook" yX7_where yX7_where) ∈ TB := tb_in (tb_2 (List.mem_of_getElem? (i := 117) rfl)) rfl
theorem tw_273 : (Cond.code yX7_where cX7_where 2 (some (Jvm.ClassFile.FieldType.int))) ∈ TB := tb_in (tb_2 (List.mem_of_getElem? (i := 118) rfl)) rfl
theorem tw_274 : (Cond.methodLink "ShufflingBook" 116 yX1_placeOf) ∈ TB := tb_in (tb_2 (List.mem_of_getElem? (i := 119) rfl)) rfl
theorem tw_275 : (Cond.instanceMethod yX1_placeOf) ∈ TB := tb_in (tb_2 (List.mem_of_getElem? (i := 120) rfl)) rfl
theorem tw_276 : (Cond.selects "ShufflingBook$Order" yX1_placeOf yX1_placeOf) ∈ TB := tb_in (tb_2 (List.mem_of_getElem? (i := 121) rfl)) rfl
theorem tw_277 : (Cond.code yX1_placeOf cX1_placeOf 3 (some (Jvm.ClassFile.FieldType.int))) ∈ TB := tb_in (tb_2 (List.mem_of_getElem? (i := 122) rfl)) rfl
theorem tw_278 : (Cond.methodLink "ShufflingBookLaw" 61 yX7_change) ∈ TB := tb_in (tb_2 (List.mem_of_getElem? (i := 123) rfl)) rfl
theorem tw_279 : (Cond.instanceMethod yX7_change) ∈ TB := tb_in (tb_2 (List.mem_of_getElem? (i := 124) rfl)) rfl
theorem tw_280 : (Cond.selects "ShufflingBook" yX7_change yX7_change) ∈ TB := tb_in (tb_2 (List.mem_of_getElem? (i := 125) rfl)) rfl
theorem tw_281 : (Cond.code yX7_change cX7_change 3 (some (Jvm.ClassFile.FieldType.int))) ∈ TB := tb_in (tb_2 (List.mem_of_getElem? (i := 126) rfl)) rfl
theorem tw_282 : (Cond.methodLink "ShufflingBook" 129 yX1_swap) ∈ TB := tb_in (tb_2 (List.mem_of_getElem? (i := 127) rfl)) rfl
theorem tw_283 : (Cond.methodLink "ShufflingBookLaw" 64 yX7_drop) ∈ TB := tb_in (tb_2 (List.mem_of_getElem? (i := 128) rfl)) rfl
theorem tw_284 : (Cond.instanceMethod yX7_drop) ∈ TB := tb_in (tb_2 (List.mem_of_getElem? (i := 129) rfl)) rfl
theorem tw_285 : (Cond.selects "ShufflingBook" yX7_drop yX7_drop) ∈ TB := tb_in (tb_2 (List.mem_of_getElem? (i := 130) rfl)) rfl
theorem tw_286 : (Cond.code yX7_drop cX7_drop 2 (some (Jvm.ClassFile.FieldType.int))) ∈ TB := tb_in (tb_2 (List.mem_of_getElem? (i := 131) rfl)) rfl
theorem tw_287 : (Cond.methodLink "ShufflingBook" 133 yX2_fall) ∈ TB := tb_in (tb_2 (List.mem_of_getElem? (i := 132) rfl)) rfl
theorem tw_288 : (Cond.instanceMethod yX2_fall) ∈ TB := tb_in (tb_2 (List.mem_of_getElem? (i := 133) rfl)) rfl
theorem tw_289 : (Cond.selects "ShufflingBook$Pack" yX2_fall yX2_fall) ∈ TB := tb_in (tb_2 (List.mem_of_getElem? (i := 134) rfl)) rfl
theorem tw_290 : (Cond.code yX2_fall cX2_fall 5 none) ∈ TB := tb_in (tb_2 (List.mem_of_getElem? (i := 135) rfl)) rfl
theorem tw_291 : (Cond.constantLong "ShufflingBook$Pack" 45 (7919)) ∈ TB := tb_in (tb_2 (List.mem_of_getElem? (i := 136) rfl)) rfl
theorem tw_292 : (Cond.constantLong "ShufflingBook$Pack" 47 (6151)) ∈ TB := tb_in (tb_2 (List.mem_of_getElem? (i := 137) rfl)) rfl
theorem tw_293 : (Cond.constantLong "ShufflingBook$Pack" 49 (65521)) ∈ TB := tb_in (tb_2 (List.mem_of_getElem? (i := 138) rfl)) rfl
theorem tw_294 : (Cond.methodLink "ShufflingBook$Pack" 51 yX1_swap) ∈ TB := tb_in (tb_2 (List.mem_of_getElem? (i := 139) rfl)) rfl
theorem tw_295 : (Cond.methodLink "ShufflingBookLaw" 68 yX7_has) ∈ TB := tb_in (tb_2 (List.mem_of_getElem? (i := 140) rfl)) rfl
theorem tw_296 : (Cond.instanceMethod yX7_has) ∈ TB := tb_in (tb_2 (List.mem_of_getElem? (i := 141) rfl)) rfl
theorem tw_297 : (Cond.selects "ShufflingBook" yX7_has yX7_has) ∈ TB := tb_in (tb_2 (List.mem_of_getElem? (i := 142) rfl)) rfl
theorem tw_298 : (Cond.code yX7_has cX7_has 4 (some (Jvm.ClassFile.FieldType.int))) ∈ TB := tb_in (tb_2 (List.mem_of_getElem? (i := 143) rfl)) rfl
theorem tw_299 : (Cond.methodLink "ShufflingBook" 136 yX7_isReader) ∈ TB := tb_in (tb_2 (List.mem_of_getElem? (i := 144) rfl)) rfl
theorem tw_300 : (Cond.static yX7_isReader) ∈ TB := tb_in (tb_2 (List.mem_of_getElem? (i := 145) rfl)) rfl
theorem tw_301 : (Cond.code yX7_isReader cX7_isReader 2 (some (Jvm.ClassFile.FieldType.boolean))) ∈ TB := tb_in (tb_2 (List.mem_of_getElem? (i := 146) rfl)) rfl
theorem tw_302 : (Cond.constantLong "ShufflingBook" 261 (1000000000000)) ∈ TB := tb_in (tb_2 (List.mem_of_getElem? (i := 147) rfl)) rfl
theorem tw_303 : (Cond.methodLink "ShufflingBook" 140 yX7_isTurn) ∈ TB := tb_in (tb_2 (List.mem_of_getElem? (i := 148) rfl)) rfl
theorem tw_304 : (Cond.instanceMethod yX7_isTurn) ∈ TB := tb_in (tb_2 (List.mem_of_getElem? (i := 150) rfl)) rfl
theorem tw_305 : (Cond.code yX7_isTurn cX7_isTurn 2 (some (Jvm.ClassFile.FieldType.boolean))) ∈ TB := tb_in (tb_2 (List.mem_of_getElem? (i := 151) rfl)) rfl
theorem tw_306 : (Cond.methodLink "ShufflingBook" 143 yX7_leafHad) ∈ TB := tb_in (tb_2 (List.mem_of_getElem? (i := 152) rfl)) rfl
theorem tw_307 : (Cond.instanceMethod yX7_leafHad) ∈ TB := tb_in (tb_2 (List.mem_of_getElem? (i := 154) rfl)) rfl
theorem tw_308 : (Cond.code yX7_leafHad cX7_leafHad 4 (some (Jvm.ClassFile.FieldType.int))) ∈ TB := tb_in (tb_2 (List.mem_of_getElem? (i := 155) rfl)) rfl
theorem tw_309 : (Cond.methodLink "ShufflingBook" 175 yX3_placeRead) ∈ TB := tb_in (tb_2 (List.mem_of_getElem? (i := 156) rfl)) rfl
theorem tw_310 : (Cond.instanceMethod yX3_placeRead) ∈ TB := tb_in (tb_2 (List.mem_of_getElem? (i := 157) rfl)) rfl
theorem tw_311 : (Cond.selects "ShufflingBook$Readers" yX3_placeRead yX3_placeRead) ∈ TB := tb_in (tb_2 (List.mem_of_getElem? (i := 158) rfl)) rfl
theorem tw_312 : (Cond.code yX3_placeRead cX3_placeRead 4 (some (Jvm.ClassFile.FieldType.int))) ∈ TB := tb_in (tb_2 (List.mem_of_getElem? (i := 159) rfl)) rfl
theorem tw_313 : (Cond.methodLink "ShufflingBook$Readers" 104 yX3_placeInRing) ∈ TB := tb_in (tb_2 (List.mem_of_getElem? (i := 160) rfl)) rfl
theorem tw_314 : (Cond.instanceMethod yX3_placeInRing) ∈ TB := tb_in (tb_2 (List.mem_of_getElem? (i := 162) rfl)) rfl
theorem tw_315 : (Cond.code yX3_placeInRing cX3_placeInRing 6 (some (Jvm.ClassFile.FieldType.int))) ∈ TB := tb_in (tb_2 (List.mem_of_getElem? (i := 163) rfl)) rfl
theorem tw_316 : (Cond.methodLink "ShufflingBook$Readers" 98 yJ9_floorMod_f86c9) ∈ TB := tb_in (tb_2 (List.mem_of_getElem? (i := 164) rfl)) rfl
theorem tw_317 : (Cond.static yJ9_floorMod_f86c9) ∈ TB := tb_in (tb_2 (List.mem_of_getElem? (i := 165) rfl)) rfl
theorem tw_318 : (Cond.code yJ9_floorMod_f86c9 cJ9_floorMod_f86c9 6 (some (Jvm.ClassFile.FieldType.long))) ∈ TB := tb_in (tb_2 (List.mem_of_getElem? (i := 166) rfl)) rfl
theorem tw_319 : (Cond.methodLink "ShufflingBookLaw" 74 yX7_leaves) ∈ TB := tb_in (tb_2 (List.mem_of_getElem? (i := 167) rfl)) rfl
theorem tw_320 : (Cond.instanceMethod yX7_leaves) ∈ TB := tb_in (tb_2 (List.mem_of_getElem? (i := 168) rfl)) rfl
theorem tw_321 : (Cond.selects "ShufflingBook" yX7_leaves yX7_leaves) ∈ TB := tb_in (tb_2 (List.mem_of_getElem? (i := 169) rfl)) rfl
theorem tw_322 : (Cond.code yX7_leaves cX7_leaves 3 (some (Jvm.ClassFile.FieldType.long))) ∈ TB := tb_in (tb_2 (List.mem_of_getElem? (i := 170) rfl)) rfl
theorem tw_323 : (Cond.methodLink "ShufflingBook" 147 yX7_leavesHad) ∈ TB := tb_in (tb_2 (List.mem_of_getElem? (i := 171) rfl)) rfl
theorem tw_324 : (Cond.instanceMethod yX7_leavesHad) ∈ TB := tb_in (tb_2 (List.mem_of_getElem? (i := 173) rfl)) rfl
theorem tw_325 : (Cond.code yX7_leavesHad cX7_leavesHad 6 (some (Jvm.ClassFile.FieldType.long))) ∈ TB := tb_in (tb_2 (List.mem_of_getElem? (i := 174) rfl)) rfl
theorem tw_326 : (Cond.methodLink "ShufflingBook" 162 yX7_bit) ∈ TB := tb_in (tb_2 (List.mem_of_getElem? (i := 175) rfl)) rfl
theorem tw_327 : (Cond.static yX7_bit) ∈ TB := tb_in (tb_2 (List.mem_of_getElem? (i := 176) rfl)) rfl
theorem tw_328 : (Cond.code yX7_bit cX7_bit 1 (some (Jvm.ClassFile.FieldType.long))) ∈ TB := tb_in (tb_2 (List.mem_of_getElem? (i := 177) rfl)) rfl
theorem tw_329 : (Cond.constantLong "ShufflingBook" 151 (-1)) ∈ TB := tb_in (tb_2 (List.mem_of_getElem? (i := 178) rfl)) rfl
theorem tw_330 : (Cond.methodLink "ShufflingBookLaw" 83 yX7_ever) ∈ TB := tb_in (tb_2 (List.mem_of_getElem? (i := 179) rfl)) rfl
theorem tw_331 : (Cond.instanceMethod yX7_ever) ∈ TB := tb_in (tb_2 (List.mem_of_getElem? (i := 180) rfl)) rfl
theorem tw_332 : (Cond.selects "ShufflingBook" yX7_ever yX7_ever) ∈ TB := tb_in (tb_2 (List.mem_of_getElem? (i := 181) rfl)) rfl
theorem tw_333 : (Cond.code yX7_ever cX7_ever 6 (some (Jvm.ClassFile.FieldType.long))) ∈ TB := tb_in (tb_2 (List.mem_of_getElem? (i := 182) rfl)) rfl
theorem tw_334 : (Cond.methodLink "ShufflingBook" 156 yX3_isNeverRead) ∈ TB := tb_in (tb_2 (List.mem_of_getElem? (i := 183) rfl)) rfl
theorem tw_335 : (Cond.instanceMethod yX3_isNeverRead) ∈ TB := tb_in (tb_2 (List.mem_of_getElem? (i := 184) rfl)) rfl
theorem tw_336 : (Cond.selects "ShufflingBook$Readers" yX3_isNeverRead yX3_isNeverRead) ∈ TB := tb_in (tb_2 (List.mem_of_getElem? (i := 185) rfl)) rfl
theorem tw_337 : (Cond.code yX3_isNeverRead cX3_isNeverRead 2 (some (Jvm.ClassFile.FieldType.boolean))) ∈ TB := tb_in (tb_2 (List.mem_of_getElem? (i := 186) rfl)) rfl
theorem tw_338 : (Cond.methodLink "ShufflingBook$Readers" 108 yX3_readInRing) ∈ TB := tb_in (tb_2 (List.mem_of_getElem? (i := 187) rfl)) rfl
theorem tw_339 : (Cond.instanceMethod yX3_readInRing) ∈ TB := tb_in (tb_2 (List.mem_of_getElem? (i := 189) rfl)) rfl
theorem tw_340 : (Cond.code yX3_readInRing cX3_readInRing 4 (some (Jvm.ClassFile.FieldType.int))) ∈ TB := tb_in (tb_2 (List.mem_of_getElem? (i := 190) rfl)) rfl
theorem tw_341 : (Cond.methodLink "ShufflingBook$Readers" 111 yX3_turnAt) ∈ TB := tb_in (tb_2 (List.mem_of_getElem? (i := 191) rfl)) rfl
theorem tw_342 : (Cond.instanceMethod yX3_turnAt) ∈ TB := tb_in (tb_2 (List.mem_of_getElem? (i := 192) rfl)) rfl
theorem tw_343 : (Cond.selects "ShufflingBook$Readers" yX3_turnAt yX3_turnAt) ∈ TB := tb_in (tb_2 (List.mem_of_getElem? (i := 193) rfl)) rfl
theorem tw_344 : (Cond.code yX3_turnAt cX3_turnAt 2 (some (Jvm.ClassFile.FieldType.int))) ∈ TB := tb_in (tb_2 (List.mem_of_getElem? (i := 194) rfl)) rfl
theorem tw_345 : (Cond.methodLink "ShufflingBook" 159 yX3_isAlwaysRead) ∈ TB := tb_in (tb_2 (List.mem_of_getElem? (i := 195) rfl)) rfl
theorem tw_346 : (Cond.instanceMethod yX3_isAlwaysRead) ∈ TB := tb_in (tb_2 (List.mem_of_getElem? (i := 196) rfl)) rfl
theorem tw_347 : (Cond.selects "ShufflingBook$Readers" yX3_isAlwaysRead yX3_isAlwaysRead) ∈ TB := tb_in (tb_2 (List.mem_of_getElem? (i := 197) rfl)) rfl
theorem tw_348 : (Cond.code yX3_isAlwaysRead cX3_isAlwaysRead 2 (some (Jvm.ClassFile.FieldType.boolean))) ∈ TB := tb_in (tb_2 (List.mem_of_getElem? (i := 198) rfl)) rfl
theorem tw_349 : (Cond.methodLink "ShufflingBookLaw" 87 yX7_right) ∈ TB := tb_in (tb_2 (List.mem_of_getElem? (i := 199) rfl)) rfl
theorem tw_350 : (Cond.instanceMethod yX7_right) ∈ TB := tb_in (tb_2 (List.mem_of_getElem? (i := 200) rfl)) rfl
theorem tw_351 : (Cond.selects "ShufflingBook" yX7_right yX7_right) ∈ TB := tb_in (tb_2 (List.mem_of_getElem? (i := 201) rfl)) rfl
theorem tw_352 : (Cond.code yX7_right cX7_right 5 (some (Jvm.ClassFile.FieldType.int))) ∈ TB := tb_in (tb_2 (List.mem_of_getElem? (i := 202) rfl)) rfl
theorem tw_353 : (Cond.methodLink "ShufflingBook" 166 yX6_toldTurns) ∈ TB := tb_in (tb_2 (List.mem_of_getElem? (i := 203) rfl)) rfl
theorem tw_354 : (Cond.instanceMethod yX6_toldTurns) ∈ TB := tb_in (tb_2 (List.mem_of_getElem? (i := 204) rfl)) rfl
theorem tw_355 : (Cond.selects "ShufflingBook$Told" yX6_toldTurns yX6_toldTurns) ∈ TB := tb_in (tb_2 (List.mem_of_getElem? (i := 205) rfl)) rfl
theorem tw_356 : (Cond.code yX6_toldTurns cX6_toldTurns 1 (some (Jvm.ClassFile.FieldType.int))) ∈ TB := tb_in (tb_2 (List.mem_of_getElem? (i := 206) rfl)) rfl
theorem tw_357 : (Cond.methodLink "ShufflingBook$Told" 114 yJ9_min_7cf53) ∈ TB := tb_in (tb_2 (List.mem_of_getElem? (i := 207) rfl)) rfl
theorem tw_358 : (Cond.methodLink "ShufflingBook" 169 yX6_taleLeaf) ∈ TB := tb_in (tb_2 (List.mem_of_getElem? (i := 208) rfl)) rfl
theorem tw_359 : (Cond.instanceMethod yX6_taleLeaf) ∈ TB := tb_in (tb_2 (List.mem_of_getElem? (i := 209) rfl)) rfl
theorem tw_360 : (Cond.selects "ShufflingBook$Told" yX6_taleLeaf yX6_taleLeaf) ∈ TB := tb_in (tb_2 (List.mem_of_getElem? (i := 210) rfl)) rfl
theorem tw_361 : (Cond.code yX6_taleLeaf cX6_taleLeaf 2 (some (Jvm.ClassFile.FieldType.int))) ∈ TB := tb_in (tb_2 (List.mem_of_getElem? (i := 211) rfl)) rfl
theorem tw_362 : (Cond.methodLink "ShufflingBookLaw" 93 yX7_order) ∈ TB := tb_in (tb_2 (List.mem_of_getElem? (i := 212) rfl)) rfl
theorem tw_363 : (Cond.instanceMethod yX7_order) ∈ TB := tb_in (tb_2 (List.mem_of_getElem? (i := 213) rfl)) rfl
theorem tw_364 : (Cond.selects "ShufflingBook" yX7_order yX7_order) ∈ TB := tb_in (tb_2 (List.mem_of_getElem? (i := 214) rfl)) rfl
theorem tw_365 : (Cond.code yX7_order cX7_order 5 (some (Jvm.ClassFile.FieldType.int))) ∈ TB := tb_in (tb_2 (List.mem_of_getElem? (i := 215) rfl)) rfl
theorem tw_366 : (Cond.methodLink "ShufflingBook" 172 yX0_begin) ∈ TB := tb_in (tb_2 (List.mem_of_getElem? (i := 216) rfl)) rfl
theorem tw_367 : (Cond.instanceMethod yX0_begin) ∈ TB := tb_in (tb_2 (List.mem_of_getElem? (i := 217) rfl)) rfl
theorem tw_368 : (Cond.selects "ShufflingBook$Guess" yX0_begin yX0_begin) ∈ TB := tb_in (tb_2 (List.mem_of_getElem? (i := 218) rfl)) rfl
theorem tw_369 : (Cond.code yX0_begin cX0_begin 2 none) ∈ TB := tb_in (tb_2 (List.mem_of_getElem? (i := 219) rfl)) rfl
theorem tw_370 : (Cond.methodLink "ShufflingBook$Guess" 34 yX4_fill) ∈ TB := tb_in (tb_2 (List.mem_of_getElem? (i := 220) rfl)) rfl
theorem tw_371 : (Cond.methodLink "ShufflingBook" 178 yX0_bind) ∈ TB := tb_in (tb_2 (List.mem_of_getElem? (i := 221) rfl)) rfl
theorem tw_372 : (Cond.instanceMethod yX0_bind) ∈ TB := tb_in (tb_2 (List.mem_of_getElem? (i := 222) rfl)) rfl
theorem tw_373 : (Cond.selects "ShufflingBook$Guess" yX0_bind yX0_bind) ∈ TB := tb_in (tb_2 (List.mem_of_getElem? (i := 223) rfl)) rfl
theorem tw_374 : (Cond.code yX0_bind cX0_bind 5 none) ∈ TB := tb_in (tb_2 (List.mem_of_getElem? (i := 224) rfl)) rfl
theorem tw_375 : (Cond.methodLink "ShufflingBook$Guess" 37 yX4_at) ∈ TB := tb_in (tb_2 (List.mem_of_getElem? (i := 225) rfl)) rfl
theorem tw_376 : (Cond.methodLink "ShufflingBook$Guess" 41 yX4_put) ∈ TB := tb_in (tb_2 (List.mem_of_getElem? (i := 226) rfl)) rfl
theorem tw_377 : (Cond.methodLink "ShufflingBook" 181 yX0_holds) ∈ TB := tb_in (tb_2 (List.mem_of_getElem? (i := 227) rfl)) rfl
theorem tw_378 : (Cond.instanceMethod yX0_holds) ∈ TB := tb_in (tb_2 (List.mem_of_getElem? (i := 228) rfl)) rfl
theorem tw_379 : (Cond.selects "ShufflingBook$Guess" yX0_holds yX0_holds) ∈ TB := tb_in (tb_2 (List.mem_of_getElem? (i := 229) rfl)) rfl
theorem tw_380 : (Cond.code yX0_holds cX0_holds 1 (some (Jvm.ClassFile.FieldType.boolean))) ∈ TB := tb_in (tb_2 (List.mem_of_getElem? (i := 230) rfl)) rfl
theorem tw_381 : (Cond.methodLink "ShufflingBook" 184 yX0_fillUp) ∈ TB := tb_in (tb_2 (List.mem_of_getElem? (i := 231) rfl)) rfl
theorem tw_382 : (Cond.instanceMethod yX0_fillUp) ∈ TB := tb_in (tb_2 (List.mem_of_getElem? (i := 232) rfl)) rfl
theorem tw_383 : (Cond.selects "ShufflingBook$Guess" yX0_fillUp yX0_fillUp) ∈ TB := tb_in (tb_2 (List.mem_of_getElem? (i := 233) rfl)) rfl
theorem tw_384 : (Cond.code yX0_fillUp cX0_fillUp 3 none) ∈ TB := tb_in (tb_2 (List.mem_of_getElem? (i := 234) rfl)) rfl
theorem tw_385 : (Cond.methodLink "ShufflingBook$Guess" 45 yX0_bind) ∈ TB := tb_in (tb_2 (List.mem_of_getElem? (i := 235) rfl)) rfl
theorem tw_386 : (Cond.methodLink "ShufflingBook" 187 yX0_leafAt) ∈ TB := tb_in (tb_2 (List.mem_of_getElem? (i := 236) rfl)) rfl
theorem tw_387 : (Cond.instanceMethod yX0_leafAt) ∈ TB := tb_in (tb_2 (List.mem_of_getElem? (i := 237) rfl)) rfl
theorem tw_388 : (Cond.selects "ShufflingBook$Guess" yX0_leafAt yX0_leafAt) ∈ TB := tb_in (tb_2 (List.mem_of_getElem? (i := 238) rfl)) rfl
theorem tw_389 : (Cond.code yX0_leafAt cX0_leafAt 2 (some (Jvm.ClassFile.FieldType.int))) ∈ TB := tb_in (tb_2 (List.mem_of_getElem? (i := 239) rfl)) rfl
theorem tw_390 : (Cond.methodLink "ShufflingBookLaw" 96 yX7_shows) ∈ TB := tb_in (tb_3 (List.mem_of_getElem? (i := 0) rfl)) rfl
theorem tw_391 : (Cond.instanceMethod yX7_shows) ∈ TB := tb_in (tb_3 (List.mem_of_getElem? (i := 1) rfl)) rfl
theorem tw_392 : (Cond.selects "ShufflingBook" yX7_shows yX7_shows) ∈ TB := tb_in (tb_3 (List.mem_of_getElem? (i := 2) rfl)) rfl
theorem tw_393 : (Cond.code yX7_shows cX7_shows 3 (some (Jvm.ClassFile.FieldType.int))) ∈ TB := tb_in (tb_3 (List.mem_of_getElem? (i := 3) rfl)) rfl
theorem tw_394 : (Cond.methodLink "ShufflingBook" 188 yX7_readingsToShowAll) ∈ TB := tb_in (tb_3 (List.mem_of_getElem? (i := 4) rfl)) rfl
theorem tw_395 : (Cond.instanceMethod yX7_readingsToShowAll) ∈ TB := tb_in (tb_3 (List.mem_of_getElem? (i := 6) rfl)) rfl
theorem tw_396 : (Cond.code yX7_readingsToShowAll cX7_readingsToShowAll 6 (some (Jvm.ClassFile.FieldType.int))) ∈ TB := tb_in (tb_3 (List.mem_of_getElem? (i := 7) rfl)) rfl
theorem tw_397 : (Cond.methodLink "ShufflingBook" 248 yX1_number) ∈ TB := tb_in (tb_3 (List.mem_of_getElem? (i := 8) rfl)) rfl
theorem tw_398 : (Cond.methodLink "ShufflingBook" 251 yX1_readTop) ∈ TB := tb_in (tb_3 (List.mem_of_getElem? (i := 9) rfl)) rfl
theorem tw_399 : (Cond.methodLink "ShufflingBookLaw" 99 yX7_quickest) ∈ TB := tb_in (tb_3 (List.mem_of_getElem? (i := 10) rfl)) rfl
theorem tw_400 : (Cond.instanceMethod yX7_quickest) ∈ TB := tb_in (tb_3 (List.mem_of_getElem? (i := 11) rfl)) rfl
theorem tw_401 : (Cond.selects "ShufflingBook" yX7_quickest yX7_quickest) ∈ TB := tb_in (tb_3 (List.mem_of_getElem? (i := 12) rfl)) rfl
theorem tw_402 : (Cond.code yX7_quickest cX7_quickest 2 (some (Jvm.ClassFile.FieldType.int))) ∈ TB := tb_in (tb_3 (List.mem_of_getElem? (i := 13) rfl)) rfl
theorem tw_403 : (Cond.methodLink "ShufflingBookLaw" 102 yX7_seen) ∈ TB := tb_in (tb_3 (List.mem_of_getElem? (i := 14) rfl)) rfl
theorem tw_404 : (Cond.instanceMethod yX7_seen) ∈ TB := tb_in (tb_3 (List.mem_of_getElem? (i := 15) rfl)) rfl
theorem tw_405 : (Cond.selects "ShufflingBook" yX7_seen yX7_seen) ∈ TB := tb_in (tb_3 (List.mem_of_getElem? (i := 16) rfl)) rfl
theorem tw_406 : (Cond.code yX7_seen cX7_seen 5 (some (Jvm.ClassFile.FieldType.int))) ∈ TB := tb_in (tb_3 (List.mem_of_getElem? (i := 17) rfl)) rfl
theorem tw_407 : (Cond.methodLink "ShufflingBook" 195 yX4_put) ∈ TB := tb_in (tb_3 (List.mem_of_getElem? (i := 18) rfl)) rfl
theorem tw_408 : (Cond.methodLink "ShufflingBookLaw" 106 yX7_so) ∈ TB := tb_in (tb_3 (List.mem_of_getElem? (i := 19) rfl)) rfl
theorem tw_409 : (Cond.instanceMethod yX7_so) ∈ TB := tb_in (tb_3 (List.mem_of_getElem? (i := 20) rfl)) rfl
theorem tw_410 : (Cond.selects "ShufflingBook" yX7_so yX7_so) ∈ TB := tb_in (tb_3 (List.mem_of_getElem? (i := 21) rfl)) rfl
theorem tw_411 : (Cond.code yX7_so cX7_so 1 (some (Jvm.ClassFile.FieldType.int))) ∈ TB := tb_in (tb_3 (List.mem_of_getElem? (i := 22) rfl)) rfl
theorem tw_412 : (Cond.methodLink "ShufflingBook" 198 yX7_guessFromSeen) ∈ TB := tb_in (tb_3 (List.mem_of_getElem? (i := 23) rfl)) rfl
theorem tw_413 : (Cond.instanceMethod yX7_guessFromSeen) ∈ TB := tb_in (tb_3 (List.mem_of_getElem? (i := 25) rfl)) rfl
theorem tw_414 : (Cond.code yX7_guessFromSeen cX7_guessFromSeen 2 none) ∈ TB := tb_in (tb_3 (List.mem_of_getElem? (i := 26) rfl)) rfl
theorem tw_415 : (Cond.methodLink "ShufflingBook" 245 yX4_at) ∈ TB := tb_in (tb_3 (List.mem_of_getElem? (i := 27) rfl)) rfl
theorem tw_416 : (Cond.methodLink "ShufflingBookLaw" 111 yX7_sure) ∈ TB := tb_in (tb_3 (List.mem_of_getElem? (i := 28) rfl)) rfl
theorem tw_417 : (Cond.instanceMethod yX7_sure) ∈ TB := tb_in (tb_3 (List.mem_of_getElem? (i := 29) rfl)) rfl
theorem tw_418 : (Cond.selects "ShufflingBook" yX7_sure yX7_sure) ∈ TB := tb_in (tb_3 (List.mem_of_getElem? (i := 30) rfl)) rfl
theorem tw_419 : (Cond.code yX7_sure cX7_sure 2 (some (Jvm.ClassFile.FieldType.int))) ∈ TB := tb_in (tb_3 (List.mem_of_getElem? (i := 31) rfl)) rfl
theorem tw_420 : (Cond.methodLink "ShufflingBook" 201 yX0_isAllButOne) ∈ TB := tb_in (tb_3 (List.mem_of_getElem? (i := 32) rfl)) rfl
theorem tw_421 : (Cond.instanceMethod yX0_isAllButOne) ∈ TB := tb_in (tb_3 (List.mem_of_getElem? (i := 33) rfl)) rfl
theorem tw_422 : (Cond.selects "ShufflingBook$Guess" yX0_isAllButOne yX0_isAllButOne) ∈ TB := tb_in (tb_3 (List.mem_of_getElem? (i := 34) rfl)) rfl
theorem tw_423 : (Cond.code yX0_isAllButOne cX0_isAllButOne 1 (some (Jvm.ClassFile.FieldType.boolean))) ∈ TB := tb_in (tb_3 (List.mem_of_getElem? (i := 35) rfl)) rfl
theorem tw_424 : (Cond.methodLink "ShufflingBookLaw" 114 yX7_lacks) ∈ TB := tb_in (tb_3 (List.mem_of_getElem? (i := 36) rfl)) rfl
theorem tw_425 : (Cond.instanceMethod yX7_lacks) ∈ TB := tb_in (tb_3 (List.mem_of_getElem? (i := 37) rfl)) rfl
theorem tw_426 : (Cond.selects "ShufflingBook" yX7_lacks yX7_lacks) ∈ TB := tb_in (tb_3 (List.mem_of_getElem? (i := 38) rfl)) rfl
theorem tw_427 : (Cond.code yX7_lacks cX7_lacks 6 (some (Jvm.ClassFile.FieldType.int))) ∈ TB := tb_in (tb_3 (List.mem_of_getElem? (i := 39) rfl)) rfl
theorem tw_428 : (Cond.methodLink "ShufflingBook" 204 yX3_placeFoundBy) ∈ TB := tb_in (tb_3 (List.mem_of_getElem? (i := 40) rfl)) rfl
theorem tw_429 : (Cond.instanceMethod yX3_placeFoundBy) ∈ TB := tb_in (tb_3 (List.mem_of_getElem? (i := 41) rfl)) rfl
theorem tw_430 : (Cond.selects "ShufflingBook$Readers" yX3_placeFoundBy yX3_placeFoundBy) ∈ TB := tb_in (tb_3 (List.mem_of_getElem? (i := 42) rfl)) rfl
theorem tw_431 : (Cond.code yX3_placeFoundBy cX3_placeFoundBy 4 (some (Jvm.ClassFile.FieldType.int))) ∈ TB := tb_in (tb_3 (List.mem_of_getElem? (i := 43) rfl)) rfl
theorem tw_432 : (Cond.methodLink "ShufflingBook" 207 yX3_turnAt) ∈ TB := tb_in (tb_3 (List.mem_of_getElem? (i := 44) rfl)) rfl
theorem tw_433 : (Cond.methodLink "ShufflingBookLaw" 117 yX7_notice) ∈ TB := tb_in (tb_3 (List.mem_of_getElem? (i := 45) rfl)) rfl
theorem tw_434 : (Cond.instanceMethod yX7_notice) ∈ TB := tb_in (tb_3 (List.mem_of_getElem? (i := 46) rfl)) rfl
theorem tw_435 : (Cond.selects "ShufflingBook" yX7_notice yX7_notice) ∈ TB := tb_in (tb_3 (List.mem_of_getElem? (i := 47) rfl)) rfl
theorem tw_436 : (Cond.code yX7_notice cX7_notice 8 (some (Jvm.ClassFile.FieldType.int))) ∈ TB := tb_in (tb_3 (List.mem_of_getElem? (i := 48) rfl)) rfl
theorem tw_437 : (Cond.methodLink "ShufflingBook" 210 yX7_isReadBy) ∈ TB := tb_in (tb_3 (List.mem_of_getElem? (i := 49) rfl)) rfl
theorem tw_438 : (Cond.instanceMethod yX7_isReadBy) ∈ TB := tb_in (tb_3 (List.mem_of_getElem? (i := 51) rfl)) rfl
theorem tw_439 : (Cond.code yX7_isReadBy cX7_isReadBy 3 (some (Jvm.ClassFile.FieldType.boolean))) ∈ TB := tb_in (tb_3 (List.mem_of_getElem? (i := 52) rfl)) rfl
theorem tw_440 : (Cond.methodLink "ShufflingBookLaw" 121 yX7_pleased) ∈ TB := tb_in (tb_3 (List.mem_of_getElem? (i := 53) rfl)) rfl
theorem tw_441 : (Cond.instanceMethod yX7_pleased) ∈ TB := tb_in (tb_3 (List.mem_of_getElem? (i := 54) rfl)) rfl
theorem tw_442 : (Cond.selects "ShufflingBook" yX7_pleased yX7_pleased) ∈ TB := tb_in (tb_3 (List.mem_of_getElem? (i := 55) rfl)) rfl
theorem tw_443 : (Cond.code yX7_pleased cX7_pleased 7 (some (Jvm.ClassFile.FieldType.int))) ∈ TB := tb_in (tb_3 (List.mem_of_getElem? (i := 56) rfl)) rfl
theorem tw_444 : (Cond.methodLink "ShufflingBook" 214 yX7_rightWhenLaidAt) ∈ TB := tb_in (tb_3 (List.mem_of_getElem? (i := 57) rfl)) rfl
theorem tw_445 : (Cond.instanceMethod yX7_rightWhenLaidAt) ∈ TB := tb_in (tb_3 (List.mem_of_getElem? (i := 59) rfl)) rfl
theorem tw_446 : (Cond.code yX7_rightWhenLaidAt cX7_rightWhenLaidAt 6 (some (Jvm.ClassFile.FieldType.int))) ∈ TB := tb_in (tb_3 (List.mem_of_getElem? (i := 60) rfl)) rfl
theorem tw_447 : (Cond.methodLink "ShufflingBook" 255 yX3_placeAfterFirstReading) ∈ TB := tb_in (tb_3 (List.mem_of_getElem? (i := 61) rfl)) rfl
theorem tw_448 : (Cond.instanceMethod yX3_placeAfterFirstReading) ∈ TB := tb_in (tb_3 (List.mem_of_getElem? (i := 62) rfl)) rfl
theorem tw_449 : (Cond.selects "ShufflingBook$Readers" yX3_placeAfterFirstReading yX3_placeAfterFirstReading) ∈ TB := tb_in (tb_3 (List.mem_of_getElem? (i := 63) rfl)) rfl
theorem tw_450 : (Cond.code yX3_placeAfterFirstReading cX3_placeAfterFirstReading 4 (some (Jvm.ClassFile.FieldType.int))) ∈ TB := tb_in (tb_3 (List.mem_of_getElem? (i := 64) rfl)) rfl
theorem tw_451 : (Cond.methodLink "ShufflingBook" 258 yX7_placeBeforeLaying) ∈ TB := tb_in (tb_3 (List.mem_of_getElem? (i := 65) rfl)) rfl
theorem tw_452 : (Cond.static yX7_placeBeforeLaying) ∈ TB := tb_in (tb_3 (List.mem_of_getElem? (i := 66) rfl)) rfl
theorem tw_453 : (Cond.code yX7_placeBeforeLaying cX7_placeBeforeLaying 2 (some (Jvm.ClassFile.FieldType.int))) ∈ TB := tb_in (tb_3 (List.mem_of_getElem? (i := 67) rfl)) rfl
theorem tw_454 : (Cond.methodLink "ShufflingBookLaw" 148 yX7_count) ∈ TB := tb_in (tb_3 (List.mem_of_getElem? (i := 68) rfl)) rfl
theorem tw_455 : (Cond.instanceMethod yX7_count) ∈ TB := tb_in (tb_3 (List.mem_of_getElem? (i := 69) rfl)) rfl
theorem tw_456 : (Cond.selects "ShufflingBook" yX7_count yX7_count) ∈ TB := tb_in (tb_3 (List.mem_of_getElem? (i := 70) rfl)) rfl
theorem tw_457 : (Cond.code yX7_count cX7_count 2 (some (Jvm.ClassFile.FieldType.int))) ∈ TB := tb_in (tb_3 (List.mem_of_getElem? (i := 71) rfl)) rfl
theorem tw_458 : (Cond.methodLink "ShufflingBookLaw" 22 yL_cell) ∈ TB := tb_in (tb_3 (List.mem_of_getElem? (i := 72) rfl)) rfl
theorem tw_459 : (Cond.static yL_cell) ∈ TB := tb_in (tb_3 (List.mem_of_getElem? (i := 73) rfl)) rfl
theorem tw_460 : (Cond.code yL_cell cL_cell 2 (some (Jvm.ClassFile.FieldType.int))) ∈ TB := tb_in (tb_3 (List.mem_of_getElem? (i := 74) rfl)) rfl
theorem tw_461 : (Cond.constant "ShufflingBookLaw" 7 (625341585 : Int32)) ∈ TB := tb_in (tb_3 (List.mem_of_getElem? (i := 75) rfl)) rfl
theorem tw_462 : (Cond.constant "ShufflingBookLaw" 8 (1332534557 : Int32)) ∈ TB := tb_in (tb_3 (List.mem_of_getElem? (i := 76) rfl)) rfl
theorem tw_463 : (Cond.methodLink "ShufflingBookLaw" 137 yL_book) ∈ TB := tb_in (tb_3 (List.mem_of_getElem? (i := 77) rfl)) rfl
theorem tw_464 : (Cond.static yL_book) ∈ TB := tb_in (tb_3 (List.mem_of_getElem? (i := 78) rfl)) rfl
theorem tw_465 : (Cond.code yL_book cL_book 11 (some (Jvm.ClassFile.FieldType.boolean))) ∈ TB := tb_in (tb_3 (List.mem_of_getElem? (i := 79) rfl)) rfl
theorem tw_466 : (Cond.methodLink "ShufflingBookLaw" 26 yL_some) ∈ TB := tb_in (tb_3 (List.mem_of_getElem? (i := 80) rfl)) rfl
theorem tw_467 : (Cond.static yL_some) ∈ TB := tb_in (tb_3 (List.mem_of_getElem? (i := 81) rfl)) rfl
theorem tw_468 : (Cond.code yL_some cL_some 2 (some (Jvm.ClassFile.FieldType.int))) ∈ TB := tb_in (tb_3 (List.mem_of_getElem? (i := 82) rfl)) rfl
theorem tw_469 : (Cond.constant "ShufflingBookLaw" 9 (2147483647 : Int32)) ∈ TB := tb_in (tb_3 (List.mem_of_getElem? (i := 83) rfl)) rfl
theorem tw_470 : (Cond.constant "ShufflingBookLaw" 30 (268435456 : Int32)) ∈ TB := tb_in (tb_3 (List.mem_of_getElem? (i := 84) rfl)) rfl
theorem tw_471 : (Cond.methodLink "ShufflingBookLaw" 31 yX7_wipe) ∈ TB := tb_in (tb_3 (List.mem_of_getElem? (i := 85) rfl)) rfl
theorem tw_472 : (Cond.instanceMethod yX7_wipe) ∈ TB := tb_in (tb_3 (List.mem_of_getElem? (i := 86) rfl)) rfl
theorem tw_473 : (Cond.selects "ShufflingBook" yX7_wipe yX7_wipe) ∈ TB := tb_in (tb_3 (List.mem_of_getElem? (i := 87) rfl)) rfl
theorem tw_474 : (Cond.code yX7_wipe cX7_wipe 1 (some (Jvm.ClassFile.FieldType.int))) ∈ TB := tb_in (tb_3 (List.mem_of_getElem? (i := 88) rfl)) rfl
theorem tw_475 : (Cond.methodLink "ShufflingBook" 90 yX5_clear) ∈ TB := tb_in (tb_3 (List.mem_of_getElem? (i := 89) rfl)) rfl
theorem tw_476 : (Cond.instanceMethod yX5_clear) ∈ TB := tb_in (tb_3 (List.mem_of_getElem? (i := 90) rfl)) rfl
theorem tw_477 : (Cond.selects "ShufflingBook$Text" yX5_clear yX5_clear) ∈ TB := tb_in (tb_3 (List.mem_of_getElem? (i := 91) rfl)) rfl
theorem tw_478 : (Cond.code yX5_clear cX5_clear 2 (some (Jvm.ClassFile.FieldType.int))) ∈ TB := tb_in (tb_3 (List.mem_of_getElem? (i := 92) rfl)) rfl
theorem tw_479 : (Cond.methodLink "ShufflingBookLaw" 35 yL_one) ∈ TB := tb_in (tb_3 (List.mem_of_getElem? (i := 93) rfl)) rfl
theorem tw_480 : (Cond.static yL_one) ∈ TB := tb_in (tb_3 (List.mem_of_getElem? (i := 94) rfl)) rfl
theorem tw_481 : (Cond.code yL_one cL_one 3 (some (Jvm.ClassFile.FieldType.boolean))) ∈ TB := tb_in (tb_3 (List.mem_of_getElem? (i := 95) rfl)) rfl
theorem tw_482 : (Cond.methodLink "ShufflingBookLaw" 16 yL_number) ∈ TB := tb_in (tb_3 (List.mem_of_getElem? (i := 96) rfl)) rfl
theorem tw_483 : (Cond.static yL_number) ∈ TB := tb_in (tb_3 (List.mem_of_getElem? (i := 97) rfl)) rfl
theorem tw_484 : (Cond.code yL_number cL_number 3 (some (Jvm.ClassFile.FieldType.boolean))) ∈ TB := tb_in (tb_3 (List.mem_of_getElem? (i := 98) rfl)) rfl
theorem tw_485 : (Cond.methodLink "ShufflingBookLaw" 38 yL_two) ∈ TB := tb_in (tb_3 (List.mem_of_getElem? (i := 99) rfl)) rfl
theorem tw_486 : (Cond.static yL_two) ∈ TB := tb_in (tb_3 (List.mem_of_getElem? (i := 100) rfl)) rfl
theorem tw_487 : (Cond.code yL_two cL_two 4 (some (Jvm.ClassFile.FieldType.boolean))) ∈ TB := tb_in (tb_3 (List.mem_of_getElem? (i := 101) rfl)) rfl
theorem tw_488 : (Cond.methodLink "ShufflingBookLaw" 42 yX7_fault) ∈ TB := tb_in (tb_3 (List.mem_of_getElem? (i := 102) rfl)) rfl
theorem tw_489 : (Cond.instanceMethod yX7_fault) ∈ TB := tb_in (tb_3 (List.mem_of_getElem? (i := 103) rfl)) rfl
theorem tw_490 : (Cond.selects "ShufflingBook" yX7_fault yX7_fault) ∈ TB := tb_in (tb_3 (List.mem_of_getElem? (i := 104) rfl)) rfl
theorem tw_491 : (Cond.code yX7_fault cX7_fault 1 (some (Jvm.ClassFile.FieldType.int))) ∈ TB := tb_in (tb_3 (List.mem_of_getElem? (i := 105) rfl)) rfl
theorem tw_492 : (Cond.methodLink "ShufflingBook" 93 yX6_scan) ∈ TB := tb_in (tb_3 (List.mem_of_getElem? (i := 106) rfl)) rfl
theorem tw_493 : (Cond.instanceMethod yX6_scan) ∈ TB := tb_in (tb_3 (List.mem_of_getElem? (i := 107) rfl)) rfl
theorem tw_494 : (Cond.selects "ShufflingBook$Told" yX6_scan yX6_scan) ∈ TB := tb_in (tb_3 (List.mem_of_getElem? (i := 108) rfl)) rfl
theorem tw_495 : (Cond.code yX6_scan cX6_scan 4 (some (Jvm.ClassFile.FieldType.int))) ∈ TB := tb_in (tb_3 (List.mem_of_getElem? (i := 109) rfl)) rfl
theorem tw_496 : (Cond.methodLink "ShufflingBook$Told" 51 yX5_size) ∈ TB := tb_in (tb_3 (List.mem_of_getElem? (i := 110) rfl)) rfl
theorem tw_497 : (Cond.methodLink "ShufflingBook$Told" 57 yX6_scanItem) ∈ TB := tb_in (tb_3 (List.mem_of_getElem? (i := 111) rfl)) rfl
theorem tw_498 : (Cond.instanceMethod yX6_scanItem) ∈ TB := tb_in (tb_3 (List.mem_of_getElem? (i := 113) rfl)) rfl
theorem tw_499 : (Cond.code yX6_scanItem cX6_scanItem 8 (some (Jvm.ClassFile.FieldType.int))) ∈ TB := tb_in (tb_3 (List.mem_of_getElem? (i := 114) rfl)) rfl
theorem tw_500 : (Cond.methodLink "ShufflingBook$Told" 61 yX5_byteAt) ∈ TB := tb_in (tb_3 (List.mem_of_getElem? (i := 115) rfl)) rfl
theorem tw_501 : (Cond.instanceMethod yX5_byteAt) ∈ TB := tb_in (tb_3 (List.mem_of_getElem? (i := 116) rfl)) rfl
theorem tw_502 : (Cond.selects "ShufflingBook$Text" yX5_byteAt yX5_byteAt) ∈ TB := tb_in (tb_3 (List.mem_of_getElem? (i := 117) rfl)) rfl
theorem tw_503 : (Cond.code yX5_byteAt cX5_byteAt 2 (some (Jvm.ClassFile.FieldType.int))) ∈ TB := tb_in (tb_3 (List.mem_of_getElem? (i := 118) rfl)) rfl
theorem tw_504 : (Cond.methodLink "ShufflingBook$Text" 24 yX4_at) ∈ TB := tb_in (tb_3 (List.mem_of_getElem? (i := 119) rfl)) rfl
theorem tw_505 : (Cond.methodLink "ShufflingBook$Told" 65 yX6_numbersWanted) ∈ TB := tb_in (tb_3 (List.mem_of_getElem? (i := 120) rfl)) rfl
theorem tw_506 : (Cond.static yX6_numbersWanted) ∈ TB := tb_in (tb_3 (List.mem_of_getElem? (i := 121) rfl)) rfl
theorem tw_507 : (Cond.code yX6_numbersWanted cX6_numbersWanted 1 (some (Jvm.ClassFile.FieldType.int))) ∈ TB := tb_in (tb_3 (List.mem_of_getElem? (i := 122) rfl)) rfl
theorem tw_508 : (Cond.methodLink "ShufflingBook$Told" 68 yX5_figuresFrom) ∈ TB := tb_in (tb_3 (List.mem_of_getElem? (i := 123) rfl)) rfl
theorem tw_509 : (Cond.instanceMethod yX5_figuresFrom) ∈ TB := tb_in (tb_3 (List.mem_of_getElem? (i := 124) rfl)) rfl
theorem tw_510 : (Cond.selects "ShufflingBook$Text" yX5_figuresFrom yX5_figuresFrom) ∈ TB := tb_in (tb_3 (List.mem_of_getElem? (i := 125) rfl)) rfl
theorem tw_511 : (Cond.code yX5_figuresFrom cX5_figuresFrom 2 (some (Jvm.ClassFile.FieldType.int))) ∈ TB := tb_in (tb_3 (List.mem_of_getElem? (i := 126) rfl)) rfl
theorem tw_512 : (Cond.methodLink "ShufflingBook$Text" 34 yX5_byteAt) ∈ TB := tb_in (tb_3 (List.mem_of_getElem? (i := 127) rfl)) rfl
theorem tw_513 : (Cond.methodLink "ShufflingBook$Text" 37 yX5_isFigure) ∈ TB := tb_in (tb_3 (List.mem_of_getElem? (i := 128) rfl)) rfl
theorem tw_514 : (Cond.static yX5_isFigure) ∈ TB := tb_in (tb_3 (List.mem_of_getElem? (i := 129) rfl)) rfl
theorem tw_515 : (Cond.code yX5_isFigure cX5_isFigure 1 (some (Jvm.ClassFile.FieldType.boolean))) ∈ TB := tb_in (tb_3 (List.mem_of_getElem? (i := 130) rfl)) rfl
theorem tw_516 : (Cond.methodLink "ShufflingBook$Told" 71 yX5_numberAt) ∈ TB := tb_in (tb_3 (List.mem_of_getElem? (i := 132) rfl)) rfl
theorem tw_517 : (Cond.instanceMethod yX5_numberAt) ∈ TB := tb_in (tb_3 (List.mem_of_getElem? (i := 133) rfl)) rfl
theorem tw_518 : (Cond.selects "ShufflingBook$Text" yX5_numberAt yX5_numberAt) ∈ TB := tb_in (tb_3 (List.mem_of_getElem? (i := 134) rfl)) rfl
theorem tw_519 : (Cond.code yX5_numberAt cX5_numberAt 5 (some (Jvm.ClassFile.FieldType.int))) ∈ TB := tb_in (tb_3 (List.mem_of_getElem? (i := 135) rfl)) rfl
theorem tw_520 : (Cond.methodLink "ShufflingBook$Told" 75 yX4_put) ∈ TB := tb_in (tb_3 (List.mem_of_getElem? (i := 136) rfl)) rfl
theorem tw_521 : (Cond.methodLink "ShufflingBook$Told" 82 yX6_takeIn) ∈ TB := tb_in (tb_3 (List.mem_of_getElem? (i := 137) rfl)) rfl
theorem tw_522 : (Cond.instanceMethod yX6_takeIn) ∈ TB := tb_in (tb_3 (List.mem_of_getElem? (i := 139) rfl)) rfl
theorem tw_523 : (Cond.code yX6_takeIn cX6_takeIn 4 (some (Jvm.ClassFile.FieldType.boolean))) ∈ TB := tb_in (tb_3 (List.mem_of_getElem? (i := 140) rfl)) rfl
theorem tw_524 : (Cond.methodLink "ShufflingBook$Told" 86 yX6_takeLeafCount) ∈ TB := tb_in (tb_3 (List.mem_of_getElem? (i := 141) rfl)) rfl
theorem tw_525 : (Cond.instanceMethod yX6_takeLeafCount) ∈ TB := tb_in (tb_3 (List.mem_of_getElem? (i := 143) rfl)) rfl
theorem tw_526 : (Cond.code yX6_takeLeafCount cX6_takeLeafCount 2 (some (Jvm.ClassFile.FieldType.boolean))) ∈ TB := tb_in (tb_3 (List.mem_of_getElem? (i := 144) rfl)) rfl
theorem tw_527 : (Cond.methodLink "ShufflingBook$Told" 90 yX6_takePerReader) ∈ TB := tb_in (tb_3 (List.mem_of_getElem? (i := 146) rfl)) rfl
theorem tw_528 : (Cond.instanceMethod yX6_takePerReader) ∈ TB := tb_in (tb_3 (List.mem_of_getElem? (i := 148) rfl)) rfl
theorem tw_529 : (Cond.code yX6_takePerReader cX6_takePerReader 2 (some (Jvm.ClassFile.FieldType.boolean))) ∈ TB := tb_in (tb_3 (List.mem_of_getElem? (i := 149) rfl)) rfl
theorem tw_530 : (Cond.methodLink "ShufflingBook$Told" 93 yX6_takeLaw) ∈ TB := tb_in (tb_3 (List.mem_of_getElem? (i := 150) rfl)) rfl
theorem tw_531 : (Cond.instanceMethod yX6_takeLaw) ∈ TB := tb_in (tb_3 (List.mem_of_getElem? (i := 152) rfl)) rfl
theorem tw_532 : (Cond.code yX6_takeLaw cX6_takeLaw 3 (some (Jvm.ClassFile.FieldType.boolean))) ∈ TB := tb_in (tb_3 (List.mem_of_getElem? (i := 153) rfl)) rfl
theorem tw_533 : (Cond.methodLink "ShufflingBook$Told" 97 yX6_takeSwap) ∈ TB := tb_in (tb_3 (List.mem_of_getElem? (i := 154) rfl)) rfl
theorem tw_534 : (Cond.instanceMethod yX6_takeSwap) ∈ TB := tb_in (tb_3 (List.mem_of_getElem? (i := 156) rfl)) rfl
theorem tw_535 : (Cond.code yX6_takeSwap cX6_takeSwap 3 (some (Jvm.ClassFile.FieldType.boolean))) ∈ TB := tb_in (tb_3 (List.mem_of_getElem? (i := 157) rfl)) rfl
theorem tw_536 : (Cond.methodLink "ShufflingBook$Told" 100 yX6_takeTaleLeaf) ∈ TB := tb_in (tb_3 (List.mem_of_getElem? (i := 158) rfl)) rfl
theorem tw_537 : (Cond.instanceMethod yX6_takeTaleLeaf) ∈ TB := tb_in (tb_3 (List.mem_of_getElem? (i := 160) rfl)) rfl
theorem tw_538 : (Cond.code yX6_takeTaleLeaf cX6_takeTaleLeaf 2 (some (Jvm.ClassFile.FieldType.boolean))) ∈ TB := tb_in (tb_3 (List.mem_of_getElem? (i := 161) rfl)) rfl
theorem tw_539 : (Cond.methodLink "ShufflingBookLaw" 45 yX7_lay) ∈ TB := tb_in (tb_3 (List.mem_of_getElem? (i := 162) rfl)) rfl
theorem tw_540 : (Cond.instanceMethod yX7_lay) ∈ TB := tb_in (tb_3 (List.mem_of_getElem? (i := 163) rfl)) rfl
theorem tw_541 : (Cond.selects "ShufflingBook" yX7_lay yX7_lay) ∈ TB := tb_in (tb_3 (List.mem_of_getElem? (i := 164) rfl)) rfl
theorem tw_542 : (Cond.code yX7_lay cX7_lay 2 (some (Jvm.ClassFile.FieldType.int))) ∈ TB := tb_in (tb_3 (List.mem_of_getElem? (i := 165) rfl)) rfl
theorem tw_543 : (Cond.methodLink "ShufflingBook" 97 yX6_fitsItsLeaves) ∈ TB := tb_in (tb_3 (List.mem_of_getElem? (i := 166) rfl)) rfl
theorem tw_544 : (Cond.instanceMethod yX6_fitsItsLeaves) ∈ TB := tb_in (tb_3 (List.mem_of_getElem? (i := 167) rfl)) rfl
theorem tw_545 : (Cond.selects "ShufflingBook$Told" yX6_fitsItsLeaves yX6_fitsItsLeaves) ∈ TB := tb_in (tb_3 (List.mem_of_getElem? (i := 168) rfl)) rfl
theorem tw_546 : (Cond.code yX6_fitsItsLeaves cX6_fitsItsLeaves 2 (some (Jvm.ClassFile.FieldType.boolean))) ∈ TB := tb_in (tb_3 (List.mem_of_getElem? (i := 169) rfl)) rfl
theorem tw_547 : (Cond.methodLink "ShufflingBookLaw" 151 yL_act) ∈ TB := tb_in (tb_3 (List.mem_of_getElem? (i := 170) rfl)) rfl
theorem tw_548 : (Cond.static yL_act) ∈ TB := tb_in (tb_3 (List.mem_of_getElem? (i := 171) rfl)) rfl
theorem tw_549 : (Cond.code yL_act cL_act 8 (some (Jvm.ClassFile.FieldType.long))) ∈ TB := tb_in (tb_3 (List.mem_of_getElem? (i := 172) rfl)) rfl
theorem tw_550 : (Cond.constant "ShufflingBookLaw" 52 (1000000 : Int32)) ∈ TB := tb_in (tb_3 (List.mem_of_getElem? (i := 173) rfl)) rfl
theorem tw_551 : (Cond.constantLong "ShufflingBookLaw" 53 (999999)) ∈ TB := tb_in (tb_3 (List.mem_of_getElem? (i := 174) rfl)) rfl
theorem tw_552 : (Cond.methodLink "ShufflingBookLaw" 55 yX7_read) ∈ TB := tb_in (tb_3 (List.mem_of_getElem? (i := 175) rfl)) rfl
theorem tw_553 : (Cond.instanceMethod yX7_read) ∈ TB := tb_in (tb_3 (List.mem_of_getElem? (i := 176) rfl)) rfl
theorem tw_554 : (Cond.selects "ShufflingBook" yX7_read yX7_read) ∈ TB := tb_in (tb_3 (List.mem_of_getElem? (i := 177) rfl)) rfl
theorem tw_555 : (Cond.code yX7_read cX7_read 1 (some (Jvm.ClassFile.FieldType.int))) ∈ TB := tb_in (tb_3 (List.mem_of_getElem? (i := 178) rfl)) rfl
theorem tw_556 : (Cond.methodLink "ShufflingBook" 119 yX2_readOne) ∈ TB := tb_in (tb_3 (List.mem_of_getElem? (i := 179) rfl)) rfl
theorem tw_557 : (Cond.instanceMethod yX2_readOne) ∈ TB := tb_in (tb_3 (List.mem_of_getElem? (i := 180) rfl)) rfl
theorem tw_558 : (Cond.selects "ShufflingBook$Pack" yX2_readOne yX2_readOne) ∈ TB := tb_in (tb_3 (List.mem_of_getElem? (i := 181) rfl)) rfl
theorem tw_559 : (Cond.code yX2_readOne cX2_readOne 3 (some (Jvm.ClassFile.FieldType.int))) ∈ TB := tb_in (tb_3 (List.mem_of_getElem? (i := 182) rfl)) rfl
theorem tw_560 : (Cond.methodLink "ShufflingBook$Pack" 35 yX1_readTop) ∈ TB := tb_in (tb_3 (List.mem_of_getElem? (i := 183) rfl)) rfl
theorem tw_561 : (Cond.methodLink "ShufflingBookLaw" 58 yX7_finish) ∈ TB := tb_in (tb_3 (List.mem_of_getElem? (i := 184) rfl)) rfl
theorem tw_562 : (Cond.instanceMethod yX7_finish) ∈ TB := tb_in (tb_3 (List.mem_of_getElem? (i := 185) rfl)) rfl
theorem tw_563 : (Cond.selects "ShufflingBook" yX7_finish yX7_finish) ∈ TB := tb_in (tb_3 (List.mem_of_getElem? (i := 186) rfl)) rfl
theorem tw_564 : (Cond.code yX7_finish cX7_finish 3 (some (Jvm.ClassFile.FieldType.int))) ∈ TB := tb_in (tb_3 (List.mem_of_getElem? (i := 187) rfl)) rfl
theorem tw_565 : (Cond.constantLong "ShufflingBookLaw" 72 (1000)) ∈ TB := tb_in (tb_3 (List.mem_of_getElem? (i := 188) rfl)) rfl
theorem tw_566 : (Cond.methodLink "ShufflingBookLaw" 78 yX7_period) ∈ TB := tb_in (tb_3 (List.mem_of_getElem? (i := 189) rfl)) rfl
theorem tw_567 : (Cond.instanceMethod yX7_period) ∈ TB := tb_in (tb_3 (List.mem_of_getElem? (i := 190) rfl)) rfl
theorem tw_568 : (Cond.selects "ShufflingBook" yX7_period yX7_period) ∈ TB := tb_in (tb_3 (List.mem_of_getElem? (i := 191) rfl)) rfl
theorem tw_569 : (Cond.code yX7_period cX7_period 1 (some (Jvm.ClassFile.FieldType.int))) ∈ TB := tb_in (tb_3 (List.mem_of_getElem? (i := 192) rfl)) rfl
theorem tw_570 : (Cond.methodLink "ShufflingBook" 153 yX3_roundsTogether) ∈ TB := tb_in (tb_3 (List.mem_of_getElem? (i := 193) rfl)) rfl
theorem tw_571 : (Cond.instanceMethod yX3_roundsTogether) ∈ TB := tb_in (tb_3 (List.mem_of_getElem? (i := 194) rfl)) rfl
theorem tw_572 : (Cond.selects "ShufflingBook$Readers" yX3_roundsTogether yX3_roundsTogether) ∈ TB := tb_in (tb_3 (List.mem_of_getElem? (i := 195) rfl)) rfl
theorem tw_573 : (Cond.code yX3_roundsTogether cX3_roundsTogether 3 (some (Jvm.ClassFile.FieldType.int))) ∈ TB := tb_in (tb_3 (List.mem_of_getElem? (i := 196) rfl)) rfl
theorem tw_574 : (Cond.methodLink "ShufflingBook$Readers" 114 yX3_commonMultiple) ∈ TB := tb_in (tb_3 (List.mem_of_getElem? (i := 197) rfl)) rfl
theorem tw_575 : (Cond.static yX3_commonMultiple) ∈ TB := tb_in (tb_3 (List.mem_of_getElem? (i := 198) rfl)) rfl
theorem tw_576 : (Cond.code yX3_commonMultiple cX3_commonMultiple 3 (some (Jvm.ClassFile.FieldType.int))) ∈ TB := tb_in (tb_3 (List.mem_of_getElem? (i := 199) rfl)) rfl
theorem tw_577 : (Cond.constantLong "ShufflingBookLaw" 81 (10000)) ∈ TB := tb_in (tb_3 (List.mem_of_getElem? (i := 200) rfl)) rfl
theorem tw_578 : (Cond.constantLong "ShufflingBookLaw" 91 (100)) ∈ TB := tb_in (tb_3 (List.mem_of_getElem? (i := 201) rfl)) rfl
theorem tw_579 : (Cond.constantLong "ShufflingBookLaw" 109 (50)) ∈ TB := tb_in (tb_3 (List.mem_of_getElem? (i := 202) rfl)) rfl
theorem tw_580 : (Cond.methodLink "ShufflingBookLaw" 124 yX7_forget) ∈ TB := tb_in (tb_3 (List.mem_of_getElem? (i := 203) rfl)) rfl
theorem tw_581 : (Cond.instanceMethod yX7_forget) ∈ TB := tb_in (tb_3 (List.mem_of_getElem? (i := 204) rfl)) rfl
theorem tw_582 : (Cond.selects "ShufflingBook" yX7_forget yX7_forget) ∈ TB := tb_in (tb_3 (List.mem_of_getElem? (i := 205) rfl)) rfl
theorem tw_583 : (Cond.code yX7_forget cX7_forget 2 (some (Jvm.ClassFile.FieldType.int))) ∈ TB := tb_in (tb_3 (List.mem_of_getElem? (i := 206) rfl)) rfl
theorem tw_584 : (Cond.methodLink "ShufflingBookLaw" 130 yX7_keep) ∈ TB := tb_in (tb_3 (List.mem_of_getElem? (i := 207) rfl)) rfl
theorem tw_585 : (Cond.instanceMethod yX7_keep) ∈ TB := tb_in (tb_3 (List.mem_of_getElem? (i := 208) rfl)) rfl
theorem tw_586 : (Cond.selects "ShufflingBook" yX7_keep yX7_keep) ∈ TB := tb_in (tb_3 (List.mem_of_getElem? (i := 209) rfl)) rfl
theorem tw_587 : (Cond.code yX7_keep cX7_keep 1 (some (Jvm.ClassFile.FieldType.int))) ∈ TB := tb_in (tb_3 (List.mem_of_getElem? (i := 210) rfl)) rfl
theorem tw_588 : (Cond.methodLink "ShufflingBook" 220 yX7_keptPack) ∈ TB := tb_in (tb_3 (List.mem_of_getElem? (i := 211) rfl)) rfl
theorem tw_589 : (Cond.instanceMethod yX7_keptPack) ∈ TB := tb_in (tb_3 (List.mem_of_getElem? (i := 213) rfl)) rfl
theorem tw_590 : (Cond.code yX7_keptPack cX7_keptPack 2 (some (Jvm.ClassFile.FieldType.object "ShufflingBook$Pack"))) ∈ TB := tb_in (tb_3 (List.mem_of_getElem? (i := 214) rfl)) rfl
theorem tw_591 : (Cond.methodLink "ShufflingBook" 224 yX2_copyFrom) ∈ TB := tb_in (tb_3 (List.mem_of_getElem? (i := 215) rfl)) rfl
theorem tw_592 : (Cond.instanceMethod yX2_copyFrom) ∈ TB := tb_in (tb_3 (List.mem_of_getElem? (i := 216) rfl)) rfl
theorem tw_593 : (Cond.selects "ShufflingBook$Pack" yX2_copyFrom yX2_copyFrom) ∈ TB := tb_in (tb_3 (List.mem_of_getElem? (i := 217) rfl)) rfl
theorem tw_594 : (Cond.code yX2_copyFrom cX2_copyFrom 2 none) ∈ TB := tb_in (tb_3 (List.mem_of_getElem? (i := 218) rfl)) rfl
theorem tw_595 : (Cond.methodLink "ShufflingBookLaw" 133 yX7_back) ∈ TB := tb_in (tb_3 (List.mem_of_getElem? (i := 219) rfl)) rfl
theorem tw_596 : (Cond.instanceMethod yX7_back) ∈ TB := tb_in (tb_3 (List.mem_of_getElem? (i := 220) rfl)) rfl
theorem tw_597 : (Cond.selects "ShufflingBook" yX7_back yX7_back) ∈ TB := tb_in (tb_3 (List.mem_of_getElem? (i := 221) rfl)) rfl
theorem tw_598 : (Cond.code yX7_back cX7_back 1 (some (Jvm.ClassFile.FieldType.int))) ∈ TB := tb_in (tb_3 (List.mem_of_getElem? (i := 222) rfl)) rfl
theorem tw_599 : (Cond.constantLong "ShufflingBookLaw" 144 (-1)) ∈ TB := tb_in (tb_3 (List.mem_of_getElem? (i := 223) rfl)) rfl
theorem tw_600 : (Cond.constantLong "ShufflingBookLaw" 146 (-5)) ∈ TB := tb_in (tb_3 (List.mem_of_getElem? (i := 224) rfl)) rfl
theorem tw_601 : (Cond.selects "ShufflingBook$Told" yX6_tellNothing yX6_tellNothing) ∈ TB := tb_in (List.mem_append_left _ (List.mem_of_getElem? (i := 0) rfl)) rfl
theorem tw_602 : (Cond.selects "ShufflingBook" yX7_startAnew yX7_startAnew) ∈ TB := tb_in (List.mem_append_left _ (List.mem_of_getElem? (i := 1) rfl)) rfl
theorem tw_603 : (Cond.selects "ShufflingBook$Readers" yX3_readOneReader yX3_readOneReader) ∈ TB := tb_in (List.mem_append_left _ (List.mem_of_getElem? (i := 2) rfl)) rfl
theorem tw_604 : (Cond.selects "ShufflingBook$Order" yX1_cut yX1_cut) ∈ TB := tb_in (List.mem_append_left _ (List.mem_of_getElem? (i := 3) rfl)) rfl
theorem tw_605 : (Cond.selects "ShufflingBook$Order" yX1_layTop yX1_layTop) ∈ TB := tb_in (List.mem_append_left _ (List.mem_of_getElem? (i := 4) rfl)) rfl
theorem tw_606 : (Cond.selects "ShufflingBook$Readers" yX3_layRings yX3_layRings) ∈ TB := tb_in (List.mem_append_left _ (List.mem_of_getElem? (i := 5) rfl)) rfl
theorem tw_607 : (Cond.selects "ShufflingBook$Readers" yX3_layRing yX3_layRing) ∈ TB := tb_in (List.mem_append_left _ (List.mem_of_getElem? (i := 6) rfl)) rfl
theorem tw_608 : (Cond.selects "ShufflingBook$Readers" yX3_readWithoutFirst yX3_readWithoutFirst) ∈ TB := tb_in (List.mem_append_left _ (List.mem_of_getElem? (i := 7) rfl)) rfl
theorem tw_609 : (Cond.selects "ShufflingBook" yX7_isBelowCount yX7_isBelowCount) ∈ TB := tb_in (List.mem_append_left _ (List.mem_of_getElem? (i := 8) rfl)) rfl
theorem tw_610 : (Cond.selects "ShufflingBook" yX7_isTurn yX7_isTurn) ∈ TB := tb_in (List.mem_append_left _ (List.mem_of_getElem? (i := 9) rfl)) rfl
theorem tw_611 : (Cond.selects "ShufflingBook" yX7_leafHad yX7_leafHad) ∈ TB := tb_in (List.mem_append_left _ (List.mem_of_getElem? (i := 10) rfl)) rfl
theorem tw_612 : (Cond.selects "ShufflingBook$Readers" yX3_placeInRing yX3_placeInRing) ∈ TB := tb_in (List.mem_append_left _ (List.mem_of_getElem? (i := 11) rfl)) rfl
theorem tw_613 : (Cond.selects "ShufflingBook" yX7_leavesHad yX7_leavesHad) ∈ TB := tb_in (List.mem_append_left _ (List.mem_of_getElem? (i := 12) rfl)) rfl
theorem tw_614 : (Cond.selects "ShufflingBook$Readers" yX3_readInRing yX3_readInRing) ∈ TB := tb_in (List.mem_append_left _ (List.mem_of_getElem? (i := 13) rfl)) rfl
theorem tw_615 : (Cond.selects "ShufflingBook" yX7_readingsToShowAll yX7_readingsToShowAll) ∈ TB := tb_in (List.mem_append_left _ (List.mem_of_getElem? (i := 14) rfl)) rfl
theorem tw_616 : (Cond.selects "ShufflingBook" yX7_guessFromSeen yX7_guessFromSeen) ∈ TB := tb_in (List.mem_append_left _ (List.mem_of_getElem? (i := 15) rfl)) rfl
theorem tw_617 : (Cond.selects "ShufflingBook" yX7_isReadBy yX7_isReadBy) ∈ TB := tb_in (List.mem_append_left _ (List.mem_of_getElem? (i := 16) rfl)) rfl
theorem tw_618 : (Cond.selects "ShufflingBook" yX7_rightWhenLaidAt yX7_rightWhenLaidAt) ∈ TB := tb_in (List.mem_append_left _ (List.mem_of_getElem? (i := 17) rfl)) rfl
theorem tw_619 : (Cond.selects "ShufflingBook$Told" yX6_scanItem yX6_scanItem) ∈ TB := tb_in (List.mem_append_left _ (List.mem_of_getElem? (i := 18) rfl)) rfl
theorem tw_620 : (Cond.selects "ShufflingBook$Told" yX6_takeIn yX6_takeIn) ∈ TB := tb_in (List.mem_append_left _ (List.mem_of_getElem? (i := 19) rfl)) rfl
theorem tw_621 : (Cond.selects "ShufflingBook$Told" yX6_takeLeafCount yX6_takeLeafCount) ∈ TB := tb_in (List.mem_append_left _ (List.mem_of_getElem? (i := 20) rfl)) rfl
theorem tw_622 : (Cond.selects "ShufflingBook$Told" yX6_takePerReader yX6_takePerReader) ∈ TB := tb_in (List.mem_append_left _ (List.mem_of_getElem? (i := 21) rfl)) rfl
theorem tw_623 : (Cond.selects "ShufflingBook$Told" yX6_takeLaw yX6_takeLaw) ∈ TB := tb_in (List.mem_append_left _ (List.mem_of_getElem? (i := 22) rfl)) rfl
theorem tw_624 : (Cond.selects "ShufflingBook$Told" yX6_takeSwap yX6_takeSwap) ∈ TB := tb_in (List.mem_append_left _ (List.mem_of_getElem? (i := 23) rfl)) rfl
theorem tw_625 : (Cond.selects "ShufflingBook$Told" yX6_takeTaleLeaf yX6_takeTaleLeaf) ∈ TB := tb_in (List.mem_append_left _ (List.mem_of_getElem? (i := 24) rfl)) rfl
theorem tw_626 : (Cond.selects "ShufflingBook" yX7_keptPack yX7_keptPack) ∈ TB := tb_in (List.mem_append_left _ (List.mem_of_getElem? (i := 25) rfl)) rfl
theorem inX0 : ∀ w ∈ wsX00, w ∈ TB := List.forall_mem_cons.mpr ⟨tw_121, List.forall_mem_cons.mpr ⟨tw_122, List.forall_mem_cons.mpr ⟨tw_123, List.forall_mem_cons.mpr ⟨tw_124, List.forall_mem_cons.mpr ⟨tw_125, fun _ h => absurd h List.not_mem_nil⟩⟩⟩⟩⟩
theorem inX1 : ∀ w ∈ wsX10, w ∈ TB := List.forall_mem_cons.mpr ⟨tw_80, List.forall_mem_cons.mpr ⟨tw_81, List.forall_mem_cons.mpr ⟨tw_82, fun _ h => absurd h List.not_mem_nil⟩⟩⟩
theorem inX2 : ∀ w ∈ wsX20, w ∈ TB := List.forall_mem_cons.mpr ⟨tw_137, List.forall_mem_cons.mpr ⟨tw_138, List.forall_mem_cons.mpr ⟨tw_139, fun _ h => absurd h List.not_mem_nil⟩⟩⟩
theorem inX3 : ∀ w ∈ wsX30, w ∈ TB := List.forall_mem_cons.mpr ⟨tw_100, List.forall_mem_cons.mpr ⟨tw_101, List.forall_mem_cons.mpr ⟨tw_102, List.forall_mem_cons.mpr ⟨tw_103, List.forall_mem_cons.mpr ⟨tw_104, List.forall_mem_cons.mpr ⟨tw_105, List.forall_mem_cons.mpr ⟨tw_106, List.forall_mem_cons.mpr ⟨tw_107, List.forall_mem_cons.mpr ⟨tw_108, fun _ h => absurd h List.not_mem_nil⟩⟩⟩⟩⟩⟩⟩⟩⟩
theorem inX4 : ∀ w ∈ wsX40, w ∈ TB := List.forall_mem_cons.mpr ⟨tw_33, fun _ h => absurd h List.not_mem_nil⟩
theorem inX5 : ∀ w ∈ wsX50, w ∈ TB := List.forall_mem_cons.mpr ⟨tw_37, List.forall_mem_cons.mpr ⟨tw_38, fun _ h => absurd h List.not_mem_nil⟩⟩
theorem inX6 : ∀ w ∈ wsX60, w ∈ TB := List.forall_mem_cons.mpr ⟨tw_60, List.forall_mem_cons.mpr ⟨tw_61, List.forall_mem_cons.mpr ⟨tw_62, List.forall_mem_cons.mpr ⟨tw_63, List.forall_mem_cons.mpr ⟨tw_64, List.forall_mem_cons.mpr ⟨tw_65, List.forall_mem_cons.mpr ⟨tw_66, List.forall_mem_cons.mpr ⟨tw_67, List.forall_mem_cons.mpr ⟨tw_68, List.forall_mem_cons.mpr ⟨tw_69, fun _ h => absurd h List.not_mem_nil⟩⟩⟩⟩⟩⟩⟩⟩⟩⟩
theorem inX7 : ∀ w ∈ wsX70, w ∈ TB := List.forall_mem_cons.mpr ⟨tw_231, List.forall_mem_cons.mpr ⟨tw_232, List.forall_mem_cons.mpr ⟨tw_233, List.forall_mem_cons.mpr ⟨tw_234, List.forall_mem_cons.mpr ⟨tw_235, List.forall_mem_cons.mpr ⟨tw_236, List.forall_mem_cons.mpr ⟨tw_237, List.forall_mem_cons.mpr ⟨tw_238, List.forall_mem_cons.mpr ⟨tw_239, List.forall_mem_cons.mpr ⟨tw_240, List.forall_mem_cons.mpr ⟨tw_241, List.forall_mem_cons.mpr ⟨tw_242, List.forall_mem_cons.mpr ⟨tw_243, List.forall_mem_cons.mpr ⟨tw_244, fun _ h => absurd h List.not_mem_nil⟩⟩⟩⟩⟩⟩⟩⟩⟩⟩⟩⟩⟩⟩
def nestF : List (String × Nat × String × String × String × String) := [("ShufflingBook$Readers", 45, "ShufflingBook$Told", "leafCount", "I", "ShufflingBook"), ("ShufflingBook", 101, "ShufflingBook$Told", "leafCount", "I", "ShufflingBook"), ("ShufflingBook$Readers", 70, "ShufflingBook$Told", "perReader", "I", "ShufflingBook"), ("ShufflingBook$Pack", 39, "ShufflingBook$Told", "perReader", "I", "ShufflingBook"), ("ShufflingBook", 123, "ShufflingBook$Told", "perReader", "I", "ShufflingBook"), ("ShufflingBook$Readers", 73, "ShufflingBook$Told", "kind", "I", "ShufflingBook"), ("ShufflingBook$Pack", 27, "ShufflingBook$Told", "kind", "I", "ShufflingBook"), ("ShufflingBook$Readers", 76, "ShufflingBook$Told", "reach", "I", "ShufflingBook"), ("ShufflingBook$Pack", 32, "ShufflingBook$Told", "reach", "I", "ShufflingBook"), ("ShufflingBook", 228, "ShufflingBook$Told", "taleLength", "I", "ShufflingBook"), ("ShufflingBook$Pack", 42, "ShufflingBook$Order", "size", "I", "ShufflingBook"), ("ShufflingBook", 109, "ShufflingBook$Pack", "order", "LShufflingBook$Order;", "ShufflingBook"), ("ShufflingBook", 126, "ShufflingBook$Pack", "readSoFar", "I", "ShufflingBook"), ("ShufflingBook", 231, "ShufflingBook$Pack", "readersDone", "I", "ShufflingBook")]
def nestM : List (String × Nat × MethodName × String) := [("ShufflingBook", 9, yX5_init, "ShufflingBook"), ("ShufflingBook", 28, yX1_init, "ShufflingBook"), ("ShufflingBook", 38, yX3_init, "ShufflingBook"), ("ShufflingBook$Readers", 11, yX1_init, "ShufflingBook"), ("ShufflingBook", 45, yX0_init, "ShufflingBook"), ("ShufflingBook", 64, yX2_init, "ShufflingBook"), ("ShufflingBook$Pack", 9, yX1_init, "ShufflingBook"), ("ShufflingBook$Text", 41, yX7_within, "ShufflingBook"), ("ShufflingBook$Told", 103, yX7_within, "ShufflingBook")]
theorem nestF_in : ∀ q ∈ nestF, Cond.fieldLinkNest q.1 q.2.1 q.2.2.1 q.2.2.2.1 q.2.2.2.2.1 q.2.2.2.2.2 ∈ lw_tbl := List.forall_mem_cons.mpr ⟨tb_1 (List.mem_of_getElem? (i := 57) rfl), List.forall_mem_cons.mpr ⟨tb_1 (List.mem_of_getElem? (i := 59) rfl), List.forall_mem_cons.mpr ⟨tb_1 (List.mem_of_getElem? (i := 61) rfl), List.forall_mem_cons.mpr ⟨tb_1 (List.mem_of_getElem? (i := 62) rfl), List.forall_mem_cons.mpr ⟨tb_1 (List.mem_of_getElem? (i := 63) rfl), List.forall_mem_cons.mpr ⟨tb_1 (List.mem_of_getElem? (i := 65) rfl), List.forall_mem_cons.mpr ⟨tb_1 (List.mem_of_getElem? (i := 66) rfl), List.forall_mem_cons.mpr ⟨tb_1 (List.mem_of_getElem? (i := 68) rfl), List.forall_mem_cons.mpr ⟨tb_1 (List.mem_of_getElem? (i := 69) rfl), List.forall_mem_cons.mpr ⟨tb_1 (List.mem_of_getElem? (i := 75) rfl), List.forall_mem_cons.mpr ⟨tb_1 (List.mem_of_getElem? (i := 109) rfl), List.forall_mem_cons.mpr ⟨tb_1 (List.mem_of_getElem? (i := 190) rfl), List.forall_mem_cons.mpr ⟨tb_1 (List.mem_of_getElem? (i := 192) rfl), List.forall_mem_cons.mpr ⟨tb_1 (List.mem_of_getElem? (i := 194) rfl), fun _ h => absurd h List.not_mem_nil⟩⟩⟩⟩⟩⟩⟩⟩⟩⟩⟩⟩⟩⟩
theorem nestM_in : ∀ q ∈ nestM, Cond.methodLinkNest q.1 q.2.1 q.2.2.1 q.2.2.2 ∈ lw_tbl := List.forall_mem_cons.mpr ⟨tb_1 (List.mem_of_getElem? (i := 20) rfl), List.forall_mem_cons.mpr ⟨tb_1 (List.mem_of_getElem? (i := 100) rfl), List.forall_mem_cons.mpr ⟨tb_1 (List.mem_of_getElem? (i := 119) rfl), List.forall_mem_cons.mpr ⟨tb_1 (List.mem_of_getElem? (i := 124) rfl), List.forall_mem_cons.mpr ⟨tb_1 (List.mem_of_getElem? (i := 157) rfl), List.forall_mem_cons.mpr ⟨tb_1 (List.mem_of_getElem? (i := 183) rfl), List.forall_mem_cons.mpr ⟨tb_1 (List.mem_of_getElem? (i := 188) rfl), List.forall_mem_cons.mpr ⟨tb_3 (List.mem_of_getElem? (i := 131) rfl), List.forall_mem_cons.mpr ⟨tb_3 (List.mem_of_getElem? (i := 145) rfl), fun _ h => absurd h List.not_mem_nil⟩⟩⟩⟩⟩⟩⟩⟩⟩
