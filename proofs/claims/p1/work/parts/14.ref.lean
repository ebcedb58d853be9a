def wsX12_forget_r1 : List Cond := [Cond.fieldLink RX12 332 "ProofHouseModel" "objects" "I", Cond.fieldLink RX12 31 "ProofHouseModel" "heads" "[I", Cond.fieldLink RX12 17 "ProofHouseModel" "next" "[I", Cond.fieldLink RX12 8 "ProofHouseModel" "left" "[I", Cond.fieldLink RX12 346 "ProofHouseModel" "symbols" "I", Cond.fieldLink RX12 339 "ProofHouseModel" "naturals" "I", Cond.methodLink RX12 349 yX12_slotOf, Cond.instanceMethod yX12_slotOf, Cond.selects RX12 yX12_slotOf yX12_slotOf, Cond.initialized RX12, Cond.code yX12_slotOf cX12_slotOf 2 (some .int), Cond.fieldLink RX12 14 "ProofHouseModel" "right" "[I", Cond.fieldLink RX12 38 "ProofHouseModel" "lengths" "[I", Cond.methodLink RX12 321 yX12_value, Cond.instanceMethod yX12_value, Cond.selects RX12 yX12_value yX12_value, Cond.code yX12_value cX12_value 2 (some .long), Cond.fieldLink RX12 27 "ProofHouseModel" "number" "[J", Cond.methodLink RX12 324 yX12_slot, Cond.static yX12_slot, Cond.code yX12_slot cX12_slot 2 (some .int), Cond.constant RX12 320 (40503), Cond.methodLink RX12 328 yX12_spelled, Cond.instanceMethod yX12_spelled]
def wsX12_forget_r2 : List Cond := [Cond.selects RX12 yX12_spelled yX12_spelled, Cond.code yX12_spelled cX12_spelled 6 (some .int), Cond.fieldLink RX12 50 "ProofHouseModel" "word" "[I", Cond.fieldLink RX12 35 "ProofHouseModel" "names" "[I"]
def wsX12_forget : List Cond := .code yX12_forget cX12_forget 2 none :: ((wsX12_forget_r1 ++ wsX12_forget_r2) ++ wsX120)
def wsX12_skip : List Cond := .code yX12_skip cX12_skip 2 none :: ([.fieldLink RX12 371 "ProofHouseModel" "at" "I", .fieldLink RX12 374 "ProofHouseModel" "textSize" "I", .fieldLink RX12 44 "ProofHouseModel" "text" "[I"] ++ wsX120)
def wsX12_feed : List Cond := .code yX12_feed cX12_feed 7 none :: ([.fieldLink RX12 41 "ProofHouseModel" "waiting" "[I"] ++ wsX120)
def wsX12_count : List Cond := .code yX12_count cX12_count 5 (some .int) :: ([.fieldLink RX12 699 "ProofHouseModel" "theorems" "I", .fieldLink RX12 106 "ProofHouseModel" "ruleLeft" "[I", .fieldLink RX12 124 "ProofHouseModel" "ruleOn" "[Z", .fieldLink RX12 474 "ProofHouseModel" "defs" "I", .fieldLink RX12 751 "ProofHouseModel" "leftMany" "I"] ++ wsX120)
def wsX12_tell_r1 : List Cond := [Cond.fieldLink RX12 845 "ProofHouseModel" "taken" "I", Cond.fieldLink RX12 332 "ProofHouseModel" "objects" "I", Cond.fieldLink RX12 130 "ProofHouseModel" "takenSort" "[I", Cond.fieldLink RX12 81 "ProofHouseModel" "defMany" "[I", Cond.fieldLink RX12 84 "ProofHouseModel" "defVariable" "[I", Cond.fieldLink RX12 93 "ProofHouseModel" "defSelf" "[Z", Cond.fieldLink RX12 87 "ProofHouseModel" "defBody" "[I", Cond.fieldLink RX12 90 "ProofHouseModel" "defMeasure" "[I", Cond.fieldLink RX12 78 "ProofHouseModel" "defName" "[I", Cond.fieldLink RX12 97 "ProofHouseModel" "theoremName" "[I", Cond.fieldLink RX12 100 "ProofHouseModel" "theorem" "[I", Cond.fieldLink RX12 441 "ProofHouseModel" "outSize" "I", Cond.methodLink RX12 353 yX12_pair, Cond.instanceMethod yX12_pair, Cond.selects RX12 yX12_pair yX12_pair, Cond.initialized RX12, Cond.code yX12_pair cX12_pair 5 (some .int), Cond.fieldLink RX12 31 "ProofHouseModel" "heads" "[I", Cond.fieldLink RX12 8 "ProofHouseModel" "left" "[I", Cond.fieldLink RX12 14 "ProofHouseModel" "right" "[I", Cond.fieldLink RX12 17 "ProofHouseModel" "next" "[I", Cond.methodLink RX12 324 yX12_slot, Cond.static yX12_slot, Cond.code yX12_slot cX12_slot 2 (some .int)]
def wsX12_tell_r2 : List Cond := [Cond.constant RX12 320 (40503), Cond.methodLink RX12 335 yX12_added, Cond.instanceMethod yX12_added, Cond.selects RX12 yX12_added yX12_added, Cond.code yX12_added cX12_added 4 (some .int), Cond.fieldLink RX12 20 "ProofHouseModel" "sizes" "[I", Cond.fieldLink RX12 23 "ProofHouseModel" "heights" "[I", Cond.methodLink RX12 359 yX12_list2, Cond.instanceMethod yX12_list2, Cond.selects RX12 yX12_list2 yX12_list2, Cond.code yX12_list2 cX12_list2 3 (some .int), Cond.methodLink RX12 356 yX12_list1, Cond.instanceMethod yX12_list1, Cond.selects RX12 yX12_list1 yX12_list1, Cond.code yX12_list1 cX12_list1 2 (some .int), Cond.methodLink RX12 785 yX12_tellOut, Cond.instanceMethod yX12_tellOut, Cond.selects RX12 yX12_tellOut yX12_tellOut, Cond.code yX12_tellOut cX12_tellOut 2 none, Cond.methodLink RX12 465 yX12_tellObject, Cond.instanceMethod yX12_tellObject, Cond.selects RX12 yX12_tellObject yX12_tellObject, Cond.code yX12_tellObject cX12_tellObject 4 none, Cond.fieldLink RX12 450 "ProofHouseModel" "telling" "I"]
def wsX12_tell_r3 : List Cond := [Cond.fieldLink RX12 53 "ProofHouseModel" "tellWhat" "[I", Cond.methodLink RX12 453 yX12_later, Cond.instanceMethod yX12_later, Cond.selects RX12 yX12_later yX12_later, Cond.code yX12_later cX12_later 2 none, Cond.methodLink RX12 456 yX12_isFull, Cond.instanceMethod yX12_isFull, Cond.selects RX12 yX12_isFull yX12_isFull, Cond.code yX12_isFull cX12_isFull 1 (some .boolean), Cond.fieldLink RX12 435 "ProofHouseModel" "short0" "Z", Cond.fieldLink RX12 438 "ProofHouseModel" "oneSize" "I", Cond.methodLink RX12 365 yX12_isPair, Cond.instanceMethod yX12_isPair, Cond.selects RX12 yX12_isPair yX12_isPair, Cond.code yX12_isPair cX12_isPair 2 (some .boolean), Cond.methodLink RX12 459 yX12_tellAtom, Cond.instanceMethod yX12_tellAtom, Cond.selects RX12 yX12_tellAtom yX12_tellAtom, Cond.code yX12_tellAtom cX12_tellAtom 4 none, Cond.fieldLink RX12 38 "ProofHouseModel" "lengths" "[I", Cond.fieldLink RX12 35 "ProofHouseModel" "names" "[I", Cond.constantLong RX12 398 (10), Cond.methodLink RX12 444 yX12_isSymbol, Cond.instanceMethod yX12_isSymbol]
def wsX12_tell_r4 : List Cond := [Cond.selects RX12 yX12_isSymbol yX12_isSymbol, Cond.code yX12_isSymbol cX12_isSymbol 2 (some .boolean), Cond.methodLink RX12 447 yX12_tellLetter, Cond.instanceMethod yX12_tellLetter, Cond.selects RX12 yX12_tellLetter yX12_tellLetter, Cond.code yX12_tellLetter cX12_tellLetter 2 none, Cond.fieldLink RX12 56 "ProofHouseModel" "one" "[I", Cond.fieldLink RX12 47 "ProofHouseModel" "out" "[I", Cond.methodLink RX12 321 yX12_value, Cond.instanceMethod yX12_value, Cond.selects RX12 yX12_value yX12_value, Cond.code yX12_value cX12_value 2 (some .long), Cond.fieldLink RX12 27 "ProofHouseModel" "number" "[J", Cond.methodLink RX12 462 yX12_isQuoted, Cond.instanceMethod yX12_isQuoted, Cond.selects RX12 yX12_isQuoted yX12_isQuoted, Cond.code yX12_isQuoted cX12_isQuoted 2 (some .boolean), Cond.methodLink RX12 362 yX12_list3, Cond.instanceMethod yX12_list3, Cond.selects RX12 yX12_list3 yX12_list3, Cond.code yX12_list3 cX12_list3 4 (some .int), Cond.methodLink RX12 839 yX12_forget, Cond.instanceMethod yX12_forget, Cond.selects RX12 yX12_forget yX12_forget]
def wsX12_tell_r5 : List Cond := [Cond.code yX12_forget cX12_forget 2 none, Cond.fieldLink RX12 346 "ProofHouseModel" "symbols" "I", Cond.fieldLink RX12 339 "ProofHouseModel" "naturals" "I", Cond.methodLink RX12 349 yX12_slotOf, Cond.instanceMethod yX12_slotOf, Cond.selects RX12 yX12_slotOf yX12_slotOf, Cond.code yX12_slotOf cX12_slotOf 2 (some .int), Cond.methodLink RX12 328 yX12_spelled, Cond.instanceMethod yX12_spelled, Cond.selects RX12 yX12_spelled yX12_spelled, Cond.code yX12_spelled cX12_spelled 6 (some .int), Cond.fieldLink RX12 50 "ProofHouseModel" "word" "[I"]
def wsX12_tell : List Cond := .code yX12_tell cX12_tell 6 (some .int) :: ((wsX12_tell_r1 ++ (wsX12_tell_r2 ++ (wsX12_tell_r3 ++ (wsX12_tell_r4 ++ wsX12_tell_r5)))) ++ wsX120)
theorem dX12_forget_0 : decode cX12_forget 0 = .ok (.aload_n 0, 1) := by decide +kernel
theorem dX12_forget_1 : decode cX12_forget 1 = .ok (.getfield 332, 3) := by decide +kernel
theorem dX12_forget_4 : decode cX12_forget 4 = .ok (.iload_n 1, 1) := by decide +kernel
theorem dX12_forget_5 : decode cX12_forget 5 = .ok (.if_icmp .le 85, 3) := by decide +kernel
theorem dX12_forget_8 : decode cX12_forget 8 = .ok (.aload_n 0, 1) := by decide +kernel
theorem dX12_forget_9 : decode cX12_forget 9 = .ok (.dup, 1) := by decide +kernel
theorem dX12_forget_10 : decode cX12_forget 10 = .ok (.getfield 332, 3) := by decide +kernel
theorem dX12_forget_13 : decode cX12_forget 13 = .ok (.iconst 1, 1) := by decide +kernel
theorem dX12_forget_14 : decode cX12_forget 14 = .ok (.isub, 1) := by decide +kernel
theorem dX12_forget_15 : decode cX12_forget 15 = .ok (.putfield 332, 3) := by decide +kernel
theorem dX12_forget_18 : decode cX12_forget 18 = .ok (.aload_n 0, 1) := by decide +kernel
theorem dX12_forget_19 : decode cX12_forget 19 = .ok (.getfield 31, 3) := by decide +kernel
theorem dX12_forget_22 : decode cX12_forget 22 = .ok (.aload_n 0, 1) := by decide +kernel
theorem dX12_forget_23 : decode cX12_forget 23 = .ok (.aload_n 0, 1) := by decide +kernel
theorem dX12_forget_24 : decode cX12_forget 24 = .ok (.getfield 332, 3) := by decide +kernel
theorem dX12_forget_27 : decode cX12_forget 27 = .ok (.invokevirtual 349, 3) := by decide +kernel
theorem dX12_forget_30 : decode cX12_forget 30 = .ok (.aload_n 0, 1) := by decide +kernel
theorem dX12_forget_31 : decode cX12_forget 31 = .ok (.getfield 17, 3) := by decide +kernel
theorem dX12_forget_34 : decode cX12_forget 34 = .ok (.aload_n 0, 1) := by decide +kernel
theorem dX12_forget_35 : decode cX12_forget 35 = .ok (.getfield 332, 3) := by decide +kernel
theorem dX12_forget_38 : decode cX12_forget 38 = .ok (.iaload, 1) := by decide +kernel
theorem dX12_forget_39 : decode cX12_forget 39 = .ok (.iastore, 1) := by decide +kernel
theorem dX12_forget_40 : decode cX12_forget 40 = .ok (.aload_n 0, 1) := by decide +kernel
theorem dX12_forget_41 : decode cX12_forget 41 = .ok (.getfield 8, 3) := by decide +kernel
theorem dX12_forget_44 : decode cX12_forget 44 = .ok (.aload_n 0, 1) := by decide +kernel
theorem dX12_forget_45 : decode cX12_forget 45 = .ok (.getfield 332, 3) := by decide +kernel
theorem dX12_forget_48 : decode cX12_forget 48 = .ok (.iaload, 1) := by decide +kernel
theorem dX12_forget_49 : decode cX12_forget 49 = .ok (.bipush (-2), 2) := by decide +kernel
theorem dX12_forget_51 : decode cX12_forget 51 = .ok (.if_icmp .ne 13, 3) := by decide +kernel
theorem dX12_forget_54 : decode cX12_forget 54 = .ok (.aload_n 0, 1) := by decide +kernel
theorem dX12_forget_55 : decode cX12_forget 55 = .ok (.dup, 1) := by decide +kernel
theorem dX12_forget_56 : decode cX12_forget 56 = .ok (.getfield 346, 3) := by decide +kernel
theorem dX12_forget_59 : decode cX12_forget 59 = .ok (.iconst 1, 1) := by decide +kernel
theorem dX12_forget_60 : decode cX12_forget 60 = .ok (.isub, 1) := by decide +kernel
theorem dX12_forget_61 : decode cX12_forget 61 = .ok (.putfield 346, 3) := by decide +kernel
theorem dX12_forget_64 : decode cX12_forget 64 = .ok (.aload_n 0, 1) := by decide +kernel
theorem dX12_forget_65 : decode cX12_forget 65 = .ok (.getfield 8, 3) := by decide +kernel
theorem dX12_forget_68 : decode cX12_forget 68 = .ok (.aload_n 0, 1) := by decide +kernel
theorem dX12_forget_69 : decode cX12_forget 69 = .ok (.getfield 332, 3) := by decide +kernel
theorem dX12_forget_72 : decode cX12_forget 72 = .ok (.iaload, 1) := by decide +kernel
theorem dX12_forget_73 : decode cX12_forget 73 = .ok (.iconst (-1), 1) := by decide +kernel
theorem dX12_forget_74 : decode cX12_forget 74 = .ok (.if_icmp .ne (-74), 3) := by decide +kernel
theorem dX12_forget_77 : decode cX12_forget 77 = .ok (.aload_n 0, 1) := by decide +kernel
theorem dX12_forget_78 : decode cX12_forget 78 = .ok (.dup, 1) := by decide +kernel
theorem dX12_forget_79 : decode cX12_forget 79 = .ok (.getfield 339, 3) := by decide +kernel
theorem dX12_forget_82 : decode cX12_forget 82 = .ok (.iconst 1, 1) := by decide +kernel
theorem dX12_forget_83 : decode cX12_forget 83 = .ok (.isub, 1) := by decide +kernel
theorem dX12_forget_84 : decode cX12_forget 84 = .ok (.putfield 339, 3) := by decide +kernel
theorem dX12_forget_87 : decode cX12_forget 87 = .ok (.goto (-87), 3) := by decide +kernel
theorem dX12_forget_90 : decode cX12_forget 90 = .ok (.return_, 1) := by decide +kernel
theorem dX12_skip_0 : decode cX12_skip 0 = .ok (.iconst 1, 1) := by decide +kernel
theorem dX12_skip_1 : decode cX12_skip 1 = .ok (.istore_n 1, 1) := by decide +kernel
theorem dX12_skip_2 : decode cX12_skip 2 = .ok (.iload_n 1, 1) := by decide +kernel
theorem dX12_skip_3 : decode cX12_skip 3 = .ok (.ifCond .eq 112, 3) := by decide +kernel
theorem dX12_skip_6 : decode cX12_skip 6 = .ok (.aload_n 0, 1) := by decide +kernel
theorem dX12_skip_7 : decode cX12_skip 7 = .ok (.getfield 371, 3) := by decide +kernel
theorem dX12_skip_10 : decode cX12_skip 10 = .ok (.aload_n 0, 1) := by decide +kernel
theorem dX12_skip_11 : decode cX12_skip 11 = .ok (.getfield 374, 3) := by decide +kernel
theorem dX12_skip_14 : decode cX12_skip 14 = .ok (.if_icmp .ge 101, 3) := by decide +kernel
theorem dX12_skip_17 : decode cX12_skip 17 = .ok (.aload_n 0, 1) := by decide +kernel
theorem dX12_skip_18 : decode cX12_skip 18 = .ok (.getfield 44, 3) := by decide +kernel
theorem dX12_skip_21 : decode cX12_skip 21 = .ok (.aload_n 0, 1) := by decide +kernel
theorem dX12_skip_22 : decode cX12_skip 22 = .ok (.getfield 371, 3) := by decide +kernel
theorem dX12_skip_25 : decode cX12_skip 25 = .ok (.iaload, 1) := by decide +kernel
theorem dX12_skip_26 : decode cX12_skip 26 = .ok (.bipush 59, 2) := by decide +kernel
theorem dX12_skip_28 : decode cX12_skip 28 = .ok (.if_icmp .ne 41, 3) := by decide +kernel
theorem dX12_skip_31 : decode cX12_skip 31 = .ok (.aload_n 0, 1) := by decide +kernel
theorem dX12_skip_32 : decode cX12_skip 32 = .ok (.getfield 371, 3) := by decide +kernel
theorem dX12_skip_35 : decode cX12_skip 35 = .ok (.aload_n 0, 1) := by decide +kernel
theorem dX12_skip_36 : decode cX12_skip 36 = .ok (.getfield 374, 3) := by decide +kernel
theorem dX12_skip_39 : decode cX12_skip 39 = .ok (.if_icmp .ge (-37), 3) := by decide +kernel
theorem dX12_skip_42 : decode cX12_skip 42 = .ok (.aload_n 0, 1) := by decide +kernel
theorem dX12_skip_43 : decode cX12_skip 43 = .ok (.getfield 44, 3) := by decide +kernel
theorem dX12_skip_46 : decode cX12_skip 46 = .ok (.aload_n 0, 1) := by decide +kernel
theorem dX12_skip_47 : decode cX12_skip 47 = .ok (.getfield 371, 3) := by decide +kernel
theorem dX12_skip_50 : decode cX12_skip 50 = .ok (.iaload, 1) := by decide +kernel
theorem dX12_skip_51 : decode cX12_skip 51 = .ok (.bipush 10, 2) := by decide +kernel
theorem dX12_skip_53 : decode cX12_skip 53 = .ok (.if_icmp .eq (-51), 3) := by decide +kernel
theorem dX12_skip_56 : decode cX12_skip 56 = .ok (.aload_n 0, 1) := by decide +kernel
theorem dX12_skip_57 : decode cX12_skip 57 = .ok (.dup, 1) := by decide +kernel
theorem dX12_skip_58 : decode cX12_skip 58 = .ok (.getfield 371, 3) := by decide +kernel
theorem dX12_skip_61 : decode cX12_skip 61 = .ok (.iconst 1, 1) := by decide +kernel
theorem dX12_skip_62 : decode cX12_skip 62 = .ok (.iadd, 1) := by decide +kernel
theorem dX12_skip_63 : decode cX12_skip 63 = .ok (.putfield 371, 3) := by decide +kernel
theorem dX12_skip_66 : decode cX12_skip 66 = .ok (.goto (-35), 3) := by decide +kernel
theorem dX12_skip_69 : decode cX12_skip 69 = .ok (.aload_n 0, 1) := by decide +kernel
theorem dX12_skip_70 : decode cX12_skip 70 = .ok (.getfield 44, 3) := by decide +kernel
theorem dX12_skip_73 : decode cX12_skip 73 = .ok (.aload_n 0, 1) := by decide +kernel
theorem dX12_skip_74 : decode cX12_skip 74 = .ok (.getfield 371, 3) := by decide +kernel
theorem dX12_skip_77 : decode cX12_skip 77 = .ok (.iaload, 1) := by decide +kernel
theorem dX12_skip_78 : decode cX12_skip 78 = .ok (.bipush 32, 2) := by decide +kernel
theorem dX12_skip_80 : decode cX12_skip 80 = .ok (.if_icmp .eq 17, 3) := by decide +kernel
theorem dX12_skip_83 : decode cX12_skip 83 = .ok (.aload_n 0, 1) := by decide +kernel
theorem dX12_skip_84 : decode cX12_skip 84 = .ok (.getfield 44, 3) := by decide +kernel
theorem dX12_skip_87 : decode cX12_skip 87 = .ok (.aload_n 0, 1) := by decide +kernel
theorem dX12_skip_88 : decode cX12_skip 88 = .ok (.getfield 371, 3) := by decide +kernel
theorem dX12_skip_91 : decode cX12_skip 91 = .ok (.iaload, 1) := by decide +kernel
theorem dX12_skip_92 : decode cX12_skip 92 = .ok (.bipush 10, 2) := by decide +kernel
theorem dX12_skip_94 : decode cX12_skip 94 = .ok (.if_icmp .ne 16, 3) := by decide +kernel
theorem dX12_skip_97 : decode cX12_skip 97 = .ok (.aload_n 0, 1) := by decide +kernel
theorem dX12_skip_98 : decode cX12_skip 98 = .ok (.dup, 1) := by decide +kernel
theorem dX12_skip_99 : decode cX12_skip 99 = .ok (.getfield 371, 3) := by decide +kernel
theorem dX12_skip_102 : decode cX12_skip 102 = .ok (.iconst 1, 1) := by decide +kernel
theorem dX12_skip_103 : decode cX12_skip 103 = .ok (.iadd, 1) := by decide +kernel
theorem dX12_skip_104 : decode cX12_skip 104 = .ok (.putfield 371, 3) := by decide +kernel
theorem dX12_skip_107 : decode cX12_skip 107 = .ok (.goto (-105), 3) := by decide +kernel
theorem dX12_skip_110 : decode cX12_skip 110 = .ok (.iconst 0, 1) := by decide +kernel
theorem dX12_skip_111 : decode cX12_skip 111 = .ok (.istore_n 1, 1) := by decide +kernel
theorem dX12_skip_112 : decode cX12_skip 112 = .ok (.goto (-110), 3) := by decide +kernel
theorem dX12_skip_115 : decode cX12_skip 115 = .ok (.return_, 1) := by decide +kernel
set_option maxRecDepth 20000 in
set_option maxRecDepth 20000 in
set_option maxRecDepth 20000 in
set_option maxRecDepth 20000 in
theorem dX12_reads_0 : decode cX12_reads 0 = .ok (.aload_n 0, 1) := by decide +kernel
theorem dX12_reads_1 : decode cX12_reads 1 = .ok (.iconst 0, 1) := by decide +kernel
theorem dX12_reads_2 : decode cX12_reads 2 = .ok (.putfield 371, 3) := by decide +kernel
theorem dX12_reads_5 : decode cX12_reads 5 = .ok (.aload_n 0, 1) := by decide +kernel
theorem dX12_reads_6 : decode cX12_reads 6 = .ok (.iconst 0, 1) := by decide +kernel
theorem dX12_reads_7 : decode cX12_reads 7 = .ok (.putfield 380, 3) := by decide +kernel
theorem dX12_reads_10 : decode cX12_reads 10 = .ok (.aload_n 0, 1) := by decide +kernel
theorem dX12_reads_11 : decode cX12_reads 11 = .ok (.iconst 0, 1) := by decide +kernel
theorem dX12_reads_12 : decode cX12_reads 12 = .ok (.putfield 387, 3) := by decide +kernel
theorem dX12_reads_15 : decode cX12_reads 15 = .ok (.aload_n 0, 1) := by decide +kernel
theorem dX12_reads_16 : decode cX12_reads 16 = .ok (.iconst 0, 1) := by decide +kernel
theorem dX12_reads_17 : decode cX12_reads 17 = .ok (.putfield 383, 3) := by decide +kernel
theorem dX12_reads_20 : decode cX12_reads 20 = .ok (.aload_n 0, 1) := by decide +kernel
theorem dX12_reads_21 : decode cX12_reads 21 = .ok (.iconst 0, 1) := by decide +kernel
theorem dX12_reads_22 : decode cX12_reads 22 = .ok (.putfield 377, 3) := by decide +kernel
theorem dX12_reads_25 : decode cX12_reads 25 = .ok (.aload_n 0, 1) := by decide +kernel
theorem dX12_reads_26 : decode cX12_reads 26 = .ok (.iconst (-1), 1) := by decide +kernel
theorem dX12_reads_27 : decode cX12_reads 27 = .ok (.putfield 59, 3) := by decide +kernel
theorem dX12_reads_30 : decode cX12_reads 30 = .ok (.iconst 0, 1) := by decide +kernel
theorem dX12_reads_31 : decode cX12_reads 31 = .ok (.istore_n 1, 1) := by decide +kernel
theorem dX12_reads_32 : decode cX12_reads 32 = .ok (.aload_n 0, 1) := by decide +kernel
theorem dX12_reads_33 : decode cX12_reads 33 = .ok (.invokevirtual 429, 3) := by decide +kernel
theorem dX12_reads_36 : decode cX12_reads 36 = .ok (.aload_n 0, 1) := by decide +kernel
theorem dX12_reads_37 : decode cX12_reads 37 = .ok (.getfield 377, 3) := by decide +kernel
theorem dX12_reads_40 : decode cX12_reads 40 = .ok (.ifCond .ne 29, 3) := by decide +kernel
theorem dX12_reads_43 : decode cX12_reads 43 = .ok (.aload_n 0, 1) := by decide +kernel
theorem dX12_reads_44 : decode cX12_reads 44 = .ok (.getfield 371, 3) := by decide +kernel
theorem dX12_reads_47 : decode cX12_reads 47 = .ok (.aload_n 0, 1) := by decide +kernel
theorem dX12_reads_48 : decode cX12_reads 48 = .ok (.getfield 374, 3) := by decide +kernel
theorem dX12_reads_51 : decode cX12_reads 51 = .ok (.if_icmp .ge 18, 3) := by decide +kernel
theorem dX12_reads_54 : decode cX12_reads 54 = .ok (.iinc 1 1, 3) := by decide +kernel
theorem dX12_reads_57 : decode cX12_reads 57 = .ok (.aload_n 0, 1) := by decide +kernel
theorem dX12_reads_58 : decode cX12_reads 58 = .ok (.iload_n 1, 1) := by decide +kernel
theorem dX12_reads_59 : decode cX12_reads 59 = .ok (.invokevirtual 432, 3) := by decide +kernel
theorem dX12_reads_62 : decode cX12_reads 62 = .ok (.aload_n 0, 1) := by decide +kernel
theorem dX12_reads_63 : decode cX12_reads 63 = .ok (.invokevirtual 429, 3) := by decide +kernel
theorem dX12_reads_66 : decode cX12_reads 66 = .ok (.goto (-30), 3) := by decide +kernel
theorem dX12_reads_69 : decode cX12_reads 69 = .ok (.aload_n 0, 1) := by decide +kernel
theorem dX12_reads_70 : decode cX12_reads 70 = .ok (.getfield 377, 3) := by decide +kernel
theorem dX12_reads_73 : decode cX12_reads 73 = .ok (.ifCond .ne 19, 3) := by decide +kernel
theorem dX12_reads_76 : decode cX12_reads 76 = .ok (.aload_n 0, 1) := by decide +kernel
theorem dX12_reads_77 : decode cX12_reads 77 = .ok (.getfield 383, 3) := by decide +kernel
theorem dX12_reads_80 : decode cX12_reads 80 = .ok (.ifCond .ne 12, 3) := by decide +kernel
theorem dX12_reads_83 : decode cX12_reads 83 = .ok (.aload_n 0, 1) := by decide +kernel
theorem dX12_reads_84 : decode cX12_reads 84 = .ok (.iconst 3, 1) := by decide +kernel
theorem dX12_reads_85 : decode cX12_reads 85 = .ok (.aload_n 0, 1) := by decide +kernel
theorem dX12_reads_86 : decode cX12_reads 86 = .ok (.getfield 374, 3) := by decide +kernel
theorem dX12_reads_89 : decode cX12_reads 89 = .ok (.invokevirtual 410, 3) := by decide +kernel
theorem dX12_reads_92 : decode cX12_reads 92 = .ok (.aload_n 0, 1) := by decide +kernel
theorem dX12_reads_93 : decode cX12_reads 93 = .ok (.iconst 0, 1) := by decide +kernel
theorem dX12_reads_94 : decode cX12_reads 94 = .ok (.putfield 374, 3) := by decide +kernel
theorem dX12_reads_97 : decode cX12_reads 97 = .ok (.aload_n 0, 1) := by decide +kernel
theorem dX12_reads_98 : decode cX12_reads 98 = .ok (.getfield 377, 3) := by decide +kernel
theorem dX12_reads_101 : decode cX12_reads 101 = .ok (.ifCond .ne 7, 3) := by decide +kernel
theorem dX12_reads_104 : decode cX12_reads 104 = .ok (.iconst 1, 1) := by decide +kernel
theorem dX12_reads_105 : decode cX12_reads 105 = .ok (.goto 4, 3) := by decide +kernel
theorem dX12_reads_108 : decode cX12_reads 108 = .ok (.iconst 0, 1) := by decide +kernel
theorem dX12_reads_109 : decode cX12_reads 109 = .ok (.ireturn, 1) := by decide +kernel
theorem dX12_feed_0 : decode cX12_feed 0 = .ok (.iconst 0, 1) := by decide +kernel
theorem dX12_feed_1 : decode cX12_feed 1 = .ok (.istore 6, 2) := by decide +kernel
theorem dX12_feed_3 : decode cX12_feed 3 = .ok (.iload 6, 2) := by decide +kernel
theorem dX12_feed_5 : decode cX12_feed 5 = .ok (.iconst 4, 1) := by decide +kernel
theorem dX12_feed_6 : decode cX12_feed 6 = .ok (.if_icmp .ge 127, 3) := by decide +kernel
theorem dX12_feed_9 : decode cX12_feed 9 = .ok (.aload_n 0, 1) := by decide +kernel
theorem dX12_feed_10 : decode cX12_feed 10 = .ok (.getfield 41, 3) := by decide +kernel
theorem dX12_feed_13 : decode cX12_feed 13 = .ok (.iload 6, 2) := by decide +kernel
theorem dX12_feed_15 : decode cX12_feed 15 = .ok (.iload_n 1, 1) := by decide +kernel
theorem dX12_feed_16 : decode cX12_feed 16 = .ok (.bipush 24, 2) := by decide +kernel
theorem dX12_feed_18 : decode cX12_feed 18 = .ok (.bipush 8, 2) := by decide +kernel
theorem dX12_feed_20 : decode cX12_feed 20 = .ok (.iload 6, 2) := by decide +kernel
theorem dX12_feed_22 : decode cX12_feed 22 = .ok (.imul, 1) := by decide +kernel
theorem dX12_feed_23 : decode cX12_feed 23 = .ok (.isub, 1) := by decide +kernel
theorem dX12_feed_24 : decode cX12_feed 24 = .ok (.ishr, 1) := by decide +kernel
theorem dX12_feed_25 : decode cX12_feed 25 = .ok (.sipush 255, 3) := by decide +kernel
theorem dX12_feed_28 : decode cX12_feed 28 = .ok (.iand, 1) := by decide +kernel
theorem dX12_feed_29 : decode cX12_feed 29 = .ok (.iastore, 1) := by decide +kernel
theorem dX12_feed_30 : decode cX12_feed 30 = .ok (.aload_n 0, 1) := by decide +kernel
theorem dX12_feed_31 : decode cX12_feed 31 = .ok (.getfield 41, 3) := by decide +kernel
theorem dX12_feed_34 : decode cX12_feed 34 = .ok (.iconst 4, 1) := by decide +kernel
theorem dX12_feed_35 : decode cX12_feed 35 = .ok (.iload 6, 2) := by decide +kernel
theorem dX12_feed_37 : decode cX12_feed 37 = .ok (.iadd, 1) := by decide +kernel
theorem dX12_feed_38 : decode cX12_feed 38 = .ok (.iload_n 2, 1) := by decide +kernel
theorem dX12_feed_39 : decode cX12_feed 39 = .ok (.bipush 24, 2) := by decide +kernel
theorem dX12_feed_41 : decode cX12_feed 41 = .ok (.bipush 8, 2) := by decide +kernel
theorem dX12_feed_43 : decode cX12_feed 43 = .ok (.iload 6, 2) := by decide +kernel
theorem dX12_feed_45 : decode cX12_feed 45 = .ok (.imul, 1) := by decide +kernel
theorem dX12_feed_46 : decode cX12_feed 46 = .ok (.isub, 1) := by decide +kernel
theorem dX12_feed_47 : decode cX12_feed 47 = .ok (.ishr, 1) := by decide +kernel
theorem dX12_feed_48 : decode cX12_feed 48 = .ok (.sipush 255, 3) := by decide +kernel
theorem dX12_feed_51 : decode cX12_feed 51 = .ok (.iand, 1) := by decide +kernel
theorem dX12_feed_52 : decode cX12_feed 52 = .ok (.iastore, 1) := by decide +kernel
theorem dX12_feed_53 : decode cX12_feed 53 = .ok (.aload_n 0, 1) := by decide +kernel
theorem dX12_feed_54 : decode cX12_feed 54 = .ok (.getfield 41, 3) := by decide +kernel
theorem dX12_feed_57 : decode cX12_feed 57 = .ok (.bipush 8, 2) := by decide +kernel
theorem dX12_feed_59 : decode cX12_feed 59 = .ok (.iload 6, 2) := by decide +kernel
theorem dX12_feed_61 : decode cX12_feed 61 = .ok (.iadd, 1) := by decide +kernel
theorem dX12_feed_62 : decode cX12_feed 62 = .ok (.iload_n 3, 1) := by decide +kernel
theorem dX12_feed_63 : decode cX12_feed 63 = .ok (.bipush 24, 2) := by decide +kernel
theorem dX12_feed_65 : decode cX12_feed 65 = .ok (.bipush 8, 2) := by decide +kernel
theorem dX12_feed_67 : decode cX12_feed 67 = .ok (.iload 6, 2) := by decide +kernel
theorem dX12_feed_69 : decode cX12_feed 69 = .ok (.imul, 1) := by decide +kernel
theorem dX12_feed_70 : decode cX12_feed 70 = .ok (.isub, 1) := by decide +kernel
theorem dX12_feed_71 : decode cX12_feed 71 = .ok (.ishr, 1) := by decide +kernel
theorem dX12_feed_72 : decode cX12_feed 72 = .ok (.sipush 255, 3) := by decide +kernel
theorem dX12_feed_75 : decode cX12_feed 75 = .ok (.iand, 1) := by decide +kernel
theorem dX12_feed_76 : decode cX12_feed 76 = .ok (.iastore, 1) := by decide +kernel
theorem dX12_feed_77 : decode cX12_feed 77 = .ok (.aload_n 0, 1) := by decide +kernel
theorem dX12_feed_78 : decode cX12_feed 78 = .ok (.getfield 41, 3) := by decide +kernel
theorem dX12_feed_81 : decode cX12_feed 81 = .ok (.bipush 12, 2) := by decide +kernel
theorem dX12_feed_83 : decode cX12_feed 83 = .ok (.iload 6, 2) := by decide +kernel
theorem dX12_feed_85 : decode cX12_feed 85 = .ok (.iadd, 1) := by decide +kernel
theorem dX12_feed_86 : decode cX12_feed 86 = .ok (.iload 4, 2) := by decide +kernel
theorem dX12_feed_88 : decode cX12_feed 88 = .ok (.bipush 24, 2) := by decide +kernel
theorem dX12_feed_90 : decode cX12_feed 90 = .ok (.bipush 8, 2) := by decide +kernel
theorem dX12_feed_92 : decode cX12_feed 92 = .ok (.iload 6, 2) := by decide +kernel
theorem dX12_feed_94 : decode cX12_feed 94 = .ok (.imul, 1) := by decide +kernel
theorem dX12_feed_95 : decode cX12_feed 95 = .ok (.isub, 1) := by decide +kernel
theorem dX12_feed_96 : decode cX12_feed 96 = .ok (.ishr, 1) := by decide +kernel
theorem dX12_feed_97 : decode cX12_feed 97 = .ok (.sipush 255, 3) := by decide +kernel
theorem dX12_feed_100 : decode cX12_feed 100 = .ok (.iand, 1) := by decide +kernel
theorem dX12_feed_101 : decode cX12_feed 101 = .ok (.iastore, 1) := by decide +kernel
theorem dX12_feed_102 : decode cX12_feed 102 = .ok (.aload_n 0, 1) := by decide +kernel
theorem dX12_feed_103 : decode cX12_feed 103 = .ok (.getfield 41, 3) := by decide +kernel
theorem dX12_feed_106 : decode cX12_feed 106 = .ok (.bipush 16, 2) := by decide +kernel
theorem dX12_feed_108 : decode cX12_feed 108 = .ok (.iload 6, 2) := by decide +kernel
theorem dX12_feed_110 : decode cX12_feed 110 = .ok (.iadd, 1) := by decide +kernel
theorem dX12_feed_111 : decode cX12_feed 111 = .ok (.iload 5, 2) := by decide +kernel
theorem dX12_feed_113 : decode cX12_feed 113 = .ok (.bipush 24, 2) := by decide +kernel
theorem dX12_feed_115 : decode cX12_feed 115 = .ok (.bipush 8, 2) := by decide +kernel
theorem dX12_feed_117 : decode cX12_feed 117 = .ok (.iload 6, 2) := by decide +kernel
theorem dX12_feed_119 : decode cX12_feed 119 = .ok (.imul, 1) := by decide +kernel
theorem dX12_feed_120 : decode cX12_feed 120 = .ok (.isub, 1) := by decide +kernel
theorem dX12_feed_121 : decode cX12_feed 121 = .ok (.ishr, 1) := by decide +kernel
theorem dX12_feed_122 : decode cX12_feed 122 = .ok (.sipush 255, 3) := by decide +kernel
theorem dX12_feed_125 : decode cX12_feed 125 = .ok (.iand, 1) := by decide +kernel
theorem dX12_feed_126 : decode cX12_feed 126 = .ok (.iastore, 1) := by decide +kernel
theorem dX12_feed_127 : decode cX12_feed 127 = .ok (.iinc 6 1, 3) := by decide +kernel
theorem dX12_feed_130 : decode cX12_feed 130 = .ok (.goto (-127), 3) := by decide +kernel
theorem dX12_feed_133 : decode cX12_feed 133 = .ok (.return_, 1) := by decide +kernel
set_option maxRecDepth 20000 in
set_option maxRecDepth 20000 in
set_option maxRecDepth 20000 in
set_option maxRecDepth 20000 in
set_option maxRecDepth 20000 in
set_option maxRecDepth 20000 in
theorem dX12_run_0 : decode cX12_run 0 = .ok (.aload_n 0, 1) := by decide +kernel
theorem dX12_run_1 : decode cX12_run 1 = .ok (.iconst 0, 1) := by decide +kernel
theorem dX12_run_2 : decode cX12_run 2 = .ok (.putfield 561, 3) := by decide +kernel
theorem dX12_run_5 : decode cX12_run 5 = .ok (.aload_n 0, 1) := by decide +kernel
theorem dX12_run_6 : decode cX12_run 6 = .ok (.iconst 0, 1) := by decide +kernel
theorem dX12_run_7 : decode cX12_run 7 = .ok (.putfield 480, 3) := by decide +kernel
theorem dX12_run_10 : decode cX12_run 10 = .ok (.aload_n 0, 1) := by decide +kernel
theorem dX12_run_11 : decode cX12_run 11 = .ok (.iconst 0, 1) := by decide +kernel
theorem dX12_run_12 : decode cX12_run 12 = .ok (.putfield 779, 3) := by decide +kernel
theorem dX12_run_15 : decode cX12_run 15 = .ok (.aload_n 0, 1) := by decide +kernel
theorem dX12_run_16 : decode cX12_run 16 = .ok (.iconst 0, 1) := by decide +kernel
theorem dX12_run_17 : decode cX12_run 17 = .ok (.putfield 751, 3) := by decide +kernel
theorem dX12_run_20 : decode cX12_run 20 = .ok (.aload_n 0, 1) := by decide +kernel
theorem dX12_run_21 : decode cX12_run 21 = .ok (.iconst 0, 1) := by decide +kernel
theorem dX12_run_22 : decode cX12_run 22 = .ok (.putfield 441, 3) := by decide +kernel
theorem dX12_run_25 : decode cX12_run 25 = .ok (.aload_n 0, 1) := by decide +kernel
theorem dX12_run_26 : decode cX12_run 26 = .ok (.aload_n 0, 1) := by decide +kernel
theorem dX12_run_27 : decode cX12_run 27 = .ok (.getfield 332, 3) := by decide +kernel
theorem dX12_run_30 : decode cX12_run 30 = .ok (.putfield 848, 3) := by decide +kernel
theorem dX12_run_33 : decode cX12_run 33 = .ok (.aload_n 0, 1) := by decide +kernel
theorem dX12_run_34 : decode cX12_run 34 = .ok (.iconst 0, 1) := by decide +kernel
theorem dX12_run_35 : decode cX12_run 35 = .ok (.putfield 733, 3) := by decide +kernel
theorem dX12_run_38 : decode cX12_run 38 = .ok (.aload_n 0, 1) := by decide +kernel
theorem dX12_run_39 : decode cX12_run 39 = .ok (.invokevirtual 995, 3) := by decide +kernel
theorem dX12_run_42 : decode cX12_run 42 = .ok (.aload_n 0, 1) := by decide +kernel
theorem dX12_run_43 : decode cX12_run 43 = .ok (.invokevirtual 998, 3) := by decide +kernel
theorem dX12_run_46 : decode cX12_run 46 = .ok (.ifCond .ne 13, 3) := by decide +kernel
theorem dX12_run_49 : decode cX12_run 49 = .ok (.aload_n 0, 1) := by decide +kernel
theorem dX12_run_50 : decode cX12_run 50 = .ok (.aload_n 0, 1) := by decide +kernel
theorem dX12_run_51 : decode cX12_run 51 = .ok (.getfield 848, 3) := by decide +kernel
theorem dX12_run_54 : decode cX12_run 54 = .ok (.invokevirtual 839, 3) := by decide +kernel
theorem dX12_run_57 : decode cX12_run 57 = .ok (.iconst 1, 1) := by decide +kernel
theorem dX12_run_58 : decode cX12_run 58 = .ok (.ireturn, 1) := by decide +kernel
theorem dX12_run_59 : decode cX12_run 59 = .ok (.aload_n 0, 1) := by decide +kernel
theorem dX12_run_60 : decode cX12_run 60 = .ok (.getfield 845, 3) := by decide +kernel
theorem dX12_run_63 : decode cX12_run 63 = .ok (.istore_n 1, 1) := by decide +kernel
theorem dX12_run_64 : decode cX12_run 64 = .ok (.aload_n 0, 1) := by decide +kernel
theorem dX12_run_65 : decode cX12_run 65 = .ok (.aload_n 0, 1) := by decide +kernel
theorem dX12_run_66 : decode cX12_run 66 = .ok (.getfield 390, 3) := by decide +kernel
theorem dX12_run_69 : decode cX12_run 69 = .ok (.invokevirtual 1001, 3) := by decide +kernel
theorem dX12_run_72 : decode cX12_run 72 = .ok (.istore_n 2, 1) := by decide +kernel
theorem dX12_run_73 : decode cX12_run 73 = .ok (.aload_n 0, 1) := by decide +kernel
theorem dX12_run_74 : decode cX12_run 74 = .ok (.iconst (-1), 1) := by decide +kernel
theorem dX12_run_75 : decode cX12_run 75 = .ok (.putfield 136, 3) := by decide +kernel
theorem dX12_run_78 : decode cX12_run 78 = .ok (.iload_n 2, 1) := by decide +kernel
theorem dX12_run_79 : decode cX12_run 79 = .ok (.iconst 5, 1) := by decide +kernel
theorem dX12_run_80 : decode cX12_run 80 = .ok (.if_icmp .eq 14, 3) := by decide +kernel
theorem dX12_run_83 : decode cX12_run 83 = .ok (.iload_n 2, 1) := by decide +kernel
theorem dX12_run_84 : decode cX12_run 84 = .ok (.bipush 6, 2) := by decide +kernel
theorem dX12_run_86 : decode cX12_run 86 = .ok (.if_icmp .eq 8, 3) := by decide +kernel
theorem dX12_run_89 : decode cX12_run 89 = .ok (.aload_n 0, 1) := by decide +kernel
theorem dX12_run_90 : decode cX12_run 90 = .ok (.iconst 0, 1) := by decide +kernel
theorem dX12_run_91 : decode cX12_run 91 = .ok (.putfield 751, 3) := by decide +kernel
theorem dX12_run_94 : decode cX12_run 94 = .ok (.aload_n 0, 1) := by decide +kernel
theorem dX12_run_95 : decode cX12_run 95 = .ok (.getfield 845, 3) := by decide +kernel
theorem dX12_run_98 : decode cX12_run 98 = .ok (.iload_n 1, 1) := by decide +kernel
theorem dX12_run_99 : decode cX12_run 99 = .ok (.if_icmp .gt 11, 3) := by decide +kernel
theorem dX12_run_102 : decode cX12_run 102 = .ok (.aload_n 0, 1) := by decide +kernel
theorem dX12_run_103 : decode cX12_run 103 = .ok (.aload_n 0, 1) := by decide +kernel
theorem dX12_run_104 : decode cX12_run 104 = .ok (.getfield 848, 3) := by decide +kernel
theorem dX12_run_107 : decode cX12_run 107 = .ok (.invokevirtual 839, 3) := by decide +kernel
theorem dX12_run_110 : decode cX12_run 110 = .ok (.iload_n 2, 1) := by decide +kernel
theorem dX12_run_111 : decode cX12_run 111 = .ok (.ireturn, 1) := by decide +kernel
theorem dX12_count_0 : decode cX12_count 0 = .ok (.iconst 0, 1) := by decide +kernel
theorem dX12_count_1 : decode cX12_count 1 = .ok (.istore_n 2, 1) := by decide +kernel
theorem dX12_count_2 : decode cX12_count 2 = .ok (.iconst 0, 1) := by decide +kernel
theorem dX12_count_3 : decode cX12_count 3 = .ok (.istore_n 3, 1) := by decide +kernel
theorem dX12_count_4 : decode cX12_count 4 = .ok (.iconst 0, 1) := by decide +kernel
theorem dX12_count_5 : decode cX12_count 5 = .ok (.istore 4, 2) := by decide +kernel
theorem dX12_count_7 : decode cX12_count 7 = .ok (.iload 4, 2) := by decide +kernel
theorem dX12_count_9 : decode cX12_count 9 = .ok (.aload_n 0, 1) := by decide +kernel
theorem dX12_count_10 : decode cX12_count 10 = .ok (.getfield 699, 3) := by decide +kernel
theorem dX12_count_13 : decode cX12_count 13 = .ok (.if_icmp .ge 57, 3) := by decide +kernel
theorem dX12_count_16 : decode cX12_count 16 = .ok (.iload_n 2, 1) := by decide +kernel
theorem dX12_count_17 : decode cX12_count 17 = .ok (.aload_n 0, 1) := by decide +kernel
theorem dX12_count_18 : decode cX12_count 18 = .ok (.getfield 106, 3) := by decide +kernel
theorem dX12_count_21 : decode cX12_count 21 = .ok (.iload 4, 2) := by decide +kernel
theorem dX12_count_23 : decode cX12_count 23 = .ok (.iaload, 1) := by decide +kernel
theorem dX12_count_24 : decode cX12_count 24 = .ok (.iconst (-1), 1) := by decide +kernel
theorem dX12_count_25 : decode cX12_count 25 = .ok (.if_icmp .eq 7, 3) := by decide +kernel
theorem dX12_count_28 : decode cX12_count 28 = .ok (.iconst 1, 1) := by decide +kernel
theorem dX12_count_29 : decode cX12_count 29 = .ok (.goto 4, 3) := by decide +kernel
theorem dX12_count_32 : decode cX12_count 32 = .ok (.iconst 0, 1) := by decide +kernel
theorem dX12_count_33 : decode cX12_count 33 = .ok (.iadd, 1) := by decide +kernel
theorem dX12_count_34 : decode cX12_count 34 = .ok (.istore_n 2, 1) := by decide +kernel
theorem dX12_count_35 : decode cX12_count 35 = .ok (.iload_n 3, 1) := by decide +kernel
theorem dX12_count_36 : decode cX12_count 36 = .ok (.aload_n 0, 1) := by decide +kernel
theorem dX12_count_37 : decode cX12_count 37 = .ok (.getfield 106, 3) := by decide +kernel
theorem dX12_count_40 : decode cX12_count 40 = .ok (.iload 4, 2) := by decide +kernel
theorem dX12_count_42 : decode cX12_count 42 = .ok (.iaload, 1) := by decide +kernel
theorem dX12_count_43 : decode cX12_count 43 = .ok (.iconst (-1), 1) := by decide +kernel
theorem dX12_count_44 : decode cX12_count 44 = .ok (.if_icmp .eq 17, 3) := by decide +kernel
theorem dX12_count_47 : decode cX12_count 47 = .ok (.aload_n 0, 1) := by decide +kernel
theorem dX12_count_48 : decode cX12_count 48 = .ok (.getfield 124, 3) := by decide +kernel
theorem dX12_count_51 : decode cX12_count 51 = .ok (.iload 4, 2) := by decide +kernel
theorem dX12_count_53 : decode cX12_count 53 = .ok (.baload, 1) := by decide +kernel
theorem dX12_count_54 : decode cX12_count 54 = .ok (.ifCond .eq 7, 3) := by decide +kernel
theorem dX12_count_57 : decode cX12_count 57 = .ok (.iconst 1, 1) := by decide +kernel
theorem dX12_count_58 : decode cX12_count 58 = .ok (.goto 4, 3) := by decide +kernel
theorem dX12_count_61 : decode cX12_count 61 = .ok (.iconst 0, 1) := by decide +kernel
theorem dX12_count_62 : decode cX12_count 62 = .ok (.iadd, 1) := by decide +kernel
theorem dX12_count_63 : decode cX12_count 63 = .ok (.istore_n 3, 1) := by decide +kernel
theorem dX12_count_64 : decode cX12_count 64 = .ok (.iinc 4 1, 3) := by decide +kernel
theorem dX12_count_67 : decode cX12_count 67 = .ok (.goto (-60), 3) := by decide +kernel
theorem dX12_count_70 : decode cX12_count 70 = .ok (.iload_n 1, 1) := by decide +kernel
theorem dX12_count_71 : decode cX12_count 71 = .ok (.ifCond .ne 10, 3) := by decide +kernel
theorem dX12_count_74 : decode cX12_count 74 = .ok (.aload_n 0, 1) := by decide +kernel
theorem dX12_count_75 : decode cX12_count 75 = .ok (.getfield 474, 3) := by decide +kernel
theorem dX12_count_78 : decode cX12_count 78 = .ok (.goto 46, 3) := by decide +kernel
theorem dX12_count_81 : decode cX12_count 81 = .ok (.iload_n 1, 1) := by decide +kernel
theorem dX12_count_82 : decode cX12_count 82 = .ok (.iconst 1, 1) := by decide +kernel
theorem dX12_count_83 : decode cX12_count 83 = .ok (.if_icmp .ne 10, 3) := by decide +kernel
theorem dX12_count_86 : decode cX12_count 86 = .ok (.aload_n 0, 1) := by decide +kernel
theorem dX12_count_87 : decode cX12_count 87 = .ok (.getfield 699, 3) := by decide +kernel
theorem dX12_count_90 : decode cX12_count 90 = .ok (.goto 34, 3) := by decide +kernel
theorem dX12_count_93 : decode cX12_count 93 = .ok (.iload_n 1, 1) := by decide +kernel
theorem dX12_count_94 : decode cX12_count 94 = .ok (.iconst 2, 1) := by decide +kernel
theorem dX12_count_95 : decode cX12_count 95 = .ok (.if_icmp .ne 7, 3) := by decide +kernel
theorem dX12_count_98 : decode cX12_count 98 = .ok (.iload_n 2, 1) := by decide +kernel
theorem dX12_count_99 : decode cX12_count 99 = .ok (.goto 25, 3) := by decide +kernel
theorem dX12_count_102 : decode cX12_count 102 = .ok (.iload_n 1, 1) := by decide +kernel
theorem dX12_count_103 : decode cX12_count 103 = .ok (.iconst 3, 1) := by decide +kernel
theorem dX12_count_104 : decode cX12_count 104 = .ok (.if_icmp .ne 7, 3) := by decide +kernel
theorem dX12_count_107 : decode cX12_count 107 = .ok (.iload_n 3, 1) := by decide +kernel
theorem dX12_count_108 : decode cX12_count 108 = .ok (.goto 16, 3) := by decide +kernel
theorem dX12_count_111 : decode cX12_count 111 = .ok (.iload_n 1, 1) := by decide +kernel
theorem dX12_count_112 : decode cX12_count 112 = .ok (.iconst 4, 1) := by decide +kernel
theorem dX12_count_113 : decode cX12_count 113 = .ok (.if_icmp .ne 10, 3) := by decide +kernel
theorem dX12_count_116 : decode cX12_count 116 = .ok (.aload_n 0, 1) := by decide +kernel
theorem dX12_count_117 : decode cX12_count 117 = .ok (.getfield 751, 3) := by decide +kernel
theorem dX12_count_120 : decode cX12_count 120 = .ok (.goto 4, 3) := by decide +kernel
theorem dX12_count_123 : decode cX12_count 123 = .ok (.iconst (-1), 1) := by decide +kernel
theorem dX12_count_124 : decode cX12_count 124 = .ok (.ireturn, 1) := by decide +kernel
set_option maxRecDepth 20000 in
set_option maxRecDepth 20000 in
theorem dX12_tell_0 : decode cX12_tell 0 = .ok (.iload_n 1, 1) := by decide +kernel
theorem dX12_tell_1 : decode cX12_tell 1 = .ok (.ifCond .lt 11, 3) := by decide +kernel
theorem dX12_tell_4 : decode cX12_tell 4 = .ok (.iload_n 1, 1) := by decide +kernel
theorem dX12_tell_5 : decode cX12_tell 5 = .ok (.aload_n 0, 1) := by decide +kernel
theorem dX12_tell_6 : decode cX12_tell 6 = .ok (.getfield 845, 3) := by decide +kernel
theorem dX12_tell_9 : decode cX12_tell 9 = .ok (.if_icmp .lt 5, 3) := by decide +kernel
theorem dX12_tell_12 : decode cX12_tell 12 = .ok (.iconst (-1), 1) := by decide +kernel
theorem dX12_tell_13 : decode cX12_tell 13 = .ok (.ireturn, 1) := by decide +kernel
theorem dX12_tell_14 : decode cX12_tell 14 = .ok (.aload_n 0, 1) := by decide +kernel
theorem dX12_tell_15 : decode cX12_tell 15 = .ok (.getfield 332, 3) := by decide +kernel
theorem dX12_tell_18 : decode cX12_tell 18 = .ok (.istore_n 2, 1) := by decide +kernel
theorem dX12_tell_19 : decode cX12_tell 19 = .ok (.iconst 0, 1) := by decide +kernel
theorem dX12_tell_20 : decode cX12_tell 20 = .ok (.istore_n 3, 1) := by decide +kernel
theorem dX12_tell_21 : decode cX12_tell 21 = .ok (.iconst 0, 1) := by decide +kernel
theorem dX12_tell_22 : decode cX12_tell 22 = .ok (.istore 4, 2) := by decide +kernel
theorem dX12_tell_24 : decode cX12_tell 24 = .ok (.iload 4, 2) := by decide +kernel
theorem dX12_tell_26 : decode cX12_tell 26 = .ok (.iload_n 1, 1) := by decide +kernel
theorem dX12_tell_27 : decode cX12_tell 27 = .ok (.if_icmp .ge 51, 3) := by decide +kernel
theorem dX12_tell_30 : decode cX12_tell 30 = .ok (.iload_n 3, 1) := by decide +kernel
theorem dX12_tell_31 : decode cX12_tell 31 = .ok (.aload_n 0, 1) := by decide +kernel
theorem dX12_tell_32 : decode cX12_tell 32 = .ok (.getfield 130, 3) := by decide +kernel
theorem dX12_tell_35 : decode cX12_tell 35 = .ok (.iload 4, 2) := by decide +kernel
theorem dX12_tell_37 : decode cX12_tell 37 = .ok (.iaload, 1) := by decide +kernel
theorem dX12_tell_38 : decode cX12_tell 38 = .ok (.iconst 1, 1) := by decide +kernel
theorem dX12_tell_39 : decode cX12_tell 39 = .ok (.if_icmp .ne 7, 3) := by decide +kernel
theorem dX12_tell_42 : decode cX12_tell 42 = .ok (.iconst 1, 1) := by decide +kernel
theorem dX12_tell_43 : decode cX12_tell 43 = .ok (.goto 4, 3) := by decide +kernel
theorem dX12_tell_46 : decode cX12_tell 46 = .ok (.iconst 0, 1) := by decide +kernel
theorem dX12_tell_47 : decode cX12_tell 47 = .ok (.aload_n 0, 1) := by decide +kernel
theorem dX12_tell_48 : decode cX12_tell 48 = .ok (.getfield 130, 3) := by decide +kernel
theorem dX12_tell_51 : decode cX12_tell 51 = .ok (.iload_n 1, 1) := by decide +kernel
theorem dX12_tell_52 : decode cX12_tell 52 = .ok (.iaload, 1) := by decide +kernel
theorem dX12_tell_53 : decode cX12_tell 53 = .ok (.iconst 1, 1) := by decide +kernel
theorem dX12_tell_54 : decode cX12_tell 54 = .ok (.if_icmp .ne 7, 3) := by decide +kernel
theorem dX12_tell_57 : decode cX12_tell 57 = .ok (.iconst 1, 1) := by decide +kernel
theorem dX12_tell_58 : decode cX12_tell 58 = .ok (.goto 4, 3) := by decide +kernel
theorem dX12_tell_61 : decode cX12_tell 61 = .ok (.iconst 0, 1) := by decide +kernel
theorem dX12_tell_62 : decode cX12_tell 62 = .ok (.if_icmp .ne 7, 3) := by decide +kernel
theorem dX12_tell_65 : decode cX12_tell 65 = .ok (.iconst 1, 1) := by decide +kernel
theorem dX12_tell_66 : decode cX12_tell 66 = .ok (.goto 4, 3) := by decide +kernel
theorem dX12_tell_69 : decode cX12_tell 69 = .ok (.iconst 0, 1) := by decide +kernel
theorem dX12_tell_70 : decode cX12_tell 70 = .ok (.iadd, 1) := by decide +kernel
theorem dX12_tell_71 : decode cX12_tell 71 = .ok (.istore_n 3, 1) := by decide +kernel
theorem dX12_tell_72 : decode cX12_tell 72 = .ok (.iinc 4 1, 3) := by decide +kernel
theorem dX12_tell_75 : decode cX12_tell 75 = .ok (.goto (-51), 3) := by decide +kernel
theorem dX12_tell_78 : decode cX12_tell 78 = .ok (.aload_n 0, 1) := by decide +kernel
theorem dX12_tell_79 : decode cX12_tell 79 = .ok (.getfield 130, 3) := by decide +kernel
theorem dX12_tell_82 : decode cX12_tell 82 = .ok (.iload_n 1, 1) := by decide +kernel
theorem dX12_tell_83 : decode cX12_tell 83 = .ok (.iaload, 1) := by decide +kernel
theorem dX12_tell_84 : decode cX12_tell 84 = .ok (.iconst 1, 1) := by decide +kernel
theorem dX12_tell_85 : decode cX12_tell 85 = .ok (.if_icmp .ne 118, 3) := by decide +kernel
theorem dX12_tell_88 : decode cX12_tell 88 = .ok (.iconst 0, 1) := by decide +kernel
theorem dX12_tell_89 : decode cX12_tell 89 = .ok (.istore 4, 2) := by decide +kernel
theorem dX12_tell_91 : decode cX12_tell 91 = .ok (.aload_n 0, 1) := by decide +kernel
theorem dX12_tell_92 : decode cX12_tell 92 = .ok (.getfield 81, 3) := by decide +kernel
theorem dX12_tell_95 : decode cX12_tell 95 = .ok (.iload_n 3, 1) := by decide +kernel
theorem dX12_tell_96 : decode cX12_tell 96 = .ok (.iaload, 1) := by decide +kernel
theorem dX12_tell_97 : decode cX12_tell 97 = .ok (.iconst 1, 1) := by decide +kernel
theorem dX12_tell_98 : decode cX12_tell 98 = .ok (.isub, 1) := by decide +kernel
theorem dX12_tell_99 : decode cX12_tell 99 = .ok (.istore 5, 2) := by decide +kernel
theorem dX12_tell_101 : decode cX12_tell 101 = .ok (.iload 5, 2) := by decide +kernel
theorem dX12_tell_103 : decode cX12_tell 103 = .ok (.ifCond .lt 29, 3) := by decide +kernel
theorem dX12_tell_106 : decode cX12_tell 106 = .ok (.aload_n 0, 1) := by decide +kernel
theorem dX12_tell_107 : decode cX12_tell 107 = .ok (.aload_n 0, 1) := by decide +kernel
theorem dX12_tell_108 : decode cX12_tell 108 = .ok (.getfield 84, 3) := by decide +kernel
theorem dX12_tell_111 : decode cX12_tell 111 = .ok (.bipush 6, 2) := by decide +kernel
theorem dX12_tell_113 : decode cX12_tell 113 = .ok (.iload_n 3, 1) := by decide +kernel
theorem dX12_tell_114 : decode cX12_tell 114 = .ok (.imul, 1) := by decide +kernel
theorem dX12_tell_115 : decode cX12_tell 115 = .ok (.iload 5, 2) := by decide +kernel
theorem dX12_tell_117 : decode cX12_tell 117 = .ok (.iadd, 1) := by decide +kernel
theorem dX12_tell_118 : decode cX12_tell 118 = .ok (.iaload, 1) := by decide +kernel
theorem dX12_tell_119 : decode cX12_tell 119 = .ok (.iload 4, 2) := by decide +kernel
theorem dX12_tell_121 : decode cX12_tell 121 = .ok (.invokevirtual 353, 3) := by decide +kernel
theorem dX12_tell_124 : decode cX12_tell 124 = .ok (.istore 4, 2) := by decide +kernel
theorem dX12_tell_126 : decode cX12_tell 126 = .ok (.iinc 5 (-1), 3) := by decide +kernel
theorem dX12_tell_129 : decode cX12_tell 129 = .ok (.goto (-28), 3) := by decide +kernel
theorem dX12_tell_132 : decode cX12_tell 132 = .ok (.aload_n 0, 1) := by decide +kernel
theorem dX12_tell_133 : decode cX12_tell 133 = .ok (.getfield 93, 3) := by decide +kernel
theorem dX12_tell_136 : decode cX12_tell 136 = .ok (.iload_n 3, 1) := by decide +kernel
theorem dX12_tell_137 : decode cX12_tell 137 = .ok (.baload, 1) := by decide +kernel
theorem dX12_tell_138 : decode cX12_tell 138 = .ok (.ifCond .eq 22, 3) := by decide +kernel
theorem dX12_tell_141 : decode cX12_tell 141 = .ok (.aload_n 0, 1) := by decide +kernel
theorem dX12_tell_142 : decode cX12_tell 142 = .ok (.aload_n 0, 1) := by decide +kernel
theorem dX12_tell_143 : decode cX12_tell 143 = .ok (.getfield 87, 3) := by decide +kernel
theorem dX12_tell_146 : decode cX12_tell 146 = .ok (.iload_n 3, 1) := by decide +kernel
theorem dX12_tell_147 : decode cX12_tell 147 = .ok (.iaload, 1) := by decide +kernel
theorem dX12_tell_148 : decode cX12_tell 148 = .ok (.aload_n 0, 1) := by decide +kernel
theorem dX12_tell_149 : decode cX12_tell 149 = .ok (.getfield 90, 3) := by decide +kernel
theorem dX12_tell_152 : decode cX12_tell 152 = .ok (.iload_n 3, 1) := by decide +kernel
theorem dX12_tell_153 : decode cX12_tell 153 = .ok (.iaload, 1) := by decide +kernel
theorem dX12_tell_154 : decode cX12_tell 154 = .ok (.invokevirtual 359, 3) := by decide +kernel
theorem dX12_tell_157 : decode cX12_tell 157 = .ok (.goto 13, 3) := by decide +kernel
theorem dX12_tell_160 : decode cX12_tell 160 = .ok (.aload_n 0, 1) := by decide +kernel
theorem dX12_tell_161 : decode cX12_tell 161 = .ok (.aload_n 0, 1) := by decide +kernel
theorem dX12_tell_162 : decode cX12_tell 162 = .ok (.getfield 87, 3) := by decide +kernel
theorem dX12_tell_165 : decode cX12_tell 165 = .ok (.iload_n 3, 1) := by decide +kernel
theorem dX12_tell_166 : decode cX12_tell 166 = .ok (.iaload, 1) := by decide +kernel
theorem dX12_tell_167 : decode cX12_tell 167 = .ok (.invokevirtual 356, 3) := by decide +kernel
theorem dX12_tell_170 : decode cX12_tell 170 = .ok (.istore 5, 2) := by decide +kernel
theorem dX12_tell_172 : decode cX12_tell 172 = .ok (.aload_n 0, 1) := by decide +kernel
theorem dX12_tell_173 : decode cX12_tell 173 = .ok (.aload_n 0, 1) := by decide +kernel
theorem dX12_tell_174 : decode cX12_tell 174 = .ok (.bipush 17, 2) := by decide +kernel
theorem dX12_tell_176 : decode cX12_tell 176 = .ok (.aload_n 0, 1) := by decide +kernel
theorem dX12_tell_177 : decode cX12_tell 177 = .ok (.aload_n 0, 1) := by decide +kernel
theorem dX12_tell_178 : decode cX12_tell 178 = .ok (.getfield 78, 3) := by decide +kernel
theorem dX12_tell_181 : decode cX12_tell 181 = .ok (.iload_n 3, 1) := by decide +kernel
theorem dX12_tell_182 : decode cX12_tell 182 = .ok (.iaload, 1) := by decide +kernel
theorem dX12_tell_183 : decode cX12_tell 183 = .ok (.aload_n 0, 1) := by decide +kernel
theorem dX12_tell_184 : decode cX12_tell 184 = .ok (.iload 4, 2) := by decide +kernel
theorem dX12_tell_186 : decode cX12_tell 186 = .ok (.iload 5, 2) := by decide +kernel
theorem dX12_tell_188 : decode cX12_tell 188 = .ok (.invokevirtual 353, 3) := by decide +kernel
theorem dX12_tell_191 : decode cX12_tell 191 = .ok (.invokevirtual 353, 3) := by decide +kernel
theorem dX12_tell_194 : decode cX12_tell 194 = .ok (.invokevirtual 353, 3) := by decide +kernel
theorem dX12_tell_197 : decode cX12_tell 197 = .ok (.invokevirtual 785, 3) := by decide +kernel
theorem dX12_tell_200 : decode cX12_tell 200 = .ok (.goto 25, 3) := by decide +kernel
theorem dX12_tell_203 : decode cX12_tell 203 = .ok (.aload_n 0, 1) := by decide +kernel
theorem dX12_tell_204 : decode cX12_tell 204 = .ok (.aload_n 0, 1) := by decide +kernel
theorem dX12_tell_205 : decode cX12_tell 205 = .ok (.bipush 18, 2) := by decide +kernel
theorem dX12_tell_207 : decode cX12_tell 207 = .ok (.aload_n 0, 1) := by decide +kernel
theorem dX12_tell_208 : decode cX12_tell 208 = .ok (.getfield 97, 3) := by decide +kernel
theorem dX12_tell_211 : decode cX12_tell 211 = .ok (.iload_n 3, 1) := by decide +kernel
theorem dX12_tell_212 : decode cX12_tell 212 = .ok (.iaload, 1) := by decide +kernel
theorem dX12_tell_213 : decode cX12_tell 213 = .ok (.aload_n 0, 1) := by decide +kernel
theorem dX12_tell_214 : decode cX12_tell 214 = .ok (.getfield 100, 3) := by decide +kernel
theorem dX12_tell_217 : decode cX12_tell 217 = .ok (.iload_n 3, 1) := by decide +kernel
theorem dX12_tell_218 : decode cX12_tell 218 = .ok (.iaload, 1) := by decide +kernel
theorem dX12_tell_219 : decode cX12_tell 219 = .ok (.invokevirtual 362, 3) := by decide +kernel
theorem dX12_tell_222 : decode cX12_tell 222 = .ok (.invokevirtual 785, 3) := by decide +kernel
theorem dX12_tell_225 : decode cX12_tell 225 = .ok (.aload_n 0, 1) := by decide +kernel
theorem dX12_tell_226 : decode cX12_tell 226 = .ok (.iload_n 2, 1) := by decide +kernel
theorem dX12_tell_227 : decode cX12_tell 227 = .ok (.invokevirtual 839, 3) := by decide +kernel
theorem dX12_tell_230 : decode cX12_tell 230 = .ok (.aload_n 0, 1) := by decide +kernel
theorem dX12_tell_231 : decode cX12_tell 231 = .ok (.getfield 441, 3) := by decide +kernel
theorem dX12_tell_234 : decode cX12_tell 234 = .ok (.ireturn, 1) := by decide +kernel

set_option maxHeartbeats 4000000 in
set_option maxRecDepth 100000 in
/-- feed(..) -/
theorem c_m_feed (l : Launch) (D : va_G) (ca : Nat → ClassId) (h0 sz : Nat) (ad : Nat → Nat) (u : mST) (a : Int32) (b : Int32) (c1 : Int32) (d : Int32) (e1 : Int32)   : Met l yX12_feed wsX12_feed pR_0 (va_Pc [.ref (h0), .int (a), .int (b), .int (c1), .int (d), .int (e1)] (fun U => U.heap.size = sz ∧ mWd D ca (fun _ => True) h0 ad u U)) (va_Qv (fun v : mST => v.1 = u.1 ∧ (∀ g : Nat, g ≠ 12 → v.2.1 g = u.2.1 g) ∧ v.2.2 = u.2.2) (mWd D ca (va_A (mCl ca h0 ad u) sz) h0 ad) (va_A (mCl ca h0 ad u) sz)) 0 0 (va_A (mCl ca h0 ad u) sz) := by
  refine Met.ofW (cc := cX12_feed) (maxL := 7) (ret := none) (by decide) rfl ?_
  intro p e s m args below meth c s₁ B hml hv
  obtain ⟨rfl, hsz, hP, hK, hD0⟩ := hv
  have hx := B.exec
  have hb := B.bytes
  have hr := B.returns
  have hts := atoms_spec (ws := wsX12_feed) B.pre
  have hown : s.vm.findClass RX12 = some m.cls := findClass_of_methodNamed B.named
  have hlocks := B.notSynchronized
  subst hsz
  have hD := hD0.self (sz := s.heap.size)
  generalize hAe : va_A (mCl ca h0 ad u) s.heap.size = A at hD ⊢
  have hA : ∀ q : Nat, s.heap.size ≤ q → A q := fun q h => by rw [← hAe]; exact Or.inr h
  have hS : va_S A s.heap s.heap [] := va_S.rf
  have L_waiting := hts (.fieldLink RX12 41 "ProofHouseModel" "waiting" "[I") (by decide +kernel)
  have hin : ∀ w ∈ wsX120, w ∈ wsX12_feed := fun w h => List.mem_cons_of_mem _ (List.mem_append_right _ h)
  have hl := lv_entry ([.ref (h0), .int (a), .int (b), .int (c1), .int (d), .int (e1)]) (n := 7) (Nat.le_of_ble_eq_true rfl)
  rw [lg_entry_eq]
  generalize (lg_sl ([.ref (h0), .int (a), .int (b), .int (c1), .int (d), .int (e1)]) ++ List.replicate (7 - (lg_sl ([.ref (h0), .int (a), .int (b), .int (c1), .int (d), .int (e1)])).length) Slot.unset).toArray = ls at hl ⊢
  have hl : lv_has ls 7 [(0, .ref (h0)), (1, .int (a)), (2, .int (b)), (3, .int (c1)), (4, .int (d)), (5, .int (e1))] := hl
  refine lv_iconst hx hb dX12_feed_0 (v := 0) rfl ?_
  refine lv_istore hx hb dX12_feed_1 hl (by decide) rfl (fun ls hl => ?_)
  have hl : lv_has ls 7 [(6, .int (0)), (0, .ref (h0)), (1, .int (a)), (2, .int (b)), (3, .int (c1)), (4, .int (d)), (5, .int (e1))] := hl
  refine w_loopS (nL := 7) (sta := fun q : mST × Nat => q.1) (lst := fun q : mST × Nat => [(6, .int (nI q.2)), (0, .ref h0), (1, .int a), (2, .int b), (3, .int c1), (4, .int d), (5, .int e1)]) (μ := fun q => 4 - q.2) (I := fun q => q.2 ≤ 4 ∧ q.1.1 = u.1 ∧ (∀ g : Nat, g ≠ 12 → q.1.2.1 g = u.2.1 g) ∧ q.1.2.2 = u.2.2) ?_ (u, 0) ls ⟨Nat.zero_le _, rfl, fun _ _ => rfl, rfl⟩ hP hD hS hl
  clear hP hD hS hl
  intro q H locs ls hI hP hD hS hl ih
  obtain ⟨w, j⟩ := q
  obtain ⟨hI1, hI2, hI4, hI5⟩ := hI
  dsimp only at hI1 hI2 hI4 hI5 hP hD
  have hl : lv_has ls 7 [(6, .int (nI j)), (0, .ref (h0)), (1, .int (a)), (2, .int (b)), (3, .int (c1)), (4, .int (d)), (5, .int (e1))] := hl
  refine lv_iload hx hb dX12_feed_3 (lv_at hl 0 rfl) ?_
  refine lv_iconst hx hb dX12_feed_5 (v := 4) rfl ?_
  refine lv_icmp_ge hx hb dX12_feed_6 (tgt := 133) rfl (fun h1 => ?_) (fun h1 => ?_)
  · exact W.vret hx hb hr (fun t ht hW => ⟨⟨w, rfl, ⟨hI2, hI4, hI5⟩, by rw [ht]; exact hP, va_K.moved hW.alike hK, hD⟩, hS.F ht⟩) hS.2.2 dX12_feed_133
  · have hj : j < 4 := by
      rcases Nat.lt_or_ge j 4 with h | h
      · exact h
      · exact absurd (nI_le h (by omega)) h1
    refine lv_aload_n hx hb dX12_feed_9 rfl (lv_at hl 1 rfl) ?_
    refine va_get (D := D) (ci := 12) (v := .ref (ad 12)) (C := RX12) (T := TX12) (N := 149) hx hb hts hin hown hK hP 0 mH_0 rfl 12 (by decide) L_waiting (fun _ h9 => h9) mF_12 dX12_feed_10 ?_
    refine lv_iload hx hb dX12_feed_13 (lv_at hl 0 rfl) ?_
    refine lv_iload_n hx hb dX12_feed_15 rfl (lv_at hl 2 rfl) ?_
    refine lv_bipush hx hb dX12_feed_16 (v := 24) rfl ?_
    refine lv_bipush hx hb dX12_feed_18 (v := 8) rfl ?_
    refine lv_iload hx hb dX12_feed_20 (lv_at hl 0 rfl) ?_
    refine lv_imul hx hb dX12_feed_22 ?_
    refine lv_topi (fun v2 ev2 => ?_)
    refine lv_isub hx hb dX12_feed_23 ?_
    refine lv_topi (fun v3 ev3 => ?_)
    refine lv_ishr hx hb dX12_feed_24 ?_
    refine lv_topi (fun v4 ev4 => ?_)
    refine lv_sipush hx hb dX12_feed_25 (v := 255) rfl ?_
    refine lv_iand hx hb dX12_feed_28 ?_
    refine lv_topi (fun v5 ev5 => ?_)
    refine va_iast hx hb hK hP hD hS 10 9 mG_12 rfl (vp_in_nI (by omega) (by decide)) dX12_feed_29 (fun H locs hP hD hS => ?_)
    rw [mSA_12] at hP hD
    refine lv_aload_n hx hb dX12_feed_30 rfl (lv_at hl 1 rfl) ?_
    refine va_get (D := D) (ci := 12) (v := .ref (ad 12)) (C := RX12) (T := TX12) (N := 149) hx hb hts hin hown hK hP 0 mH_0 rfl 12 (by decide) L_waiting (fun _ h9 => h9) mF_12 dX12_feed_31 ?_
    refine lv_iconst hx hb dX12_feed_34 (v := 4) rfl ?_
    refine lv_iload hx hb dX12_feed_35 (lv_at hl 0 rfl) ?_
    refine lv_iadd hx hb dX12_feed_37 ?_
    refine lv_topi (fun v6 ev6 => ?_)
    refine lv_iload_n hx hb dX12_feed_38 rfl (lv_at hl 3 rfl) ?_
    refine lv_bipush hx hb dX12_feed_39 (v := 24) rfl ?_
    refine lv_bipush hx hb dX12_feed_41 (v := 8) rfl ?_
    refine lv_iload hx hb dX12_feed_43 (lv_at hl 0 rfl) ?_
    refine lv_imul hx hb dX12_feed_45 ?_
    refine lv_topi (fun v7 ev7 => ?_)
    refine lv_isub hx hb dX12_feed_46 ?_
    refine lv_topi (fun v8 ev8 => ?_)
    refine lv_ishr hx hb dX12_feed_47 ?_
    refine lv_topi (fun v9 ev9 => ?_)
    refine lv_sipush hx hb dX12_feed_48 (v := 255) rfl ?_
    refine lv_iand hx hb dX12_feed_51 ?_
    refine lv_topi (fun v10 ev10 => ?_)
    refine va_iast hx hb hK hP hD hS 10 9 mG_12 rfl (by rw [ev6, show (4 : Int32) = nI 4 from rfl, nI_add]; exact vp_in_nI (by omega) (by decide)) dX12_feed_52 (fun H locs hP hD hS => ?_)
    rw [mSA_12] at hP hD
    refine lv_aload_n hx hb dX12_feed_53 rfl (lv_at hl 1 rfl) ?_
    refine va_get (D := D) (ci := 12) (v := .ref (ad 12)) (C := RX12) (T := TX12) (N := 149) hx hb hts hin hown hK hP 0 mH_0 rfl 12 (by decide) L_waiting (fun _ h9 => h9) mF_12 dX12_feed_54 ?_
    refine lv_bipush hx hb dX12_feed_57 (v := 8) rfl ?_
    refine lv_iload hx hb dX12_feed_59 (lv_at hl 0 rfl) ?_
    refine lv_iadd hx hb dX12_feed_61 ?_
    refine lv_topi (fun v11 ev11 => ?_)
    refine lv_iload_n hx hb dX12_feed_62 rfl (lv_at hl 4 rfl) ?_
    refine lv_bipush hx hb dX12_feed_63 (v := 24) rfl ?_
    refine lv_bipush hx hb dX12_feed_65 (v := 8) rfl ?_
    refine lv_iload hx hb dX12_feed_67 (lv_at hl 0 rfl) ?_
    refine lv_imul hx hb dX12_feed_69 ?_
    refine lv_topi (fun v12 ev12 => ?_)
    refine lv_isub hx hb dX12_feed_70 ?_
    refine lv_topi (fun v13 ev13 => ?_)
    refine lv_ishr hx hb dX12_feed_71 ?_
    refine lv_topi (fun v14 ev14 => ?_)
    refine lv_sipush hx hb dX12_feed_72 (v := 255) rfl ?_
    refine lv_iand hx hb dX12_feed_75 ?_
    refine lv_topi (fun v15 ev15 => ?_)
    refine va_iast hx hb hK hP hD hS 10 9 mG_12 rfl (by rw [ev11, show (8 : Int32) = nI 8 from rfl, nI_add]; exact vp_in_nI (by omega) (by decide)) dX12_feed_76 (fun H locs hP hD hS => ?_)
    rw [mSA_12] at hP hD
    refine lv_aload_n hx hb dX12_feed_77 rfl (lv_at hl 1 rfl) ?_
    refine va_get (D := D) (ci := 12) (v := .ref (ad 12)) (C := RX12) (T := TX12) (N := 149) hx hb hts hin hown hK hP 0 mH_0 rfl 12 (by decide) L_waiting (fun _ h9 => h9) mF_12 dX12_feed_78 ?_
    refine lv_bipush hx hb dX12_feed_81 (v := 12) rfl ?_
    refine lv_iload hx hb dX12_feed_83 (lv_at hl 0 rfl) ?_
    refine lv_iadd hx hb dX12_feed_85 ?_
    refine lv_topi (fun v16 ev16 => ?_)
    refine lv_iload hx hb dX12_feed_86 (lv_at hl 5 rfl) ?_
    refine lv_bipush hx hb dX12_feed_88 (v := 24) rfl ?_
    refine lv_bipush hx hb dX12_feed_90 (v := 8) rfl ?_
    refine lv_iload hx hb dX12_feed_92 (lv_at hl 0 rfl) ?_
    refine lv_imul hx hb dX12_feed_94 ?_
    refine lv_topi (fun v17 ev17 => ?_)
    refine lv_isub hx hb dX12_feed_95 ?_
    refine lv_topi (fun v18 ev18 => ?_)
    refine lv_ishr hx hb dX12_feed_96 ?_
    refine lv_topi (fun v19 ev19 => ?_)
    refine lv_sipush hx hb dX12_feed_97 (v := 255) rfl ?_
    refine lv_iand hx hb dX12_feed_100 ?_
    refine lv_topi (fun v20 ev20 => ?_)
    refine va_iast hx hb hK hP hD hS 10 9 mG_12 rfl (by rw [ev16, show (12 : Int32) = nI 12 from rfl, nI_add]; exact vp_in_nI (by omega) (by decide)) dX12_feed_101 (fun H locs hP hD hS => ?_)
    rw [mSA_12] at hP hD
    refine lv_aload_n hx hb dX12_feed_102 rfl (lv_at hl 1 rfl) ?_
    refine va_get (D := D) (ci := 12) (v := .ref (ad 12)) (C := RX12) (T := TX12) (N := 149) hx hb hts hin hown hK hP 0 mH_0 rfl 12 (by decide) L_waiting (fun _ h9 => h9) mF_12 dX12_feed_103 ?_
    refine lv_bipush hx hb dX12_feed_106 (v := 16) rfl ?_
    refine lv_iload hx hb dX12_feed_108 (lv_at hl 0 rfl) ?_
    refine lv_iadd hx hb dX12_feed_110 ?_
    refine lv_topi (fun v21 ev21 => ?_)
    refine lv_iload hx hb dX12_feed_111 (lv_at hl 6 rfl) ?_
    refine lv_bipush hx hb dX12_feed_113 (v := 24) rfl ?_
    refine lv_bipush hx hb dX12_feed_115 (v := 8) rfl ?_
    refine lv_iload hx hb dX12_feed_117 (lv_at hl 0 rfl) ?_
    refine lv_imul hx hb dX12_feed_119 ?_
    refine lv_topi (fun v22 ev22 => ?_)
    refine lv_isub hx hb dX12_feed_120 ?_
    refine lv_topi (fun v23 ev23 => ?_)
    refine lv_ishr hx hb dX12_feed_121 ?_
    refine lv_topi (fun v24 ev24 => ?_)
    refine lv_sipush hx hb dX12_feed_122 (v := 255) rfl ?_
    refine lv_iand hx hb dX12_feed_125 ?_
    refine lv_topi (fun v25 ev25 => ?_)
    refine va_iast hx hb hK hP hD hS 10 9 mG_12 rfl (by rw [ev21, show (16 : Int32) = nI 16 from rfl, nI_add]; exact vp_in_nI (by omega) (by decide)) dX12_feed_126 (fun H locs hP hD hS => ?_)
    rw [mSA_12] at hP hD
    refine lv_iinc (v := nI j + 1) hx hb dX12_feed_127 hl (k := 0) rfl rfl (by decide) rfl (fun ls hl => ?_)
    have hl : lv_has ls 7 [(6, .int (nI j + 1)), (0, .ref (h0)), (1, .int (a)), (2, .int (b)), (3, .int (c1)), (4, .int (d)), (5, .int (e1))] := hl
    refine lv_goto hx hb dX12_feed_130 (tgt := 3) rfl ?_
    refine ih (mA (mA (mA (mA (mA w 12 (nI j).toNatClampNeg (v5)) 12 (v6).toNatClampNeg (v10)) 12 (v11).toNatClampNeg (v15)) 12 (v16).toNatClampNeg (v20)) 12 (v21).toNatClampNeg (v25), j + 1) H locs ls ⟨by show j + 1 ≤ 4; omega, hI2, fun g h1 => ?_, hI5⟩ (by show 4 - (j + 1) < 4 - j; omega) hP hD hS (by rw [nI_1] at hl; exact hl)
    rw [← hI4 g h1]
    rw [mA_n _ _ _ h1, mA_n _ _ _ h1, mA_n _ _ _ h1, mA_n _ _ _ h1, mA_n _ _ _ h1]

set_option maxHeartbeats 4000000 in
set_option maxRecDepth 100000 in
/-- count(what) without theorems -/
theorem c_m_count0 (l : Launch) (D : va_G) (ca : Nat → ClassId) (h0 sz : Nat) (ad : Nat → Nat) (u : mST) (a : Int32)  (hT : u.1 42 = 0) : Met l yX12_count wsX12_count pR_0 (va_Pc [.ref (h0), .int (a)] (fun U => U.heap.size = sz ∧ mWd D ca (fun _ => True) h0 ad u U)) (va_Qi (fun (r : Int32) (v : mST) => v = u ∧ r = if a = 0 then u.1 35 else if a = 1 then u.1 42 else if a = 2 then 0 else if a = 3 then 0 else if a = 4 then u.1 63 else -1) (mWd D ca (va_A (mCl ca h0 ad u) sz) h0 ad) (va_A (mCl ca h0 ad u) sz)) 0 0 (va_A (mCl ca h0 ad u) sz) := by
  refine Met.ofW (cc := cX12_count) (maxL := 5) (ret := (some .int)) (by decide) rfl ?_
  intro p e s m args below meth c s₁ B hml hv
  obtain ⟨rfl, hsz, hP, hK, hD0⟩ := hv
  have hx := B.exec
  have hb := B.bytes
  have hr := B.returns
  have hts := atoms_spec (ws := wsX12_count) B.pre
  have hown : s.vm.findClass RX12 = some m.cls := findClass_of_methodNamed B.named
  have hlocks := B.notSynchronized
  subst hsz
  have hD := hD0.self (sz := s.heap.size)
  generalize hAe : va_A (mCl ca h0 ad u) s.heap.size = A at hD ⊢
  have hA : ∀ q : Nat, s.heap.size ≤ q → A q := fun q h => by rw [← hAe]; exact Or.inr h
  have hS : va_S A s.heap s.heap [] := va_S.rf
  have L_theorems := hts (.fieldLink RX12 699 "ProofHouseModel" "theorems" "I") (by decide +kernel)
  have L_ruleLeft := hts (.fieldLink RX12 106 "ProofHouseModel" "ruleLeft" "[I") (by decide +kernel)
  have L_ruleOn := hts (.fieldLink RX12 124 "ProofHouseModel" "ruleOn" "[Z") (by decide +kernel)
  have L_defs := hts (.fieldLink RX12 474 "ProofHouseModel" "defs" "I") (by decide +kernel)
  have L_leftMany := hts (.fieldLink RX12 751 "ProofHouseModel" "leftMany" "I") (by decide +kernel)
  have hin : ∀ w ∈ wsX120, w ∈ wsX12_count := fun w h => List.mem_cons_of_mem _ (List.mem_append_right _ h)
  have hl := lv_entry ([.ref (h0), .int (a)]) (n := 5) (Nat.le_of_ble_eq_true rfl)
  rw [lg_entry_eq]
  generalize (lg_sl ([.ref (h0), .int (a)]) ++ List.replicate (5 - (lg_sl ([.ref (h0), .int (a)])).length) Slot.unset).toArray = ls at hl ⊢
  have hl : lv_has ls 5 [(0, .ref (h0)), (1, .int (a))] := hl
  refine lv_iconst hx hb dX12_count_0 (v := 0) rfl ?_
  refine lv_istore_n hx hb dX12_count_1 rfl hl (by decide) rfl (fun ls hl => ?_)
  have hl : lv_has ls 5 [(2, .int (0)), (0, .ref (h0)), (1, .int (a))] := hl
  refine lv_iconst hx hb dX12_count_2 (v := 0) rfl ?_
  refine lv_istore_n hx hb dX12_count_3 rfl hl (by decide) rfl (fun ls hl => ?_)
  have hl : lv_has ls 5 [(3, .int (0)), (2, .int (0)), (0, .ref (h0)), (1, .int (a))] := hl
  refine lv_iconst hx hb dX12_count_4 (v := 0) rfl ?_
  refine lv_istore hx hb dX12_count_5 hl (by decide) rfl (fun ls hl => ?_)
  have hl : lv_has ls 5 [(4, .int (0)), (3, .int (0)), (2, .int (0)), (0, .ref (h0)), (1, .int (a))] := hl
  refine lv_iload hx hb dX12_count_7 (lv_at hl 0 rfl) ?_
  refine lv_aload_n hx hb dX12_count_9 rfl (lv_at hl 3 rfl) ?_
  refine va_get (D := D) (ci := 12) (v := .int (u.1 42)) (C := RX12) (T := TX12) (N := 149) hx hb hts hin hown hK hP 0 mH_0 rfl 42 (by decide) L_theorems (fun _ h9 => h9) mF_42 dX12_count_10 ?_
  refine lv_icmp_ge hx hb dX12_count_13 (tgt := 70) rfl (fun h1 => ?_) (fun h1 => ?_)
  · refine lv_iload_n hx hb dX12_count_70 rfl (lv_at hl 4 rfl) ?_
    refine lv_if_ne hx hb dX12_count_71 (tgt := 81) rfl (fun h2 => ?_) (fun h2 => ?_)
    · refine lv_iload_n hx hb dX12_count_81 rfl (lv_at hl 4 rfl) ?_
      refine lv_iconst hx hb dX12_count_82 (v := 1) rfl ?_
      refine lv_icmp_ne hx hb dX12_count_83 (tgt := 93) rfl (fun h3 => ?_) (fun h3 => ?_)
      · refine lv_iload_n hx hb dX12_count_93 rfl (lv_at hl 4 rfl) ?_
        refine lv_iconst hx hb dX12_count_94 (v := 2) rfl ?_
        refine lv_icmp_ne hx hb dX12_count_95 (tgt := 102) rfl (fun h4 => ?_) (fun h4 => ?_)
        · refine lv_iload_n hx hb dX12_count_102 rfl (lv_at hl 4 rfl) ?_
          refine lv_iconst hx hb dX12_count_103 (v := 3) rfl ?_
          refine lv_icmp_ne hx hb dX12_count_104 (tgt := 111) rfl (fun h5 => ?_) (fun h5 => ?_)
          · refine lv_iload_n hx hb dX12_count_111 rfl (lv_at hl 4 rfl) ?_
            refine lv_iconst hx hb dX12_count_112 (v := 4) rfl ?_
            refine lv_icmp_ne hx hb dX12_count_113 (tgt := 123) rfl (fun h6 => ?_) (fun h6 => ?_)
            · refine lv_iconst hx hb dX12_count_123 (v := (-1)) rfl ?_
              exact W.iret (v := (-1)) hx hb hr (fun t ht hW => ⟨⟨(-1), u, rfl, (by refine ⟨rfl, ?_⟩; first | (rw [if_pos h2]; done) | (rw [if_neg h2, if_pos h3]; done) | (rw [if_neg h2, if_neg h3, if_pos h4]; done) | (rw [if_neg h2, if_neg h3, if_neg h4, if_pos h5]; done) | (rw [if_neg h2, if_neg h3, if_neg h4, if_neg h5, if_pos h6]; done) | (rw [if_neg h2, if_neg h3, if_neg h4, if_neg h5, if_neg h6]; done)), by rw [ht]; exact hP, va_K.moved hW.alike hK, hD⟩, hS.F ht⟩) hS.2.2 dX12_count_124
            · refine lv_aload_n hx hb dX12_count_116 rfl (lv_at hl 3 rfl) ?_
              refine va_get (D := D) (ci := 12) (v := .int (u.1 63)) (C := RX12) (T := TX12) (N := 149) hx hb hts hin hown hK hP 0 mH_0 rfl 63 (by decide) L_leftMany (fun _ h9 => h9) mF_63 dX12_count_117 ?_
              refine lv_goto hx hb dX12_count_120 (tgt := 124) rfl ?_
              exact W.iret (v := u.1 63) hx hb hr (fun t ht hW => ⟨⟨u.1 63, u, rfl, (by refine ⟨rfl, ?_⟩; first | (rw [if_pos h2]; done) | (rw [if_neg h2, if_pos h3]; done) | (rw [if_neg h2, if_neg h3, if_pos h4]; done) | (rw [if_neg h2, if_neg h3, if_neg h4, if_pos h5]; done) | (rw [if_neg h2, if_neg h3, if_neg h4, if_neg h5, if_pos h6]; done) | (rw [if_neg h2, if_neg h3, if_neg h4, if_neg h5, if_neg h6]; done)), by rw [ht]; exact hP, va_K.moved hW.alike hK, hD⟩, hS.F ht⟩) hS.2.2 dX12_count_124
          · refine lv_iload_n hx hb dX12_count_107 rfl (lv_at hl 1 rfl) ?_
            refine lv_goto hx hb dX12_count_108 (tgt := 124) rfl ?_
            exact W.iret (v := 0) hx hb hr (fun t ht hW => ⟨⟨0, u, rfl, (by refine ⟨rfl, ?_⟩; first | (rw [if_pos h2]; done) | (rw [if_neg h2, if_pos h3]; done) | (rw [if_neg h2, if_neg h3, if_pos h4]; done) | (rw [if_neg h2, if_neg h3, if_neg h4, if_pos h5]; done) | (rw [if_neg h2, if_neg h3, if_neg h4, if_neg h5, if_pos h6]; done) | (rw [if_neg h2, if_neg h3, if_neg h4, if_neg h5, if_neg h6]; done)), by rw [ht]; exact hP, va_K.moved hW.alike hK, hD⟩, hS.F ht⟩) hS.2.2 dX12_count_124
        · refine lv_iload_n hx hb dX12_count_98 rfl (lv_at hl 2 rfl) ?_
          refine lv_goto hx hb dX12_count_99 (tgt := 124) rfl ?_
          exact W.iret (v := 0) hx hb hr (fun t ht hW => ⟨⟨0, u, rfl, (by refine ⟨rfl, ?_⟩; first | (rw [if_pos h2]; done) | (rw [if_neg h2, if_pos h3]; done) | (rw [if_neg h2, if_neg h3, if_pos h4]; done) | (rw [if_neg h2, if_neg h3, if_neg h4, if_pos h5]; done) | (rw [if_neg h2, if_neg h3, if_neg h4, if_neg h5, if_pos h6]; done) | (rw [if_neg h2, if_neg h3, if_neg h4, if_neg h5, if_neg h6]; done)), by rw [ht]; exact hP, va_K.moved hW.alike hK, hD⟩, hS.F ht⟩) hS.2.2 dX12_count_124
      · refine lv_aload_n hx hb dX12_count_86 rfl (lv_at hl 3 rfl) ?_
        refine va_get (D := D) (ci := 12) (v := .int (u.1 42)) (C := RX12) (T := TX12) (N := 149) hx hb hts hin hown hK hP 0 mH_0 rfl 42 (by decide) L_theorems (fun _ h9 => h9) mF_42 dX12_count_87 ?_
        refine lv_goto hx hb dX12_count_90 (tgt := 124) rfl ?_
        exact W.iret (v := u.1 42) hx hb hr (fun t ht hW => ⟨⟨u.1 42, u, rfl, (by refine ⟨rfl, ?_⟩; first | (rw [if_pos h2]; done) | (rw [if_neg h2, if_pos h3]; done) | (rw [if_neg h2, if_neg h3, if_pos h4]; done) | (rw [if_neg h2, if_neg h3, if_neg h4, if_pos h5]; done) | (rw [if_neg h2, if_neg h3, if_neg h4, if_neg h5, if_pos h6]; done) | (rw [if_neg h2, if_neg h3, if_neg h4, if_neg h5, if_neg h6]; done)), by rw [ht]; exact hP, va_K.moved hW.alike hK, hD⟩, hS.F ht⟩) hS.2.2 dX12_count_124
    · refine lv_aload_n hx hb dX12_count_74 rfl (lv_at hl 3 rfl) ?_
      refine va_get (D := D) (ci := 12) (v := .int (u.1 35)) (C := RX12) (T := TX12) (N := 149) hx hb hts hin hown hK hP 0 mH_0 rfl 35 (by decide) L_defs (fun _ h9 => h9) mF_35 dX12_count_75 ?_
      refine lv_goto hx hb dX12_count_78 (tgt := 124) rfl ?_
      exact W.iret (v := u.1 35) hx hb hr (fun t ht hW => ⟨⟨u.1 35, u, rfl, (by refine ⟨rfl, ?_⟩; first | (rw [if_pos h2]; done) | (rw [if_neg h2, if_pos h3]; done) | (rw [if_neg h2, if_neg h3, if_pos h4]; done) | (rw [if_neg h2, if_neg h3, if_neg h4, if_pos h5]; done) | (rw [if_neg h2, if_neg h3, if_neg h4, if_neg h5, if_pos h6]; done) | (rw [if_neg h2, if_neg h3, if_neg h4, if_neg h5, if_neg h6]; done)), by rw [ht]; exact hP, va_K.moved hW.alike hK, hD⟩, hS.F ht⟩) hS.2.2 dX12_count_124
  · exact absurd (by rw [hT]; decide) h1

set_option maxHeartbeats 4000000 in
set_option maxRecDepth 100000 in
/-- tell(k) with nothing taken -/
theorem c_m_tell0 (l : Launch) (D : va_G) (ca : Nat → ClassId) (h0 sz : Nat) (ad : Nat → Nat) (u : mST) (a : Int32)  (hT : u.1 54 = 0) : Met l yX12_tell wsX12_tell pR_0 (va_Pc [.ref (h0), .int (a)] (fun U => U.heap.size = sz ∧ mWd D ca (fun _ => True) h0 ad u U)) (va_Qi (fun (r : Int32) (v : mST) => v = u ∧ r = -1) (mWd D ca (va_A (mCl ca h0 ad u) sz) h0 ad) (va_A (mCl ca h0 ad u) sz)) 0 0 (va_A (mCl ca h0 ad u) sz) := by
  refine Met.ofW (cc := cX12_tell) (maxL := 6) (ret := (some .int)) (by decide) rfl ?_
  intro p e s m args below meth c s₁ B hml hv
  obtain ⟨rfl, hsz, hP, hK, hD0⟩ := hv
  have hx := B.exec
  have hb := B.bytes
  have hr := B.returns
  have hts := atoms_spec (ws := wsX12_tell) B.pre
  have hown : s.vm.findClass RX12 = some m.cls := findClass_of_methodNamed B.named
  have hlocks := B.notSynchronized
  subst hsz
  have hD := hD0.self (sz := s.heap.size)
  generalize hAe : va_A (mCl ca h0 ad u) s.heap.size = A at hD ⊢
  have hA : ∀ q : Nat, s.heap.size ≤ q → A q := fun q h => by rw [← hAe]; exact Or.inr h
  have hS : va_S A s.heap s.heap [] := va_S.rf
  have L_taken := hts (.fieldLink RX12 845 "ProofHouseModel" "taken" "I") (by decide +kernel)
  have L_objects := hts (.fieldLink RX12 332 "ProofHouseModel" "objects" "I") (by decide +kernel)
  have L_takenSort := hts (.fieldLink RX12 130 "ProofHouseModel" "takenSort" "[I") (by decide +kernel)
  have L_defMany := hts (.fieldLink RX12 81 "ProofHouseModel" "defMany" "[I") (by decide +kernel)
  have L_defVariable := hts (.fieldLink RX12 84 "ProofHouseModel" "defVariable" "[I") (by decide +kernel)
  have L_defSelf := hts (.fieldLink RX12 93 "ProofHouseModel" "defSelf" "[Z") (by decide +kernel)
  have L_defBody := hts (.fieldLink RX12 87 "ProofHouseModel" "defBody" "[I") (by decide +kernel)
  have L_defMeasure := hts (.fieldLink RX12 90 "ProofHouseModel" "defMeasure" "[I") (by decide +kernel)
  have L_defName := hts (.fieldLink RX12 78 "ProofHouseModel" "defName" "[I") (by decide +kernel)
  have L_theoremName := hts (.fieldLink RX12 97 "ProofHouseModel" "theoremName" "[I") (by decide +kernel)
  have L_theorem := hts (.fieldLink RX12 100 "ProofHouseModel" "theorem" "[I") (by decide +kernel)
  have L_outSize := hts (.fieldLink RX12 441 "ProofHouseModel" "outSize" "I") (by decide +kernel)
  have hin : ∀ w ∈ wsX120, w ∈ wsX12_tell := fun w h => List.mem_cons_of_mem _ (List.mem_append_right _ h)
  have hl := lv_entry ([.ref (h0), .int (a)]) (n := 6) (Nat.le_of_ble_eq_true rfl)
  rw [lg_entry_eq]
  generalize (lg_sl ([.ref (h0), .int (a)]) ++ List.replicate (6 - (lg_sl ([.ref (h0), .int (a)])).length) Slot.unset).toArray = ls at hl ⊢
  have hl : lv_has ls 6 [(0, .ref (h0)), (1, .int (a))] := hl
  refine lv_iload_n hx hb dX12_tell_0 rfl (lv_at hl 1 rfl) ?_
  refine lv_if_lt hx hb dX12_tell_1 (tgt := 12) rfl (fun h1 => ?_) (fun h1 => ?_)
  · refine lv_iconst hx hb dX12_tell_12 (v := (-1)) rfl ?_
    exact W.iret (v := (-1)) hx hb hr (fun t ht hW => ⟨⟨(-1), u, rfl, ⟨rfl, rfl⟩, by rw [ht]; exact hP, va_K.moved hW.alike hK, hD⟩, hS.F ht⟩) hS.2.2 dX12_tell_13
  · refine lv_iload_n hx hb dX12_tell_4 rfl (lv_at hl 1 rfl) ?_
    refine lv_aload_n hx hb dX12_tell_5 rfl (lv_at hl 0 rfl) ?_
    refine va_get (D := D) (ci := 12) (v := .int (u.1 54)) (C := RX12) (T := TX12) (N := 149) hx hb hts hin hown hK hP 0 mH_0 rfl 54 (by decide) L_taken (fun _ h9 => h9) mF_54 dX12_tell_6 ?_
    refine lv_icmp_lt hx hb dX12_tell_9 (tgt := 14) rfl (fun h2 => ?_) (fun h2 => ?_)
    · exact absurd h2 (by rw [hT]; exact h1)
    · refine lv_iconst hx hb dX12_tell_12 (v := (-1)) rfl ?_
      exact W.iret (v := (-1)) hx hb hr (fun t ht hW => ⟨⟨(-1), u, rfl, ⟨rfl, rfl⟩, by rw [ht]; exact hP, va_K.moved hW.alike hK, hD⟩, hS.F ht⟩) hS.2.2 dX12_tell_13

set_option maxHeartbeats 4000000 in
set_option maxRecDepth 100000 in
/-- skip() at the end -/
theorem c_m_skip0 (l : Launch) (D : va_G) (ca : Nat → ClassId) (h0 sz : Nat) (ad : Nat → Nat) (u : mST)   (hA0 : u.1 23 = 0) (hT : u.1 14 = 0) : Met l yX12_skip wsX12_skip pR_0 (va_Pc [.ref (h0)] (fun U => U.heap.size = sz ∧ mWd D ca (fun _ => True) h0 ad u U)) (va_Qv (fun v : mST => v = u) (mWd D ca (va_A (mCl ca h0 ad u) sz) h0 ad) (va_A (mCl ca h0 ad u) sz)) 0 0 (va_A (mCl ca h0 ad u) sz) := by
  refine Met.ofW (cc := cX12_skip) (maxL := 2) (ret := none) (by decide) rfl ?_
  intro p e s m args below meth c s₁ B hml hv
  obtain ⟨rfl, hsz, hP, hK, hD0⟩ := hv
  have hx := B.exec
  have hb := B.bytes
  have hr := B.returns
  have hts := atoms_spec (ws := wsX12_skip) B.pre
  have hown : s.vm.findClass RX12 = some m.cls := findClass_of_methodNamed B.named
  have hlocks := B.notSynchronized
  subst hsz
  have hD := hD0.self (sz := s.heap.size)
  generalize hAe : va_A (mCl ca h0 ad u) s.heap.size = A at hD ⊢
  have hA : ∀ q : Nat, s.heap.size ≤ q → A q := fun q h => by rw [← hAe]; exact Or.inr h
  have hS : va_S A s.heap s.heap [] := va_S.rf
  have L_at := hts (.fieldLink RX12 371 "ProofHouseModel" "at" "I") (by decide +kernel)
  have L_textSize := hts (.fieldLink RX12 374 "ProofHouseModel" "textSize" "I") (by decide +kernel)
  have L_text := hts (.fieldLink RX12 44 "ProofHouseModel" "text" "[I") (by decide +kernel)
  have hin : ∀ w ∈ wsX120, w ∈ wsX12_skip := fun w h => List.mem_cons_of_mem _ (List.mem_append_right _ h)
  have hl := lv_entry ([.ref (h0)]) (n := 2) (Nat.le_of_ble_eq_true rfl)
  rw [lg_entry_eq]
  generalize (lg_sl ([.ref (h0)]) ++ List.replicate (2 - (lg_sl ([.ref (h0)])).length) Slot.unset).toArray = ls at hl ⊢
  have hl : lv_has ls 2 [(0, .ref (h0))] := hl
  refine lv_iconst hx hb dX12_skip_0 (v := 1) rfl ?_
  refine lv_istore_n hx hb dX12_skip_1 rfl hl (by decide) rfl (fun ls hl => ?_)
  have hl : lv_has ls 2 [(1, .int (1)), (0, .ref (h0))] := hl
  refine lv_iload_n hx hb dX12_skip_2 rfl (lv_at hl 0 rfl) ?_
  refine lv_if_eq hx hb dX12_skip_3 (tgt := 115) rfl (fun h1 => ?_) (fun h1 => ?_)
  · exact absurd h1 (by decide)
  · refine lv_aload_n hx hb dX12_skip_6 rfl (lv_at hl 1 rfl) ?_
    refine va_get (D := D) (ci := 12) (v := .int (u.1 23)) (C := RX12) (T := TX12) (N := 149) hx hb hts hin hown hK hP 0 mH_0 rfl 23 (by decide) L_at (fun _ h9 => h9) mF_23 dX12_skip_7 ?_
    refine lv_aload_n hx hb dX12_skip_10 rfl (lv_at hl 1 rfl) ?_
    refine va_get (D := D) (ci := 12) (v := .int (u.1 14)) (C := RX12) (T := TX12) (N := 149) hx hb hts hin hown hK hP 0 mH_0 rfl 14 (by decide) L_textSize (fun _ h9 => h9) mF_14 dX12_skip_11 ?_
    refine lv_icmp_ge hx hb dX12_skip_14 (tgt := 115) rfl (fun h2 => ?_) (fun h2 => ?_)
    · exact W.vret hx hb hr (fun t ht hW => ⟨⟨u, rfl, rfl, by rw [ht]; exact hP, va_K.moved hW.alike hK, hD⟩, hS.F ht⟩) hS.2.2 dX12_skip_115
    · exact absurd (by rw [hA0, hT]; decide) h2

set_option maxHeartbeats 4000000 in
set_option maxRecDepth 100000 in
/-- forget(from), from being all -/
theorem c_m_forget0 (l : Launch) (D : va_G) (ca : Nat → ClassId) (h0 sz : Nat) (ad : Nat → Nat) (u : mST) (a : Int32)  (hT : u.1 8 = a) : Met l yX12_forget wsX12_forget pR_0 (va_Pc [.ref (h0), .int (a)] (fun U => U.heap.size = sz ∧ mWd D ca (fun _ => True) h0 ad u U)) (va_Qv (fun v : mST => v = u) (mWd D ca (va_A (mCl ca h0 ad u) sz) h0 ad) (va_A (mCl ca h0 ad u) sz)) 0 0 (va_A (mCl ca h0 ad u) sz) := by
  refine Met.ofW (cc := cX12_forget) (maxL := 2) (ret := none) (by decide) rfl ?_
  intro p e s m args below meth c s₁ B hml hv
  obtain ⟨rfl, hsz, hP, hK, hD0⟩ := hv
  have hx := B.exec
  have hb := B.bytes
  have hr := B.returns
  have hts := atoms_spec (ws := wsX12_forget) B.pre
  have hown : s.vm.findClass RX12 = some m.cls := findClass_of_methodNamed B.named
  have hlocks := B.notSynchronized
  subst hsz
  have hD := hD0.self (sz := s.heap.size)
  generalize hAe : va_A (mCl ca h0 ad u) s.heap.size = A at hD ⊢
  have hA : ∀ q : Nat, s.heap.size ≤ q → A q := fun q h => by rw [← hAe]; exact Or.inr h
  have hS : va_S A s.heap s.heap [] := va_S.rf
  have L_objects := hts (.fieldLink RX12 332 "ProofHouseModel" "objects" "I") (by decide +kernel)
  have L_heads := hts (.fieldLink RX12 31 "ProofHouseModel" "heads" "[I") (by decide +kernel)
  have L_next := hts (.fieldLink RX12 17 "ProofHouseModel" "next" "[I") (by decide +kernel)
  have L_left := hts (.fieldLink RX12 8 "ProofHouseModel" "left" "[I") (by decide +kernel)
  have L_symbols := hts (.fieldLink RX12 346 "ProofHouseModel" "symbols" "I") (by decide +kernel)
  have L_naturals := hts (.fieldLink RX12 339 "ProofHouseModel" "naturals" "I") (by decide +kernel)
  have hin : ∀ w ∈ wsX120, w ∈ wsX12_forget := fun w h => List.mem_cons_of_mem _ (List.mem_append_right _ h)
  have hl := lv_entry ([.ref (h0), .int (a)]) (n := 2) (Nat.le_of_ble_eq_true rfl)
  rw [lg_entry_eq]
  generalize (lg_sl ([.ref (h0), .int (a)]) ++ List.replicate (2 - (lg_sl ([.ref (h0), .int (a)])).length) Slot.unset).toArray = ls at hl ⊢
  have hl : lv_has ls 2 [(0, .ref (h0)), (1, .int (a))] := hl
  refine lv_aload_n hx hb dX12_forget_0 rfl (lv_at hl 0 rfl) ?_
  refine va_get (D := D) (ci := 12) (v := .int (u.1 8)) (C := RX12) (T := TX12) (N := 149) hx hb hts hin hown hK hP 0 mH_0 rfl 8 (by decide) L_objects (fun _ h9 => h9) mF_8 dX12_forget_1 ?_
  refine lv_iload_n hx hb dX12_forget_4 rfl (lv_at hl 1 rfl) ?_
  refine lv_icmp_le hx hb dX12_forget_5 (tgt := 90) rfl (fun h1 => ?_) (fun h1 => ?_)
  · exact W.vret hx hb hr (fun t ht hW => ⟨⟨u, rfl, rfl, by rw [ht]; exact hP, va_K.moved hW.alike hK, hD⟩, hS.F ht⟩) hS.2.2 dX12_forget_90
  · exact absurd (by rw [hT]; exact Int32.le_refl _) h1

def wr_reads : List Cond := .code yX12_reads cX12_reads 2 (some .boolean) :: (([Cond.fieldLink RX12 371 "ProofHouseModel" "at" "I", Cond.fieldLink RX12 380 "ProofHouseModel" "open" "I", Cond.fieldLink RX12 387 "ProofHouseModel" "itemSize" "I", Cond.fieldLink RX12 383 "ProofHouseModel" "done" "Z", Cond.fieldLink RX12 377 "ProofHouseModel" "readFault" "I", Cond.fieldLink RX12 59 "ProofHouseModel" "readPlace" "I", Cond.fieldLink RX12 374 "ProofHouseModel" "textSize" "I"] ++ (wsV RX12 429 RX12 yX12_skip wsX12_skip ++ (wsV RX12 410 RX12 yX12_bad wsX12_bad))) ++ wsX120)
set_option maxRecDepth 100000 in
theorem g_wr_reads_skip : GoodIn wr_reads (wsV RX12 429 RX12 yX12_skip wsX12_skip) := goodIn_sub (fun w h => List.mem_cons_of_mem _ (List.mem_append_left _ (List.mem_append_right _ (List.mem_append_left _ h)))) (by decide +kernel)
set_option maxRecDepth 100000 in
theorem g_wr_reads_bad : GoodIn wr_reads (wsV RX12 410 RX12 yX12_bad wsX12_bad) := goodIn_sub (fun w h => List.mem_cons_of_mem _ (List.mem_append_left _ (List.mem_append_right _ (List.mem_append_right _ h)))) (by decide +kernel)

set_option maxHeartbeats 4000000 in
set_option maxRecDepth 100000 in
/-- reads() of an empty text -/
theorem c_m_reads0 (l : Launch) (D : va_G) (ca : Nat → ClassId) (h0 sz : Nat) (ad : Nat → Nat) (u : mST)   (hT : u.1 14 = 0) : Met l yX12_reads wr_reads ({ frames := 1, cells := 0, slots := 0, locals := 30 }) (va_Pc [.ref (h0)] (fun U => U.heap.size = sz ∧ mWd D ca (fun _ => True) h0 ad u U)) (va_Qi (fun (r : Int32) (v : mST) => r = 0 ∧ (∀ k : Nat, k ≠ 23 → k ≠ 30 → k ≠ 32 → k ≠ 34 → k ≠ 24 → k ≠ 25 → k ≠ 14 → v.1 k = u.1 k) ∧ v.2 = u.2) (mWd D ca (va_A (mCl ca h0 ad u) sz) h0 ad) (va_A (mCl ca h0 ad u) sz)) 0 0 (va_A (mCl ca h0 ad u) sz) := by
  refine Met.ofW (cc := cX12_reads) (maxL := 2) (ret := (some .boolean)) (by decide) rfl ?_
  intro p e s m args below meth c s₁ B hml hv
  obtain ⟨rfl, hsz, hP, hK, hD0⟩ := hv
  have hx := B.exec
  have hb := B.bytes
  have hr := B.returns
  have hts := atoms_spec (ws := wr_reads) B.pre
  have hown : s.vm.findClass RX12 = some m.cls := findClass_of_methodNamed B.named
  have hlocks := B.notSynchronized
  subst hsz
  have hD := hD0.self (sz := s.heap.size)
  generalize hAe : va_A (mCl ca h0 ad u) s.heap.size = A at hD ⊢
  have hA : ∀ q : Nat, s.heap.size ≤ q → A q := fun q h => by rw [← hAe]; exact Or.inr h
  have hS : va_S A s.heap s.heap [] := va_S.rf
  have L_at := hts (.fieldLink RX12 371 "ProofHouseModel" "at" "I") (List.mem_of_getElem? (i := 1) rfl)
  have L_open := hts (.fieldLink RX12 380 "ProofHouseModel" "open" "I") (List.mem_of_getElem? (i := 2) rfl)
  have L_itemSize := hts (.fieldLink RX12 387 "ProofHouseModel" "itemSize" "I") (List.mem_of_getElem? (i := 3) rfl)
  have L_done := hts (.fieldLink RX12 383 "ProofHouseModel" "done" "Z") (List.mem_of_getElem? (i := 4) rfl)
  have L_readFault := hts (.fieldLink RX12 377 "ProofHouseModel" "readFault" "I") (List.mem_of_getElem? (i := 5) rfl)
  have L_readPlace := hts (.fieldLink RX12 59 "ProofHouseModel" "readPlace" "I") (List.mem_of_getElem? (i := 6) rfl)
  have L_textSize := hts (.fieldLink RX12 374 "ProofHouseModel" "textSize" "I") (List.mem_of_getElem? (i := 7) rfl)
  have hin : ∀ w ∈ wsX120, w ∈ wr_reads := fun w h => List.mem_cons_of_mem _ (List.mem_append_right _ h)
  have hl := lv_entry ([.ref (h0)]) (n := 2) (Nat.le_of_ble_eq_true rfl)
  rw [lg_entry_eq]
  generalize (lg_sl ([.ref (h0)]) ++ List.replicate (2 - (lg_sl ([.ref (h0)])).length) Slot.unset).toArray = ls at hl ⊢
  have hl : lv_has ls 2 [(0, .ref (h0))] := hl
  refine lv_aload_n hx hb dX12_reads_0 rfl (lv_at hl 0 rfl) ?_
  refine lv_iconst hx hb dX12_reads_1 (v := 0) rfl ?_
  refine va_put (D := D) (ci := 12) (v := .int (0)) (ty := .int) (C := RX12) (T := TX12) (N := 149) hx hb hts hin tyX12 tyX12_ok nmX12 hown hK hP hD hS 0 mH_0 rfl 23 (by decide) L_at (fun _ h9 => h9) rfl (tyX12_ok 23 (by decide)) rfl rfl (Nat.le_of_ble_eq_true rfl) dX12_reads_2 (fun H locs hP hD hS => ?_)
  rw [mSI_23] at hP hD
  refine lv_aload_n hx hb dX12_reads_5 rfl (lv_at hl 0 rfl) ?_
  refine lv_iconst hx hb dX12_reads_6 (v := 0) rfl ?_
  refine va_put (D := D) (ci := 12) (v := .int (0)) (ty := .int) (C := RX12) (T := TX12) (N := 149) hx hb hts hin tyX12 tyX12_ok nmX12 hown hK hP hD hS 0 mH_0 rfl 30 (by decide) L_open (fun _ h9 => h9) rfl (tyX12_ok 30 (by decide)) rfl rfl (Nat.le_of_ble_eq_true rfl) dX12_reads_7 (fun H locs hP hD hS => ?_)
  rw [mSI_30] at hP hD
  refine lv_aload_n hx hb dX12_reads_10 rfl (lv_at hl 0 rfl) ?_
  refine lv_iconst hx hb dX12_reads_11 (v := 0) rfl ?_
  refine va_put (D := D) (ci := 12) (v := .int (0)) (ty := .int) (C := RX12) (T := TX12) (N := 149) hx hb hts hin tyX12 tyX12_ok nmX12 hown hK hP hD hS 0 mH_0 rfl 32 (by decide) L_itemSize (fun _ h9 => h9) rfl (tyX12_ok 32 (by decide)) rfl rfl (Nat.le_of_ble_eq_true rfl) dX12_reads_12 (fun H locs hP hD hS => ?_)
  rw [mSI_32] at hP hD
  refine lv_aload_n hx hb dX12_reads_15 rfl (lv_at hl 0 rfl) ?_
  refine lv_iconst hx hb dX12_reads_16 (v := 0) rfl ?_
  refine va_put (D := D) (ci := 12) (v := .int (0)) (ty := .boolean) (C := RX12) (T := TX12) (N := 149) hx hb hts hin tyX12 tyX12_ok nmX12 hown hK hP hD hS 0 mH_0 rfl 34 (by decide) L_done (fun _ h9 => h9) rfl (tyX12_ok 34 (by decide)) rfl rfl (Nat.le_of_ble_eq_true rfl) dX12_reads_17 (fun H locs hP hD hS => ?_)
  rw [mSI_34] at hP hD
  refine lv_aload_n hx hb dX12_reads_20 rfl (lv_at hl 0 rfl) ?_
  refine lv_iconst hx hb dX12_reads_21 (v := 0) rfl ?_
  refine va_put (D := D) (ci := 12) (v := .int (0)) (ty := .int) (C := RX12) (T := TX12) (N := 149) hx hb hts hin tyX12 tyX12_ok nmX12 hown hK hP hD hS 0 mH_0 rfl 24 (by decide) L_readFault (fun _ h9 => h9) rfl (tyX12_ok 24 (by decide)) rfl rfl (Nat.le_of_ble_eq_true rfl) dX12_reads_22 (fun H locs hP hD hS => ?_)
  rw [mSI_24] at hP hD
  refine lv_aload_n hx hb dX12_reads_25 rfl (lv_at hl 0 rfl) ?_
  refine lv_iconst hx hb dX12_reads_26 (v := (-1)) rfl ?_
  refine va_put (D := D) (ci := 12) (v := .int ((-1))) (ty := .int) (C := RX12) (T := TX12) (N := 149) hx hb hts hin tyX12 tyX12_ok nmX12 hown hK hP hD hS 0 mH_0 rfl 25 (by decide) L_readPlace (fun _ h9 => h9) rfl (tyX12_ok 25 (by decide)) rfl rfl (Nat.le_of_ble_eq_true rfl) dX12_reads_27 (fun H locs hP hD hS => ?_)
  rw [mSI_25] at hP hD
  refine lv_iconst hx hb dX12_reads_30 (v := 0) rfl ?_
  refine lv_istore_n hx hb dX12_reads_31 rfl hl (by decide) rfl (fun ls hl => ?_)
  have hl : lv_has ls 2 [(1, .int (0)), (0, .ref (h0))] := hl
  refine lv_aload_n hx hb dX12_reads_32 rfl (lv_at hl 1 rfl) ?_
  have hZt : (mI (mI (mI (mI (mI (mI u 23 (0)) 30 (0)) 32 (0)) 34 (0)) 24 (0)) 25 ((-1))).1 14 = 0 := hT
  have hZa : (mI (mI (mI (mI (mI (mI u 23 (0)) 30 (0)) 32 (0)) 34 (0)) 24 (0)) 25 ((-1))).1 23 = 0 := rfl
  have hZf : (mI (mI (mI (mI (mI (mI u 23 (0)) 30 (0)) 32 (0)) 34 (0)) 24 (0)) 25 ((-1))).1 24 = 0 := rfl
  have hZd : (mI (mI (mI (mI (mI (mI u 23 (0)) 30 (0)) 32 (0)) 34 (0)) 24 (0)) 25 ((-1))).1 34 = 0 := rfl
  have hFc := pl_free hD hS hA
  refine va_callv (va_runV (As := []) (rest := []) ⟨hx, hb, hml, hown, hts⟩ (c_m_skip0 l D ca h0 H.size ad (mI (mI (mI (mI (mI (mI u 23 (0)) 30 (0)) 32 (0)) 34 (0)) 24 (0)) 25 ((-1))) hZa hZt) (cwV 0 hts g_wr_reads_skip rfl rfl rfl (by decide +kernel) ⟨Nat.le_of_ble_eq_true rfl, Nat.le_of_ble_eq_true rfl⟩) ⟨fun a U g mk q => by obtain ⟨q0, q1, qP, qK, qD⟩ := q; exact ⟨q0, q1, qP, va_K.moved (u := U) (U := U.calling g mk a) (Vm.Alike.refl U.vm) qK, qD⟩, va_recv hK hP (ci := 12) (q0 := 0) rfl rfl, fun U hU hW => ⟨rfl, by rw [hU], by rw [hU]; exact hP, va_K.moved hW.alike hK, hD.weaken (fun _ _ _ _ => trivial)⟩⟩ rfl rfl hl.1 rfl (lv_room (Nat.le_of_ble_eq_true rfl)) dX12_reads_33 ⟨(Nat.zero_le _), (Nat.zero_le _)⟩) hS (fun q _ h => hFc q h) hFc (fun u1 t H1 locs ht hvm hwu1 hB hz1 hk1 hS => ?_)
  obtain ⟨hP1, hK1, hD1⟩ := hB
  rw [ht] at hP1
  have hK := va_K.moved hvm.symm hK1
  have hD := hD1.weaken (fun _ _ _ h => hFc _ h)
  have hP := hP1
  clear hP1 hK1 hD1 hFc
  generalize H1 = H at hP hS hz1 hk1 ht ⊢
  have hP : va_P D vwCl (mCl ca h0 ad u1) H := hP
  have hD : va_D A (mCl ca h0 ad u1) := hD
  obtain ⟨w1, hw1⟩ : ∃ z, z = mI (mI (mI (mI (mI (mI u 23 (0)) 30 (0)) 32 (0)) 34 (0)) 24 (0)) 25 ((-1)) := ⟨_, rfl⟩
  rw [← hw1] at hZa hZt hZf hZd hwu1
  rw [hwu1] at hP hD
  refine lv_aload_n hx hb dX12_reads_36 rfl (lv_at hl 1 rfl) ?_
  refine va_get (D := D) (ci := 12) (v := .int (w1.1 24)) (C := RX12) (T := TX12) (N := 149) hx hb hts hin hown hK hP 0 mH_0 rfl 24 (by decide) L_readFault (fun _ h9 => h9) mF_24 dX12_reads_37 ?_
  refine lv_if_ne hx hb dX12_reads_40 (tgt := 69) rfl (fun h3 => ?_) (fun h3 => ?_)
  · exact absurd hZf h3
  · refine lv_aload_n hx hb dX12_reads_43 rfl (lv_at hl 1 rfl) ?_
    refine va_get (D := D) (ci := 12) (v := .int (w1.1 23)) (C := RX12) (T := TX12) (N := 149) hx hb hts hin hown hK hP 0 mH_0 rfl 23 (by decide) L_at (fun _ h9 => h9) mF_23 dX12_reads_44 ?_
    refine lv_aload_n hx hb dX12_reads_47 rfl (lv_at hl 1 rfl) ?_
    refine va_get (D := D) (ci := 12) (v := .int (w1.1 14)) (C := RX12) (T := TX12) (N := 149) hx hb hts hin hown hK hP 0 mH_0 rfl 14 (by decide) L_textSize (fun _ h9 => h9) mF_14 dX12_reads_48 ?_
    refine lv_icmp_ge hx hb dX12_reads_51 (tgt := 69) rfl (fun h4 => ?_) (fun h4 => ?_)
    · refine lv_aload_n hx hb dX12_reads_69 rfl (lv_at hl 1 rfl) ?_
      refine va_get (D := D) (ci := 12) (v := .int (w1.1 24)) (C := RX12) (T := TX12) (N := 149) hx hb hts hin hown hK hP 0 mH_0 rfl 24 (by decide) L_readFault (fun _ h9 => h9) mF_24 dX12_reads_70 ?_
      refine lv_if_ne hx hb dX12_reads_73 (tgt := 92) rfl (fun h5 => ?_) (fun h5 => ?_)
      · exact absurd hZf h5
      · refine lv_aload_n hx hb dX12_reads_76 rfl (lv_at hl 1 rfl) ?_
        refine va_get (D := D) (ci := 12) (v := .int (w1.1 34)) (C := RX12) (T := TX12) (N := 149) hx hb hts hin hown hK hP 0 mH_0 rfl 34 (by decide) L_done (fun _ h9 => h9) mF_34 dX12_reads_77 ?_
        refine lv_if_ne hx hb dX12_reads_80 (tgt := 92) rfl (fun h6 => ?_) (fun h6 => ?_)
        · exact absurd hZd h6
        · refine lv_aload_n hx hb dX12_reads_83 rfl (lv_at hl 1 rfl) ?_
          refine lv_iconst hx hb dX12_reads_84 (v := 3) rfl ?_
          refine lv_aload_n hx hb dX12_reads_85 rfl (lv_at hl 1 rfl) ?_
          refine va_get (D := D) (ci := 12) (v := .int (w1.1 14)) (C := RX12) (T := TX12) (N := 149) hx hb hts hin hown hK hP 0 mH_0 rfl 14 (by decide) L_textSize (fun _ h9 => h9) mF_14 dX12_reads_86 ?_
          have hFc := pl_free hD hS hA
          refine va_callv (va_runV (As := [.int (3), .int (w1.1 14)]) (rest := []) ⟨hx, hb, hml, hown, hts⟩ (c_m_bad l D ca h0 H.size ad w1 (3) (w1.1 14)) (cwV 2 hts g_wr_reads_bad rfl rfl rfl (by decide +kernel) ⟨Nat.le_of_ble_eq_true rfl, Nat.le_of_ble_eq_true rfl⟩) ⟨fun a U g mk q => by obtain ⟨q0, q1, qP, qK, qD⟩ := q; exact ⟨q0, q1, qP, va_K.moved (u := U) (U := U.calling g mk a) (Vm.Alike.refl U.vm) qK, qD⟩, va_recv hK hP (ci := 12) (q0 := 0) rfl rfl, fun U hU hW => ⟨rfl, by rw [hU], by rw [hU]; exact hP, va_K.moved hW.alike hK, hD.weaken (fun _ _ _ _ => trivial)⟩⟩ rfl rfl hl.1 rfl (lv_room (Nat.le_of_ble_eq_true rfl)) dX12_reads_89 ⟨(Nat.zero_le _), (Nat.zero_le _)⟩) hS (fun q _ h => hFc q h) hFc (fun u7 t H1 locs ht hvm hwu7 hB hz1 hk1 hS => ?_)
          obtain ⟨hP1, hK1, hD1⟩ := hB
          rw [ht] at hP1
          have hK := va_K.moved hvm.symm hK1
          have hD := hD1.weaken (fun _ _ _ h => hFc _ h)
          have hP := hP1
          clear hP1 hK1 hD1 hFc
          generalize H1 = H at hP hS hz1 hk1 ht ⊢
          have hP : va_P D vwCl (mCl ca h0 ad u7) H := hP
          have hD : va_D A (mCl ca h0 ad u7) := hD
          rw [if_pos hZf] at hwu7
          rw [hwu7] at hP hD
          refine lv_aload_n hx hb dX12_reads_92 rfl (lv_at hl 1 rfl) ?_
          refine lv_iconst hx hb dX12_reads_93 (v := 0) rfl ?_
          refine va_put (D := D) (ci := 12) (v := .int (0)) (ty := .int) (C := RX12) (T := TX12) (N := 149) hx hb hts hin tyX12 tyX12_ok nmX12 hown hK hP hD hS 0 mH_0 rfl 14 (by decide) L_textSize (fun _ h9 => h9) rfl (tyX12_ok 14 (by decide)) rfl rfl (Nat.le_of_ble_eq_true rfl) dX12_reads_94 (fun H locs hP hD hS => ?_)
          rw [mSI_14] at hP hD
          refine lv_aload_n hx hb dX12_reads_97 rfl (lv_at hl 1 rfl) ?_
          refine va_get (D := D) (ci := 12) (v := .int (3)) (C := RX12) (T := TX12) (N := 149) hx hb hts hin hown hK hP 0 mH_0 rfl 24 (by decide) L_readFault (fun _ h9 => h9) mF_24 dX12_reads_98 ?_
          refine lv_if_ne hx hb dX12_reads_101 (tgt := 108) rfl (fun h9 => ?_) (fun h9 => ?_)
          · refine lv_iconst hx hb dX12_reads_108 (v := 0) rfl ?_
            exact W.zret (v := 0) hx hb hr rfl (fun t ht hW => ⟨⟨0, mI (mI (mI w1 24 3) 25 (w1.1 14)) 14 (0), rfl, (by subst hw1; exact ⟨rfl, fun k k1 k2 k3 k4 k5 k6 k7 => (if_neg k7).trans ((if_neg k6).trans ((if_neg k5).trans ((if_neg k6).trans ((if_neg k5).trans ((if_neg k4).trans ((if_neg k3).trans ((if_neg k2).trans (if_neg k1)))))))), rfl⟩), by rw [ht]; exact hP, va_K.moved hW.alike hK, hD⟩, hS.F ht⟩) hS.2.2 dX12_reads_109
          · exact absurd h9 (by decide)
    · exact absurd (by rw [hZa, hZt]; decide) h4

def wr_run : List Cond := .code yX12_run cX12_run 3 (some .int) :: (([Cond.fieldLink RX12 561 "ProofHouseModel" "steps" "I", Cond.fieldLink RX12 480 "ProofHouseModel" "work" "I", Cond.fieldLink RX12 779 "ProofHouseModel" "proved" "Z", Cond.fieldLink RX12 751 "ProofHouseModel" "leftMany" "I", Cond.fieldLink RX12 441 "ProofHouseModel" "outSize" "I", Cond.fieldLink RX12 332 "ProofHouseModel" "objects" "I", Cond.fieldLink RX12 848 "ProofHouseModel" "began" "I", Cond.fieldLink RX12 733 "ProofHouseModel" "rows" "I", Cond.fieldLink RX12 845 "ProofHouseModel" "taken" "I", Cond.fieldLink RX12 390 "ProofHouseModel" "whole" "I", Cond.fieldLink RX12 136 "ProofHouseModel" "comingName" "I"] ++ (wsV RX12 995 RX12 yX12_allRulesIn wsX12_allRulesIn ++ (wsV RX12 998 RX12 yX12_reads wr_reads ++ (wsV RX12 839 RX12 yX12_forget wsX12_forget)))) ++ wsX120)
set_option maxRecDepth 100000 in
theorem g_wr_run_allRulesIn : GoodIn wr_run (wsV RX12 995 RX12 yX12_allRulesIn wsX12_allRulesIn) := goodIn_sub (fun w h => List.mem_cons_of_mem _ (List.mem_append_left _ (List.mem_append_right _ (List.mem_append_left _ h)))) (by decide +kernel)
set_option maxRecDepth 100000 in
theorem g_wr_run_reads : GoodIn wr_run (wsV RX12 998 RX12 yX12_reads wr_reads) := goodIn_sub (fun w h => List.mem_cons_of_mem _ (List.mem_append_left _ (List.mem_append_right _ (List.mem_append_right _ (List.mem_append_left _ h))))) (by decide +kernel)
set_option maxRecDepth 100000 in
theorem g_wr_run_forget : GoodIn wr_run (wsV RX12 839 RX12 yX12_forget wsX12_forget) := goodIn_sub (fun w h => List.mem_cons_of_mem _ (List.mem_append_left _ (List.mem_append_right _ (List.mem_append_right _ (List.mem_append_right _ h))))) (by decide +kernel)

set_option maxHeartbeats 4000000 in
set_option maxRecDepth 100000 in
/-- run() of an empty text -/
theorem c_m_run0 (l : Launch) (D : va_G) (ca : Nat → ClassId) (h0 sz : Nat) (ad : Nat → Nat) (u : mST)   (hT : u.1 14 = 0) : Met l yX12_run wr_run ({ frames := 2, cells := 0, slots := 0, locals := 60 }) (va_Pc [.ref (h0)] (fun U => U.heap.size = sz ∧ mWd D ca (fun _ => True) h0 ad u U)) (va_Qi (fun (r : Int32) (v : mST) => r = 1) (mWd D ca (va_A (mCl ca h0 ad u) sz) h0 ad) (va_A (mCl ca h0 ad u) sz)) 0 0 (va_A (mCl ca h0 ad u) sz) := by
  refine Met.ofW (cc := cX12_run) (maxL := 3) (ret := (some .int)) (by decide) rfl ?_
  intro p e s m args below meth c s₁ B hml hv
  obtain ⟨rfl, hsz, hP, hK, hD0⟩ := hv
  have hx := B.exec
  have hb := B.bytes
  have hr := B.returns
  have hts := atoms_spec (ws := wr_run) B.pre
  have hown : s.vm.findClass RX12 = some m.cls := findClass_of_methodNamed B.named
  have hlocks := B.notSynchronized
  subst hsz
  have hD := hD0.self (sz := s.heap.size)
  generalize hAe : va_A (mCl ca h0 ad u) s.heap.size = A at hD ⊢
  have hA : ∀ q : Nat, s.heap.size ≤ q → A q := fun q h => by rw [← hAe]; exact Or.inr h
  have hS : va_S A s.heap s.heap [] := va_S.rf
  have L_steps := hts (.fieldLink RX12 561 "ProofHouseModel" "steps" "I") (List.mem_of_getElem? (i := 1) rfl)
  have L_work := hts (.fieldLink RX12 480 "ProofHouseModel" "work" "I") (List.mem_of_getElem? (i := 2) rfl)
  have L_proved := hts (.fieldLink RX12 779 "ProofHouseModel" "proved" "Z") (List.mem_of_getElem? (i := 3) rfl)
  have L_leftMany := hts (.fieldLink RX12 751 "ProofHouseModel" "leftMany" "I") (List.mem_of_getElem? (i := 4) rfl)
  have L_outSize := hts (.fieldLink RX12 441 "ProofHouseModel" "outSize" "I") (List.mem_of_getElem? (i := 5) rfl)
  have L_objects := hts (.fieldLink RX12 332 "ProofHouseModel" "objects" "I") (List.mem_of_getElem? (i := 6) rfl)
  have L_began := hts (.fieldLink RX12 848 "ProofHouseModel" "began" "I") (List.mem_of_getElem? (i := 7) rfl)
  have L_rows := hts (.fieldLink RX12 733 "ProofHouseModel" "rows" "I") (List.mem_of_getElem? (i := 8) rfl)
  have L_taken := hts (.fieldLink RX12 845 "ProofHouseModel" "taken" "I") (List.mem_of_getElem? (i := 9) rfl)
  have L_whole := hts (.fieldLink RX12 390 "ProofHouseModel" "whole" "I") (List.mem_of_getElem? (i := 10) rfl)
  have L_comingName := hts (.fieldLink RX12 136 "ProofHouseModel" "comingName" "I") (List.mem_of_getElem? (i := 11) rfl)
  have hin : ∀ w ∈ wsX120, w ∈ wr_run := fun w h => List.mem_cons_of_mem _ (List.mem_append_right _ h)
  have hl := lv_entry ([.ref (h0)]) (n := 3) (Nat.le_of_ble_eq_true rfl)
  rw [lg_entry_eq]
  generalize (lg_sl ([.ref (h0)]) ++ List.replicate (3 - (lg_sl ([.ref (h0)])).length) Slot.unset).toArray = ls at hl ⊢
  have hl : lv_has ls 3 [(0, .ref (h0))] := hl
  refine lv_aload_n hx hb dX12_run_0 rfl (lv_at hl 0 rfl) ?_
  refine lv_iconst hx hb dX12_run_1 (v := 0) rfl ?_
  refine va_put (D := D) (ci := 12) (v := .int (0)) (ty := .int) (C := RX12) (T := TX12) (N := 149) hx hb hts hin tyX12 tyX12_ok nmX12 hown hK hP hD hS 0 mH_0 rfl 60 (by decide) L_steps (fun _ h9 => h9) rfl (tyX12_ok 60 (by decide)) rfl rfl (Nat.le_of_ble_eq_true rfl) dX12_run_2 (fun H locs hP hD hS => ?_)
  rw [mSI_60] at hP hD
  refine lv_aload_n hx hb dX12_run_5 rfl (lv_at hl 0 rfl) ?_
  refine lv_iconst hx hb dX12_run_6 (v := 0) rfl ?_
  refine va_put (D := D) (ci := 12) (v := .int (0)) (ty := .int) (C := RX12) (T := TX12) (N := 149) hx hb hts hin tyX12 tyX12_ok nmX12 hown hK hP hD hS 0 mH_0 rfl 61 (by decide) L_work (fun _ h9 => h9) rfl (tyX12_ok 61 (by decide)) rfl rfl (Nat.le_of_ble_eq_true rfl) dX12_run_7 (fun H locs hP hD hS => ?_)
  rw [mSI_61] at hP hD
  refine lv_aload_n hx hb dX12_run_10 rfl (lv_at hl 0 rfl) ?_
  refine lv_iconst hx hb dX12_run_11 (v := 0) rfl ?_
  refine va_put (D := D) (ci := 12) (v := .int (0)) (ty := .boolean) (C := RX12) (T := TX12) (N := 149) hx hb hts hin tyX12 tyX12_ok nmX12 hown hK hP hD hS 0 mH_0 rfl 62 (by decide) L_proved (fun _ h9 => h9) rfl (tyX12_ok 62 (by decide)) rfl rfl (Nat.le_of_ble_eq_true rfl) dX12_run_12 (fun H locs hP hD hS => ?_)
  rw [mSI_62] at hP hD
  refine lv_aload_n hx hb dX12_run_15 rfl (lv_at hl 0 rfl) ?_
  refine lv_iconst hx hb dX12_run_16 (v := 0) rfl ?_
  refine va_put (D := D) (ci := 12) (v := .int (0)) (ty := .int) (C := RX12) (T := TX12) (N := 149) hx hb hts hin tyX12 tyX12_ok nmX12 hown hK hP hD hS 0 mH_0 rfl 63 (by decide) L_leftMany (fun _ h9 => h9) rfl (tyX12_ok 63 (by decide)) rfl rfl (Nat.le_of_ble_eq_true rfl) dX12_run_17 (fun H locs hP hD hS => ?_)
  rw [mSI_63] at hP hD
  refine lv_aload_n hx hb dX12_run_20 rfl (lv_at hl 0 rfl) ?_
  refine lv_iconst hx hb dX12_run_21 (v := 0) rfl ?_
  refine va_put (D := D) (ci := 12) (v := .int (0)) (ty := .int) (C := RX12) (T := TX12) (N := 149) hx hb hts hin tyX12 tyX12_ok nmX12 hown hK hP hD hS 0 mH_0 rfl 16 (by decide) L_outSize (fun _ h9 => h9) rfl (tyX12_ok 16 (by decide)) rfl rfl (Nat.le_of_ble_eq_true rfl) dX12_run_22 (fun H locs hP hD hS => ?_)
  rw [mSI_16] at hP hD
  refine lv_aload_n hx hb dX12_run_25 rfl (lv_at hl 0 rfl) ?_
  refine lv_aload_n hx hb dX12_run_26 rfl (lv_at hl 0 rfl) ?_
  refine va_get (D := D) (ci := 12) (v := .int (u.1 8)) (C := RX12) (T := TX12) (N := 149) hx hb hts hin hown hK hP 0 mH_0 rfl 8 (by decide) L_objects (fun _ h9 => h9) mF_8 dX12_run_27 ?_
  refine va_put (D := D) (ci := 12) (v := .int (u.1 8)) (ty := .int) (C := RX12) (T := TX12) (N := 149) hx hb hts hin tyX12 tyX12_ok nmX12 hown hK hP hD hS 0 mH_0 rfl 132 (by decide) L_began (fun _ h9 => h9) rfl (tyX12_ok 132 (by decide)) rfl rfl (Nat.le_of_ble_eq_true rfl) dX12_run_30 (fun H locs hP hD hS => ?_)
  rw [mSI_132] at hP hD
  refine lv_aload_n hx hb dX12_run_33 rfl (lv_at hl 0 rfl) ?_
  refine lv_iconst hx hb dX12_run_34 (v := 0) rfl ?_
  refine va_put (D := D) (ci := 12) (v := .int (0)) (ty := .int) (C := RX12) (T := TX12) (N := 149) hx hb hts hin tyX12 tyX12_ok nmX12 hown hK hP hD hS 0 mH_0 rfl 117 (by decide) L_rows (fun _ h9 => h9) rfl (tyX12_ok 117 (by decide)) rfl rfl (Nat.le_of_ble_eq_true rfl) dX12_run_35 (fun H locs hP hD hS => ?_)
  rw [mSI_117] at hP hD
  refine lv_aload_n hx hb dX12_run_38 rfl (lv_at hl 0 rfl) ?_
  obtain ⟨w1, hw1⟩ : ∃ z, z = mI (mI (mI (mI (mI (mI (mI u 60 (0)) 61 (0)) 62 (0)) 63 (0)) 16 (0)) 132 (u.1 8)) 117 (0) := ⟨_, rfl⟩
  rw [← hw1] at hP hD
  have hZt : w1.1 14 = 0 := by rw [hw1]; exact hT
  have hZb : w1.1 132 = w1.1 8 := by rw [hw1]; rfl
  have hFc := pl_free hD hS hA
  refine va_callv (va_runV (As := []) (rest := []) ⟨hx, hb, hml, hown, hts⟩ (c_m_allRulesIn l D ca h0 H.size ad w1) (cwV 0 hts g_wr_run_allRulesIn rfl rfl rfl (by decide +kernel) ⟨Nat.le_of_ble_eq_true rfl, Nat.le_of_ble_eq_true rfl⟩) ⟨fun a U g mk q => by obtain ⟨q0, q1, qP, qK, qD⟩ := q; exact ⟨q0, q1, qP, va_K.moved (u := U) (U := U.calling g mk a) (Vm.Alike.refl U.vm) qK, qD⟩, va_recv hK hP (ci := 12) (q0 := 0) rfl rfl, fun U hU hW => ⟨rfl, by rw [hU], by rw [hU]; exact hP, va_K.moved hW.alike hK, hD.weaken (fun _ _ _ _ => trivial)⟩⟩ rfl rfl hl.1 rfl (lv_room (Nat.le_of_ble_eq_true rfl)) dX12_run_39 ⟨(Nat.zero_le _), (Nat.zero_le _)⟩) hS (fun q _ h => hFc q h) hFc (fun u1 t H1 locs ht hvm hwu1 hB hz1 hk1 hS => ?_)
  obtain ⟨hP1, hK1, hD1⟩ := hB
  rw [ht] at hP1
  have hK := va_K.moved hvm.symm hK1
  have hD := hD1.weaken (fun _ _ _ h => hFc _ h)
  have hP := hP1
  clear hP1 hK1 hD1 hFc
  generalize H1 = H at hP hS hz1 hk1 ht ⊢
  have hP : va_P D vwCl (mCl ca h0 ad u1) H := hP
  have hD : va_D A (mCl ca h0 ad u1) := hD
  obtain ⟨hq1, hq2, hq3, hq4⟩ := hwu1
  rw [← hq1] at hZt hZb
  refine lv_aload_n hx hb dX12_run_42 rfl (lv_at hl 0 rfl) ?_
  have hFc := pl_free hD hS hA
  refine va_calli (va_runV (As := []) (rest := []) ⟨hx, hb, hml, hown, hts⟩ (c_m_reads0 l D ca h0 H.size ad u1 hZt) (cwV 0 hts g_wr_run_reads rfl rfl rfl (by decide +kernel) ⟨Nat.le_of_ble_eq_true rfl, Nat.le_of_ble_eq_true rfl⟩) ⟨fun a U g mk q => by obtain ⟨q0, q1, qP, qK, qD⟩ := q; exact ⟨q0, q1, qP, va_K.moved (u := U) (U := U.calling g mk a) (Vm.Alike.refl U.vm) qK, qD⟩, va_recv hK hP (ci := 12) (q0 := 0) rfl rfl, fun U hU hW => ⟨rfl, by rw [hU], by rw [hU]; exact hP, va_K.moved hW.alike hK, hD.weaken (fun _ _ _ _ => trivial)⟩⟩ rfl rfl hl.1 rfl (lv_room (Nat.le_of_ble_eq_true rfl)) dX12_run_43 ⟨(Nat.zero_le _), (Nat.zero_le _)⟩) hS (fun q _ h => hFc q h) hFc (fun r4 u3 t H1 locs ht hvm hwu3 hB hz1 hk1 hS => ?_)
  obtain ⟨hP1, hK1, hD1⟩ := hB
  rw [ht] at hP1
  have hK := va_K.moved hvm.symm hK1
  have hD := hD1.weaken (fun _ _ _ h => hFc _ h)
  have hP := hP1
  clear hP1 hK1 hD1 hFc
  generalize H1 = H at hP hS hz1 hk1 ht ⊢
  have hP : va_P D vwCl (mCl ca h0 ad u3) H := hP
  have hD : va_D A (mCl ca h0 ad u3) := hD
  obtain ⟨hr1, hr2, hr3⟩ := hwu3
  have hZc : u3.1 8 = u3.1 132 := by rw [hr2 8 (by decide) (by decide) (by decide) (by decide) (by decide) (by decide) (by decide), hr2 132 (by decide) (by decide) (by decide) (by decide) (by decide) (by decide) (by decide)]; exact hZb.symm
  refine lv_if_ne hx hb dX12_run_46 (tgt := 59) rfl (fun h5 => ?_) (fun h5 => ?_)
  · exact absurd hr1 h5
  · refine lv_aload_n hx hb dX12_run_49 rfl (lv_at hl 0 rfl) ?_
    refine lv_aload_n hx hb dX12_run_50 rfl (lv_at hl 0 rfl) ?_
    refine va_get (D := D) (ci := 12) (v := .int (u3.1 132)) (C := RX12) (T := TX12) (N := 149) hx hb hts hin hown hK hP 0 mH_0 rfl 132 (by decide) L_began (fun _ h9 => h9) mF_132 dX12_run_51 ?_
    have hFc := pl_free hD hS hA
    refine va_callv (va_runV (As := [.int (u3.1 132)]) (rest := []) ⟨hx, hb, hml, hown, hts⟩ (c_m_forget0 l D ca h0 H.size ad u3 (u3.1 132) hZc) (cwV 1 hts g_wr_run_forget rfl rfl rfl (by decide +kernel) ⟨Nat.le_of_ble_eq_true rfl, Nat.le_of_ble_eq_true rfl⟩) ⟨fun a U g mk q => by obtain ⟨q0, q1, qP, qK, qD⟩ := q; exact ⟨q0, q1, qP, va_K.moved (u := U) (U := U.calling g mk a) (Vm.Alike.refl U.vm) qK, qD⟩, va_recv hK hP (ci := 12) (q0 := 0) rfl rfl, fun U hU hW => ⟨rfl, by rw [hU], by rw [hU]; exact hP, va_K.moved hW.alike hK, hD.weaken (fun _ _ _ _ => trivial)⟩⟩ rfl rfl hl.1 rfl (lv_room (Nat.le_of_ble_eq_true rfl)) dX12_run_54 ⟨(Nat.zero_le _), (Nat.zero_le _)⟩) hS (fun q _ h => hFc q h) hFc (fun u6 t H1 locs ht hvm hwu6 hB hz1 hk1 hS => ?_)
    obtain ⟨hP1, hK1, hD1⟩ := hB
    rw [ht] at hP1
    have hK := va_K.moved hvm.symm hK1
    have hD := hD1.weaken (fun _ _ _ h => hFc _ h)
    have hP := hP1
    clear hP1 hK1 hD1 hFc
    generalize H1 = H at hP hS hz1 hk1 ht ⊢
    have hP : va_P D vwCl (mCl ca h0 ad u6) H := hP
    have hD : va_D A (mCl ca h0 ad u6) := hD
    refine lv_iconst hx hb dX12_run_57 (v := 1) rfl ?_
    exact W.iret (v := 1) hx hb hr (fun t ht hW => ⟨⟨1, u6, rfl, rfl, by rw [ht]; exact hP, va_K.moved hW.alike hK, hD⟩, hS.F ht⟩) hS.2.2 dX12_run_58
