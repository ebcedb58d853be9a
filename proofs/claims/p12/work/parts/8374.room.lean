def wsX7_made : List Cond := .code yX7_made cX7_made 11 (some .int) :: ([.constantLong RX7 75 (-7046029254386353131), .fieldLink RX7 27 "ProofHouse$Room" "heads" "[I", .fieldLink RX7 12 "ProofHouse$Room" "cells" "[J", .fieldLink RX7 16 "ProofHouse$Room" "chain" "[I", .fieldLink RX7 30 "ProofHouse$Room" "used" "I", .constant RX7 11 (160000), .fieldLink RX7 40 "ProofHouse$Room" "trouble" "I", .fieldLink RX7 20 "ProofHouse$Room" "sums" "[I", .fieldLink RX7 23 "ProofHouse$Room" "heights" "[I", .constant RX7 77 (2147483647), .constant RX7 78 (1000000)] ++ wsX70)
def wsX7_init_r1 : List Cond := [Cond.methodLink RX7 3 objectInit, Cond.instanceMethod objectInit, Cond.code objectInit ⟨#[0xb1]⟩ 1 none, Cond.constant RX7 11 (160000), Cond.arrayClass .long, Cond.fieldLink RX7 12 "ProofHouse$Room" "cells" "[J", Cond.arrayClass .int, Cond.fieldLink RX7 16 "ProofHouse$Room" "chain" "[I", Cond.fieldLink RX7 20 "ProofHouse$Room" "sums" "[I", Cond.fieldLink RX7 23 "ProofHouse$Room" "heights" "[I", Cond.constant RX7 26 (32768), Cond.fieldLink RX7 27 "ProofHouse$Room" "heads" "[I", Cond.fieldLink RX7 30 "ProofHouse$Room" "used" "I", Cond.fieldLink RX7 34 "ProofHouse$Room" "given" "I", Cond.fieldLink RX7 37 "ProofHouse$Room" "spent" "I", Cond.fieldLink RX7 40 "ProofHouse$Room" "trouble" "I", Cond.constantLong RX7 67 (47), Cond.constantLong RX7 69 (4611686018427387904), Cond.methodLink RX7 43 yJ7_fill_53178, Cond.static yJ7_fill_53178, Cond.initialized RJ7, Cond.code yJ7_fill_53178 cJ7_fill_53178 4 none, Cond.methodLink RX7 51 yJ0_length_8abf5, Cond.instanceMethod yJ0_length_8abf5]
def wsX7_init_r2 : List Cond := [Cond.selects RJ0 yJ0_length_8abf5 yJ0_length_8abf5, Cond.initialized RJ0, Cond.code yJ0_length_8abf5 cJ0_length_8abf5 1 (some .int), Cond.fieldLink RJ0 9 "java/lang/String" "value" "[B", Cond.methodLink RJ0 335 yJ0_coder_7d493, Cond.instanceMethod yJ0_coder_7d493, Cond.selects RJ0 yJ0_coder_7d493 yJ0_coder_7d493, Cond.code yJ0_coder_7d493 cJ0_coder_7d493 1 (some .byte), Cond.fieldLink RJ0 38 "java/lang/String" "COMPACT_STRINGS" "Z", Cond.fieldLink RJ0 15 "java/lang/String" "coder" "B", Cond.methodLink RX7 59 yJ0_charAt_5068e, Cond.instanceMethod yJ0_charAt_5068e, Cond.selects RJ0 yJ0_charAt_5068e yJ0_charAt_5068e, Cond.code yJ0_charAt_5068e cJ0_charAt_5068e 2 (some .char), Cond.methodLink RJ0 492 yJ0_isLatin1_aae02, Cond.instanceMethod yJ0_isLatin1_aae02, Cond.selects RJ0 yJ0_isLatin1_aae02 yJ0_isLatin1_aae02, Cond.code yJ0_isLatin1_aae02 cJ0_isLatin1_aae02 1 (some .boolean), Cond.methodLink RJ0 495 yJ1_charAt_3b067, Cond.static yJ1_charAt_3b067, Cond.initialized RJ1, Cond.code yJ1_charAt_3b067 cJ1_charAt_3b067 2 (some .char), Cond.methodLink RJ1 9 yJ0_checkIndex_df160, Cond.static yJ0_checkIndex_df160]
def wsX7_init_r3 : List Cond := [Cond.code yJ0_checkIndex_df160 cJ0_checkIndex_df160 2 none, Cond.fieldLink RJ0 1053 "jdk/internal/util/Preconditions" "SIOOBE_FORMATTER" "Ljava/util/function/BiFunction;", Cond.methodLink RJ0 1059 yJ3_checkIndex_8e157, Cond.static yJ3_checkIndex_8e157, Cond.initialized RJ3, Cond.code yJ3_checkIndex_8e157 cJ3_checkIndex_8e157 3 (some .int), Cond.methodLink RJ0 498 yJ2_charAt_3b067, Cond.static yJ2_charAt_3b067, Cond.initialized RJ2, Cond.code yJ2_charAt_3b067 cJ2_charAt_3b067 2 (some .char), Cond.methodLink RJ2 67 yJ2_checkIndex_2214a, Cond.static yJ2_checkIndex_2214a, Cond.code yJ2_checkIndex_2214a cJ2_checkIndex_2214a 2 none, Cond.methodLink RJ2 48 yJ2_length_9d52b, Cond.static yJ2_length_9d52b, Cond.code yJ2_length_9d52b cJ2_length_9d52b 1 (some .int), Cond.methodLink RJ2 414 yJ0_checkIndex_df160, Cond.methodLink RJ2 71 yJ2_getChar_3b067, Cond.static yJ2_getChar_3b067, Cond.code yJ2_getChar_3b067 cJ2_getChar_3b067 2 (some .char), Cond.fieldLink RJ2 44 "java/lang/StringUTF16" "$assertionsDisabled" "Z", Cond.fieldLink RJ2 59 "java/lang/StringUTF16" "HI_BYTE_SHIFT" "I", Cond.fieldLink RJ2 63 "java/lang/StringUTF16" "LO_BYTE_SHIFT" "I", Cond.methodLink RX7 63 yJ0_indexOf_0f7a4]
def wsX7_init_r4 : List Cond := [Cond.instanceMethod yJ0_indexOf_0f7a4, Cond.selects RJ0 yJ0_indexOf_0f7a4 yJ0_indexOf_0f7a4, Cond.code yJ0_indexOf_0f7a4 cJ0_indexOf_0f7a4 2 (some .int), Cond.methodLink RJ0 633 yJ0_indexOf_7cf53, Cond.instanceMethod yJ0_indexOf_7cf53, Cond.selects RJ0 yJ0_indexOf_7cf53 yJ0_indexOf_7cf53, Cond.code yJ0_indexOf_7cf53 cJ0_indexOf_7cf53 3 (some .int), Cond.methodLink RJ0 505 yJ0_length_8abf5, Cond.methodLink RJ0 637 yJ1_indexOf_4cfef, Cond.static yJ1_indexOf_4cfef, Cond.code yJ1_indexOf_4cfef cJ1_indexOf_4cfef 4 (some .int), Cond.methodLink RJ1 92 Lib.Math.max.name, Cond.static Lib.Math.max.name, Cond.initialized "java/lang/Math", Cond.code Lib.Math.max.name Lib.Math.max.code 2 (some .int), Cond.methodLink RJ1 38 Lib.Math.min.name, Cond.static Lib.Math.min.name, Cond.code Lib.Math.min.name Lib.Math.min.code 2 (some .int), Cond.methodLink RJ1 88 yJ1_canEncode_9a6ad, Cond.static yJ1_canEncode_9a6ad, Cond.code yJ1_canEncode_9a6ad cJ1_canEncode_9a6ad 1 (some .boolean), Cond.methodLink RJ1 95 yJ1_indexOfChar_4cfef, Cond.static yJ1_indexOfChar_4cfef, Cond.code yJ1_indexOfChar_4cfef cJ1_indexOfChar_4cfef 6 (some .int)]
def wsX7_init_r5 : List Cond := [Cond.methodLink RJ0 640 yJ2_indexOf_4cfef, Cond.static yJ2_indexOf_4cfef, Cond.code yJ2_indexOf_4cfef cJ2_indexOf_4cfef 4 (some .int), Cond.methodLink RJ2 224 Lib.Math.max.name, Cond.methodLink RJ2 183 Lib.Math.min.name, Cond.constant RJ2 227 (65536), Cond.methodLink RJ2 228 yJ2_indexOfChar_4cfef, Cond.static yJ2_indexOfChar_4cfef, Cond.code yJ2_indexOfChar_4cfef cJ2_indexOfChar_4cfef 4 (some .int), Cond.methodLink RJ2 96 yJ2_checkBoundsBeginEnd_d044e, Cond.static yJ2_checkBoundsBeginEnd_d044e, Cond.code yJ2_checkBoundsBeginEnd_d044e cJ2_checkBoundsBeginEnd_d044e 3 none, Cond.methodLink RJ2 241 yJ0_checkBoundsBeginEnd_23922, Cond.static yJ0_checkBoundsBeginEnd_23922, Cond.code yJ0_checkBoundsBeginEnd_23922 cJ0_checkBoundsBeginEnd_23922 3 none, Cond.methodLink RJ0 1062 yJ3_checkFromToIndex_8c36e, Cond.static yJ3_checkFromToIndex_8c36e, Cond.code yJ3_checkFromToIndex_8c36e cJ3_checkFromToIndex_8c36e 4 (some .int), Cond.methodLink RJ2 244 yJ2_indexOfCharUnsafe_4cfef, Cond.static yJ2_indexOfCharUnsafe_4cfef, Cond.code yJ2_indexOfCharUnsafe_4cfef cJ2_indexOfCharUnsafe_4cfef 5 (some .int), Cond.methodLink RJ2 232 yJ2_indexOfSupplementary_4cfef, Cond.static yJ2_indexOfSupplementary_4cfef, Cond.code yJ2_indexOfSupplementary_4cfef cJ2_indexOfSupplementary_4cfef 7 (some .int)]
def wsX7_init_r6 : List Cond := [Cond.methodLink RJ2 164 yJ11_isValidCodePoint_9a6ad, Cond.static yJ11_isValidCodePoint_9a6ad, Cond.initialized RJ11, Cond.code yJ11_isValidCodePoint_9a6ad cJ11_isValidCodePoint_9a6ad 2 (some .boolean), Cond.methodLink RJ2 157 yJ11_highSurrogate_5068e, Cond.static yJ11_highSurrogate_5068e, Cond.code yJ11_highSurrogate_5068e cJ11_highSurrogate_5068e 1 (some .char), Cond.constant RJ11 110 (55232), Cond.methodLink RJ2 161 yJ11_lowSurrogate_5068e, Cond.static yJ11_lowSurrogate_5068e, Cond.code yJ11_lowSurrogate_5068e cJ11_lowSurrogate_5068e 1 (some .char), Cond.constant RJ11 76 (56320), Cond.methodLink RX7 71 yX7_made, Cond.instanceMethod yX7_made, Cond.selects RX7 yX7_made yX7_made, Cond.initialized RX7, Cond.code yX7_made cX7_made 11 (some .int), Cond.constantLong RX7 75 (-7046029254386353131), Cond.constant RX7 77 (2147483647), Cond.constant RX7 78 (1000000)]
def wsX7_init : List Cond := .code yX7_init cX7_init 5 none :: ((wsX7_init_r1 ++ (wsX7_init_r2 ++ (wsX7_init_r3 ++ (wsX7_init_r4 ++ (wsX7_init_r5 ++ wsX7_init_r6))))) ++ wsX70)
theorem ggX7_init_J7_fill_53178 : GoodIn wsX7_init wsJ7_fill_53178 := goodIn_r _ [22] (by decide +kernel) (by decide +kernel)
theorem gX7_init_J7_fill_53178 : GoodIn wsX7_init (va_wsS RX7 43 yJ7_fill_53178 wsJ7_fill_53178) := goodIn_app (goodIn_of _ (by decide +kernel)) ggX7_init_J7_fill_53178
theorem ggX7_init_J0_length_8abf5 : GoodIn wsX7_init wsJ0_length_8abf5 := goodIn_r _ [27, 28, 29, 30, 31, 26, 32, 33, 34] (by decide +kernel) (by decide +kernel)
theorem gX7_init_J0_length_8abf5 : GoodIn wsX7_init (wsV RX7 51 RJ0 yJ0_length_8abf5 wsJ0_length_8abf5) := goodIn_app (goodIn_of _ (by decide +kernel)) ggX7_init_J0_length_8abf5
theorem ggX7_init_J0_charAt_5068e : GoodIn wsX7_init wsJ0_charAt_5068e := goodIn_r _ [38, 28, 39, 40, 41, 26, 42, 33, 34, 43, 44, 45, 46, 47, 48, 49, 50, 51, 52, 53, 54, 55, 56, 57, 58, 59, 60, 61, 62, 63, 64, 65, 66, 67, 68, 69, 70, 71] (by decide +kernel) (by decide +kernel)
theorem gX7_init_J0_charAt_5068e : GoodIn wsX7_init (wsV RX7 59 RJ0 yJ0_charAt_5068e wsJ0_charAt_5068e) := goodIn_app (goodIn_of _ (by decide +kernel)) ggX7_init_J0_charAt_5068e
theorem ggX7_init_J0_indexOf_0f7a4 : GoodIn wsX7_init wsJ0_indexOf_0f7a4 := goodIn_r _ [75, 76, 77, 78, 26, 79, 28, 39, 40, 41, 42, 33, 34, 80, 24, 25, 27, 29, 30, 31, 32, 81, 82, 45, 83, 84, 85, 86, 87, 88, 89, 90, 91, 92, 93, 94, 95, 96, 97, 98, 57, 99, 100, 101, 102, 103, 104, 105, 106, 107, 108, 62, 63, 64, 109, 110, 111, 50, 112, 113, 53, 114, 115, 116, 117, 66, 67, 68, 69, 70, 71, 118, 119, 120, 121, 122, 123, 124, 125, 126, 127, 128, 129, 130, 131, 132] (by decide +kernel) (by decide +kernel)
theorem gX7_init_J0_indexOf_0f7a4 : GoodIn wsX7_init (wsV RX7 63 RJ0 yJ0_indexOf_0f7a4 wsJ0_indexOf_0f7a4) := goodIn_app (goodIn_of _ (by decide +kernel)) ggX7_init_J0_indexOf_0f7a4
theorem ggX7_init_X7_made : GoodIn wsX7_init wsX7_made := goodIn_r _ [137, 138, 12, 6, 8, 13, 4, 16, 9, 10, 139, 140, 141, 142, 143, 144, 145, 146, 147, 148, 149] (by decide +kernel) (by decide +kernel)
theorem gX7_init_X7_made : GoodIn wsX7_init (wsV RX7 71 RX7 yX7_made wsX7_made) := goodIn_app (goodIn_of _ (by decide +kernel)) ggX7_init_X7_made
theorem dX7_init_0 : decode cX7_init 0 = .ok (.aload_n 0, 1) := by decide +kernel
theorem dX7_init_1 : decode cX7_init 1 = .ok (.invokespecial 3, 3) := by decide +kernel
theorem dX7_init_4 : decode cX7_init 4 = .ok (.aload_n 0, 1) := by decide +kernel
theorem dX7_init_5 : decode cX7_init 5 = .ok (.ldc 11, 2) := by decide +kernel
theorem dX7_init_7 : decode cX7_init 7 = .ok (.newarray .long, 2) := by decide +kernel
theorem dX7_init_9 : decode cX7_init 9 = .ok (.putfield 12, 3) := by decide +kernel
theorem dX7_init_12 : decode cX7_init 12 = .ok (.aload_n 0, 1) := by decide +kernel
theorem dX7_init_13 : decode cX7_init 13 = .ok (.ldc 11, 2) := by decide +kernel
theorem dX7_init_15 : decode cX7_init 15 = .ok (.newarray .int, 2) := by decide +kernel
theorem dX7_init_17 : decode cX7_init 17 = .ok (.putfield 16, 3) := by decide +kernel
theorem dX7_init_20 : decode cX7_init 20 = .ok (.aload_n 0, 1) := by decide +kernel
theorem dX7_init_21 : decode cX7_init 21 = .ok (.ldc 11, 2) := by decide +kernel
theorem dX7_init_23 : decode cX7_init 23 = .ok (.newarray .int, 2) := by decide +kernel
theorem dX7_init_25 : decode cX7_init 25 = .ok (.putfield 20, 3) := by decide +kernel
theorem dX7_init_28 : decode cX7_init 28 = .ok (.aload_n 0, 1) := by decide +kernel
theorem dX7_init_29 : decode cX7_init 29 = .ok (.ldc 11, 2) := by decide +kernel
theorem dX7_init_31 : decode cX7_init 31 = .ok (.newarray .int, 2) := by decide +kernel
theorem dX7_init_33 : decode cX7_init 33 = .ok (.putfield 23, 3) := by decide +kernel
theorem dX7_init_36 : decode cX7_init 36 = .ok (.aload_n 0, 1) := by decide +kernel
theorem dX7_init_37 : decode cX7_init 37 = .ok (.ldc 26, 2) := by decide +kernel
theorem dX7_init_39 : decode cX7_init 39 = .ok (.newarray .int, 2) := by decide +kernel
theorem dX7_init_41 : decode cX7_init 41 = .ok (.putfield 27, 3) := by decide +kernel
theorem dX7_init_44 : decode cX7_init 44 = .ok (.aload_n 0, 1) := by decide +kernel
theorem dX7_init_45 : decode cX7_init 45 = .ok (.iconst 0, 1) := by decide +kernel
theorem dX7_init_46 : decode cX7_init 46 = .ok (.putfield 30, 3) := by decide +kernel
theorem dX7_init_49 : decode cX7_init 49 = .ok (.aload_n 0, 1) := by decide +kernel
theorem dX7_init_50 : decode cX7_init 50 = .ok (.iconst 0, 1) := by decide +kernel
theorem dX7_init_51 : decode cX7_init 51 = .ok (.putfield 34, 3) := by decide +kernel
theorem dX7_init_54 : decode cX7_init 54 = .ok (.aload_n 0, 1) := by decide +kernel
theorem dX7_init_55 : decode cX7_init 55 = .ok (.iconst 0, 1) := by decide +kernel
theorem dX7_init_56 : decode cX7_init 56 = .ok (.putfield 37, 3) := by decide +kernel
theorem dX7_init_59 : decode cX7_init 59 = .ok (.aload_n 0, 1) := by decide +kernel
theorem dX7_init_60 : decode cX7_init 60 = .ok (.iconst 0, 1) := by decide +kernel
theorem dX7_init_61 : decode cX7_init 61 = .ok (.putfield 40, 3) := by decide +kernel
theorem dX7_init_64 : decode cX7_init 64 = .ok (.aload_n 0, 1) := by decide +kernel
theorem dX7_init_65 : decode cX7_init 65 = .ok (.getfield 27, 3) := by decide +kernel
theorem dX7_init_68 : decode cX7_init 68 = .ok (.iconst (-1), 1) := by decide +kernel
theorem dX7_init_69 : decode cX7_init 69 = .ok (.invokestatic 43, 3) := by decide +kernel
theorem dX7_init_72 : decode cX7_init 72 = .ok (.lconst 0, 1) := by decide +kernel
theorem dX7_init_73 : decode cX7_init 73 = .ok (.lstore_n 1, 1) := by decide +kernel
theorem dX7_init_74 : decode cX7_init 74 = .ok (.iconst 0, 1) := by decide +kernel
theorem dX7_init_75 : decode cX7_init 75 = .ok (.istore_n 3, 1) := by decide +kernel
theorem dX7_init_76 : decode cX7_init 76 = .ok (.iload_n 3, 1) := by decide +kernel
theorem dX7_init_77 : decode cX7_init 77 = .ok (.ldc 49, 2) := by decide +kernel
theorem dX7_init_79 : decode cX7_init 79 = .ok (.invokevirtual 51, 3) := by decide +kernel
theorem dX7_init_82 : decode cX7_init 82 = .ok (.if_icmp .ge 52, 3) := by decide +kernel
theorem dX7_init_85 : decode cX7_init 85 = .ok (.ldc 57, 2) := by decide +kernel
theorem dX7_init_87 : decode cX7_init 87 = .ok (.ldc 49, 2) := by decide +kernel
theorem dX7_init_89 : decode cX7_init 89 = .ok (.iload_n 3, 1) := by decide +kernel
theorem dX7_init_90 : decode cX7_init 90 = .ok (.invokevirtual 59, 3) := by decide +kernel
theorem dX7_init_93 : decode cX7_init 93 = .ok (.invokevirtual 63, 3) := by decide +kernel
theorem dX7_init_96 : decode cX7_init 96 = .ok (.istore 4, 2) := by decide +kernel
theorem dX7_init_98 : decode cX7_init 98 = .ok (.iload 4, 2) := by decide +kernel
theorem dX7_init_100 : decode cX7_init 100 = .ok (.ifCond .le 16, 3) := by decide +kernel
theorem dX7_init_103 : decode cX7_init 103 = .ok (.lload_n 1, 1) := by decide +kernel
theorem dX7_init_104 : decode cX7_init 104 = .ok (.ldc2_w 67, 3) := by decide +kernel
theorem dX7_init_107 : decode cX7_init 107 = .ok (.lmul, 1) := by decide +kernel
theorem dX7_init_108 : decode cX7_init 108 = .ok (.iload 4, 2) := by decide +kernel
theorem dX7_init_110 : decode cX7_init 110 = .ok (.i2l, 1) := by decide +kernel
theorem dX7_init_111 : decode cX7_init 111 = .ok (.ladd, 1) := by decide +kernel
theorem dX7_init_112 : decode cX7_init 112 = .ok (.lstore_n 1, 1) := by decide +kernel
theorem dX7_init_113 : decode cX7_init 113 = .ok (.goto 15, 3) := by decide +kernel
theorem dX7_init_116 : decode cX7_init 116 = .ok (.aload_n 0, 1) := by decide +kernel
theorem dX7_init_117 : decode cX7_init 117 = .ok (.ldc2_w 69, 3) := by decide +kernel
theorem dX7_init_120 : decode cX7_init 120 = .ok (.lload_n 1, 1) := by decide +kernel
theorem dX7_init_121 : decode cX7_init 121 = .ok (.lor, 1) := by decide +kernel
theorem dX7_init_122 : decode cX7_init 122 = .ok (.invokevirtual 71, 3) := by decide +kernel
theorem dX7_init_125 : decode cX7_init 125 = .ok (.pop, 1) := by decide +kernel
theorem dX7_init_126 : decode cX7_init 126 = .ok (.lconst 0, 1) := by decide +kernel
theorem dX7_init_127 : decode cX7_init 127 = .ok (.lstore_n 1, 1) := by decide +kernel
theorem dX7_init_128 : decode cX7_init 128 = .ok (.iinc 3 1, 3) := by decide +kernel
theorem dX7_init_131 : decode cX7_init 131 = .ok (.goto (-55), 3) := by decide +kernel
theorem dX7_init_134 : decode cX7_init 134 = .ok (.return_, 1) := by decide +kernel
/-- the place of a cell's chain: fifteen bits -/
theorem sl_in (x : Int64) : ∃ j : Nat, j < 32768 ∧ (x.toUInt64 >>> ((49 : Int32).toInt64.toUInt64 &&& Int64.toUInt64 63)).toInt64.toInt32 = nI j := by
  have e : ((49 : Int32).toInt64.toUInt64 &&& Int64.toUInt64 63) = 49 := by decide
  rw [e]
  have h1 : (x.toUInt64 >>> 49).toNat < 32768 := by
    have h2 : (x.toUInt64 >>> 49).toNat = x.toUInt64.toNat / 2 ^ 49 := by
      rw [UInt64.toNat_shiftRight, show (49 : UInt64).toNat % 64 = 49 from rfl, Nat.shiftRight_eq_div_pow]
    have h3 : x.toUInt64.toNat < 2 ^ 64 := x.toUInt64.toNat_lt
    rw [h2]
    omega
  refine ⟨(x.toUInt64 >>> 49).toNat, h1, ?_⟩
  generalize x.toUInt64 >>> 49 = y at h1 ⊢
  apply Int32.toBitVec_inj.mp
  apply BitVec.eq_of_toNat_eq
  show (y.toInt64.toInt32).toBitVec.toNat = (nI y.toNat).toBitVec.toNat
  rw [pk_tn (by omega), Int64.toBitVec_toInt32, BitVec.signExtend_eq_setWidth_of_le _ (by decide), BitVec.toNat_setWidth]
  show y.toBitVec.toNat % 2 ^ 32 = y.toNat
  exact Nat.mod_eq_of_lt (by have : y.toBitVec.toNat = y.toNat := rfl; omega)
theorem lc_ge {x : Int64} (h : 0 ≤ x) : 0 ≤ lg_cmp x 0 := by
  unfold lg_cmp
  by_cases h1 : (0 : Int64) < x
  · first | (rw [if_pos h1]; decide) | (simp [h1])
  · have h2 : x = 0 := Int64.le_antisymm (Int64.not_lt.mp h1) h
    subst h2
    decide
abbrev rST : Type := (Nat → Int64) × (Nat → Int32) × (Nat → Int32) × (Nat → Int32) × (Nat → Int32) × Nat
def rW (h0 : Nat) (a : Nat → Nat) (ca : Nat → ClassId) (g sp tr : Int32) (u : rST) : va_W := [(h0, .inr (7, [.ref (a 0), .ref (a 1), .ref (a 2), .ref (a 3), .ref (a 4), .int (nI u.2.2.2.2.2), .int (g), .int (sp), .int (tr)])), (a 0, .inl (ca 0, 160000, .inr (.inl (u.1)))), (a 1, .inl (ca 1, 160000, .inl (u.2.1))), (a 2, .inl (ca 2, 160000, .inl (u.2.2.1))), (a 3, .inl (ca 3, 160000, .inl (u.2.2.2.1))), (a 4, .inl (ca 4, 32768, .inl (u.2.2.2.2.1)))]
def rT (ca : Nat → ClassId) : List (ClassId × FieldType) := [(ca 0, .long), (ca 1, .int), (ca 2, .int), (ca 3, .int), (ca 4, .int)]
/-- the chain of a cell -/
def slo (x : Int64) : Int32 := ((x * (-7046029254386353131)).toUInt64 >>> ((49 : Int32).toInt64.toUInt64 &&& Int64.toUInt64 63)).toInt64.toInt32
theorem lc_eq {x y : Int64} (h : lg_cmp x y = 0) : x = y := by
  unfold lg_cmp at h
  by_cases h1 : y < x
  · first | (rw [if_pos h1] at h; exact absurd h (by decide)) | (simp [h1] at h)
  · by_cases h2 : x = y
    · exact h2
    · first | (rw [if_neg h1, if_neg h2] at h; exact absurd h (by decide)) | (simp [h1, h2] at h)
/-- n nodes, none of them a pair; the chains end -/
def rO2 (u : rST) : Prop := (∀ h : Nat, h < 32768 → u.2.2.2.2.1 h = -1 ∨ ∃ i : Nat, i < u.2.2.2.2.2 ∧ u.2.2.2.2.1 h = nI i ∧ slo (u.1 i) = nI h) ∧ (∀ j : Nat, j < u.2.2.2.2.2 → u.2.1 j = -1 ∨ ∃ i : Nat, i < j ∧ u.2.1 j = nI i ∧ slo (u.1 i) = slo (u.1 j)) ∧ (∀ j : Nat, j < u.2.2.2.2.2 → 0 ≤ u.1 j) ∧ (∀ j : Nat, j < u.2.2.2.2.2 → u.2.2.1 j = 0 ∧ u.2.2.2.1 j = 0) ∧ (∀ i j : Nat, i < j → j < u.2.2.2.2.2 → slo (u.1 i) = slo (u.1 j) → ∃ k : Nat, i ≤ k ∧ k < j ∧ u.2.1 j = nI k) ∧ ∀ h i : Nat, h < 32768 → i < u.2.2.2.2.2 → slo (u.1 i) = nI h → ∃ k : Nat, i ≤ k ∧ k < u.2.2.2.2.2 ∧ u.2.2.2.2.1 h = nI k
theorem uL_s {f : Nat → Int64} {k : Nat} {x : Int64} : vp_updL f k x k = x := if_pos rfl
theorem uL_n {f : Nat → Int64} {k j : Nat} {x : Int64} (h : j ≠ k) : vp_updL f k x j = f j := if_neg h
theorem rO2_add {fc : Nat → Int64} {f1 f2 f3 f4 : Nat → Int32} {n jh : Nat} {x : Int64} (hO : rO2 (fc, f1, f2, f3, f4, n)) (hj : jh < 32768) (hs : slo x = nI jh) (hx : 0 ≤ x) : rO2 (vp_updL fc n x, upd f1 n (f4 jh), upd f2 n 0, upd f3 n 0, upd f4 jh (nI n), n + 1) := by
  obtain ⟨h1, h2, h3, h4, h5, h6⟩ := hO
  dsimp only at h1 h2 h3 h4 h5 h6
  refine ⟨fun h hh => ?_, fun j hj2 => ?_, fun j hj2 => ?_, fun j hj2 => ?_, fun i j hij hj2 hs2 => ?_, fun h i hh hi hs2 => ?_⟩
  · show upd f4 jh (nI n) h = -1 ∨ ∃ i : Nat, i < n + 1 ∧ upd f4 jh (nI n) h = nI i ∧ slo (vp_updL fc n x i) = nI h
    by_cases e : h = jh
    · exact Or.inr ⟨n, by omega, by rw [e, pk_us], by rw [uL_s, e]; exact hs⟩
    · rw [pk_un e]
      rcases h1 h hh with q | ⟨i, hi, q, r⟩
      · exact Or.inl q
      · exact Or.inr ⟨i, Nat.lt_succ_of_lt hi, q, by rw [uL_n (by omega)]; exact r⟩
  · have hj2 : j < n + 1 := hj2
    show upd f1 n (f4 jh) j = -1 ∨ ∃ i : Nat, i < j ∧ upd f1 n (f4 jh) j = nI i ∧ slo (vp_updL fc n x i) = slo (vp_updL fc n x j)
    by_cases e : j = n
    · subst e
      rw [pk_us, uL_s]
      rcases h1 jh hj with q | ⟨i, hi, q, r⟩
      · exact Or.inl q
      · exact Or.inr ⟨i, hi, q, by rw [uL_n (by omega), r, hs]⟩
    · rw [pk_un e, uL_n e]
      rcases h2 j (by omega) with q | ⟨i, hi, q, r⟩
      · exact Or.inl q
      · exact Or.inr ⟨i, hi, q, by rw [uL_n (by omega)]; exact r⟩
  · have hj2 : j < n + 1 := hj2
    show 0 ≤ vp_updL fc n x j
    by_cases e : j = n
    · rw [e, uL_s]; exact hx
    · rw [uL_n e]; exact h3 j (by omega)
  · have hj2 : j < n + 1 := hj2
    show upd f2 n 0 j = 0 ∧ upd f3 n 0 j = 0
    by_cases e : j = n
    · rw [e, pk_us, pk_us]; exact ⟨rfl, rfl⟩
    · rw [pk_un e, pk_un e]; exact h4 j (by omega)
  · have hj2 : j < n + 1 := hj2
    have hs2 : slo (vp_updL fc n x i) = slo (vp_updL fc n x j) := hs2
    show ∃ k : Nat, i ≤ k ∧ k < j ∧ upd f1 n (f4 jh) j = nI k
    rw [uL_n (show i ≠ n by omega)] at hs2
    by_cases e : j = n
    · rw [e, uL_s] at hs2
      rw [e, pk_us]
      exact h6 jh i hj (by omega) (hs2.trans hs)
    · rw [uL_n e] at hs2
      rw [pk_un e]
      exact h5 i j hij (by omega) hs2
  · have hi : i < n + 1 := hi
    have hs2 : slo (vp_updL fc n x i) = nI h := hs2
    show ∃ k : Nat, i ≤ k ∧ k < n + 1 ∧ upd f4 jh (nI n) h = nI k
    by_cases e : h = jh
    · exact ⟨n, by omega, by omega, by rw [e, pk_us]⟩
    · rw [pk_un e]
      have ei : i ≠ n := fun z => by
        rw [z, uL_s, hs] at hs2
        exact e ((nI_eq (by omega) (by omega)).mp hs2).symm
      rw [uL_n ei] at hs2
      obtain ⟨k, k1, k2, k3⟩ := h6 h i hh (by omega) hs2
      exact ⟨k, k1, by omega, k3⟩
set_option maxHeartbeats 4000000 in
set_option maxRecDepth 100000 in
/-- Room.made(cell), a cell that is no pair and not there -/
theorem k_X7_made (l : Launch) (D : va_G) (h0 sz : Nat) (a : Nat → Nat) (ca : Nat → ClassId) (g sp tr : Int32) (fc : Nat → Int64) (f1 f2 f3 f4 : Nat → Int32) (n : Nat) (x : Int64) (hn : n ≤ 1000) (hO : rO2 (fc, f1, f2, f3, f4, n)) (hx : 0 ≤ x) (hne : ∀ i, i < n → fc i ≠ x) : Met l yX7_made wsX7_made ({ frames := 0, cells := 0, slots := 0, locals := 0 }) (va_Pc [.ref h0, .long x] (fun U => U.heap.size = sz ∧ va_P D vwCl (rW h0 a ca g sp tr (fc, f1, f2, f3, f4, n)) U.heap ∧ va_K D vwCl (rT ca) U ∧ va_D (fun _ => True) (rW h0 a ca g sp tr (fc, f1, f2, f3, f4, n)))) (va_Qi (fun (r : Int32) (u : rST) => u.2.2.2.2.2 = n + 1 ∧ rO2 u ∧ (∀ j, j < n → u.1 j = fc j) ∧ u.1 n = x) (fun u t => va_P D vwCl (rW h0 a ca g sp tr u) t.heap ∧ va_K D vwCl (rT ca) t ∧ va_D (va_A (rW h0 a ca g sp tr (fc, f1, f2, f3, f4, n)) sz) (rW h0 a ca g sp tr u)) (va_A (rW h0 a ca g sp tr (fc, f1, f2, f3, f4, n)) sz)) 0 0 (va_A (rW h0 a ca g sp tr (fc, f1, f2, f3, f4, n)) sz) := by
  refine Met.ofW (cc := cX7_made) (maxL := 11) (ret := (some .int)) (by decide) rfl ?_
  intro p e s m args below meth c s₁ B hml hv
  obtain ⟨rfl, hsz, hP, hK, hD0⟩ := hv
  have hx9 := hx
  have hx := B.exec
  have hb := B.bytes
  have hr := B.returns
  have hts := atoms_spec (ws := wsX7_made) B.pre
  have hown : s.vm.findClass RX7 = some m.cls := findClass_of_methodNamed B.named
  have hnm : meth.name = "made" := (name_of_methodNamed B.named B.method).1
  subst hsz
  have hD := hD0.self (sz := s.heap.size)
  generalize hAe : va_A (rW h0 a ca g sp tr (fc, f1, f2, f3, f4, n)) s.heap.size = A at hD ⊢
  have hA : ∀ q : Nat, s.heap.size ≤ q → A q := fun q h => by rw [← hAe]; exact Or.inr h
  have hS : va_S A s.heap s.heap [] := va_S.rf
  have hl := lv_entry ([.ref (h0), .long (x)]) (n := 11) (Nat.le_of_ble_eq_true rfl)
  rw [lg_entry_eq]
  generalize (lg_sl ([.ref (h0), .long (x)]) ++ List.replicate (11 - (lg_sl ([.ref (h0), .long (x)])).length) Slot.unset).toArray = ls at hl ⊢
  have hl : lv_has ls 11 [(0, .ref (h0)), (1, .long (x))] := hl
  have hP : va_P D vwCl [(h0, .inr (7, [.ref (a 0), .ref (a 1), .ref (a 2), .ref (a 3), .ref (a 4), .int (nI n), .int (g), .int (sp), .int (tr)])), (a 0, .inl (ca 0, 160000, .inr (.inl (fc)))), (a 1, .inl (ca 1, 160000, .inl (f1))), (a 2, .inl (ca 2, 160000, .inl (f2))), (a 3, .inl (ca 3, 160000, .inl (f3))), (a 4, .inl (ca 4, 32768, .inl (f4)))] s.heap := hP
  have hD : va_D A [(h0, .inr (7, [.ref (a 0), .ref (a 1), .ref (a 2), .ref (a 3), .ref (a 4), .int (nI n), .int (g), .int (sp), .int (tr)])), (a 0, .inl (ca 0, 160000, .inr (.inl (fc)))), (a 1, .inl (ca 1, 160000, .inl (f1))), (a 2, .inl (ca 2, 160000, .inl (f2))), (a 3, .inl (ca 3, 160000, .inl (f3))), (a 4, .inl (ca 4, 32768, .inl (f4)))] := hD
  have hK : va_K D vwCl [(ca 0, .long), (ca 1, .int), (ca 2, .int), (ca 3, .int), (ca 4, .int)] s := hK
  refine lv_lload_n hx hb dX7_made_0 rfl (lv_at hl 1 rfl) ?_
  refine lv_ldc2 hx hb hown (hts (.constantLong RX7 75 (-7046029254386353131)) (List.mem_of_getElem? (i := 1) rfl)) dX7_made_1 ?_
  refine lv_lmul hx hb dX7_made_4 ?_
  refine lv_bipush hx hb dX7_made_5 (v := 49) rfl ?_
  refine lv_lushr hx hb dX7_made_7 rfl ?_
  refine lv_l2i hx hb dX7_made_8 rfl ?_
  refine lv_topi (fun v1 ev1 => ?_)
  obtain ⟨jh, hjh, ejh⟩ : ∃ j : Nat, j < 32768 ∧ v1 = nI j := by rw [ev1]; exact sl_in _
  have hsl : slo x = nI jh := by rw [← ejh, ev1]; rfl
  rw [ejh]
  refine lv_istore_n hx hb dX7_made_9 rfl hl (by decide) rfl (fun ls hl => ?_)
  have hl : lv_has ls 11 [(3, .int (nI jh)), (0, .ref (h0)), (1, .long (x))] := hl
  refine lv_aload_n hx hb dX7_made_10 rfl (lv_at hl 1 rfl) ?_
  refine va_get (D := D) (ci := 7) (v := .ref (a 4)) (C := RX7) (T := TX7) (N := 9) hx hb hts (fun w h => List.mem_cons_of_mem _ (List.mem_append_right _ h)) hown hK hP 0 rfl rfl 4 (by decide) (hts (.fieldLink RX7 27 "ProofHouse$Room" "heads" "[I") (List.mem_of_getElem? (i := 2) rfl)) (fun _ h9 => h9) rfl dX7_made_11 ?_
  refine lv_iload_n hx hb dX7_made_14 rfl (lv_at hl 0 rfl) ?_
  refine va_iald hx hb hK hP 5 4 rfl rfl (vp_in_nI hjh (by decide)) dX7_made_15 ?_
  refine lv_topi (fun v2 ev2 => ?_)
  have ev2 : v2 = (f4) (nI jh : Int32).toNatClampNeg := ev2
  refine lv_istore hx hb dX7_made_16 hl (by decide) rfl (fun ls hl => ?_)
  have hl : lv_has ls 11 [(4, .int (v2)), (3, .int (nI jh)), (0, .ref (h0)), (1, .long (x))] := hl
  have hx0 : v2 = -1 ∨ ∃ i : Nat, i < n ∧ v2 = nI i := by rw [ev2, nI_clamp (by omega)]; exact (hO.1 jh hjh).imp id (fun ⟨i, h1, h2, _⟩ => ⟨i, h1, h2⟩)
  refine w_loop (nL := 11) (lst := fun q : Int32 => [(4, .int q), (3, .int (nI jh)), (0, .ref h0), (1, .long x)]) (μ := fun q => (q + 1).toNatClampNeg) (I := fun q => q = -1 ∨ ∃ i : Nat, i < n ∧ q = nI i) ?_ v2 ls hx0 hl
  clear hl
  intro q ls hI hl ih
  have hl : lv_has ls 11 [(4, .int (q)), (3, .int (nI jh)), (0, .ref (h0)), (1, .long (x))] := hl
  refine lv_iload hx hb dX7_made_18 (lv_at hl 0 rfl) ?_
  refine lv_if_lt hx hb dX7_made_20 (tgt := 50) rfl (fun h3 => ?_) (fun h3 => ?_)
  · refine lv_aload_n hx hb dX7_made_50 rfl (lv_at hl 2 rfl) ?_
    refine va_get (D := D) (ci := 7) (v := .int (nI n)) (C := RX7) (T := TX7) (N := 9) hx hb hts (fun w h => List.mem_cons_of_mem _ (List.mem_append_right _ h)) hown hK hP 0 rfl rfl 5 (by decide) (hts (.fieldLink RX7 30 "ProofHouse$Room" "used" "I") (List.mem_of_getElem? (i := 5) rfl)) (fun _ h9 => h9) rfl dX7_made_51 ?_
    refine lv_ldc hx hb hown (hts (.constant RX7 11 (160000)) (List.mem_of_getElem? (i := 6) rfl)) dX7_made_54 ?_
    refine lv_icmp_lt hx hb dX7_made_56 (tgt := 80) rfl (fun h4 => ?_) (fun h4 => ?_)
    · refine lv_aload_n hx hb dX7_made_80 rfl (lv_at hl 2 rfl) ?_
      refine va_get (D := D) (ci := 7) (v := .int (nI n)) (C := RX7) (T := TX7) (N := 9) hx hb hts (fun w h => List.mem_cons_of_mem _ (List.mem_append_right _ h)) hown hK hP 0 rfl rfl 5 (by decide) (hts (.fieldLink RX7 30 "ProofHouse$Room" "used" "I") (List.mem_of_getElem? (i := 5) rfl)) (fun _ h9 => h9) rfl dX7_made_81 ?_
      refine lv_istore hx hb dX7_made_84 hl (by decide) rfl (fun ls hl => ?_)
      have hl : lv_has ls 11 [(4, .int (nI n)), (3, .int (nI jh)), (0, .ref (h0)), (1, .long (x))] := hl
      refine lv_aload_n hx hb dX7_made_86 rfl (lv_at hl 2 rfl) ?_
      refine lv_dup hx hb dX7_made_87 rfl ?_
      refine va_get (D := D) (ci := 7) (v := .int (nI n)) (C := RX7) (T := TX7) (N := 9) hx hb hts (fun w h => List.mem_cons_of_mem _ (List.mem_append_right _ h)) hown hK hP 0 rfl rfl 5 (by decide) (hts (.fieldLink RX7 30 "ProofHouse$Room" "used" "I") (List.mem_of_getElem? (i := 5) rfl)) (fun _ h9 => h9) rfl dX7_made_88 ?_
      refine lv_iconst hx hb dX7_made_91 (v := 1) rfl ?_
      refine lv_iadd hx hb dX7_made_92 ?_
      refine va_put (D := D) (ci := 7) (v := .int ((nI n) + 1)) (ty := .int) (C := RX7) (T := TX7) (N := 9) hx hb hts (fun w h => List.mem_cons_of_mem _ (List.mem_append_right _ h)) tyX7 tyX7_ok nmX7 hown hK hP hD hS 0 rfl rfl 5 (by decide) (hts (.fieldLink RX7 30 "ProofHouse$Room" "used" "I") (List.mem_of_getElem? (i := 5) rfl)) (fun _ h9 => h9) rfl (tyX7_ok 5 (by decide)) rfl rfl (Nat.le_of_ble_eq_true rfl) dX7_made_93 ?_
      clear hP hD hS
      intro H locs hP hD hS
      have hP : va_P D vwCl [(h0, .inr (7, [.ref (a 0), .ref (a 1), .ref (a 2), .ref (a 3), .ref (a 4), .int ((nI n) + 1), .int (g), .int (sp), .int (tr)])), (a 0, .inl (ca 0, 160000, .inr (.inl (fc)))), (a 1, .inl (ca 1, 160000, .inl (f1))), (a 2, .inl (ca 2, 160000, .inl (f2))), (a 3, .inl (ca 3, 160000, .inl (f3))), (a 4, .inl (ca 4, 32768, .inl (f4)))] H := hP
      have hD : va_D A [(h0, .inr (7, [.ref (a 0), .ref (a 1), .ref (a 2), .ref (a 3), .ref (a 4), .int ((nI n) + 1), .int (g), .int (sp), .int (tr)])), (a 0, .inl (ca 0, 160000, .inr (.inl (fc)))), (a 1, .inl (ca 1, 160000, .inl (f1))), (a 2, .inl (ca 2, 160000, .inl (f2))), (a 3, .inl (ca 3, 160000, .inl (f3))), (a 4, .inl (ca 4, 32768, .inl (f4)))] := hD
      refine lv_aload_n hx hb dX7_made_96 rfl (lv_at hl 2 rfl) ?_
      refine va_get (D := D) (ci := 7) (v := .ref (a 0)) (C := RX7) (T := TX7) (N := 9) hx hb hts (fun w h => List.mem_cons_of_mem _ (List.mem_append_right _ h)) hown hK hP 0 rfl rfl 0 (by decide) (hts (.fieldLink RX7 12 "ProofHouse$Room" "cells" "[J") (List.mem_of_getElem? (i := 3) rfl)) (fun _ h9 => h9) rfl dX7_made_97 ?_
      refine lv_iload hx hb dX7_made_100 (lv_at hl 0 rfl) ?_
      refine lv_lload_n hx hb dX7_made_102 rfl (lv_at hl 3 rfl) ?_
      refine va_last hx hb hK hP hD hS 1 0 rfl rfl (vp_in_nI (by omega) (by decide)) dX7_made_103 ?_
      clear hP hD hS
      intro H locs hP hD hS
      have hP : va_P D vwCl [(h0, .inr (7, [.ref (a 0), .ref (a 1), .ref (a 2), .ref (a 3), .ref (a 4), .int ((nI n) + 1), .int (g), .int (sp), .int (tr)])), (a 0, .inl (ca 0, 160000, .inr (.inl (vp_updL (fc) (nI n : Int32).toNatClampNeg (x))))), (a 1, .inl (ca 1, 160000, .inl (f1))), (a 2, .inl (ca 2, 160000, .inl (f2))), (a 3, .inl (ca 3, 160000, .inl (f3))), (a 4, .inl (ca 4, 32768, .inl (f4)))] H := hP
      have hD : va_D A [(h0, .inr (7, [.ref (a 0), .ref (a 1), .ref (a 2), .ref (a 3), .ref (a 4), .int ((nI n) + 1), .int (g), .int (sp), .int (tr)])), (a 0, .inl (ca 0, 160000, .inr (.inl (vp_updL (fc) (nI n : Int32).toNatClampNeg (x))))), (a 1, .inl (ca 1, 160000, .inl (f1))), (a 2, .inl (ca 2, 160000, .inl (f2))), (a 3, .inl (ca 3, 160000, .inl (f3))), (a 4, .inl (ca 4, 32768, .inl (f4)))] := hD
      refine lv_aload_n hx hb dX7_made_104 rfl (lv_at hl 2 rfl) ?_
      refine va_get (D := D) (ci := 7) (v := .ref (a 1)) (C := RX7) (T := TX7) (N := 9) hx hb hts (fun w h => List.mem_cons_of_mem _ (List.mem_append_right _ h)) hown hK hP 0 rfl rfl 1 (by decide) (hts (.fieldLink RX7 16 "ProofHouse$Room" "chain" "[I") (List.mem_of_getElem? (i := 4) rfl)) (fun _ h9 => h9) rfl dX7_made_105 ?_
      refine lv_iload hx hb dX7_made_108 (lv_at hl 0 rfl) ?_
      refine lv_aload_n hx hb dX7_made_110 rfl (lv_at hl 2 rfl) ?_
      refine va_get (D := D) (ci := 7) (v := .ref (a 4)) (C := RX7) (T := TX7) (N := 9) hx hb hts (fun w h => List.mem_cons_of_mem _ (List.mem_append_right _ h)) hown hK hP 0 rfl rfl 4 (by decide) (hts (.fieldLink RX7 27 "ProofHouse$Room" "heads" "[I") (List.mem_of_getElem? (i := 2) rfl)) (fun _ h9 => h9) rfl dX7_made_111 ?_
      refine lv_iload_n hx hb dX7_made_114 rfl (lv_at hl 1 rfl) ?_
      refine va_iald hx hb hK hP 5 4 rfl rfl (vp_in_nI hjh (by decide)) dX7_made_115 ?_
      refine lv_topi (fun v5 ev5 => ?_)
      have ev5 : v5 = (f4) (nI jh : Int32).toNatClampNeg := ev5
      refine va_iast hx hb hK hP hD hS 2 1 rfl rfl (vp_in_nI (by omega) (by decide)) dX7_made_116 ?_
      clear hP hD hS
      intro H locs hP hD hS
      have hP : va_P D vwCl [(h0, .inr (7, [.ref (a 0), .ref (a 1), .ref (a 2), .ref (a 3), .ref (a 4), .int ((nI n) + 1), .int (g), .int (sp), .int (tr)])), (a 0, .inl (ca 0, 160000, .inr (.inl (vp_updL (fc) (nI n : Int32).toNatClampNeg (x))))), (a 1, .inl (ca 1, 160000, .inl (upd (f1) (nI n : Int32).toNatClampNeg (v5)))), (a 2, .inl (ca 2, 160000, .inl (f2))), (a 3, .inl (ca 3, 160000, .inl (f3))), (a 4, .inl (ca 4, 32768, .inl (f4)))] H := hP
      have hD : va_D A [(h0, .inr (7, [.ref (a 0), .ref (a 1), .ref (a 2), .ref (a 3), .ref (a 4), .int ((nI n) + 1), .int (g), .int (sp), .int (tr)])), (a 0, .inl (ca 0, 160000, .inr (.inl (vp_updL (fc) (nI n : Int32).toNatClampNeg (x))))), (a 1, .inl (ca 1, 160000, .inl (upd (f1) (nI n : Int32).toNatClampNeg (v5)))), (a 2, .inl (ca 2, 160000, .inl (f2))), (a 3, .inl (ca 3, 160000, .inl (f3))), (a 4, .inl (ca 4, 32768, .inl (f4)))] := hD
      refine lv_aload_n hx hb dX7_made_117 rfl (lv_at hl 2 rfl) ?_
      refine va_get (D := D) (ci := 7) (v := .ref (a 4)) (C := RX7) (T := TX7) (N := 9) hx hb hts (fun w h => List.mem_cons_of_mem _ (List.mem_append_right _ h)) hown hK hP 0 rfl rfl 4 (by decide) (hts (.fieldLink RX7 27 "ProofHouse$Room" "heads" "[I") (List.mem_of_getElem? (i := 2) rfl)) (fun _ h9 => h9) rfl dX7_made_118 ?_
      refine lv_iload_n hx hb dX7_made_121 rfl (lv_at hl 1 rfl) ?_
      refine lv_iload hx hb dX7_made_122 (lv_at hl 0 rfl) ?_
      refine va_iast hx hb hK hP hD hS 5 4 rfl rfl (vp_in_nI hjh (by decide)) dX7_made_124 ?_
      clear hP hD hS
      intro H locs hP hD hS
      have hP : va_P D vwCl [(h0, .inr (7, [.ref (a 0), .ref (a 1), .ref (a 2), .ref (a 3), .ref (a 4), .int ((nI n) + 1), .int (g), .int (sp), .int (tr)])), (a 0, .inl (ca 0, 160000, .inr (.inl (vp_updL (fc) (nI n : Int32).toNatClampNeg (x))))), (a 1, .inl (ca 1, 160000, .inl (upd (f1) (nI n : Int32).toNatClampNeg (v5)))), (a 2, .inl (ca 2, 160000, .inl (f2))), (a 3, .inl (ca 3, 160000, .inl (f3))), (a 4, .inl (ca 4, 32768, .inl (upd (f4) (nI jh : Int32).toNatClampNeg (nI n))))] H := hP
      have hD : va_D A [(h0, .inr (7, [.ref (a 0), .ref (a 1), .ref (a 2), .ref (a 3), .ref (a 4), .int ((nI n) + 1), .int (g), .int (sp), .int (tr)])), (a 0, .inl (ca 0, 160000, .inr (.inl (vp_updL (fc) (nI n : Int32).toNatClampNeg (x))))), (a 1, .inl (ca 1, 160000, .inl (upd (f1) (nI n : Int32).toNatClampNeg (v5)))), (a 2, .inl (ca 2, 160000, .inl (f2))), (a 3, .inl (ca 3, 160000, .inl (f3))), (a 4, .inl (ca 4, 32768, .inl (upd (f4) (nI jh : Int32).toNatClampNeg (nI n))))] := hD
      refine lv_aload_n hx hb dX7_made_125 rfl (lv_at hl 2 rfl) ?_
      refine va_get (D := D) (ci := 7) (v := .ref (a 2)) (C := RX7) (T := TX7) (N := 9) hx hb hts (fun w h => List.mem_cons_of_mem _ (List.mem_append_right _ h)) hown hK hP 0 rfl rfl 2 (by decide) (hts (.fieldLink RX7 20 "ProofHouse$Room" "sums" "[I") (List.mem_of_getElem? (i := 8) rfl)) (fun _ h9 => h9) rfl dX7_made_126 ?_
      refine lv_iload hx hb dX7_made_129 (lv_at hl 0 rfl) ?_
      refine lv_iconst hx hb dX7_made_131 (v := 0) rfl ?_
      refine va_iast hx hb hK hP hD hS 3 2 rfl rfl (vp_in_nI (by omega) (by decide)) dX7_made_132 ?_
      clear hP hD hS
      intro H locs hP hD hS
      have hP : va_P D vwCl [(h0, .inr (7, [.ref (a 0), .ref (a 1), .ref (a 2), .ref (a 3), .ref (a 4), .int ((nI n) + 1), .int (g), .int (sp), .int (tr)])), (a 0, .inl (ca 0, 160000, .inr (.inl (vp_updL (fc) (nI n : Int32).toNatClampNeg (x))))), (a 1, .inl (ca 1, 160000, .inl (upd (f1) (nI n : Int32).toNatClampNeg (v5)))), (a 2, .inl (ca 2, 160000, .inl (upd (f2) (nI n : Int32).toNatClampNeg (0)))), (a 3, .inl (ca 3, 160000, .inl (f3))), (a 4, .inl (ca 4, 32768, .inl (upd (f4) (nI jh : Int32).toNatClampNeg (nI n))))] H := hP
      have hD : va_D A [(h0, .inr (7, [.ref (a 0), .ref (a 1), .ref (a 2), .ref (a 3), .ref (a 4), .int ((nI n) + 1), .int (g), .int (sp), .int (tr)])), (a 0, .inl (ca 0, 160000, .inr (.inl (vp_updL (fc) (nI n : Int32).toNatClampNeg (x))))), (a 1, .inl (ca 1, 160000, .inl (upd (f1) (nI n : Int32).toNatClampNeg (v5)))), (a 2, .inl (ca 2, 160000, .inl (upd (f2) (nI n : Int32).toNatClampNeg (0)))), (a 3, .inl (ca 3, 160000, .inl (f3))), (a 4, .inl (ca 4, 32768, .inl (upd (f4) (nI jh : Int32).toNatClampNeg (nI n))))] := hD
      refine lv_aload_n hx hb dX7_made_133 rfl (lv_at hl 2 rfl) ?_
      refine va_get (D := D) (ci := 7) (v := .ref (a 3)) (C := RX7) (T := TX7) (N := 9) hx hb hts (fun w h => List.mem_cons_of_mem _ (List.mem_append_right _ h)) hown hK hP 0 rfl rfl 3 (by decide) (hts (.fieldLink RX7 23 "ProofHouse$Room" "heights" "[I") (List.mem_of_getElem? (i := 9) rfl)) (fun _ h9 => h9) rfl dX7_made_134 ?_
      refine lv_iload hx hb dX7_made_137 (lv_at hl 0 rfl) ?_
      refine lv_iconst hx hb dX7_made_139 (v := 0) rfl ?_
      refine va_iast hx hb hK hP hD hS 4 3 rfl rfl (vp_in_nI (by omega) (by decide)) dX7_made_140 ?_
      clear hP hD hS
      intro H locs hP hD hS
      have hP : va_P D vwCl [(h0, .inr (7, [.ref (a 0), .ref (a 1), .ref (a 2), .ref (a 3), .ref (a 4), .int ((nI n) + 1), .int (g), .int (sp), .int (tr)])), (a 0, .inl (ca 0, 160000, .inr (.inl (vp_updL (fc) (nI n : Int32).toNatClampNeg (x))))), (a 1, .inl (ca 1, 160000, .inl (upd (f1) (nI n : Int32).toNatClampNeg (v5)))), (a 2, .inl (ca 2, 160000, .inl (upd (f2) (nI n : Int32).toNatClampNeg (0)))), (a 3, .inl (ca 3, 160000, .inl (upd (f3) (nI n : Int32).toNatClampNeg (0)))), (a 4, .inl (ca 4, 32768, .inl (upd (f4) (nI jh : Int32).toNatClampNeg (nI n))))] H := hP
      have hD : va_D A [(h0, .inr (7, [.ref (a 0), .ref (a 1), .ref (a 2), .ref (a 3), .ref (a 4), .int ((nI n) + 1), .int (g), .int (sp), .int (tr)])), (a 0, .inl (ca 0, 160000, .inr (.inl (vp_updL (fc) (nI n : Int32).toNatClampNeg (x))))), (a 1, .inl (ca 1, 160000, .inl (upd (f1) (nI n : Int32).toNatClampNeg (v5)))), (a 2, .inl (ca 2, 160000, .inl (upd (f2) (nI n : Int32).toNatClampNeg (0)))), (a 3, .inl (ca 3, 160000, .inl (upd (f3) (nI n : Int32).toNatClampNeg (0)))), (a 4, .inl (ca 4, 32768, .inl (upd (f4) (nI jh : Int32).toNatClampNeg (nI n))))] := hD
      refine lv_lload_n hx hb dX7_made_141 rfl (lv_at hl 3 rfl) ?_
      refine lv_bipush hx hb dX7_made_142 (v := 31) rfl ?_
      refine lv_lushr hx hb dX7_made_144 rfl ?_
      refine lv_l2i hx hb dX7_made_145 rfl ?_
      refine lv_topi (fun v6 ev6 => ?_)
      refine lv_ldc hx hb hown (hts (.constant RX7 77 (2147483647)) (List.mem_of_getElem? (i := 10) rfl)) dX7_made_146 ?_
      refine lv_iand hx hb dX7_made_148 ?_
      refine lv_istore hx hb dX7_made_149 hl (by decide) rfl (fun ls hl => ?_)
      have hl : lv_has ls 11 [(5, .int (v6 &&& 2147483647)), (4, .int (nI n)), (3, .int (nI jh)), (0, .ref (h0)), (1, .long (x))] := hl
      refine lv_lload_n hx hb dX7_made_151 rfl (lv_at hl 4 rfl) ?_
      refine lv_l2i hx hb dX7_made_152 rfl ?_
      refine lv_topi (fun v7 ev7 => ?_)
      refine lv_ldc hx hb hown (hts (.constant RX7 77 (2147483647)) (List.mem_of_getElem? (i := 10) rfl)) dX7_made_153 ?_
      refine lv_iand hx hb dX7_made_155 ?_
      refine lv_istore hx hb dX7_made_156 hl (by decide) rfl (fun ls hl => ?_)
      have hl : lv_has ls 11 [(6, .int (v7 &&& 2147483647)), (5, .int (v6 &&& 2147483647)), (4, .int (nI n)), (3, .int (nI jh)), (0, .ref (h0)), (1, .long (x))] := hl
      refine lv_lload_n hx hb dX7_made_158 rfl (lv_at hl 5 rfl) ?_
      refine lv_lconst hx hb dX7_made_159 (v := 0) rfl ?_
      refine W.lcmp hx hb dX7_made_160 ?_
      refine lv_if_ge hx hb dX7_made_161 (tgt := 310) rfl (fun h8 => ?_) (fun h8 => ?_)
      · refine lv_iload hx hb dX7_made_310 (lv_at hl 2 rfl) ?_
        rw [nI_1] at hP hD
        simp only [nI_clamp (show n < 2 ^ 31 by omega), nI_clamp (show jh < 2 ^ 31 by omega)] at hP hD
        rw [show v5 = f4 jh by rw [ev5, nI_clamp (by omega)]] at hP hD
        exact W.iret (v := nI n) hx hb hr (fun t ht hW => ⟨⟨nI n, (vp_updL fc n x, upd f1 n (f4 jh), upd f2 n 0, upd f3 n 0, upd f4 jh (nI n), n + 1), rfl, ⟨rfl, rO2_add hO hjh hsl hx9, fun j hj9 => uL_n (by omega), uL_s⟩, ⟨by rw [ht]; exact hP, va_K.moved hW.alike hK, hD⟩⟩, hS.F ht⟩) hS.2.2 dX7_made_312
      · exact absurd (lc_ge hx9) h8
    · exact absurd (nI_lt (a := n) (b := 160000) (by omega) (by decide)) h4
  · obtain ⟨i, hi, hq⟩ : ∃ i : Nat, i < n ∧ q = nI i := hI.elim (fun h => absurd (by rw [h]; decide) h3) id
    subst hq
    refine lv_aload_n hx hb dX7_made_23 rfl (lv_at hl 2 rfl) ?_
    refine va_get (D := D) (ci := 7) (v := .ref (a 0)) (C := RX7) (T := TX7) (N := 9) hx hb hts (fun w h => List.mem_cons_of_mem _ (List.mem_append_right _ h)) hown hK hP 0 rfl rfl 0 (by decide) (hts (.fieldLink RX7 12 "ProofHouse$Room" "cells" "[J") (List.mem_of_getElem? (i := 3) rfl)) (fun _ h9 => h9) rfl dX7_made_24 ?_
    refine lv_iload hx hb dX7_made_27 (lv_at hl 0 rfl) ?_
    refine va_lald hx hb hK hP 1 0 rfl rfl (vp_in_nI (by omega) (by decide)) dX7_made_29 ?_
    refine lv_topl (fun v9 ev9 => ?_)
    have ev9 : v9 = (fc) (nI i : Int32).toNatClampNeg := ev9
    refine lv_lload_n hx hb dX7_made_30 rfl (lv_at hl 3 rfl) ?_
    refine W.lcmp hx hb dX7_made_31 ?_
    refine lv_if_ne hx hb dX7_made_32 (tgt := 38) rfl (fun h10 => ?_) (fun h10 => ?_)
    · refine lv_aload_n hx hb dX7_made_38 rfl (lv_at hl 2 rfl) ?_
      refine va_get (D := D) (ci := 7) (v := .ref (a 1)) (C := RX7) (T := TX7) (N := 9) hx hb hts (fun w h => List.mem_cons_of_mem _ (List.mem_append_right _ h)) hown hK hP 0 rfl rfl 1 (by decide) (hts (.fieldLink RX7 16 "ProofHouse$Room" "chain" "[I") (List.mem_of_getElem? (i := 4) rfl)) (fun _ h9 => h9) rfl dX7_made_39 ?_
      refine lv_iload hx hb dX7_made_42 (lv_at hl 0 rfl) ?_
      refine va_iald hx hb hK hP 2 1 rfl rfl (vp_in_nI (by omega) (by decide)) dX7_made_44 ?_
      refine lv_topi (fun v11 ev11 => ?_)
      have ev11 : v11 = (f1) (nI i : Int32).toNatClampNeg := ev11
      refine lv_istore hx hb dX7_made_45 hl (by decide) rfl (fun ls hl => ?_)
      have hl : lv_has ls 11 [(4, .int (v11)), (3, .int (nI jh)), (0, .ref (h0)), (1, .long (x))] := hl
      refine lv_goto hx hb dX7_made_47 (tgt := 18) rfl ?_
      have hz : v11 = -1 ∨ ∃ i2 : Nat, i2 < i ∧ v11 = nI i2 := by rw [ev11, nI_clamp (by omega)]; exact (hO.2.1 i hi).imp id (fun ⟨i, h1, h2, _⟩ => ⟨i, h1, h2⟩)
      refine ih v11 ls (hz.elim Or.inl (fun ⟨i2, h2, e2⟩ => Or.inr ⟨i2, by omega, e2⟩)) ?_ hl
      show (v11 + 1).toNatClampNeg < (nI i + 1).toNatClampNeg
      rw [nI_1, nI_clamp (by omega)]
      rcases hz with h | ⟨i2, h2, h⟩
      · rw [h]; exact Nat.succ_pos i
      · rw [h, nI_1, nI_clamp (by omega)]; omega
    · exact absurd (show fc i = x by have e9 := lc_eq (x := v9) (y := x) (by first | exact h10 | exact Classical.not_not.mp h10); rw [← e9, ev9, nI_clamp (by omega)]) (hne i hi)
