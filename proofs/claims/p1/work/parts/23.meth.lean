def wsX0_rules : List Cond := .code yX0_rules cX0_rules 4 (some .int) :: ([.fieldLink RX0 64 "ProofHouse$Book" "theorems" "I", .fieldLink RX0 37 "ProofHouse$Book" "lefts" "[I", .fieldLink RX0 58 "ProofHouse$Book" "on" "[Z"] ++ wsX00)
def wsX0_muteNone : List Cond := .code yX0_muteNone cX0_muteNone 2 none :: ([.fieldLink RX0 61 "ProofHouse$Book" "muted" "[Z"] ++ wsX00)
def wsX4_begin : List Cond := .code yX4_begin cX4_begin 1 none :: ([.fieldLink RX4 17 "ProofHouse$Prover" "givenCount" "I", .fieldLink RX4 30 "ProofHouse$Prover" "leftCount" "I"] ++ wsX40)
def wsX9_clear : List Cond := .code yX9_clear cX9_clear 1 none :: ([.fieldLink RX9 9 "ProofHouse$Scribe" "length" "I"] ++ wsX90)
def wsX5_refuse : List Cond := .code yX5_refuse cX5_refuse 3 none :: ([.fieldLink RX5 37 "ProofHouse$Reader" "flaw" "I", .fieldLink RX5 40 "ProofHouse$Reader" "place" "I"] ++ wsX50)
def wsX7_begin : List Cond := .code yX7_begin cX7_begin 2 none :: ([.fieldLink RX7 34 "ProofHouse$Room" "given" "I", .fieldLink RX7 37 "ProofHouse$Room" "spent" "I", .fieldLink RX7 40 "ProofHouse$Room" "trouble" "I"] ++ wsX70)
def wsX11_feed : List Cond := .code yX11_feed cX11_feed 6 none :: ([.fieldLink RX11 108 "ProofHouse" "waiting" "[I"] ++ wsX110)
def wsX11_end : List Cond := .code yX11_end cX11_end 3 (some .int) :: ([.fieldLink RX11 105 "ProofHouse" "textLength" "I", .fieldLink RX11 101 "ProofHouse" "text" "[C", .fieldLink RX11 108 "ProofHouse" "waiting" "[I", .methodLink RX11 137 yJ7_fill_53178, .static yJ7_fill_53178, .initialized RJ7, .code yJ7_fill_53178 cJ7_fill_53178 4 none] ++ wsX110)
def wsX11_fuel : List Cond := .code yX11_fuel cX11_fuel 3 (some .int) :: ([.fieldLink RX11 112 "ProofHouse" "fuelSet" "I"] ++ wsX110)
def wsX11_fault : List Cond := .code yX11_fault cX11_fault 2 (some .int) :: ([.fieldLink RX11 36 "ProofHouse" "reader" "LProofHouse$Reader;", .fieldLink RX11 130 "ProofHouse" "workFault" "I"] ++ wsX110 ++ wsX50)
def wsX11_steps : List Cond := .code yX11_steps cX11_steps 1 (some .int) :: ([.fieldLink RX11 127 "ProofHouse" "stepsMade" "I"] ++ wsX110)
def wsX11_count : List Cond := .code yX11_count cX11_count 2 (some .int) :: ([.fieldLink RX11 27 "ProofHouse" "book" "LProofHouse$Book;", .fieldLink RX11 88 "ProofHouse" "prover" "LProofHouse$Prover;", .methodLink RX11 195 yX0_rules, .instanceMethod yX0_rules, .selects RX0 yX0_rules yX0_rules, .initialized RX0, .code yX0_rules cX0_rules 4 (some .int), .fieldLink RX0 64 "ProofHouse$Book" "theorems" "I", .fieldLink RX0 37 "ProofHouse$Book" "lefts" "[I", .fieldLink RX0 58 "ProofHouse$Book" "on" "[Z"] ++ wsX110 ++ wsX00 ++ wsX40)
def wsX11_size : List Cond := .code yX11_size cX11_size 1 (some .int) :: ([.fieldLink RX11 45 "ProofHouse" "out" "LProofHouse$Scribe;"] ++ wsX110 ++ wsX90)
def wsX11_letter : List Cond := .code yX11_letter cX11_letter 2 (some .int) :: ([.fieldLink RX11 45 "ProofHouse" "out" "LProofHouse$Scribe;"] ++ wsX110 ++ wsX90)
def wsX11_taken : List Cond := .code yX11_taken cX11_taken 2 (some .int) :: ([.fieldLink RX11 27 "ProofHouse" "book" "LProofHouse$Book;"] ++ wsX110 ++ wsX00)
theorem dX0_rules_0 : decode cX0_rules 0 = .ok (.iconst 0, 1) := by decide +kernel
theorem dX0_rules_1 : decode cX0_rules 1 = .ok (.istore_n 2, 1) := by decide +kernel
theorem dX0_rules_2 : decode cX0_rules 2 = .ok (.iconst 0, 1) := by decide +kernel
theorem dX0_rules_3 : decode cX0_rules 3 = .ok (.istore_n 3, 1) := by decide +kernel
theorem dX0_rules_4 : decode cX0_rules 4 = .ok (.iload_n 3, 1) := by decide +kernel
theorem dX0_rules_5 : decode cX0_rules 5 = .ok (.aload_n 0, 1) := by decide +kernel
theorem dX0_rules_6 : decode cX0_rules 6 = .ok (.getfield 64, 3) := by decide +kernel
theorem dX0_rules_9 : decode cX0_rules 9 = .ok (.if_icmp .ge 40, 3) := by decide +kernel
theorem dX0_rules_12 : decode cX0_rules 12 = .ok (.iload_n 2, 1) := by decide +kernel
theorem dX0_rules_13 : decode cX0_rules 13 = .ok (.aload_n 0, 1) := by decide +kernel
theorem dX0_rules_14 : decode cX0_rules 14 = .ok (.getfield 37, 3) := by decide +kernel
theorem dX0_rules_17 : decode cX0_rules 17 = .ok (.iload_n 3, 1) := by decide +kernel
theorem dX0_rules_18 : decode cX0_rules 18 = .ok (.iaload, 1) := by decide +kernel
theorem dX0_rules_19 : decode cX0_rules 19 = .ok (.iconst (-1), 1) := by decide +kernel
theorem dX0_rules_20 : decode cX0_rules 20 = .ok (.if_icmp .eq 20, 3) := by decide +kernel
theorem dX0_rules_23 : decode cX0_rules 23 = .ok (.aload_n 0, 1) := by decide +kernel
theorem dX0_rules_24 : decode cX0_rules 24 = .ok (.getfield 58, 3) := by decide +kernel
theorem dX0_rules_27 : decode cX0_rules 27 = .ok (.iload_n 3, 1) := by decide +kernel
theorem dX0_rules_28 : decode cX0_rules 28 = .ok (.baload, 1) := by decide +kernel
theorem dX0_rules_29 : decode cX0_rules 29 = .ok (.ifCond .ne 7, 3) := by decide +kernel
theorem dX0_rules_32 : decode cX0_rules 32 = .ok (.iload_n 1, 1) := by decide +kernel
theorem dX0_rules_33 : decode cX0_rules 33 = .ok (.ifCond .ne 7, 3) := by decide +kernel
theorem dX0_rules_36 : decode cX0_rules 36 = .ok (.iconst 1, 1) := by decide +kernel
theorem dX0_rules_37 : decode cX0_rules 37 = .ok (.goto 4, 3) := by decide +kernel
theorem dX0_rules_40 : decode cX0_rules 40 = .ok (.iconst 0, 1) := by decide +kernel
theorem dX0_rules_41 : decode cX0_rules 41 = .ok (.iadd, 1) := by decide +kernel
theorem dX0_rules_42 : decode cX0_rules 42 = .ok (.istore_n 2, 1) := by decide +kernel
theorem dX0_rules_43 : decode cX0_rules 43 = .ok (.iinc 3 1, 3) := by decide +kernel
theorem dX0_rules_46 : decode cX0_rules 46 = .ok (.goto (-42), 3) := by decide +kernel
theorem dX0_rules_49 : decode cX0_rules 49 = .ok (.iload_n 2, 1) := by decide +kernel
theorem dX0_rules_50 : decode cX0_rules 50 = .ok (.ireturn, 1) := by decide +kernel
theorem dX0_muteNone_0 : decode cX0_muteNone 0 = .ok (.iconst 0, 1) := by decide +kernel
theorem dX0_muteNone_1 : decode cX0_muteNone 1 = .ok (.istore_n 1, 1) := by decide +kernel
theorem dX0_muteNone_2 : decode cX0_muteNone 2 = .ok (.iload_n 1, 1) := by decide +kernel
theorem dX0_muteNone_3 : decode cX0_muteNone 3 = .ok (.bipush 60, 2) := by decide +kernel
theorem dX0_muteNone_5 : decode cX0_muteNone 5 = .ok (.if_icmp .ge 16, 3) := by decide +kernel
theorem dX0_muteNone_8 : decode cX0_muteNone 8 = .ok (.aload_n 0, 1) := by decide +kernel
theorem dX0_muteNone_9 : decode cX0_muteNone 9 = .ok (.getfield 61, 3) := by decide +kernel
theorem dX0_muteNone_12 : decode cX0_muteNone 12 = .ok (.iload_n 1, 1) := by decide +kernel
theorem dX0_muteNone_13 : decode cX0_muteNone 13 = .ok (.iconst 0, 1) := by decide +kernel
theorem dX0_muteNone_14 : decode cX0_muteNone 14 = .ok (.bastore, 1) := by decide +kernel
theorem dX0_muteNone_15 : decode cX0_muteNone 15 = .ok (.iinc 1 1, 3) := by decide +kernel
theorem dX0_muteNone_18 : decode cX0_muteNone 18 = .ok (.goto (-16), 3) := by decide +kernel
theorem dX0_muteNone_21 : decode cX0_muteNone 21 = .ok (.return_, 1) := by decide +kernel
theorem dX4_begin_0 : decode cX4_begin 0 = .ok (.aload_n 0, 1) := by decide +kernel
theorem dX4_begin_1 : decode cX4_begin 1 = .ok (.iconst 0, 1) := by decide +kernel
theorem dX4_begin_2 : decode cX4_begin 2 = .ok (.putfield 17, 3) := by decide +kernel
theorem dX4_begin_5 : decode cX4_begin 5 = .ok (.aload_n 0, 1) := by decide +kernel
theorem dX4_begin_6 : decode cX4_begin 6 = .ok (.iconst 0, 1) := by decide +kernel
theorem dX4_begin_7 : decode cX4_begin 7 = .ok (.putfield 30, 3) := by decide +kernel
theorem dX4_begin_10 : decode cX4_begin 10 = .ok (.return_, 1) := by decide +kernel
theorem dX5_read_0 : decode cX5_read 0 = .ok (.aload_n 0, 1) := by decide +kernel
theorem dX5_read_1 : decode cX5_read 1 = .ok (.iconst 0, 1) := by decide +kernel
theorem dX5_read_2 : decode cX5_read 2 = .ok (.putfield 24, 3) := by decide +kernel
theorem dX5_read_5 : decode cX5_read 5 = .ok (.aload_n 0, 1) := by decide +kernel
theorem dX5_read_6 : decode cX5_read 6 = .ok (.iconst 0, 1) := by decide +kernel
theorem dX5_read_7 : decode cX5_read 7 = .ok (.putfield 28, 3) := by decide +kernel
theorem dX5_read_10 : decode cX5_read 10 = .ok (.aload_n 0, 1) := by decide +kernel
theorem dX5_read_11 : decode cX5_read 11 = .ok (.iconst 0, 1) := by decide +kernel
theorem dX5_read_12 : decode cX5_read 12 = .ok (.putfield 31, 3) := by decide +kernel
theorem dX5_read_15 : decode cX5_read 15 = .ok (.aload_n 0, 1) := by decide +kernel
theorem dX5_read_16 : decode cX5_read 16 = .ok (.iconst 0, 1) := by decide +kernel
theorem dX5_read_17 : decode cX5_read 17 = .ok (.putfield 34, 3) := by decide +kernel
theorem dX5_read_20 : decode cX5_read 20 = .ok (.aload_n 0, 1) := by decide +kernel
theorem dX5_read_21 : decode cX5_read 21 = .ok (.iconst 0, 1) := by decide +kernel
theorem dX5_read_22 : decode cX5_read 22 = .ok (.putfield 37, 3) := by decide +kernel
theorem dX5_read_25 : decode cX5_read 25 = .ok (.aload_n 0, 1) := by decide +kernel
theorem dX5_read_26 : decode cX5_read 26 = .ok (.iconst (-1), 1) := by decide +kernel
theorem dX5_read_27 : decode cX5_read 27 = .ok (.putfield 40, 3) := by decide +kernel
theorem dX5_read_30 : decode cX5_read 30 = .ok (.aload_n 0, 1) := by decide +kernel
theorem dX5_read_31 : decode cX5_read 31 = .ok (.getfield 11, 3) := by decide +kernel
theorem dX5_read_34 : decode cX5_read 34 = .ok (.iconst 0, 1) := by decide +kernel
theorem dX5_read_35 : decode cX5_read 35 = .ok (.iconst 0, 1) := by decide +kernel
theorem dX5_read_36 : decode cX5_read 36 = .ok (.iastore, 1) := by decide +kernel
theorem dX5_read_37 : decode cX5_read 37 = .ok (.iconst 0, 1) := by decide +kernel
theorem dX5_read_38 : decode cX5_read 38 = .ok (.istore_n 3, 1) := by decide +kernel
theorem dX5_read_39 : decode cX5_read 39 = .ok (.iload_n 3, 1) := by decide +kernel
theorem dX5_read_40 : decode cX5_read 40 = .ok (.iload_n 2, 1) := by decide +kernel
theorem dX5_read_41 : decode cX5_read 41 = .ok (.if_icmp .ge 78, 3) := by decide +kernel
theorem dX5_read_44 : decode cX5_read 44 = .ok (.iload_n 3, 1) := by decide +kernel
theorem dX5_read_45 : decode cX5_read 45 = .ok (.aload_n 1, 1) := by decide +kernel
theorem dX5_read_46 : decode cX5_read 46 = .ok (.arraylength, 1) := by decide +kernel
theorem dX5_read_47 : decode cX5_read 47 = .ok (.if_icmp .ge 72, 3) := by decide +kernel
theorem dX5_read_50 : decode cX5_read 50 = .ok (.aload_n 0, 1) := by decide +kernel
theorem dX5_read_51 : decode cX5_read 51 = .ok (.getfield 37, 3) := by decide +kernel
theorem dX5_read_54 : decode cX5_read 54 = .ok (.ifCond .ne 65, 3) := by decide +kernel
theorem dX5_read_57 : decode cX5_read 57 = .ok (.iload_n 3, 1) := by decide +kernel
theorem dX5_read_58 : decode cX5_read 58 = .ok (.iconst 1, 1) := by decide +kernel
theorem dX5_read_59 : decode cX5_read 59 = .ok (.iadd, 1) := by decide +kernel
theorem dX5_read_60 : decode cX5_read 60 = .ok (.istore 4, 2) := by decide +kernel
theorem dX5_read_62 : decode cX5_read 62 = .ok (.aload_n 1, 1) := by decide +kernel
theorem dX5_read_63 : decode cX5_read 63 = .ok (.iload_n 3, 1) := by decide +kernel
theorem dX5_read_64 : decode cX5_read 64 = .ok (.caload, 1) := by decide +kernel
theorem dX5_read_65 : decode cX5_read 65 = .ok (.bipush 59, 2) := by decide +kernel
theorem dX5_read_67 : decode cX5_read 67 = .ok (.if_icmp .ne 15, 3) := by decide +kernel
theorem dX5_read_70 : decode cX5_read 70 = .ok (.aload_n 0, 1) := by decide +kernel
theorem dX5_read_71 : decode cX5_read 71 = .ok (.aload_n 1, 1) := by decide +kernel
theorem dX5_read_72 : decode cX5_read 72 = .ok (.iload_n 3, 1) := by decide +kernel
theorem dX5_read_73 : decode cX5_read 73 = .ok (.iload_n 2, 1) := by decide +kernel
theorem dX5_read_74 : decode cX5_read 74 = .ok (.invokevirtual 47, 3) := by decide +kernel
theorem dX5_read_77 : decode cX5_read 77 = .ok (.istore 4, 2) := by decide +kernel
theorem dX5_read_79 : decode cX5_read 79 = .ok (.goto 28, 3) := by decide +kernel
theorem dX5_read_82 : decode cX5_read 82 = .ok (.aload_n 1, 1) := by decide +kernel
theorem dX5_read_83 : decode cX5_read 83 = .ok (.iload_n 3, 1) := by decide +kernel
theorem dX5_read_84 : decode cX5_read 84 = .ok (.caload, 1) := by decide +kernel
theorem dX5_read_85 : decode cX5_read 85 = .ok (.bipush 32, 2) := by decide +kernel
theorem dX5_read_87 : decode cX5_read 87 = .ok (.if_icmp .eq 20, 3) := by decide +kernel
theorem dX5_read_90 : decode cX5_read 90 = .ok (.aload_n 1, 1) := by decide +kernel
theorem dX5_read_91 : decode cX5_read 91 = .ok (.iload_n 3, 1) := by decide +kernel
theorem dX5_read_92 : decode cX5_read 92 = .ok (.caload, 1) := by decide +kernel
theorem dX5_read_93 : decode cX5_read 93 = .ok (.bipush 10, 2) := by decide +kernel
theorem dX5_read_95 : decode cX5_read 95 = .ok (.if_icmp .eq 12, 3) := by decide +kernel
theorem dX5_read_98 : decode cX5_read 98 = .ok (.aload_n 0, 1) := by decide +kernel
theorem dX5_read_99 : decode cX5_read 99 = .ok (.aload_n 1, 1) := by decide +kernel
theorem dX5_read_100 : decode cX5_read 100 = .ok (.iload_n 3, 1) := by decide +kernel
theorem dX5_read_101 : decode cX5_read 101 = .ok (.iload_n 2, 1) := by decide +kernel
theorem dX5_read_102 : decode cX5_read 102 = .ok (.invokevirtual 51, 3) := by decide +kernel
theorem dX5_read_105 : decode cX5_read 105 = .ok (.istore 4, 2) := by decide +kernel
theorem dX5_read_107 : decode cX5_read 107 = .ok (.iload_n 3, 1) := by decide +kernel
theorem dX5_read_108 : decode cX5_read 108 = .ok (.iconst 1, 1) := by decide +kernel
theorem dX5_read_109 : decode cX5_read 109 = .ok (.iadd, 1) := by decide +kernel
theorem dX5_read_110 : decode cX5_read 110 = .ok (.iload 4, 2) := by decide +kernel
theorem dX5_read_112 : decode cX5_read 112 = .ok (.invokestatic 54, 3) := by decide +kernel
theorem dX5_read_115 : decode cX5_read 115 = .ok (.istore_n 3, 1) := by decide +kernel
theorem dX5_read_116 : decode cX5_read 116 = .ok (.goto (-77), 3) := by decide +kernel
theorem dX5_read_119 : decode cX5_read 119 = .ok (.aload_n 0, 1) := by decide +kernel
theorem dX5_read_120 : decode cX5_read 120 = .ok (.getfield 37, 3) := by decide +kernel
theorem dX5_read_123 : decode cX5_read 123 = .ok (.ifCond .ne 20, 3) := by decide +kernel
theorem dX5_read_126 : decode cX5_read 126 = .ok (.aload_n 0, 1) := by decide +kernel
theorem dX5_read_127 : decode cX5_read 127 = .ok (.getfield 11, 3) := by decide +kernel
theorem dX5_read_130 : decode cX5_read 130 = .ok (.iconst 0, 1) := by decide +kernel
theorem dX5_read_131 : decode cX5_read 131 = .ok (.iaload, 1) := by decide +kernel
theorem dX5_read_132 : decode cX5_read 132 = .ok (.bipush 6, 2) := by decide +kernel
theorem dX5_read_134 : decode cX5_read 134 = .ok (.if_icmp .eq 9, 3) := by decide +kernel
theorem dX5_read_137 : decode cX5_read 137 = .ok (.aload_n 0, 1) := by decide +kernel
theorem dX5_read_138 : decode cX5_read 138 = .ok (.iconst 3, 1) := by decide +kernel
theorem dX5_read_139 : decode cX5_read 139 = .ok (.iload_n 2, 1) := by decide +kernel
theorem dX5_read_140 : decode cX5_read 140 = .ok (.invokevirtual 60, 3) := by decide +kernel
theorem dX5_read_143 : decode cX5_read 143 = .ok (.aload_n 0, 1) := by decide +kernel
theorem dX5_read_144 : decode cX5_read 144 = .ok (.getfield 34, 3) := by decide +kernel
theorem dX5_read_147 : decode cX5_read 147 = .ok (.ireturn, 1) := by decide +kernel
theorem dX5_refuse_0 : decode cX5_refuse 0 = .ok (.aload_n 0, 1) := by decide +kernel
theorem dX5_refuse_1 : decode cX5_refuse 1 = .ok (.iload_n 1, 1) := by decide +kernel
theorem dX5_refuse_2 : decode cX5_refuse 2 = .ok (.putfield 37, 3) := by decide +kernel
theorem dX5_refuse_5 : decode cX5_refuse 5 = .ok (.aload_n 0, 1) := by decide +kernel
theorem dX5_refuse_6 : decode cX5_refuse 6 = .ok (.iload_n 2, 1) := by decide +kernel
theorem dX5_refuse_7 : decode cX5_refuse 7 = .ok (.putfield 40, 3) := by decide +kernel
theorem dX5_refuse_10 : decode cX5_refuse 10 = .ok (.return_, 1) := by decide +kernel
theorem dX7_begin_0 : decode cX7_begin 0 = .ok (.aload_n 0, 1) := by decide +kernel
theorem dX7_begin_1 : decode cX7_begin 1 = .ok (.iload_n 1, 1) := by decide +kernel
theorem dX7_begin_2 : decode cX7_begin 2 = .ok (.putfield 34, 3) := by decide +kernel
theorem dX7_begin_5 : decode cX7_begin 5 = .ok (.aload_n 0, 1) := by decide +kernel
theorem dX7_begin_6 : decode cX7_begin 6 = .ok (.iconst 0, 1) := by decide +kernel
theorem dX7_begin_7 : decode cX7_begin 7 = .ok (.putfield 37, 3) := by decide +kernel
theorem dX7_begin_10 : decode cX7_begin 10 = .ok (.aload_n 0, 1) := by decide +kernel
theorem dX7_begin_11 : decode cX7_begin 11 = .ok (.iconst 0, 1) := by decide +kernel
theorem dX7_begin_12 : decode cX7_begin 12 = .ok (.putfield 40, 3) := by decide +kernel
theorem dX7_begin_15 : decode cX7_begin 15 = .ok (.return_, 1) := by decide +kernel
theorem dX7_forget_0 : decode cX7_forget 0 = .ok (.aload_n 0, 1) := by decide +kernel
theorem dX7_forget_1 : decode cX7_forget 1 = .ok (.getfield 30, 3) := by decide +kernel
theorem dX7_forget_4 : decode cX7_forget 4 = .ok (.iconst 1, 1) := by decide +kernel
theorem dX7_forget_5 : decode cX7_forget 5 = .ok (.isub, 1) := by decide +kernel
theorem dX7_forget_6 : decode cX7_forget 6 = .ok (.istore_n 2, 1) := by decide +kernel
theorem dX7_forget_7 : decode cX7_forget 7 = .ok (.iload_n 2, 1) := by decide +kernel
theorem dX7_forget_8 : decode cX7_forget 8 = .ok (.iload_n 1, 1) := by decide +kernel
theorem dX7_forget_9 : decode cX7_forget 9 = .ok (.if_icmp .lt 38, 3) := by decide +kernel
theorem dX7_forget_12 : decode cX7_forget 12 = .ok (.iload_n 2, 1) := by decide +kernel
theorem dX7_forget_13 : decode cX7_forget 13 = .ok (.ifCond .lt 34, 3) := by decide +kernel
theorem dX7_forget_16 : decode cX7_forget 16 = .ok (.aload_n 0, 1) := by decide +kernel
theorem dX7_forget_17 : decode cX7_forget 17 = .ok (.getfield 27, 3) := by decide +kernel
theorem dX7_forget_20 : decode cX7_forget 20 = .ok (.aload_n 0, 1) := by decide +kernel
theorem dX7_forget_21 : decode cX7_forget 21 = .ok (.getfield 12, 3) := by decide +kernel
theorem dX7_forget_24 : decode cX7_forget 24 = .ok (.iload_n 2, 1) := by decide +kernel
theorem dX7_forget_25 : decode cX7_forget 25 = .ok (.laload, 1) := by decide +kernel
theorem dX7_forget_26 : decode cX7_forget 26 = .ok (.ldc2_w 75, 3) := by decide +kernel
theorem dX7_forget_29 : decode cX7_forget 29 = .ok (.lmul, 1) := by decide +kernel
theorem dX7_forget_30 : decode cX7_forget 30 = .ok (.bipush 49, 2) := by decide +kernel
theorem dX7_forget_32 : decode cX7_forget 32 = .ok (.lushr, 1) := by decide +kernel
theorem dX7_forget_33 : decode cX7_forget 33 = .ok (.l2i, 1) := by decide +kernel
theorem dX7_forget_34 : decode cX7_forget 34 = .ok (.aload_n 0, 1) := by decide +kernel
theorem dX7_forget_35 : decode cX7_forget 35 = .ok (.getfield 16, 3) := by decide +kernel
theorem dX7_forget_38 : decode cX7_forget 38 = .ok (.iload_n 2, 1) := by decide +kernel
theorem dX7_forget_39 : decode cX7_forget 39 = .ok (.iaload, 1) := by decide +kernel
theorem dX7_forget_40 : decode cX7_forget 40 = .ok (.iastore, 1) := by decide +kernel
theorem dX7_forget_41 : decode cX7_forget 41 = .ok (.iinc 2 (-1), 3) := by decide +kernel
theorem dX7_forget_44 : decode cX7_forget 44 = .ok (.goto (-37), 3) := by decide +kernel
theorem dX7_forget_47 : decode cX7_forget 47 = .ok (.aload_n 0, 1) := by decide +kernel
theorem dX7_forget_48 : decode cX7_forget 48 = .ok (.iconst 0, 1) := by decide +kernel
theorem dX7_forget_49 : decode cX7_forget 49 = .ok (.aload_n 0, 1) := by decide +kernel
theorem dX7_forget_50 : decode cX7_forget 50 = .ok (.getfield 30, 3) := by decide +kernel
theorem dX7_forget_53 : decode cX7_forget 53 = .ok (.iload_n 1, 1) := by decide +kernel
theorem dX7_forget_54 : decode cX7_forget 54 = .ok (.invokestatic 79, 3) := by decide +kernel
theorem dX7_forget_57 : decode cX7_forget 57 = .ok (.invokestatic 85, 3) := by decide +kernel
theorem dX7_forget_60 : decode cX7_forget 60 = .ok (.putfield 30, 3) := by decide +kernel
theorem dX7_forget_63 : decode cX7_forget 63 = .ok (.return_, 1) := by decide +kernel
theorem dX9_clear_0 : decode cX9_clear 0 = .ok (.aload_n 0, 1) := by decide +kernel
theorem dX9_clear_1 : decode cX9_clear 1 = .ok (.iconst 0, 1) := by decide +kernel
theorem dX9_clear_2 : decode cX9_clear 2 = .ok (.putfield 9, 3) := by decide +kernel
theorem dX9_clear_5 : decode cX9_clear 5 = .ok (.return_, 1) := by decide +kernel
theorem dX11_feed_0 : decode cX11_feed 0 = .ok (.aload_n 0, 1) := by decide +kernel
theorem dX11_feed_1 : decode cX11_feed 1 = .ok (.getfield 108, 3) := by decide +kernel
theorem dX11_feed_4 : decode cX11_feed 4 = .ok (.iconst 0, 1) := by decide +kernel
theorem dX11_feed_5 : decode cX11_feed 5 = .ok (.iload_n 1, 1) := by decide +kernel
theorem dX11_feed_6 : decode cX11_feed 6 = .ok (.iastore, 1) := by decide +kernel
theorem dX11_feed_7 : decode cX11_feed 7 = .ok (.aload_n 0, 1) := by decide +kernel
theorem dX11_feed_8 : decode cX11_feed 8 = .ok (.getfield 108, 3) := by decide +kernel
theorem dX11_feed_11 : decode cX11_feed 11 = .ok (.iconst 1, 1) := by decide +kernel
theorem dX11_feed_12 : decode cX11_feed 12 = .ok (.iload_n 2, 1) := by decide +kernel
theorem dX11_feed_13 : decode cX11_feed 13 = .ok (.iastore, 1) := by decide +kernel
theorem dX11_feed_14 : decode cX11_feed 14 = .ok (.aload_n 0, 1) := by decide +kernel
theorem dX11_feed_15 : decode cX11_feed 15 = .ok (.getfield 108, 3) := by decide +kernel
theorem dX11_feed_18 : decode cX11_feed 18 = .ok (.iconst 2, 1) := by decide +kernel
theorem dX11_feed_19 : decode cX11_feed 19 = .ok (.iload_n 3, 1) := by decide +kernel
theorem dX11_feed_20 : decode cX11_feed 20 = .ok (.iastore, 1) := by decide +kernel
theorem dX11_feed_21 : decode cX11_feed 21 = .ok (.aload_n 0, 1) := by decide +kernel
theorem dX11_feed_22 : decode cX11_feed 22 = .ok (.getfield 108, 3) := by decide +kernel
theorem dX11_feed_25 : decode cX11_feed 25 = .ok (.iconst 3, 1) := by decide +kernel
theorem dX11_feed_26 : decode cX11_feed 26 = .ok (.iload 4, 2) := by decide +kernel
theorem dX11_feed_28 : decode cX11_feed 28 = .ok (.iastore, 1) := by decide +kernel
theorem dX11_feed_29 : decode cX11_feed 29 = .ok (.aload_n 0, 1) := by decide +kernel
theorem dX11_feed_30 : decode cX11_feed 30 = .ok (.getfield 108, 3) := by decide +kernel
theorem dX11_feed_33 : decode cX11_feed 33 = .ok (.iconst 4, 1) := by decide +kernel
theorem dX11_feed_34 : decode cX11_feed 34 = .ok (.iload 5, 2) := by decide +kernel
theorem dX11_feed_36 : decode cX11_feed 36 = .ok (.iastore, 1) := by decide +kernel
theorem dX11_feed_37 : decode cX11_feed 37 = .ok (.return_, 1) := by decide +kernel
theorem ggX11_end_J7_fill_53178 : GoodIn wsX11_end wsJ7_fill_53178 := goodIn_r _ [7] (by decide +kernel) (by decide +kernel)
theorem gX11_end_J7_fill_53178 : GoodIn wsX11_end (va_wsS RX11 137 yJ7_fill_53178 wsJ7_fill_53178) := goodIn_app (goodIn_of _ (by decide +kernel)) ggX11_end_J7_fill_53178
theorem dX11_end_0 : decode cX11_end 0 = .ok (.iload_n 1, 1) := by decide +kernel
theorem dX11_end_1 : decode cX11_end 1 = .ok (.ifCond .lt 21, 3) := by decide +kernel
theorem dX11_end_4 : decode cX11_end 4 = .ok (.iload_n 1, 1) := by decide +kernel
theorem dX11_end_5 : decode cX11_end 5 = .ok (.bipush 20, 2) := by decide +kernel
theorem dX11_end_7 : decode cX11_end 7 = .ok (.if_icmp .gt 15, 3) := by decide +kernel
theorem dX11_end_10 : decode cX11_end 10 = .ok (.aload_n 0, 1) := by decide +kernel
theorem dX11_end_11 : decode cX11_end 11 = .ok (.getfield 105, 3) := by decide +kernel
theorem dX11_end_14 : decode cX11_end 14 = .ok (.iload_n 1, 1) := by decide +kernel
theorem dX11_end_15 : decode cX11_end 15 = .ok (.iadd, 1) := by decide +kernel
theorem dX11_end_16 : decode cX11_end 16 = .ok (.sipush 3000, 3) := by decide +kernel
theorem dX11_end_19 : decode cX11_end 19 = .ok (.if_icmp .le 5, 3) := by decide +kernel
theorem dX11_end_22 : decode cX11_end 22 = .ok (.iconst (-1), 1) := by decide +kernel
theorem dX11_end_23 : decode cX11_end 23 = .ok (.ireturn, 1) := by decide +kernel
theorem dX11_end_24 : decode cX11_end 24 = .ok (.iconst 0, 1) := by decide +kernel
theorem dX11_end_25 : decode cX11_end 25 = .ok (.istore_n 2, 1) := by decide +kernel
theorem dX11_end_26 : decode cX11_end 26 = .ok (.iload_n 2, 1) := by decide +kernel
theorem dX11_end_27 : decode cX11_end 27 = .ok (.iload_n 1, 1) := by decide +kernel
theorem dX11_end_28 : decode cX11_end 28 = .ok (.if_icmp .ge 43, 3) := by decide +kernel
theorem dX11_end_31 : decode cX11_end 31 = .ok (.aload_n 0, 1) := by decide +kernel
theorem dX11_end_32 : decode cX11_end 32 = .ok (.getfield 101, 3) := by decide +kernel
theorem dX11_end_35 : decode cX11_end 35 = .ok (.aload_n 0, 1) := by decide +kernel
theorem dX11_end_36 : decode cX11_end 36 = .ok (.getfield 105, 3) := by decide +kernel
theorem dX11_end_39 : decode cX11_end 39 = .ok (.iload_n 2, 1) := by decide +kernel
theorem dX11_end_40 : decode cX11_end 40 = .ok (.iadd, 1) := by decide +kernel
theorem dX11_end_41 : decode cX11_end 41 = .ok (.aload_n 0, 1) := by decide +kernel
theorem dX11_end_42 : decode cX11_end 42 = .ok (.getfield 108, 3) := by decide +kernel
theorem dX11_end_45 : decode cX11_end 45 = .ok (.iload_n 2, 1) := by decide +kernel
theorem dX11_end_46 : decode cX11_end 46 = .ok (.iconst 4, 1) := by decide +kernel
theorem dX11_end_47 : decode cX11_end 47 = .ok (.idiv, 1) := by decide +kernel
theorem dX11_end_48 : decode cX11_end 48 = .ok (.iaload, 1) := by decide +kernel
theorem dX11_end_49 : decode cX11_end 49 = .ok (.bipush 24, 2) := by decide +kernel
theorem dX11_end_51 : decode cX11_end 51 = .ok (.iload_n 2, 1) := by decide +kernel
theorem dX11_end_52 : decode cX11_end 52 = .ok (.iconst 4, 1) := by decide +kernel
theorem dX11_end_53 : decode cX11_end 53 = .ok (.irem, 1) := by decide +kernel
theorem dX11_end_54 : decode cX11_end 54 = .ok (.bipush 8, 2) := by decide +kernel
theorem dX11_end_56 : decode cX11_end 56 = .ok (.imul, 1) := by decide +kernel
theorem dX11_end_57 : decode cX11_end 57 = .ok (.isub, 1) := by decide +kernel
theorem dX11_end_58 : decode cX11_end 58 = .ok (.iushr, 1) := by decide +kernel
theorem dX11_end_59 : decode cX11_end 59 = .ok (.sipush 255, 3) := by decide +kernel
theorem dX11_end_62 : decode cX11_end 62 = .ok (.iand, 1) := by decide +kernel
theorem dX11_end_63 : decode cX11_end 63 = .ok (.i2c, 1) := by decide +kernel
theorem dX11_end_64 : decode cX11_end 64 = .ok (.castore, 1) := by decide +kernel
theorem dX11_end_65 : decode cX11_end 65 = .ok (.iinc 2 1, 3) := by decide +kernel
theorem dX11_end_68 : decode cX11_end 68 = .ok (.goto (-42), 3) := by decide +kernel
theorem dX11_end_71 : decode cX11_end 71 = .ok (.aload_n 0, 1) := by decide +kernel
theorem dX11_end_72 : decode cX11_end 72 = .ok (.dup, 1) := by decide +kernel
theorem dX11_end_73 : decode cX11_end 73 = .ok (.getfield 105, 3) := by decide +kernel
theorem dX11_end_76 : decode cX11_end 76 = .ok (.iload_n 1, 1) := by decide +kernel
theorem dX11_end_77 : decode cX11_end 77 = .ok (.iadd, 1) := by decide +kernel
theorem dX11_end_78 : decode cX11_end 78 = .ok (.putfield 105, 3) := by decide +kernel
theorem dX11_end_81 : decode cX11_end 81 = .ok (.aload_n 0, 1) := by decide +kernel
theorem dX11_end_82 : decode cX11_end 82 = .ok (.getfield 108, 3) := by decide +kernel
theorem dX11_end_85 : decode cX11_end 85 = .ok (.iconst 0, 1) := by decide +kernel
theorem dX11_end_86 : decode cX11_end 86 = .ok (.invokestatic 137, 3) := by decide +kernel
theorem dX11_end_89 : decode cX11_end 89 = .ok (.aload_n 0, 1) := by decide +kernel
theorem dX11_end_90 : decode cX11_end 90 = .ok (.getfield 105, 3) := by decide +kernel
theorem dX11_end_93 : decode cX11_end 93 = .ok (.ireturn, 1) := by decide +kernel
theorem dX11_fuel_0 : decode cX11_fuel 0 = .ok (.iload_n 1, 1) := by decide +kernel
theorem dX11_fuel_1 : decode cX11_fuel 1 = .ok (.iconst 1, 1) := by decide +kernel
theorem dX11_fuel_2 : decode cX11_fuel 2 = .ok (.if_icmp .lt 10, 3) := by decide +kernel
theorem dX11_fuel_5 : decode cX11_fuel 5 = .ok (.iload_n 1, 1) := by decide +kernel
theorem dX11_fuel_6 : decode cX11_fuel 6 = .ok (.sipush 1000, 3) := by decide +kernel
theorem dX11_fuel_9 : decode cX11_fuel 9 = .ok (.if_icmp .le 5, 3) := by decide +kernel
theorem dX11_fuel_12 : decode cX11_fuel 12 = .ok (.iconst (-1), 1) := by decide +kernel
theorem dX11_fuel_13 : decode cX11_fuel 13 = .ok (.ireturn, 1) := by decide +kernel
theorem dX11_fuel_14 : decode cX11_fuel 14 = .ok (.aload_n 0, 1) := by decide +kernel
theorem dX11_fuel_15 : decode cX11_fuel 15 = .ok (.getfield 112, 3) := by decide +kernel
theorem dX11_fuel_18 : decode cX11_fuel 18 = .ok (.istore_n 2, 1) := by decide +kernel
theorem dX11_fuel_19 : decode cX11_fuel 19 = .ok (.aload_n 0, 1) := by decide +kernel
theorem dX11_fuel_20 : decode cX11_fuel 20 = .ok (.iload_n 1, 1) := by decide +kernel
theorem dX11_fuel_21 : decode cX11_fuel 21 = .ok (.putfield 112, 3) := by decide +kernel
theorem dX11_fuel_24 : decode cX11_fuel 24 = .ok (.iload_n 2, 1) := by decide +kernel
theorem dX11_fuel_25 : decode cX11_fuel 25 = .ok (.ireturn, 1) := by decide +kernel
theorem dX11_run_0 : decode cX11_run 0 = .ok (.aload_n 0, 1) := by decide +kernel
theorem dX11_run_1 : decode cX11_run 1 = .ok (.getfield 105, 3) := by decide +kernel
theorem dX11_run_4 : decode cX11_run 4 = .ok (.istore_n 1, 1) := by decide +kernel
theorem dX11_run_5 : decode cX11_run 5 = .ok (.aload_n 0, 1) := by decide +kernel
theorem dX11_run_6 : decode cX11_run 6 = .ok (.iconst 0, 1) := by decide +kernel
theorem dX11_run_7 : decode cX11_run 7 = .ok (.putfield 105, 3) := by decide +kernel
theorem dX11_run_10 : decode cX11_run 10 = .ok (.aload_n 0, 1) := by decide +kernel
theorem dX11_run_11 : decode cX11_run 11 = .ok (.invokevirtual 143, 3) := by decide +kernel
theorem dX11_run_14 : decode cX11_run 14 = .ok (.aload_n 0, 1) := by decide +kernel
theorem dX11_run_15 : decode cX11_run 15 = .ok (.getfield 36, 3) := by decide +kernel
theorem dX11_run_18 : decode cX11_run 18 = .ok (.aload_n 0, 1) := by decide +kernel
theorem dX11_run_19 : decode cX11_run 19 = .ok (.getfield 101, 3) := by decide +kernel
theorem dX11_run_22 : decode cX11_run 22 = .ok (.iload_n 1, 1) := by decide +kernel
theorem dX11_run_23 : decode cX11_run 23 = .ok (.invokevirtual 146, 3) := by decide +kernel
theorem dX11_run_26 : decode cX11_run 26 = .ok (.istore_n 2, 1) := by decide +kernel
theorem dX11_run_27 : decode cX11_run 27 = .ok (.aload_n 0, 1) := by decide +kernel
theorem dX11_run_28 : decode cX11_run 28 = .ok (.getfield 36, 3) := by decide +kernel
theorem dX11_run_31 : decode cX11_run 31 = .ok (.getfield 150, 3) := by decide +kernel
theorem dX11_run_34 : decode cX11_run 34 = .ok (.ifCond .eq 5, 3) := by decide +kernel
theorem dX11_run_37 : decode cX11_run 37 = .ok (.iconst 1, 1) := by decide +kernel
theorem dX11_run_38 : decode cX11_run 38 = .ok (.ireturn, 1) := by decide +kernel
theorem dX11_run_39 : decode cX11_run 39 = .ok (.aload_n 0, 1) := by decide +kernel
theorem dX11_run_40 : decode cX11_run 40 = .ok (.iload_n 2, 1) := by decide +kernel
theorem dX11_run_41 : decode cX11_run 41 = .ok (.invokevirtual 153, 3) := by decide +kernel
theorem dX11_run_44 : decode cX11_run 44 = .ok (.istore_n 3, 1) := by decide +kernel
theorem dX11_run_45 : decode cX11_run 45 = .ok (.iload_n 3, 1) := by decide +kernel
theorem dX11_run_46 : decode cX11_run 46 = .ok (.ifCond .ne 16, 3) := by decide +kernel
theorem dX11_run_49 : decode cX11_run 49 = .ok (.aload_n 0, 1) := by decide +kernel
theorem dX11_run_50 : decode cX11_run 50 = .ok (.getfield 14, 3) := by decide +kernel
theorem dX11_run_53 : decode cX11_run 53 = .ok (.getfield 157, 3) := by decide +kernel
theorem dX11_run_56 : decode cX11_run 56 = .ok (.ifCond .eq 6, 3) := by decide +kernel
theorem dX11_run_59 : decode cX11_run 59 = .ok (.bipush 8, 2) := by decide +kernel
theorem dX11_run_61 : decode cX11_run 61 = .ok (.istore_n 3, 1) := by decide +kernel
theorem dX11_run_62 : decode cX11_run 62 = .ok (.iload_n 3, 1) := by decide +kernel
theorem dX11_run_63 : decode cX11_run 63 = .ok (.ifCond .eq 5, 3) := by decide +kernel
theorem dX11_run_66 : decode cX11_run 66 = .ok (.iload_n 3, 1) := by decide +kernel
theorem dX11_run_67 : decode cX11_run 67 = .ok (.ireturn, 1) := by decide +kernel
theorem dX11_run_68 : decode cX11_run 68 = .ok (.aload_n 0, 1) := by decide +kernel
theorem dX11_run_69 : decode cX11_run 69 = .ok (.getfield 14, 3) := by decide +kernel
theorem dX11_run_72 : decode cX11_run 72 = .ok (.getfield 20, 3) := by decide +kernel
theorem dX11_run_75 : decode cX11_run 75 = .ok (.istore 4, 2) := by decide +kernel
theorem dX11_run_77 : decode cX11_run 77 = .ok (.aload_n 0, 1) := by decide +kernel
theorem dX11_run_78 : decode cX11_run 78 = .ok (.getfield 14, 3) := by decide +kernel
theorem dX11_run_81 : decode cX11_run 81 = .ok (.aload_n 0, 1) := by decide +kernel
theorem dX11_run_82 : decode cX11_run 82 = .ok (.getfield 112, 3) := by decide +kernel
theorem dX11_run_85 : decode cX11_run 85 = .ok (.invokevirtual 160, 3) := by decide +kernel
theorem dX11_run_88 : decode cX11_run 88 = .ok (.aload_n 0, 1) := by decide +kernel
theorem dX11_run_89 : decode cX11_run 89 = .ok (.iload_n 2, 1) := by decide +kernel
theorem dX11_run_90 : decode cX11_run 90 = .ok (.invokevirtual 163, 3) := by decide +kernel
theorem dX11_run_93 : decode cX11_run 93 = .ok (.aload_n 0, 1) := by decide +kernel
theorem dX11_run_94 : decode cX11_run 94 = .ok (.getfield 14, 3) := by decide +kernel
theorem dX11_run_97 : decode cX11_run 97 = .ok (.getfield 157, 3) := by decide +kernel
theorem dX11_run_100 : decode cX11_run 100 = .ok (.ifCond .ne 11, 3) := by decide +kernel
theorem dX11_run_103 : decode cX11_run 103 = .ok (.aload_n 0, 1) := by decide +kernel
theorem dX11_run_104 : decode cX11_run 104 = .ok (.getfield 88, 3) := by decide +kernel
theorem dX11_run_107 : decode cX11_run 107 = .ok (.iconst 0, 1) := by decide +kernel
theorem dX11_run_108 : decode cX11_run 108 = .ok (.invokevirtual 166, 3) := by decide +kernel
theorem dX11_run_111 : decode cX11_run 111 = .ok (.aload_n 0, 1) := by decide +kernel
theorem dX11_run_112 : decode cX11_run 112 = .ok (.getfield 14, 3) := by decide +kernel
theorem dX11_run_115 : decode cX11_run 115 = .ok (.iload_n 2, 1) := by decide +kernel
theorem dX11_run_116 : decode cX11_run 116 = .ok (.invokevirtual 170, 3) := by decide +kernel
theorem dX11_run_119 : decode cX11_run 119 = .ok (.bipush 22, 2) := by decide +kernel
theorem dX11_run_121 : decode cX11_run 121 = .ok (.if_icmp .ne 19, 3) := by decide +kernel
theorem dX11_run_124 : decode cX11_run 124 = .ok (.aload_n 0, 1) := by decide +kernel
theorem dX11_run_125 : decode cX11_run 125 = .ok (.getfield 97, 3) := by decide +kernel
theorem dX11_run_128 : decode cX11_run 128 = .ok (.aload_n 0, 1) := by decide +kernel
theorem dX11_run_129 : decode cX11_run 129 = .ok (.getfield 14, 3) := by decide +kernel
theorem dX11_run_132 : decode cX11_run 132 = .ok (.iload_n 2, 1) := by decide +kernel
theorem dX11_run_133 : decode cX11_run 133 = .ok (.iconst 3, 1) := by decide +kernel
theorem dX11_run_134 : decode cX11_run 134 = .ok (.invokevirtual 173, 3) := by decide +kernel
theorem dX11_run_137 : decode cX11_run 137 = .ok (.invokevirtual 177, 3) := by decide +kernel
theorem dX11_run_140 : decode cX11_run 140 = .ok (.aload_n 0, 1) := by decide +kernel
theorem dX11_run_141 : decode cX11_run 141 = .ok (.aload_n 0, 1) := by decide +kernel
theorem dX11_run_142 : decode cX11_run 142 = .ok (.getfield 14, 3) := by decide +kernel
theorem dX11_run_145 : decode cX11_run 145 = .ok (.getfield 180, 3) := by decide +kernel
theorem dX11_run_148 : decode cX11_run 148 = .ok (.putfield 127, 3) := by decide +kernel
theorem dX11_run_151 : decode cX11_run 151 = .ok (.aload_n 0, 1) := by decide +kernel
theorem dX11_run_152 : decode cX11_run 152 = .ok (.aload_n 0, 1) := by decide +kernel
theorem dX11_run_153 : decode cX11_run 153 = .ok (.getfield 14, 3) := by decide +kernel
theorem dX11_run_156 : decode cX11_run 156 = .ok (.getfield 157, 3) := by decide +kernel
theorem dX11_run_159 : decode cX11_run 159 = .ok (.putfield 130, 3) := by decide +kernel
theorem dX11_run_162 : decode cX11_run 162 = .ok (.aload_n 0, 1) := by decide +kernel
theorem dX11_run_163 : decode cX11_run 163 = .ok (.iload_n 2, 1) := by decide +kernel
theorem dX11_run_164 : decode cX11_run 164 = .ok (.iload 4, 2) := by decide +kernel
theorem dX11_run_166 : decode cX11_run 166 = .ok (.invokevirtual 183, 3) := by decide +kernel
theorem dX11_run_169 : decode cX11_run 169 = .ok (.ireturn, 1) := by decide +kernel
theorem dX11_fault_0 : decode cX11_fault 0 = .ok (.iload_n 1, 1) := by decide +kernel
theorem dX11_fault_1 : decode cX11_fault 1 = .ok (.tableswitch 48 0 2 #[27, 35, 43], 27) := by decide +kernel
theorem dX11_fault_28 : decode cX11_fault 28 = .ok (.aload_n 0, 1) := by decide +kernel
theorem dX11_fault_29 : decode cX11_fault 29 = .ok (.getfield 36, 3) := by decide +kernel
theorem dX11_fault_32 : decode cX11_fault 32 = .ok (.getfield 150, 3) := by decide +kernel
theorem dX11_fault_35 : decode cX11_fault 35 = .ok (.ireturn, 1) := by decide +kernel
theorem dX11_fault_36 : decode cX11_fault 36 = .ok (.aload_n 0, 1) := by decide +kernel
theorem dX11_fault_37 : decode cX11_fault 37 = .ok (.getfield 36, 3) := by decide +kernel
theorem dX11_fault_40 : decode cX11_fault 40 = .ok (.getfield 186, 3) := by decide +kernel
theorem dX11_fault_43 : decode cX11_fault 43 = .ok (.ireturn, 1) := by decide +kernel
theorem dX11_fault_44 : decode cX11_fault 44 = .ok (.aload_n 0, 1) := by decide +kernel
theorem dX11_fault_45 : decode cX11_fault 45 = .ok (.getfield 130, 3) := by decide +kernel
theorem dX11_fault_48 : decode cX11_fault 48 = .ok (.ireturn, 1) := by decide +kernel
theorem dX11_fault_49 : decode cX11_fault 49 = .ok (.iconst (-1), 1) := by decide +kernel
theorem dX11_fault_50 : decode cX11_fault 50 = .ok (.ireturn, 1) := by decide +kernel
theorem dX11_steps_0 : decode cX11_steps 0 = .ok (.aload_n 0, 1) := by decide +kernel
theorem dX11_steps_1 : decode cX11_steps 1 = .ok (.getfield 127, 3) := by decide +kernel
theorem dX11_steps_4 : decode cX11_steps 4 = .ok (.ireturn, 1) := by decide +kernel
theorem ggX11_count_X0_rules : GoodIn wsX11_count wsX0_rules := goodIn_r _ [7, 8, 9, 10, 32, 33, 34, 35, 36, 37, 38, 39, 40, 41, 42, 43, 44, 45, 46, 47, 48, 49, 50, 51, 52] (by decide +kernel) (by decide +kernel)
theorem gX11_count_X0_rules : GoodIn wsX11_count (wsV RX11 195 RX0 yX0_rules wsX0_rules) := goodIn_app (goodIn_of _ (by decide +kernel)) ggX11_count_X0_rules
theorem dX11_count_0 : decode cX11_count 0 = .ok (.iload_n 1, 1) := by decide +kernel
theorem dX11_count_1 : decode cX11_count 1 = .ok (.tableswitch 77 0 4 #[35, 43, 51, 60, 69], 35) := by decide +kernel
theorem dX11_count_36 : decode cX11_count 36 = .ok (.aload_n 0, 1) := by decide +kernel
theorem dX11_count_37 : decode cX11_count 37 = .ok (.getfield 27, 3) := by decide +kernel
theorem dX11_count_40 : decode cX11_count 40 = .ok (.getfield 189, 3) := by decide +kernel
theorem dX11_count_43 : decode cX11_count 43 = .ok (.ireturn, 1) := by decide +kernel
theorem dX11_count_44 : decode cX11_count 44 = .ok (.aload_n 0, 1) := by decide +kernel
theorem dX11_count_45 : decode cX11_count 45 = .ok (.getfield 27, 3) := by decide +kernel
theorem dX11_count_48 : decode cX11_count 48 = .ok (.getfield 192, 3) := by decide +kernel
theorem dX11_count_51 : decode cX11_count 51 = .ok (.ireturn, 1) := by decide +kernel
theorem dX11_count_52 : decode cX11_count 52 = .ok (.aload_n 0, 1) := by decide +kernel
theorem dX11_count_53 : decode cX11_count 53 = .ok (.getfield 27, 3) := by decide +kernel
theorem dX11_count_56 : decode cX11_count 56 = .ok (.iconst 0, 1) := by decide +kernel
theorem dX11_count_57 : decode cX11_count 57 = .ok (.invokevirtual 195, 3) := by decide +kernel
theorem dX11_count_60 : decode cX11_count 60 = .ok (.ireturn, 1) := by decide +kernel
theorem dX11_count_61 : decode cX11_count 61 = .ok (.aload_n 0, 1) := by decide +kernel
theorem dX11_count_62 : decode cX11_count 62 = .ok (.getfield 27, 3) := by decide +kernel
theorem dX11_count_65 : decode cX11_count 65 = .ok (.iconst 1, 1) := by decide +kernel
theorem dX11_count_66 : decode cX11_count 66 = .ok (.invokevirtual 195, 3) := by decide +kernel
theorem dX11_count_69 : decode cX11_count 69 = .ok (.ireturn, 1) := by decide +kernel
theorem dX11_count_70 : decode cX11_count 70 = .ok (.aload_n 0, 1) := by decide +kernel
theorem dX11_count_71 : decode cX11_count 71 = .ok (.getfield 88, 3) := by decide +kernel
theorem dX11_count_74 : decode cX11_count 74 = .ok (.getfield 199, 3) := by decide +kernel
theorem dX11_count_77 : decode cX11_count 77 = .ok (.ireturn, 1) := by decide +kernel
theorem dX11_count_78 : decode cX11_count 78 = .ok (.iconst (-1), 1) := by decide +kernel
theorem dX11_count_79 : decode cX11_count 79 = .ok (.ireturn, 1) := by decide +kernel
theorem dX11_size_0 : decode cX11_size 0 = .ok (.aload_n 0, 1) := by decide +kernel
theorem dX11_size_1 : decode cX11_size 1 = .ok (.getfield 45, 3) := by decide +kernel
theorem dX11_size_4 : decode cX11_size 4 = .ok (.getfield 202, 3) := by decide +kernel
theorem dX11_size_7 : decode cX11_size 7 = .ok (.ireturn, 1) := by decide +kernel
theorem dX11_letter_0 : decode cX11_letter 0 = .ok (.iload_n 1, 1) := by decide +kernel
theorem dX11_letter_1 : decode cX11_letter 1 = .ok (.ifCond .lt 26, 3) := by decide +kernel
theorem dX11_letter_4 : decode cX11_letter 4 = .ok (.iload_n 1, 1) := by decide +kernel
theorem dX11_letter_5 : decode cX11_letter 5 = .ok (.aload_n 0, 1) := by decide +kernel
theorem dX11_letter_6 : decode cX11_letter 6 = .ok (.getfield 45, 3) := by decide +kernel
theorem dX11_letter_9 : decode cX11_letter 9 = .ok (.getfield 202, 3) := by decide +kernel
theorem dX11_letter_12 : decode cX11_letter 12 = .ok (.if_icmp .ge 15, 3) := by decide +kernel
theorem dX11_letter_15 : decode cX11_letter 15 = .ok (.aload_n 0, 1) := by decide +kernel
theorem dX11_letter_16 : decode cX11_letter 16 = .ok (.getfield 45, 3) := by decide +kernel
theorem dX11_letter_19 : decode cX11_letter 19 = .ok (.getfield 205, 3) := by decide +kernel
theorem dX11_letter_22 : decode cX11_letter 22 = .ok (.iload_n 1, 1) := by decide +kernel
theorem dX11_letter_23 : decode cX11_letter 23 = .ok (.caload, 1) := by decide +kernel
theorem dX11_letter_24 : decode cX11_letter 24 = .ok (.goto 4, 3) := by decide +kernel
theorem dX11_letter_27 : decode cX11_letter 27 = .ok (.iconst (-1), 1) := by decide +kernel
theorem dX11_letter_28 : decode cX11_letter 28 = .ok (.ireturn, 1) := by decide +kernel
theorem dX11_taken_0 : decode cX11_taken 0 = .ok (.iload_n 1, 1) := by decide +kernel
theorem dX11_taken_1 : decode cX11_taken 1 = .ok (.ifCond .lt 26, 3) := by decide +kernel
theorem dX11_taken_4 : decode cX11_taken 4 = .ok (.iload_n 1, 1) := by decide +kernel
theorem dX11_taken_5 : decode cX11_taken 5 = .ok (.aload_n 0, 1) := by decide +kernel
theorem dX11_taken_6 : decode cX11_taken 6 = .ok (.getfield 27, 3) := by decide +kernel
theorem dX11_taken_9 : decode cX11_taken 9 = .ok (.getfield 208, 3) := by decide +kernel
theorem dX11_taken_12 : decode cX11_taken 12 = .ok (.if_icmp .ge 15, 3) := by decide +kernel
theorem dX11_taken_15 : decode cX11_taken 15 = .ok (.aload_n 0, 1) := by decide +kernel
theorem dX11_taken_16 : decode cX11_taken 16 = .ok (.getfield 27, 3) := by decide +kernel
theorem dX11_taken_19 : decode cX11_taken 19 = .ok (.getfield 211, 3) := by decide +kernel
theorem dX11_taken_22 : decode cX11_taken 22 = .ok (.iload_n 1, 1) := by decide +kernel
theorem dX11_taken_23 : decode cX11_taken 23 = .ok (.iaload, 1) := by decide +kernel
theorem dX11_taken_24 : decode cX11_taken 24 = .ok (.goto 4, 3) := by decide +kernel
theorem dX11_taken_27 : decode cX11_taken 27 = .ok (.iconst 0, 1) := by decide +kernel
theorem dX11_taken_28 : decode cX11_taken 28 = .ok (.ireturn, 1) := by decide +kernel
theorem dX11_tell_0 : decode cX11_tell 0 = .ok (.iload_n 1, 1) := by decide +kernel
theorem dX11_tell_1 : decode cX11_tell 1 = .ok (.ifCond .lt 14, 3) := by decide +kernel
theorem dX11_tell_4 : decode cX11_tell 4 = .ok (.iload_n 1, 1) := by decide +kernel
theorem dX11_tell_5 : decode cX11_tell 5 = .ok (.aload_n 0, 1) := by decide +kernel
theorem dX11_tell_6 : decode cX11_tell 6 = .ok (.getfield 27, 3) := by decide +kernel
theorem dX11_tell_9 : decode cX11_tell 9 = .ok (.getfield 208, 3) := by decide +kernel
theorem dX11_tell_12 : decode cX11_tell 12 = .ok (.if_icmp .lt 5, 3) := by decide +kernel
theorem dX11_tell_15 : decode cX11_tell 15 = .ok (.iconst (-1), 1) := by decide +kernel
theorem dX11_tell_16 : decode cX11_tell 16 = .ok (.ireturn, 1) := by decide +kernel
theorem dX11_tell_17 : decode cX11_tell 17 = .ok (.aload_n 0, 1) := by decide +kernel
theorem dX11_tell_18 : decode cX11_tell 18 = .ok (.getfield 27, 3) := by decide +kernel
theorem dX11_tell_21 : decode cX11_tell 21 = .ok (.iload_n 1, 1) := by decide +kernel
theorem dX11_tell_22 : decode cX11_tell 22 = .ok (.invokevirtual 214, 3) := by decide +kernel
theorem dX11_tell_25 : decode cX11_tell 25 = .ok (.istore_n 2, 1) := by decide +kernel
theorem dX11_tell_26 : decode cX11_tell 26 = .ok (.aload_n 0, 1) := by decide +kernel
theorem dX11_tell_27 : decode cX11_tell 27 = .ok (.getfield 27, 3) := by decide +kernel
theorem dX11_tell_30 : decode cX11_tell 30 = .ok (.getfield 211, 3) := by decide +kernel
theorem dX11_tell_33 : decode cX11_tell 33 = .ok (.iload_n 1, 1) := by decide +kernel
theorem dX11_tell_34 : decode cX11_tell 34 = .ok (.iaload, 1) := by decide +kernel
theorem dX11_tell_35 : decode cX11_tell 35 = .ok (.iconst 1, 1) := by decide +kernel
theorem dX11_tell_36 : decode cX11_tell 36 = .ok (.if_icmp .ne 114, 3) := by decide +kernel
theorem dX11_tell_39 : decode cX11_tell 39 = .ok (.aload_n 0, 1) := by decide +kernel
theorem dX11_tell_40 : decode cX11_tell 40 = .ok (.getfield 27, 3) := by decide +kernel
theorem dX11_tell_43 : decode cX11_tell 43 = .ok (.getfield 217, 3) := by decide +kernel
theorem dX11_tell_46 : decode cX11_tell 46 = .ok (.iload_n 2, 1) := by decide +kernel
theorem dX11_tell_47 : decode cX11_tell 47 = .ok (.iaload, 1) := by decide +kernel
theorem dX11_tell_48 : decode cX11_tell 48 = .ok (.istore 4, 2) := by decide +kernel
theorem dX11_tell_50 : decode cX11_tell 50 = .ok (.iload 4, 2) := by decide +kernel
theorem dX11_tell_52 : decode cX11_tell 52 = .ok (.iconst (-1), 1) := by decide +kernel
theorem dX11_tell_53 : decode cX11_tell 53 = .ok (.if_icmp .ne 7, 3) := by decide +kernel
theorem dX11_tell_56 : decode cX11_tell 56 = .ok (.iconst 0, 1) := by decide +kernel
theorem dX11_tell_57 : decode cX11_tell 57 = .ok (.goto 16, 3) := by decide +kernel
theorem dX11_tell_60 : decode cX11_tell 60 = .ok (.aload_n 0, 1) := by decide +kernel
theorem dX11_tell_61 : decode cX11_tell 61 = .ok (.getfield 14, 3) := by decide +kernel
theorem dX11_tell_64 : decode cX11_tell 64 = .ok (.iload 4, 2) := by decide +kernel
theorem dX11_tell_66 : decode cX11_tell 66 = .ok (.iconst 0, 1) := by decide +kernel
theorem dX11_tell_67 : decode cX11_tell 67 = .ok (.invokestatic 220, 3) := by decide +kernel
theorem dX11_tell_70 : decode cX11_tell 70 = .ok (.invokevirtual 224, 3) := by decide +kernel
theorem dX11_tell_73 : decode cX11_tell 73 = .ok (.istore_n 3, 1) := by decide +kernel
theorem dX11_tell_74 : decode cX11_tell 74 = .ok (.aload_n 0, 1) := by decide +kernel
theorem dX11_tell_75 : decode cX11_tell 75 = .ok (.getfield 14, 3) := by decide +kernel
theorem dX11_tell_78 : decode cX11_tell 78 = .ok (.aload_n 0, 1) := by decide +kernel
theorem dX11_tell_79 : decode cX11_tell 79 = .ok (.getfield 27, 3) := by decide +kernel
theorem dX11_tell_82 : decode cX11_tell 82 = .ok (.getfield 228, 3) := by decide +kernel
theorem dX11_tell_85 : decode cX11_tell 85 = .ok (.iload_n 2, 1) := by decide +kernel
theorem dX11_tell_86 : decode cX11_tell 86 = .ok (.iaload, 1) := by decide +kernel
theorem dX11_tell_87 : decode cX11_tell 87 = .ok (.aload_n 0, 1) := by decide +kernel
theorem dX11_tell_88 : decode cX11_tell 88 = .ok (.getfield 14, 3) := by decide +kernel
theorem dX11_tell_91 : decode cX11_tell 91 = .ok (.aload_n 0, 1) := by decide +kernel
theorem dX11_tell_92 : decode cX11_tell 92 = .ok (.getfield 27, 3) := by decide +kernel
theorem dX11_tell_95 : decode cX11_tell 95 = .ok (.getfield 231, 3) := by decide +kernel
theorem dX11_tell_98 : decode cX11_tell 98 = .ok (.iload_n 2, 1) := by decide +kernel
theorem dX11_tell_99 : decode cX11_tell 99 = .ok (.iaload, 1) := by decide +kernel
theorem dX11_tell_100 : decode cX11_tell 100 = .ok (.iload_n 3, 1) := by decide +kernel
theorem dX11_tell_101 : decode cX11_tell 101 = .ok (.invokestatic 220, 3) := by decide +kernel
theorem dX11_tell_104 : decode cX11_tell 104 = .ok (.invokevirtual 224, 3) := by decide +kernel
theorem dX11_tell_107 : decode cX11_tell 107 = .ok (.invokestatic 220, 3) := by decide +kernel
theorem dX11_tell_110 : decode cX11_tell 110 = .ok (.invokevirtual 224, 3) := by decide +kernel
theorem dX11_tell_113 : decode cX11_tell 113 = .ok (.istore_n 3, 1) := by decide +kernel
theorem dX11_tell_114 : decode cX11_tell 114 = .ok (.aload_n 0, 1) := by decide +kernel
theorem dX11_tell_115 : decode cX11_tell 115 = .ok (.getfield 14, 3) := by decide +kernel
theorem dX11_tell_118 : decode cX11_tell 118 = .ok (.bipush 20, 2) := by decide +kernel
theorem dX11_tell_120 : decode cX11_tell 120 = .ok (.aload_n 0, 1) := by decide +kernel
theorem dX11_tell_121 : decode cX11_tell 121 = .ok (.getfield 14, 3) := by decide +kernel
theorem dX11_tell_124 : decode cX11_tell 124 = .ok (.aload_n 0, 1) := by decide +kernel
theorem dX11_tell_125 : decode cX11_tell 125 = .ok (.getfield 27, 3) := by decide +kernel
theorem dX11_tell_128 : decode cX11_tell 128 = .ok (.getfield 234, 3) := by decide +kernel
theorem dX11_tell_131 : decode cX11_tell 131 = .ok (.iload_n 2, 1) := by decide +kernel
theorem dX11_tell_132 : decode cX11_tell 132 = .ok (.iaload, 1) := by decide +kernel
theorem dX11_tell_133 : decode cX11_tell 133 = .ok (.iload_n 3, 1) := by decide +kernel
theorem dX11_tell_134 : decode cX11_tell 134 = .ok (.invokestatic 220, 3) := by decide +kernel
theorem dX11_tell_137 : decode cX11_tell 137 = .ok (.invokevirtual 224, 3) := by decide +kernel
theorem dX11_tell_140 : decode cX11_tell 140 = .ok (.invokestatic 220, 3) := by decide +kernel
theorem dX11_tell_143 : decode cX11_tell 143 = .ok (.invokevirtual 224, 3) := by decide +kernel
theorem dX11_tell_146 : decode cX11_tell 146 = .ok (.istore_n 3, 1) := by decide +kernel
theorem dX11_tell_147 : decode cX11_tell 147 = .ok (.goto 57, 3) := by decide +kernel
theorem dX11_tell_150 : decode cX11_tell 150 = .ok (.aload_n 0, 1) := by decide +kernel
theorem dX11_tell_151 : decode cX11_tell 151 = .ok (.getfield 14, 3) := by decide +kernel
theorem dX11_tell_154 : decode cX11_tell 154 = .ok (.aload_n 0, 1) := by decide +kernel
theorem dX11_tell_155 : decode cX11_tell 155 = .ok (.getfield 27, 3) := by decide +kernel
theorem dX11_tell_158 : decode cX11_tell 158 = .ok (.getfield 237, 3) := by decide +kernel
theorem dX11_tell_161 : decode cX11_tell 161 = .ok (.iload_n 2, 1) := by decide +kernel
theorem dX11_tell_162 : decode cX11_tell 162 = .ok (.iaload, 1) := by decide +kernel
theorem dX11_tell_163 : decode cX11_tell 163 = .ok (.iconst 0, 1) := by decide +kernel
theorem dX11_tell_164 : decode cX11_tell 164 = .ok (.invokestatic 220, 3) := by decide +kernel
theorem dX11_tell_167 : decode cX11_tell 167 = .ok (.invokevirtual 224, 3) := by decide +kernel
theorem dX11_tell_170 : decode cX11_tell 170 = .ok (.istore_n 3, 1) := by decide +kernel
theorem dX11_tell_171 : decode cX11_tell 171 = .ok (.aload_n 0, 1) := by decide +kernel
theorem dX11_tell_172 : decode cX11_tell 172 = .ok (.getfield 14, 3) := by decide +kernel
theorem dX11_tell_175 : decode cX11_tell 175 = .ok (.bipush 27, 2) := by decide +kernel
theorem dX11_tell_177 : decode cX11_tell 177 = .ok (.aload_n 0, 1) := by decide +kernel
theorem dX11_tell_178 : decode cX11_tell 178 = .ok (.getfield 14, 3) := by decide +kernel
theorem dX11_tell_181 : decode cX11_tell 181 = .ok (.aload_n 0, 1) := by decide +kernel
theorem dX11_tell_182 : decode cX11_tell 182 = .ok (.getfield 27, 3) := by decide +kernel
theorem dX11_tell_185 : decode cX11_tell 185 = .ok (.getfield 240, 3) := by decide +kernel
theorem dX11_tell_188 : decode cX11_tell 188 = .ok (.iload_n 2, 1) := by decide +kernel
theorem dX11_tell_189 : decode cX11_tell 189 = .ok (.iaload, 1) := by decide +kernel
theorem dX11_tell_190 : decode cX11_tell 190 = .ok (.iload_n 3, 1) := by decide +kernel
theorem dX11_tell_191 : decode cX11_tell 191 = .ok (.invokestatic 220, 3) := by decide +kernel
theorem dX11_tell_194 : decode cX11_tell 194 = .ok (.invokevirtual 224, 3) := by decide +kernel
theorem dX11_tell_197 : decode cX11_tell 197 = .ok (.invokestatic 220, 3) := by decide +kernel
theorem dX11_tell_200 : decode cX11_tell 200 = .ok (.invokevirtual 224, 3) := by decide +kernel
theorem dX11_tell_203 : decode cX11_tell 203 = .ok (.istore_n 3, 1) := by decide +kernel
theorem dX11_tell_204 : decode cX11_tell 204 = .ok (.aload_n 0, 1) := by decide +kernel
theorem dX11_tell_205 : decode cX11_tell 205 = .ok (.getfield 45, 3) := by decide +kernel
theorem dX11_tell_208 : decode cX11_tell 208 = .ok (.invokevirtual 243, 3) := by decide +kernel
theorem dX11_tell_211 : decode cX11_tell 211 = .ok (.aload_n 0, 1) := by decide +kernel
theorem dX11_tell_212 : decode cX11_tell 212 = .ok (.getfield 45, 3) := by decide +kernel
theorem dX11_tell_215 : decode cX11_tell 215 = .ok (.iload_n 3, 1) := by decide +kernel
theorem dX11_tell_216 : decode cX11_tell 216 = .ok (.invokevirtual 246, 3) := by decide +kernel
theorem dX11_tell_219 : decode cX11_tell 219 = .ok (.aload_n 0, 1) := by decide +kernel
theorem dX11_tell_220 : decode cX11_tell 220 = .ok (.getfield 45, 3) := by decide +kernel
theorem dX11_tell_223 : decode cX11_tell 223 = .ok (.getfield 202, 3) := by decide +kernel
theorem dX11_tell_226 : decode cX11_tell 226 = .ok (.ireturn, 1) := by decide +kernel
theorem dX11_recheck_0 : decode cX11_recheck 0 = .ok (.aload_n 0, 1) := by decide +kernel
theorem dX11_recheck_1 : decode cX11_recheck 1 = .ok (.getfield 133, 3) := by decide +kernel
theorem dX11_recheck_4 : decode cX11_recheck 4 = .ok (.ifCond .ne 5, 3) := by decide +kernel
theorem dX11_recheck_7 : decode cX11_recheck 7 = .ok (.iconst 0, 1) := by decide +kernel
theorem dX11_recheck_8 : decode cX11_recheck 8 = .ok (.ireturn, 1) := by decide +kernel
theorem dX11_recheck_9 : decode cX11_recheck 9 = .ok (.aload_n 0, 1) := by decide +kernel
theorem dX11_recheck_10 : decode cX11_recheck 10 = .ok (.getfield 14, 3) := by decide +kernel
theorem dX11_recheck_13 : decode cX11_recheck 13 = .ok (.ldc 249, 2) := by decide +kernel
theorem dX11_recheck_15 : decode cX11_recheck 15 = .ok (.invokevirtual 160, 3) := by decide +kernel
theorem dX11_recheck_18 : decode cX11_recheck 18 = .ok (.aload_n 0, 1) := by decide +kernel
theorem dX11_recheck_19 : decode cX11_recheck 19 = .ok (.getfield 70, 3) := by decide +kernel
theorem dX11_recheck_22 : decode cX11_recheck 22 = .ok (.invokevirtual 250, 3) := by decide +kernel
theorem dX11_recheck_25 : decode cX11_recheck 25 = .ok (.istore_n 1, 1) := by decide +kernel
theorem dX11_recheck_26 : decode cX11_recheck 26 = .ok (.aload_n 0, 1) := by decide +kernel
theorem dX11_recheck_27 : decode cX11_recheck 27 = .ok (.getfield 88, 3) := by decide +kernel
theorem dX11_recheck_30 : decode cX11_recheck 30 = .ok (.iconst 1, 1) := by decide +kernel
theorem dX11_recheck_31 : decode cX11_recheck 31 = .ok (.invokevirtual 166, 3) := by decide +kernel
theorem dX11_recheck_34 : decode cX11_recheck 34 = .ok (.iload_n 1, 1) := by decide +kernel
theorem dX11_recheck_35 : decode cX11_recheck 35 = .ok (.ifCond .eq 17, 3) := by decide +kernel
theorem dX11_recheck_38 : decode cX11_recheck 38 = .ok (.aload_n 0, 1) := by decide +kernel
theorem dX11_recheck_39 : decode cX11_recheck 39 = .ok (.getfield 88, 3) := by decide +kernel
theorem dX11_recheck_42 : decode cX11_recheck 42 = .ok (.invokevirtual 254, 3) := by decide +kernel
theorem dX11_recheck_45 : decode cX11_recheck 45 = .ok (.ifCond .eq 7, 3) := by decide +kernel
theorem dX11_recheck_48 : decode cX11_recheck 48 = .ok (.iconst 1, 1) := by decide +kernel
theorem dX11_recheck_49 : decode cX11_recheck 49 = .ok (.goto 4, 3) := by decide +kernel
theorem dX11_recheck_52 : decode cX11_recheck 52 = .ok (.iconst 0, 1) := by decide +kernel
theorem dX11_recheck_53 : decode cX11_recheck 53 = .ok (.ireturn, 1) := by decide +kernel
theorem dX11_forgetLatest_0 : decode cX11_forgetLatest 0 = .ok (.aload_n 0, 1) := by decide +kernel
theorem dX11_forgetLatest_1 : decode cX11_forgetLatest 1 = .ok (.getfield 45, 3) := by decide +kernel
theorem dX11_forgetLatest_4 : decode cX11_forgetLatest 4 = .ok (.invokevirtual 243, 3) := by decide +kernel
theorem dX11_forgetLatest_7 : decode cX11_forgetLatest 7 = .ok (.aload_n 0, 1) := by decide +kernel
theorem dX11_forgetLatest_8 : decode cX11_forgetLatest 8 = .ok (.getfield 14, 3) := by decide +kernel
theorem dX11_forgetLatest_11 : decode cX11_forgetLatest 11 = .ok (.aload_n 0, 1) := by decide +kernel
theorem dX11_forgetLatest_12 : decode cX11_forgetLatest 12 = .ok (.getfield 27, 3) := by decide +kernel
theorem dX11_forgetLatest_15 : decode cX11_forgetLatest 15 = .ok (.getfield 257, 3) := by decide +kernel
theorem dX11_forgetLatest_18 : decode cX11_forgetLatest 18 = .ok (.invokevirtual 260, 3) := by decide +kernel
theorem dX11_forgetLatest_21 : decode cX11_forgetLatest 21 = .ok (.aload_n 0, 1) := by decide +kernel
theorem dX11_forgetLatest_22 : decode cX11_forgetLatest 22 = .ok (.getfield 14, 3) := by decide +kernel
theorem dX11_forgetLatest_25 : decode cX11_forgetLatest 25 = .ok (.iconst 0, 1) := by decide +kernel
theorem dX11_forgetLatest_26 : decode cX11_forgetLatest 26 = .ok (.invokevirtual 160, 3) := by decide +kernel
theorem dX11_forgetLatest_29 : decode cX11_forgetLatest 29 = .ok (.aload_n 0, 1) := by decide +kernel
theorem dX11_forgetLatest_30 : decode cX11_forgetLatest 30 = .ok (.getfield 27, 3) := by decide +kernel
theorem dX11_forgetLatest_33 : decode cX11_forgetLatest 33 = .ok (.invokevirtual 263, 3) := by decide +kernel
theorem dX11_forgetLatest_36 : decode cX11_forgetLatest 36 = .ok (.aload_n 0, 1) := by decide +kernel
theorem dX11_forgetLatest_37 : decode cX11_forgetLatest 37 = .ok (.getfield 88, 3) := by decide +kernel
theorem dX11_forgetLatest_40 : decode cX11_forgetLatest 40 = .ok (.invokevirtual 266, 3) := by decide +kernel
theorem dX11_forgetLatest_43 : decode cX11_forgetLatest 43 = .ok (.aload_n 0, 1) := by decide +kernel
theorem dX11_forgetLatest_44 : decode cX11_forgetLatest 44 = .ok (.iconst (-1), 1) := by decide +kernel
theorem dX11_forgetLatest_45 : decode cX11_forgetLatest 45 = .ok (.putfield 115, 3) := by decide +kernel
theorem dX11_forgetLatest_48 : decode cX11_forgetLatest 48 = .ok (.aload_n 0, 1) := by decide +kernel
theorem dX11_forgetLatest_49 : decode cX11_forgetLatest 49 = .ok (.iconst (-1), 1) := by decide +kernel
theorem dX11_forgetLatest_50 : decode cX11_forgetLatest 50 = .ok (.putfield 118, 3) := by decide +kernel
theorem dX11_forgetLatest_53 : decode cX11_forgetLatest 53 = .ok (.aload_n 0, 1) := by decide +kernel
theorem dX11_forgetLatest_54 : decode cX11_forgetLatest 54 = .ok (.iconst (-1), 1) := by decide +kernel
theorem dX11_forgetLatest_55 : decode cX11_forgetLatest 55 = .ok (.putfield 121, 3) := by decide +kernel
theorem dX11_forgetLatest_58 : decode cX11_forgetLatest 58 = .ok (.aload_n 0, 1) := by decide +kernel
theorem dX11_forgetLatest_59 : decode cX11_forgetLatest 59 = .ok (.iconst 0, 1) := by decide +kernel
theorem dX11_forgetLatest_60 : decode cX11_forgetLatest 60 = .ok (.putfield 124, 3) := by decide +kernel
theorem dX11_forgetLatest_63 : decode cX11_forgetLatest 63 = .ok (.aload_n 0, 1) := by decide +kernel
theorem dX11_forgetLatest_64 : decode cX11_forgetLatest 64 = .ok (.iconst 0, 1) := by decide +kernel
theorem dX11_forgetLatest_65 : decode cX11_forgetLatest 65 = .ok (.putfield 127, 3) := by decide +kernel
theorem dX11_forgetLatest_68 : decode cX11_forgetLatest 68 = .ok (.aload_n 0, 1) := by decide +kernel
theorem dX11_forgetLatest_69 : decode cX11_forgetLatest 69 = .ok (.iconst 0, 1) := by decide +kernel
theorem dX11_forgetLatest_70 : decode cX11_forgetLatest 70 = .ok (.putfield 130, 3) := by decide +kernel
theorem dX11_forgetLatest_73 : decode cX11_forgetLatest 73 = .ok (.aload_n 0, 1) := by decide +kernel
theorem dX11_forgetLatest_74 : decode cX11_forgetLatest 74 = .ok (.iconst 0, 1) := by decide +kernel
theorem dX11_forgetLatest_75 : decode cX11_forgetLatest 75 = .ok (.putfield 133, 3) := by decide +kernel
theorem dX11_forgetLatest_78 : decode cX11_forgetLatest 78 = .ok (.return_, 1) := by decide +kernel
/-- the nest mates that the calls of a new object look at -/
def hM (U : State) : Prop := va_Nw (.fieldLinkNest RX11 150 "ProofHouse$Reader" "flaw" "I" "ProofHouse") U ∧ va_Nw (.fieldLinkNest RX11 186 "ProofHouse$Reader" "place" "I" "ProofHouse") U ∧ va_Nw (.fieldLinkNest RX11 189 "ProofHouse$Book" "functions" "I" "ProofHouse") U ∧ va_Nw (.fieldLinkNest RX11 192 "ProofHouse$Book" "theorems" "I" "ProofHouse") U ∧ va_Nw (.fieldLinkNest RX11 199 "ProofHouse$Prover" "leftCount" "I" "ProofHouse") U ∧ va_Nw (.fieldLinkNest RX11 202 "ProofHouse$Scribe" "length" "I" "ProofHouse") U ∧ va_Nw (.fieldLinkNest RX11 208 "ProofHouse$Book" "entries" "I" "ProofHouse") U ∧ va_Nw (.fieldLinkNest RX11 257 "ProofHouse$Book" "kept" "I" "ProofHouse") U ∧ va_Nw (.fieldLinkNest RX11 157 "ProofHouse$Room" "trouble" "I" "ProofHouse") U
theorem hM.same {u U : State} (h : u.vm = U.vm) (q : hM u) : hM U := ⟨va_Nw.same rfl h q.1, va_Nw.same rfl h q.2.1, va_Nw.same rfl h q.2.2.1, va_Nw.same rfl h q.2.2.2.1, va_Nw.same rfl h q.2.2.2.2.1, va_Nw.same rfl h q.2.2.2.2.2.1, va_Nw.same rfl h q.2.2.2.2.2.2.1, va_Nw.same rfl h q.2.2.2.2.2.2.2.1, va_Nw.same rfl h q.2.2.2.2.2.2.2.2⟩
theorem hM.warm {s U : State} (h : s.WarmedH U.vm) (q : hM s) : hM U := ⟨va_Nw.warmF h q.1, va_Nw.warmF h q.2.1, va_Nw.warmF h q.2.2.1, va_Nw.warmF h q.2.2.2.1, va_Nw.warmF h q.2.2.2.2.1, va_Nw.warmF h q.2.2.2.2.2.1, va_Nw.warmF h q.2.2.2.2.2.2.1, va_Nw.warmF h q.2.2.2.2.2.2.2.1, va_Nw.warmF h q.2.2.2.2.2.2.2.2⟩
theorem n_pred {n : Nat} (h : n ≤ 220) : nI n - 1 < nI n := Int32.lt_iff_toInt_lt.mpr (by rw [show (1 : Int32) = nI 1 from rfl, pk_sub_toInt (by omega) (by omega), nI_toInt (by omega)]; omega)
theorem t_out {x : Int32} (lo : Int) {hi : Nat} (h : ∀ k : Nat, k ≤ hi → ¬ x = nI k) (hh : hi < 2 ^ 31) (hlo : lo = 0) : x.toInt < lo ∨ (hi : Int) < x.toInt := by
  subst hlo
  by_cases h1 : x < 0
  · exact Or.inl (Int32.lt_iff_toInt_lt.mp h1)
  · obtain ⟨j, hj, e⟩ := nI_of h1
    right
    rw [e, nI_toInt hj]
    rcases Nat.lt_or_ge hi j with h2 | h2
    · omega
    · exact absurd e (h j h2)

set_option maxHeartbeats 4000000 in
set_option maxRecDepth 100000 in
/-- steps -/
theorem h_steps (l : Launch) (D : va_G) (h0 sz : Nat) (a : Nat → Nat) (ca : Nat → ClassId) (n : Nat)   : Met l yX11_steps wsX11_steps ({ frames := 0, cells := 0, slots := 0, locals := 0 }) (va_Pc [.ref (h0)] (fun U => U.heap.size = sz ∧ va_P D vwCl (hHW h0 a ca n) U.heap ∧ va_K D vwCl (hHT ca) U ∧ va_D (fun _ => True) (hHW h0 a ca n) ∧ hM U)) (va_Qi (fun (r : Int32) (_ : Unit) => r = 0) (fun _ _ => True) (va_A (hHW h0 a ca n) sz)) 0 0 (va_A (hHW h0 a ca n) sz) := by
  refine Met.ofW (cc := cX11_steps) (maxL := 1) (ret := (some .int)) (by decide) rfl ?_
  intro p e s m args below meth c s₁ B hml hv
  obtain ⟨rfl, hsz, hP, hK, hD0, hE⟩ := hv
  have hx := B.exec
  have hb := B.bytes
  have hr := B.returns
  have hts := atoms_spec (ws := wsX11_steps) B.pre
  have hown : s.vm.findClass RX11 = some m.cls := findClass_of_methodNamed B.named
  have hnm : meth.name = "steps" := (name_of_methodNamed B.named B.method).1
  subst hsz
  have hD := hD0.self (sz := s.heap.size)
  generalize hAe : va_A (hHW h0 a ca n) s.heap.size = A at hD ⊢
  have hA : ∀ q : Nat, s.heap.size ≤ q → A q := fun q h => by rw [← hAe]; exact Or.inr h
  have hS : va_S A s.heap s.heap [] := va_S.rf
  have hl := lv_entry ([.ref (h0)]) (n := 1) (Nat.le_of_ble_eq_true rfl)
  rw [lg_entry_eq]
  generalize (lg_sl ([.ref (h0)]) ++ List.replicate (1 - (lg_sl ([.ref (h0)])).length) Slot.unset).toArray = ls at hl ⊢
  have hl : lv_has ls 1 [(0, .ref (h0))] := hl
  have hP : va_P D vwCl [(h0, .inr (11, [.ref (a 0), .ref (a 1), .ref (a 3), .ref (a 5), .ref (a 9), .ref (a 10), .ref (a 11), .ref (a 12), .ref (a 6), .ref (a 13), .ref (a 7), .int (0), .ref (a 8), .int (1000), .int ((-1)), .int ((-1)), .int ((-1)), .int (0), .int (0), .int (0), .int (0)])), (a 0, .inr (7, [.ref (a 14), .ref (a 15), .ref (a 16), .ref (a 17), .ref (a 18), .int (nI n), .int (0), .int (0), .int (0)])), (a 1, .inr (0, [.ref (a 19), .ref (a 20), .ref (a 21), .ref (a 22), .ref (a 23), .int (0), .ref (a 24), .ref (a 25), .ref (a 26), .ref (a 27), .ref (a 28), .ref (a 29), .ref (a 30), .ref (a 31), .ref (a 32), .ref (a 2), .int (0), .ref (a 33), .ref (a 34), .int (0), .int (nI n)])), (a 2, .inl (ca 0, 60, .inl (fun _ => 0))), (a 3, .inr (5, [.ref (a 0), .ref (a 4), .ref (a 35), .ref (a 36), .ref (a 37), .int (0), .int (0), .int (0), .int (0), .int (0), .int ((-1))])), (a 4, .inl (ca 1, 41, .inl (fun _ => 0))), (a 5, .inr (9, [.ref (a 0), .ref (a 38), .ref (a 39), .int (0)])), (a 6, .inr (4, [.ref (a 0), .ref (a 9), .ref (a 11), .ref (a 40), .int (0), .ref (a 41), .int (0), .ref (a 42), .int (0), .ref (a 43), .int (0)])), (a 7, .inl (ca 2, 3000, .inl (fun _ => 0))), (a 8, .inl (ca 3, 5, .inl (fun _ => 0)))] s.heap := hP
  have hD : va_D A [(h0, .inr (11, [.ref (a 0), .ref (a 1), .ref (a 3), .ref (a 5), .ref (a 9), .ref (a 10), .ref (a 11), .ref (a 12), .ref (a 6), .ref (a 13), .ref (a 7), .int (0), .ref (a 8), .int (1000), .int ((-1)), .int ((-1)), .int ((-1)), .int (0), .int (0), .int (0), .int (0)])), (a 0, .inr (7, [.ref (a 14), .ref (a 15), .ref (a 16), .ref (a 17), .ref (a 18), .int (nI n), .int (0), .int (0), .int (0)])), (a 1, .inr (0, [.ref (a 19), .ref (a 20), .ref (a 21), .ref (a 22), .ref (a 23), .int (0), .ref (a 24), .ref (a 25), .ref (a 26), .ref (a 27), .ref (a 28), .ref (a 29), .ref (a 30), .ref (a 31), .ref (a 32), .ref (a 2), .int (0), .ref (a 33), .ref (a 34), .int (0), .int (nI n)])), (a 2, .inl (ca 0, 60, .inl (fun _ => 0))), (a 3, .inr (5, [.ref (a 0), .ref (a 4), .ref (a 35), .ref (a 36), .ref (a 37), .int (0), .int (0), .int (0), .int (0), .int (0), .int ((-1))])), (a 4, .inl (ca 1, 41, .inl (fun _ => 0))), (a 5, .inr (9, [.ref (a 0), .ref (a 38), .ref (a 39), .int (0)])), (a 6, .inr (4, [.ref (a 0), .ref (a 9), .ref (a 11), .ref (a 40), .int (0), .ref (a 41), .int (0), .ref (a 42), .int (0), .ref (a 43), .int (0)])), (a 7, .inl (ca 2, 3000, .inl (fun _ => 0))), (a 8, .inl (ca 3, 5, .inl (fun _ => 0)))] := hD
  have hK : va_K D vwCl [(ca 0, .boolean), (ca 1, .int), (ca 2, .char), (ca 3, .int)] s := hK
  refine lv_aload_n hx hb dX11_steps_0 rfl (lv_at hl 0 rfl) ?_
  refine va_get (D := D) (ci := 11) (v := .int (0)) (C := RX11) (T := TX11) (N := 21) hx hb hts (fun w h => List.mem_cons_of_mem _ (List.mem_append_right _ h)) hown hK hP 0 rfl rfl 18 (by decide) (hts (.fieldLink RX11 127 "ProofHouse" "stepsMade" "I") (List.mem_of_getElem? (i := 1) rfl)) (fun _ h9 => h9) rfl dX11_steps_1 ?_
  exact W.iret (v := 0) hx hb hr (fun t ht hW => ⟨⟨0, (), rfl, rfl, trivial⟩, hS.F ht⟩) hS.2.2 dX11_steps_4

set_option maxHeartbeats 4000000 in
set_option maxRecDepth 100000 in
/-- size -/
theorem h_size (l : Launch) (D : va_G) (h0 sz : Nat) (a : Nat → Nat) (ca : Nat → ClassId) (n : Nat)   : Met l yX11_size wsX11_size ({ frames := 0, cells := 0, slots := 0, locals := 0 }) (va_Pc [.ref (h0)] (fun U => U.heap.size = sz ∧ va_P D vwCl (hHW h0 a ca n) U.heap ∧ va_K D vwCl (hHT ca) U ∧ va_D (fun _ => True) (hHW h0 a ca n) ∧ hM U)) (va_Qi (fun (r : Int32) (_ : Unit) => r = 0) (fun _ _ => True) (va_A (hHW h0 a ca n) sz)) 0 0 (va_A (hHW h0 a ca n) sz) := by
  refine Met.ofW (cc := cX11_size) (maxL := 1) (ret := (some .int)) (by decide) rfl ?_
  intro p e s m args below meth c s₁ B hml hv
  obtain ⟨rfl, hsz, hP, hK, hD0, hE⟩ := hv
  have hx := B.exec
  have hb := B.bytes
  have hr := B.returns
  have hts := atoms_spec (ws := wsX11_size) B.pre
  have hown : s.vm.findClass RX11 = some m.cls := findClass_of_methodNamed B.named
  have hnm : meth.name = "size" := (name_of_methodNamed B.named B.method).1
  subst hsz
  have hD := hD0.self (sz := s.heap.size)
  generalize hAe : va_A (hHW h0 a ca n) s.heap.size = A at hD ⊢
  have hA : ∀ q : Nat, s.heap.size ≤ q → A q := fun q h => by rw [← hAe]; exact Or.inr h
  have hS : va_S A s.heap s.heap [] := va_S.rf
  have hl := lv_entry ([.ref (h0)]) (n := 1) (Nat.le_of_ble_eq_true rfl)
  rw [lg_entry_eq]
  generalize (lg_sl ([.ref (h0)]) ++ List.replicate (1 - (lg_sl ([.ref (h0)])).length) Slot.unset).toArray = ls at hl ⊢
  have hl : lv_has ls 1 [(0, .ref (h0))] := hl
  have hP : va_P D vwCl [(h0, .inr (11, [.ref (a 0), .ref (a 1), .ref (a 3), .ref (a 5), .ref (a 9), .ref (a 10), .ref (a 11), .ref (a 12), .ref (a 6), .ref (a 13), .ref (a 7), .int (0), .ref (a 8), .int (1000), .int ((-1)), .int ((-1)), .int ((-1)), .int (0), .int (0), .int (0), .int (0)])), (a 0, .inr (7, [.ref (a 14), .ref (a 15), .ref (a 16), .ref (a 17), .ref (a 18), .int (nI n), .int (0), .int (0), .int (0)])), (a 1, .inr (0, [.ref (a 19), .ref (a 20), .ref (a 21), .ref (a 22), .ref (a 23), .int (0), .ref (a 24), .ref (a 25), .ref (a 26), .ref (a 27), .ref (a 28), .ref (a 29), .ref (a 30), .ref (a 31), .ref (a 32), .ref (a 2), .int (0), .ref (a 33), .ref (a 34), .int (0), .int (nI n)])), (a 2, .inl (ca 0, 60, .inl (fun _ => 0))), (a 3, .inr (5, [.ref (a 0), .ref (a 4), .ref (a 35), .ref (a 36), .ref (a 37), .int (0), .int (0), .int (0), .int (0), .int (0), .int ((-1))])), (a 4, .inl (ca 1, 41, .inl (fun _ => 0))), (a 5, .inr (9, [.ref (a 0), .ref (a 38), .ref (a 39), .int (0)])), (a 6, .inr (4, [.ref (a 0), .ref (a 9), .ref (a 11), .ref (a 40), .int (0), .ref (a 41), .int (0), .ref (a 42), .int (0), .ref (a 43), .int (0)])), (a 7, .inl (ca 2, 3000, .inl (fun _ => 0))), (a 8, .inl (ca 3, 5, .inl (fun _ => 0)))] s.heap := hP
  have hD : va_D A [(h0, .inr (11, [.ref (a 0), .ref (a 1), .ref (a 3), .ref (a 5), .ref (a 9), .ref (a 10), .ref (a 11), .ref (a 12), .ref (a 6), .ref (a 13), .ref (a 7), .int (0), .ref (a 8), .int (1000), .int ((-1)), .int ((-1)), .int ((-1)), .int (0), .int (0), .int (0), .int (0)])), (a 0, .inr (7, [.ref (a 14), .ref (a 15), .ref (a 16), .ref (a 17), .ref (a 18), .int (nI n), .int (0), .int (0), .int (0)])), (a 1, .inr (0, [.ref (a 19), .ref (a 20), .ref (a 21), .ref (a 22), .ref (a 23), .int (0), .ref (a 24), .ref (a 25), .ref (a 26), .ref (a 27), .ref (a 28), .ref (a 29), .ref (a 30), .ref (a 31), .ref (a 32), .ref (a 2), .int (0), .ref (a 33), .ref (a 34), .int (0), .int (nI n)])), (a 2, .inl (ca 0, 60, .inl (fun _ => 0))), (a 3, .inr (5, [.ref (a 0), .ref (a 4), .ref (a 35), .ref (a 36), .ref (a 37), .int (0), .int (0), .int (0), .int (0), .int (0), .int ((-1))])), (a 4, .inl (ca 1, 41, .inl (fun _ => 0))), (a 5, .inr (9, [.ref (a 0), .ref (a 38), .ref (a 39), .int (0)])), (a 6, .inr (4, [.ref (a 0), .ref (a 9), .ref (a 11), .ref (a 40), .int (0), .ref (a 41), .int (0), .ref (a 42), .int (0), .ref (a 43), .int (0)])), (a 7, .inl (ca 2, 3000, .inl (fun _ => 0))), (a 8, .inl (ca 3, 5, .inl (fun _ => 0)))] := hD
  have hK : va_K D vwCl [(ca 0, .boolean), (ca 1, .int), (ca 2, .char), (ca 3, .int)] s := hK
  refine lv_aload_n hx hb dX11_size_0 rfl (lv_at hl 0 rfl) ?_
  refine va_get (D := D) (ci := 11) (v := .ref (a 5)) (C := RX11) (T := TX11) (N := 21) hx hb hts (fun w h => List.mem_cons_of_mem _ (List.mem_append_left _ (List.mem_append_right _ h))) hown hK hP 0 rfl rfl 3 (by decide) (hts (.fieldLink RX11 45 "ProofHouse" "out" "LProofHouse$Scribe;") (List.mem_of_getElem? (i := 1) rfl)) (fun _ h9 => h9) rfl dX11_size_1 ?_
  refine va_getN (D := D) (ci := 9) (v := .int (0)) (C := RX9) (T := TX9) (N := 4) hx hb hts (fun w h => List.mem_cons_of_mem _ (List.mem_append_right _ h)) hown hK hP 6 rfl rfl 3 (by decide) (va_Nw.use rfl hE.2.2.2.2.2.1) (fun _ h9 => h9) rfl dX11_size_4 ?_
  exact W.iret (v := 0) hx hb hr (fun t ht hW => ⟨⟨0, (), rfl, rfl, trivial⟩, hS.F ht⟩) hS.2.2 dX11_size_7

set_option maxHeartbeats 4000000 in
set_option maxRecDepth 100000 in
/-- fuel -/
theorem h_fuel (l : Launch) (D : va_G) (h0 sz : Nat) (a : Nat → Nat) (ca : Nat → ClassId) (n : Nat) (x : Int32)  : Met l yX11_fuel wsX11_fuel ({ frames := 0, cells := 0, slots := 0, locals := 0 }) (va_Pc [.ref (h0), .int (x)] (fun U => U.heap.size = sz ∧ va_P D vwCl (hHW h0 a ca n) U.heap ∧ va_K D vwCl (hHT ca) U ∧ va_D (fun _ => True) (hHW h0 a ca n) ∧ hM U)) (va_Qi (fun (r : Int32) (_ : Unit) => r = if x < 1 ∨ 1000 < x then -1 else 1000) (fun _ _ => True) (va_A (hHW h0 a ca n) sz)) 0 0 (va_A (hHW h0 a ca n) sz) := by
  refine Met.ofW (cc := cX11_fuel) (maxL := 3) (ret := (some .int)) (by decide) rfl ?_
  intro p e s m args below meth c s₁ B hml hv
  obtain ⟨rfl, hsz, hP, hK, hD0, hE⟩ := hv
  have hx := B.exec
  have hb := B.bytes
  have hr := B.returns
  have hts := atoms_spec (ws := wsX11_fuel) B.pre
  have hown : s.vm.findClass RX11 = some m.cls := findClass_of_methodNamed B.named
  have hnm : meth.name = "fuel" := (name_of_methodNamed B.named B.method).1
  subst hsz
  have hD := hD0.self (sz := s.heap.size)
  generalize hAe : va_A (hHW h0 a ca n) s.heap.size = A at hD ⊢
  have hA : ∀ q : Nat, s.heap.size ≤ q → A q := fun q h => by rw [← hAe]; exact Or.inr h
  have hS : va_S A s.heap s.heap [] := va_S.rf
  have hl := lv_entry ([.ref (h0), .int (x)]) (n := 3) (Nat.le_of_ble_eq_true rfl)
  rw [lg_entry_eq]
  generalize (lg_sl ([.ref (h0), .int (x)]) ++ List.replicate (3 - (lg_sl ([.ref (h0), .int (x)])).length) Slot.unset).toArray = ls at hl ⊢
  have hl : lv_has ls 3 [(0, .ref (h0)), (1, .int (x))] := hl
  have hP : va_P D vwCl [(h0, .inr (11, [.ref (a 0), .ref (a 1), .ref (a 3), .ref (a 5), .ref (a 9), .ref (a 10), .ref (a 11), .ref (a 12), .ref (a 6), .ref (a 13), .ref (a 7), .int (0), .ref (a 8), .int (1000), .int ((-1)), .int ((-1)), .int ((-1)), .int (0), .int (0), .int (0), .int (0)])), (a 0, .inr (7, [.ref (a 14), .ref (a 15), .ref (a 16), .ref (a 17), .ref (a 18), .int (nI n), .int (0), .int (0), .int (0)])), (a 1, .inr (0, [.ref (a 19), .ref (a 20), .ref (a 21), .ref (a 22), .ref (a 23), .int (0), .ref (a 24), .ref (a 25), .ref (a 26), .ref (a 27), .ref (a 28), .ref (a 29), .ref (a 30), .ref (a 31), .ref (a 32), .ref (a 2), .int (0), .ref (a 33), .ref (a 34), .int (0), .int (nI n)])), (a 2, .inl (ca 0, 60, .inl (fun _ => 0))), (a 3, .inr (5, [.ref (a 0), .ref (a 4), .ref (a 35), .ref (a 36), .ref (a 37), .int (0), .int (0), .int (0), .int (0), .int (0), .int ((-1))])), (a 4, .inl (ca 1, 41, .inl (fun _ => 0))), (a 5, .inr (9, [.ref (a 0), .ref (a 38), .ref (a 39), .int (0)])), (a 6, .inr (4, [.ref (a 0), .ref (a 9), .ref (a 11), .ref (a 40), .int (0), .ref (a 41), .int (0), .ref (a 42), .int (0), .ref (a 43), .int (0)])), (a 7, .inl (ca 2, 3000, .inl (fun _ => 0))), (a 8, .inl (ca 3, 5, .inl (fun _ => 0)))] s.heap := hP
  have hD : va_D A [(h0, .inr (11, [.ref (a 0), .ref (a 1), .ref (a 3), .ref (a 5), .ref (a 9), .ref (a 10), .ref (a 11), .ref (a 12), .ref (a 6), .ref (a 13), .ref (a 7), .int (0), .ref (a 8), .int (1000), .int ((-1)), .int ((-1)), .int ((-1)), .int (0), .int (0), .int (0), .int (0)])), (a 0, .inr (7, [.ref (a 14), .ref (a 15), .ref (a 16), .ref (a 17), .ref (a 18), .int (nI n), .int (0), .int (0), .int (0)])), (a 1, .inr (0, [.ref (a 19), .ref (a 20), .ref (a 21), .ref (a 22), .ref (a 23), .int (0), .ref (a 24), .ref (a 25), .ref (a 26), .ref (a 27), .ref (a 28), .ref (a 29), .ref (a 30), .ref (a 31), .ref (a 32), .ref (a 2), .int (0), .ref (a 33), .ref (a 34), .int (0), .int (nI n)])), (a 2, .inl (ca 0, 60, .inl (fun _ => 0))), (a 3, .inr (5, [.ref (a 0), .ref (a 4), .ref (a 35), .ref (a 36), .ref (a 37), .int (0), .int (0), .int (0), .int (0), .int (0), .int ((-1))])), (a 4, .inl (ca 1, 41, .inl (fun _ => 0))), (a 5, .inr (9, [.ref (a 0), .ref (a 38), .ref (a 39), .int (0)])), (a 6, .inr (4, [.ref (a 0), .ref (a 9), .ref (a 11), .ref (a 40), .int (0), .ref (a 41), .int (0), .ref (a 42), .int (0), .ref (a 43), .int (0)])), (a 7, .inl (ca 2, 3000, .inl (fun _ => 0))), (a 8, .inl (ca 3, 5, .inl (fun _ => 0)))] := hD
  have hK : va_K D vwCl [(ca 0, .boolean), (ca 1, .int), (ca 2, .char), (ca 3, .int)] s := hK
  refine lv_iload_n hx hb dX11_fuel_0 rfl (lv_at hl 1 rfl) ?_
  refine lv_iconst hx hb dX11_fuel_1 (v := 1) rfl ?_
  refine lv_icmp_lt hx hb dX11_fuel_2 (tgt := 12) rfl (fun h1 => ?_) (fun h1 => ?_)
  · refine lv_iconst hx hb dX11_fuel_12 (v := (-1)) rfl ?_
    exact W.iret (v := (-1)) hx hb hr (fun t ht hW => ⟨⟨(-1), (), rfl, (by first | exact (if_pos (Or.inl h1)).symm | exact (if_pos (Or.inr (Int32.not_le.mp h2))).symm | exact (if_neg (fun h => h.elim h1 (fun h => absurd h2 (Int32.not_le.mpr h)))).symm), trivial⟩, hS.F ht⟩) hS.2.2 dX11_fuel_13
  · refine lv_iload_n hx hb dX11_fuel_5 rfl (lv_at hl 1 rfl) ?_
    refine lv_sipush hx hb dX11_fuel_6 (v := 1000) rfl ?_
    refine lv_icmp_le hx hb dX11_fuel_9 (tgt := 14) rfl (fun h2 => ?_) (fun h2 => ?_)
    · refine lv_aload_n hx hb dX11_fuel_14 rfl (lv_at hl 0 rfl) ?_
      refine va_get (D := D) (ci := 11) (v := .int (1000)) (C := RX11) (T := TX11) (N := 21) hx hb hts (fun w h => List.mem_cons_of_mem _ (List.mem_append_right _ h)) hown hK hP 0 rfl rfl 13 (by decide) (hts (.fieldLink RX11 112 "ProofHouse" "fuelSet" "I") (List.mem_of_getElem? (i := 1) rfl)) (fun _ h9 => h9) rfl dX11_fuel_15 ?_
      refine lv_istore_n hx hb dX11_fuel_18 rfl hl (by decide) rfl (fun ls hl => ?_)
      have hl : lv_has ls 3 [(2, .int (1000)), (0, .ref (h0)), (1, .int (x))] := hl
      refine lv_aload_n hx hb dX11_fuel_19 rfl (lv_at hl 1 rfl) ?_
      refine lv_iload_n hx hb dX11_fuel_20 rfl (lv_at hl 2 rfl) ?_
      refine va_put (D := D) (ci := 11) (v := .int (x)) (ty := .int) (C := RX11) (T := TX11) (N := 21) hx hb hts (fun w h => List.mem_cons_of_mem _ (List.mem_append_right _ h)) tyX11 tyX11_ok nmX11 hown hK hP hD hS 0 rfl rfl 13 (by decide) (hts (.fieldLink RX11 112 "ProofHouse" "fuelSet" "I") (List.mem_of_getElem? (i := 1) rfl)) (fun _ h9 => h9) rfl (tyX11_ok 13 (by decide)) rfl rfl (Nat.le_of_ble_eq_true rfl) dX11_fuel_21 ?_
      clear hP hD hS
      intro H locs hP hD hS
      have hP : va_P D vwCl [(h0, .inr (11, [.ref (a 0), .ref (a 1), .ref (a 3), .ref (a 5), .ref (a 9), .ref (a 10), .ref (a 11), .ref (a 12), .ref (a 6), .ref (a 13), .ref (a 7), .int (0), .ref (a 8), .int (x), .int ((-1)), .int ((-1)), .int ((-1)), .int (0), .int (0), .int (0), .int (0)])), (a 0, .inr (7, [.ref (a 14), .ref (a 15), .ref (a 16), .ref (a 17), .ref (a 18), .int (nI n), .int (0), .int (0), .int (0)])), (a 1, .inr (0, [.ref (a 19), .ref (a 20), .ref (a 21), .ref (a 22), .ref (a 23), .int (0), .ref (a 24), .ref (a 25), .ref (a 26), .ref (a 27), .ref (a 28), .ref (a 29), .ref (a 30), .ref (a 31), .ref (a 32), .ref (a 2), .int (0), .ref (a 33), .ref (a 34), .int (0), .int (nI n)])), (a 2, .inl (ca 0, 60, .inl (fun _ => 0))), (a 3, .inr (5, [.ref (a 0), .ref (a 4), .ref (a 35), .ref (a 36), .ref (a 37), .int (0), .int (0), .int (0), .int (0), .int (0), .int ((-1))])), (a 4, .inl (ca 1, 41, .inl (fun _ => 0))), (a 5, .inr (9, [.ref (a 0), .ref (a 38), .ref (a 39), .int (0)])), (a 6, .inr (4, [.ref (a 0), .ref (a 9), .ref (a 11), .ref (a 40), .int (0), .ref (a 41), .int (0), .ref (a 42), .int (0), .ref (a 43), .int (0)])), (a 7, .inl (ca 2, 3000, .inl (fun _ => 0))), (a 8, .inl (ca 3, 5, .inl (fun _ => 0)))] H := hP
      have hD : va_D A [(h0, .inr (11, [.ref (a 0), .ref (a 1), .ref (a 3), .ref (a 5), .ref (a 9), .ref (a 10), .ref (a 11), .ref (a 12), .ref (a 6), .ref (a 13), .ref (a 7), .int (0), .ref (a 8), .int (x), .int ((-1)), .int ((-1)), .int ((-1)), .int (0), .int (0), .int (0), .int (0)])), (a 0, .inr (7, [.ref (a 14), .ref (a 15), .ref (a 16), .ref (a 17), .ref (a 18), .int (nI n), .int (0), .int (0), .int (0)])), (a 1, .inr (0, [.ref (a 19), .ref (a 20), .ref (a 21), .ref (a 22), .ref (a 23), .int (0), .ref (a 24), .ref (a 25), .ref (a 26), .ref (a 27), .ref (a 28), .ref (a 29), .ref (a 30), .ref (a 31), .ref (a 32), .ref (a 2), .int (0), .ref (a 33), .ref (a 34), .int (0), .int (nI n)])), (a 2, .inl (ca 0, 60, .inl (fun _ => 0))), (a 3, .inr (5, [.ref (a 0), .ref (a 4), .ref (a 35), .ref (a 36), .ref (a 37), .int (0), .int (0), .int (0), .int (0), .int (0), .int ((-1))])), (a 4, .inl (ca 1, 41, .inl (fun _ => 0))), (a 5, .inr (9, [.ref (a 0), .ref (a 38), .ref (a 39), .int (0)])), (a 6, .inr (4, [.ref (a 0), .ref (a 9), .ref (a 11), .ref (a 40), .int (0), .ref (a 41), .int (0), .ref (a 42), .int (0), .ref (a 43), .int (0)])), (a 7, .inl (ca 2, 3000, .inl (fun _ => 0))), (a 8, .inl (ca 3, 5, .inl (fun _ => 0)))] := hD
      refine lv_iload_n hx hb dX11_fuel_24 rfl (lv_at hl 0 rfl) ?_
      exact W.iret (v := 1000) hx hb hr (fun t ht hW => ⟨⟨1000, (), rfl, (by first | exact (if_pos (Or.inl h1)).symm | exact (if_pos (Or.inr (Int32.not_le.mp h2))).symm | exact (if_neg (fun h => h.elim h1 (fun h => absurd h2 (Int32.not_le.mpr h)))).symm), trivial⟩, hS.F ht⟩) hS.2.2 dX11_fuel_25
    · refine lv_iconst hx hb dX11_fuel_12 (v := (-1)) rfl ?_
      exact W.iret (v := (-1)) hx hb hr (fun t ht hW => ⟨⟨(-1), (), rfl, (by first | exact (if_pos (Or.inl h1)).symm | exact (if_pos (Or.inr (Int32.not_le.mp h2))).symm | exact (if_neg (fun h => h.elim h1 (fun h => absurd h2 (Int32.not_le.mpr h)))).symm), trivial⟩, hS.F ht⟩) hS.2.2 dX11_fuel_13

set_option maxHeartbeats 4000000 in
set_option maxRecDepth 100000 in
/-- feed -/
theorem h_feed (l : Launch) (D : va_G) (h0 sz : Nat) (a : Nat → Nat) (ca : Nat → ClassId) (n : Nat) (x1 : Int32) (x2 : Int32) (x3 : Int32) (x4 : Int32) (x5 : Int32)  : Met l yX11_feed wsX11_feed ({ frames := 0, cells := 0, slots := 0, locals := 0 }) (va_Pc [.ref (h0), .int (x1), .int (x2), .int (x3), .int (x4), .int (x5)] (fun U => U.heap.size = sz ∧ va_P D vwCl (hHW h0 a ca n) U.heap ∧ va_K D vwCl (hHT ca) U ∧ va_D (fun _ => True) (hHW h0 a ca n) ∧ hM U)) (va_Qv (fun _ : Unit => True) (fun _ _ => True) (va_A (hHW h0 a ca n) sz)) 0 0 (va_A (hHW h0 a ca n) sz) := by
  refine Met.ofW (cc := cX11_feed) (maxL := 6) (ret := none) (by decide) rfl ?_
  intro p e s m args below meth c s₁ B hml hv
  obtain ⟨rfl, hsz, hP, hK, hD0, hE⟩ := hv
  have hx := B.exec
  have hb := B.bytes
  have hr := B.returns
  have hts := atoms_spec (ws := wsX11_feed) B.pre
  have hown : s.vm.findClass RX11 = some m.cls := findClass_of_methodNamed B.named
  have hnm : meth.name = "feed" := (name_of_methodNamed B.named B.method).1
  subst hsz
  have hD := hD0.self (sz := s.heap.size)
  generalize hAe : va_A (hHW h0 a ca n) s.heap.size = A at hD ⊢
  have hA : ∀ q : Nat, s.heap.size ≤ q → A q := fun q h => by rw [← hAe]; exact Or.inr h
  have hS : va_S A s.heap s.heap [] := va_S.rf
  have hl := lv_entry ([.ref (h0), .int (x1), .int (x2), .int (x3), .int (x4), .int (x5)]) (n := 6) (Nat.le_of_ble_eq_true rfl)
  rw [lg_entry_eq]
  generalize (lg_sl ([.ref (h0), .int (x1), .int (x2), .int (x3), .int (x4), .int (x5)]) ++ List.replicate (6 - (lg_sl ([.ref (h0), .int (x1), .int (x2), .int (x3), .int (x4), .int (x5)])).length) Slot.unset).toArray = ls at hl ⊢
  have hl : lv_has ls 6 [(0, .ref (h0)), (1, .int (x1)), (2, .int (x2)), (3, .int (x3)), (4, .int (x4)), (5, .int (x5))] := hl
  have hP : va_P D vwCl [(h0, .inr (11, [.ref (a 0), .ref (a 1), .ref (a 3), .ref (a 5), .ref (a 9), .ref (a 10), .ref (a 11), .ref (a 12), .ref (a 6), .ref (a 13), .ref (a 7), .int (0), .ref (a 8), .int (1000), .int ((-1)), .int ((-1)), .int ((-1)), .int (0), .int (0), .int (0), .int (0)])), (a 0, .inr (7, [.ref (a 14), .ref (a 15), .ref (a 16), .ref (a 17), .ref (a 18), .int (nI n), .int (0), .int (0), .int (0)])), (a 1, .inr (0, [.ref (a 19), .ref (a 20), .ref (a 21), .ref (a 22), .ref (a 23), .int (0), .ref (a 24), .ref (a 25), .ref (a 26), .ref (a 27), .ref (a 28), .ref (a 29), .ref (a 30), .ref (a 31), .ref (a 32), .ref (a 2), .int (0), .ref (a 33), .ref (a 34), .int (0), .int (nI n)])), (a 2, .inl (ca 0, 60, .inl (fun _ => 0))), (a 3, .inr (5, [.ref (a 0), .ref (a 4), .ref (a 35), .ref (a 36), .ref (a 37), .int (0), .int (0), .int (0), .int (0), .int (0), .int ((-1))])), (a 4, .inl (ca 1, 41, .inl (fun _ => 0))), (a 5, .inr (9, [.ref (a 0), .ref (a 38), .ref (a 39), .int (0)])), (a 6, .inr (4, [.ref (a 0), .ref (a 9), .ref (a 11), .ref (a 40), .int (0), .ref (a 41), .int (0), .ref (a 42), .int (0), .ref (a 43), .int (0)])), (a 7, .inl (ca 2, 3000, .inl (fun _ => 0))), (a 8, .inl (ca 3, 5, .inl (fun _ => 0)))] s.heap := hP
  have hD : va_D A [(h0, .inr (11, [.ref (a 0), .ref (a 1), .ref (a 3), .ref (a 5), .ref (a 9), .ref (a 10), .ref (a 11), .ref (a 12), .ref (a 6), .ref (a 13), .ref (a 7), .int (0), .ref (a 8), .int (1000), .int ((-1)), .int ((-1)), .int ((-1)), .int (0), .int (0), .int (0), .int (0)])), (a 0, .inr (7, [.ref (a 14), .ref (a 15), .ref (a 16), .ref (a 17), .ref (a 18), .int (nI n), .int (0), .int (0), .int (0)])), (a 1, .inr (0, [.ref (a 19), .ref (a 20), .ref (a 21), .ref (a 22), .ref (a 23), .int (0), .ref (a 24), .ref (a 25), .ref (a 26), .ref (a 27), .ref (a 28), .ref (a 29), .ref (a 30), .ref (a 31), .ref (a 32), .ref (a 2), .int (0), .ref (a 33), .ref (a 34), .int (0), .int (nI n)])), (a 2, .inl (ca 0, 60, .inl (fun _ => 0))), (a 3, .inr (5, [.ref (a 0), .ref (a 4), .ref (a 35), .ref (a 36), .ref (a 37), .int (0), .int (0), .int (0), .int (0), .int (0), .int ((-1))])), (a 4, .inl (ca 1, 41, .inl (fun _ => 0))), (a 5, .inr (9, [.ref (a 0), .ref (a 38), .ref (a 39), .int (0)])), (a 6, .inr (4, [.ref (a 0), .ref (a 9), .ref (a 11), .ref (a 40), .int (0), .ref (a 41), .int (0), .ref (a 42), .int (0), .ref (a 43), .int (0)])), (a 7, .inl (ca 2, 3000, .inl (fun _ => 0))), (a 8, .inl (ca 3, 5, .inl (fun _ => 0)))] := hD
  have hK : va_K D vwCl [(ca 0, .boolean), (ca 1, .int), (ca 2, .char), (ca 3, .int)] s := hK
  refine lv_aload_n hx hb dX11_feed_0 rfl (lv_at hl 0 rfl) ?_
  refine va_get (D := D) (ci := 11) (v := .ref (a 8)) (C := RX11) (T := TX11) (N := 21) hx hb hts (fun w h => List.mem_cons_of_mem _ (List.mem_append_right _ h)) hown hK hP 0 rfl rfl 12 (by decide) (hts (.fieldLink RX11 108 "ProofHouse" "waiting" "[I") (List.mem_of_getElem? (i := 1) rfl)) (fun _ h9 => h9) rfl dX11_feed_1 ?_
  refine lv_iconst hx hb dX11_feed_4 (v := 0) rfl ?_
  refine lv_iload_n hx hb dX11_feed_5 rfl (lv_at hl 1 rfl) ?_
  refine va_iast hx hb hK hP hD hS 9 3 rfl rfl (by unfold vp_in; decide) dX11_feed_6 ?_
  clear hP hD hS
  intro H locs hP hD hS
  have hP : va_P D vwCl [(h0, .inr (11, [.ref (a 0), .ref (a 1), .ref (a 3), .ref (a 5), .ref (a 9), .ref (a 10), .ref (a 11), .ref (a 12), .ref (a 6), .ref (a 13), .ref (a 7), .int (0), .ref (a 8), .int (1000), .int ((-1)), .int ((-1)), .int ((-1)), .int (0), .int (0), .int (0), .int (0)])), (a 0, .inr (7, [.ref (a 14), .ref (a 15), .ref (a 16), .ref (a 17), .ref (a 18), .int (nI n), .int (0), .int (0), .int (0)])), (a 1, .inr (0, [.ref (a 19), .ref (a 20), .ref (a 21), .ref (a 22), .ref (a 23), .int (0), .ref (a 24), .ref (a 25), .ref (a 26), .ref (a 27), .ref (a 28), .ref (a 29), .ref (a 30), .ref (a 31), .ref (a 32), .ref (a 2), .int (0), .ref (a 33), .ref (a 34), .int (0), .int (nI n)])), (a 2, .inl (ca 0, 60, .inl (fun _ => 0))), (a 3, .inr (5, [.ref (a 0), .ref (a 4), .ref (a 35), .ref (a 36), .ref (a 37), .int (0), .int (0), .int (0), .int (0), .int (0), .int ((-1))])), (a 4, .inl (ca 1, 41, .inl (fun _ => 0))), (a 5, .inr (9, [.ref (a 0), .ref (a 38), .ref (a 39), .int (0)])), (a 6, .inr (4, [.ref (a 0), .ref (a 9), .ref (a 11), .ref (a 40), .int (0), .ref (a 41), .int (0), .ref (a 42), .int (0), .ref (a 43), .int (0)])), (a 7, .inl (ca 2, 3000, .inl (fun _ => 0))), (a 8, .inl (ca 3, 5, .inl (upd (fun _ => 0) (0 : Int32).toNatClampNeg (x1))))] H := hP
  have hD : va_D A [(h0, .inr (11, [.ref (a 0), .ref (a 1), .ref (a 3), .ref (a 5), .ref (a 9), .ref (a 10), .ref (a 11), .ref (a 12), .ref (a 6), .ref (a 13), .ref (a 7), .int (0), .ref (a 8), .int (1000), .int ((-1)), .int ((-1)), .int ((-1)), .int (0), .int (0), .int (0), .int (0)])), (a 0, .inr (7, [.ref (a 14), .ref (a 15), .ref (a 16), .ref (a 17), .ref (a 18), .int (nI n), .int (0), .int (0), .int (0)])), (a 1, .inr (0, [.ref (a 19), .ref (a 20), .ref (a 21), .ref (a 22), .ref (a 23), .int (0), .ref (a 24), .ref (a 25), .ref (a 26), .ref (a 27), .ref (a 28), .ref (a 29), .ref (a 30), .ref (a 31), .ref (a 32), .ref (a 2), .int (0), .ref (a 33), .ref (a 34), .int (0), .int (nI n)])), (a 2, .inl (ca 0, 60, .inl (fun _ => 0))), (a 3, .inr (5, [.ref (a 0), .ref (a 4), .ref (a 35), .ref (a 36), .ref (a 37), .int (0), .int (0), .int (0), .int (0), .int (0), .int ((-1))])), (a 4, .inl (ca 1, 41, .inl (fun _ => 0))), (a 5, .inr (9, [.ref (a 0), .ref (a 38), .ref (a 39), .int (0)])), (a 6, .inr (4, [.ref (a 0), .ref (a 9), .ref (a 11), .ref (a 40), .int (0), .ref (a 41), .int (0), .ref (a 42), .int (0), .ref (a 43), .int (0)])), (a 7, .inl (ca 2, 3000, .inl (fun _ => 0))), (a 8, .inl (ca 3, 5, .inl (upd (fun _ => 0) (0 : Int32).toNatClampNeg (x1))))] := hD
  refine lv_aload_n hx hb dX11_feed_7 rfl (lv_at hl 0 rfl) ?_
  refine va_get (D := D) (ci := 11) (v := .ref (a 8)) (C := RX11) (T := TX11) (N := 21) hx hb hts (fun w h => List.mem_cons_of_mem _ (List.mem_append_right _ h)) hown hK hP 0 rfl rfl 12 (by decide) (hts (.fieldLink RX11 108 "ProofHouse" "waiting" "[I") (List.mem_of_getElem? (i := 1) rfl)) (fun _ h9 => h9) rfl dX11_feed_8 ?_
  refine lv_iconst hx hb dX11_feed_11 (v := 1) rfl ?_
  refine lv_iload_n hx hb dX11_feed_12 rfl (lv_at hl 2 rfl) ?_
  refine va_iast hx hb hK hP hD hS 9 3 rfl rfl (by unfold vp_in; decide) dX11_feed_13 ?_
  clear hP hD hS
  intro H locs hP hD hS
  have hP : va_P D vwCl [(h0, .inr (11, [.ref (a 0), .ref (a 1), .ref (a 3), .ref (a 5), .ref (a 9), .ref (a 10), .ref (a 11), .ref (a 12), .ref (a 6), .ref (a 13), .ref (a 7), .int (0), .ref (a 8), .int (1000), .int ((-1)), .int ((-1)), .int ((-1)), .int (0), .int (0), .int (0), .int (0)])), (a 0, .inr (7, [.ref (a 14), .ref (a 15), .ref (a 16), .ref (a 17), .ref (a 18), .int (nI n), .int (0), .int (0), .int (0)])), (a 1, .inr (0, [.ref (a 19), .ref (a 20), .ref (a 21), .ref (a 22), .ref (a 23), .int (0), .ref (a 24), .ref (a 25), .ref (a 26), .ref (a 27), .ref (a 28), .ref (a 29), .ref (a 30), .ref (a 31), .ref (a 32), .ref (a 2), .int (0), .ref (a 33), .ref (a 34), .int (0), .int (nI n)])), (a 2, .inl (ca 0, 60, .inl (fun _ => 0))), (a 3, .inr (5, [.ref (a 0), .ref (a 4), .ref (a 35), .ref (a 36), .ref (a 37), .int (0), .int (0), .int (0), .int (0), .int (0), .int ((-1))])), (a 4, .inl (ca 1, 41, .inl (fun _ => 0))), (a 5, .inr (9, [.ref (a 0), .ref (a 38), .ref (a 39), .int (0)])), (a 6, .inr (4, [.ref (a 0), .ref (a 9), .ref (a 11), .ref (a 40), .int (0), .ref (a 41), .int (0), .ref (a 42), .int (0), .ref (a 43), .int (0)])), (a 7, .inl (ca 2, 3000, .inl (fun _ => 0))), (a 8, .inl (ca 3, 5, .inl (upd (upd (fun _ => 0) (0 : Int32).toNatClampNeg (x1)) (1 : Int32).toNatClampNeg (x2))))] H := hP
  have hD : va_D A [(h0, .inr (11, [.ref (a 0), .ref (a 1), .ref (a 3), .ref (a 5), .ref (a 9), .ref (a 10), .ref (a 11), .ref (a 12), .ref (a 6), .ref (a 13), .ref (a 7), .int (0), .ref (a 8), .int (1000), .int ((-1)), .int ((-1)), .int ((-1)), .int (0), .int (0), .int (0), .int (0)])), (a 0, .inr (7, [.ref (a 14), .ref (a 15), .ref (a 16), .ref (a 17), .ref (a 18), .int (nI n), .int (0), .int (0), .int (0)])), (a 1, .inr (0, [.ref (a 19), .ref (a 20), .ref (a 21), .ref (a 22), .ref (a 23), .int (0), .ref (a 24), .ref (a 25), .ref (a 26), .ref (a 27), .ref (a 28), .ref (a 29), .ref (a 30), .ref (a 31), .ref (a 32), .ref (a 2), .int (0), .ref (a 33), .ref (a 34), .int (0), .int (nI n)])), (a 2, .inl (ca 0, 60, .inl (fun _ => 0))), (a 3, .inr (5, [.ref (a 0), .ref (a 4), .ref (a 35), .ref (a 36), .ref (a 37), .int (0), .int (0), .int (0), .int (0), .int (0), .int ((-1))])), (a 4, .inl (ca 1, 41, .inl (fun _ => 0))), (a 5, .inr (9, [.ref (a 0), .ref (a 38), .ref (a 39), .int (0)])), (a 6, .inr (4, [.ref (a 0), .ref (a 9), .ref (a 11), .ref (a 40), .int (0), .ref (a 41), .int (0), .ref (a 42), .int (0), .ref (a 43), .int (0)])), (a 7, .inl (ca 2, 3000, .inl (fun _ => 0))), (a 8, .inl (ca 3, 5, .inl (upd (upd (fun _ => 0) (0 : Int32).toNatClampNeg (x1)) (1 : Int32).toNatClampNeg (x2))))] := hD
  refine lv_aload_n hx hb dX11_feed_14 rfl (lv_at hl 0 rfl) ?_
  refine va_get (D := D) (ci := 11) (v := .ref (a 8)) (C := RX11) (T := TX11) (N := 21) hx hb hts (fun w h => List.mem_cons_of_mem _ (List.mem_append_right _ h)) hown hK hP 0 rfl rfl 12 (by decide) (hts (.fieldLink RX11 108 "ProofHouse" "waiting" "[I") (List.mem_of_getElem? (i := 1) rfl)) (fun _ h9 => h9) rfl dX11_feed_15 ?_
  refine lv_iconst hx hb dX11_feed_18 (v := 2) rfl ?_
  refine lv_iload_n hx hb dX11_feed_19 rfl (lv_at hl 3 rfl) ?_
  refine va_iast hx hb hK hP hD hS 9 3 rfl rfl (by unfold vp_in; decide) dX11_feed_20 ?_
  clear hP hD hS
  intro H locs hP hD hS
  have hP : va_P D vwCl [(h0, .inr (11, [.ref (a 0), .ref (a 1), .ref (a 3), .ref (a 5), .ref (a 9), .ref (a 10), .ref (a 11), .ref (a 12), .ref (a 6), .ref (a 13), .ref (a 7), .int (0), .ref (a 8), .int (1000), .int ((-1)), .int ((-1)), .int ((-1)), .int (0), .int (0), .int (0), .int (0)])), (a 0, .inr (7, [.ref (a 14), .ref (a 15), .ref (a 16), .ref (a 17), .ref (a 18), .int (nI n), .int (0), .int (0), .int (0)])), (a 1, .inr (0, [.ref (a 19), .ref (a 20), .ref (a 21), .ref (a 22), .ref (a 23), .int (0), .ref (a 24), .ref (a 25), .ref (a 26), .ref (a 27), .ref (a 28), .ref (a 29), .ref (a 30), .ref (a 31), .ref (a 32), .ref (a 2), .int (0), .ref (a 33), .ref (a 34), .int (0), .int (nI n)])), (a 2, .inl (ca 0, 60, .inl (fun _ => 0))), (a 3, .inr (5, [.ref (a 0), .ref (a 4), .ref (a 35), .ref (a 36), .ref (a 37), .int (0), .int (0), .int (0), .int (0), .int (0), .int ((-1))])), (a 4, .inl (ca 1, 41, .inl (fun _ => 0))), (a 5, .inr (9, [.ref (a 0), .ref (a 38), .ref (a 39), .int (0)])), (a 6, .inr (4, [.ref (a 0), .ref (a 9), .ref (a 11), .ref (a 40), .int (0), .ref (a 41), .int (0), .ref (a 42), .int (0), .ref (a 43), .int (0)])), (a 7, .inl (ca 2, 3000, .inl (fun _ => 0))), (a 8, .inl (ca 3, 5, .inl (upd (upd (upd (fun _ => 0) (0 : Int32).toNatClampNeg (x1)) (1 : Int32).toNatClampNeg (x2)) (2 : Int32).toNatClampNeg (x3))))] H := hP
  have hD : va_D A [(h0, .inr (11, [.ref (a 0), .ref (a 1), .ref (a 3), .ref (a 5), .ref (a 9), .ref (a 10), .ref (a 11), .ref (a 12), .ref (a 6), .ref (a 13), .ref (a 7), .int (0), .ref (a 8), .int (1000), .int ((-1)), .int ((-1)), .int ((-1)), .int (0), .int (0), .int (0), .int (0)])), (a 0, .inr (7, [.ref (a 14), .ref (a 15), .ref (a 16), .ref (a 17), .ref (a 18), .int (nI n), .int (0), .int (0), .int (0)])), (a 1, .inr (0, [.ref (a 19), .ref (a 20), .ref (a 21), .ref (a 22), .ref (a 23), .int (0), .ref (a 24), .ref (a 25), .ref (a 26), .ref (a 27), .ref (a 28), .ref (a 29), .ref (a 30), .ref (a 31), .ref (a 32), .ref (a 2), .int (0), .ref (a 33), .ref (a 34), .int (0), .int (nI n)])), (a 2, .inl (ca 0, 60, .inl (fun _ => 0))), (a 3, .inr (5, [.ref (a 0), .ref (a 4), .ref (a 35), .ref (a 36), .ref (a 37), .int (0), .int (0), .int (0), .int (0), .int (0), .int ((-1))])), (a 4, .inl (ca 1, 41, .inl (fun _ => 0))), (a 5, .inr (9, [.ref (a 0), .ref (a 38), .ref (a 39), .int (0)])), (a 6, .inr (4, [.ref (a 0), .ref (a 9), .ref (a 11), .ref (a 40), .int (0), .ref (a 41), .int (0), .ref (a 42), .int (0), .ref (a 43), .int (0)])), (a 7, .inl (ca 2, 3000, .inl (fun _ => 0))), (a 8, .inl (ca 3, 5, .inl (upd (upd (upd (fun _ => 0) (0 : Int32).toNatClampNeg (x1)) (1 : Int32).toNatClampNeg (x2)) (2 : Int32).toNatClampNeg (x3))))] := hD
  refine lv_aload_n hx hb dX11_feed_21 rfl (lv_at hl 0 rfl) ?_
  refine va_get (D := D) (ci := 11) (v := .ref (a 8)) (C := RX11) (T := TX11) (N := 21) hx hb hts (fun w h => List.mem_cons_of_mem _ (List.mem_append_right _ h)) hown hK hP 0 rfl rfl 12 (by decide) (hts (.fieldLink RX11 108 "ProofHouse" "waiting" "[I") (List.mem_of_getElem? (i := 1) rfl)) (fun _ h9 => h9) rfl dX11_feed_22 ?_
  refine lv_iconst hx hb dX11_feed_25 (v := 3) rfl ?_
  refine lv_iload hx hb dX11_feed_26 (lv_at hl 4 rfl) ?_
  refine va_iast hx hb hK hP hD hS 9 3 rfl rfl (by unfold vp_in; decide) dX11_feed_28 ?_
  clear hP hD hS
  intro H locs hP hD hS
  have hP : va_P D vwCl [(h0, .inr (11, [.ref (a 0), .ref (a 1), .ref (a 3), .ref (a 5), .ref (a 9), .ref (a 10), .ref (a 11), .ref (a 12), .ref (a 6), .ref (a 13), .ref (a 7), .int (0), .ref (a 8), .int (1000), .int ((-1)), .int ((-1)), .int ((-1)), .int (0), .int (0), .int (0), .int (0)])), (a 0, .inr (7, [.ref (a 14), .ref (a 15), .ref (a 16), .ref (a 17), .ref (a 18), .int (nI n), .int (0), .int (0), .int (0)])), (a 1, .inr (0, [.ref (a 19), .ref (a 20), .ref (a 21), .ref (a 22), .ref (a 23), .int (0), .ref (a 24), .ref (a 25), .ref (a 26), .ref (a 27), .ref (a 28), .ref (a 29), .ref (a 30), .ref (a 31), .ref (a 32), .ref (a 2), .int (0), .ref (a 33), .ref (a 34), .int (0), .int (nI n)])), (a 2, .inl (ca 0, 60, .inl (fun _ => 0))), (a 3, .inr (5, [.ref (a 0), .ref (a 4), .ref (a 35), .ref (a 36), .ref (a 37), .int (0), .int (0), .int (0), .int (0), .int (0), .int ((-1))])), (a 4, .inl (ca 1, 41, .inl (fun _ => 0))), (a 5, .inr (9, [.ref (a 0), .ref (a 38), .ref (a 39), .int (0)])), (a 6, .inr (4, [.ref (a 0), .ref (a 9), .ref (a 11), .ref (a 40), .int (0), .ref (a 41), .int (0), .ref (a 42), .int (0), .ref (a 43), .int (0)])), (a 7, .inl (ca 2, 3000, .inl (fun _ => 0))), (a 8, .inl (ca 3, 5, .inl (upd (upd (upd (upd (fun _ => 0) (0 : Int32).toNatClampNeg (x1)) (1 : Int32).toNatClampNeg (x2)) (2 : Int32).toNatClampNeg (x3)) (3 : Int32).toNatClampNeg (x4))))] H := hP
  have hD : va_D A [(h0, .inr (11, [.ref (a 0), .ref (a 1), .ref (a 3), .ref (a 5), .ref (a 9), .ref (a 10), .ref (a 11), .ref (a 12), .ref (a 6), .ref (a 13), .ref (a 7), .int (0), .ref (a 8), .int (1000), .int ((-1)), .int ((-1)), .int ((-1)), .int (0), .int (0), .int (0), .int (0)])), (a 0, .inr (7, [.ref (a 14), .ref (a 15), .ref (a 16), .ref (a 17), .ref (a 18), .int (nI n), .int (0), .int (0), .int (0)])), (a 1, .inr (0, [.ref (a 19), .ref (a 20), .ref (a 21), .ref (a 22), .ref (a 23), .int (0), .ref (a 24), .ref (a 25), .ref (a 26), .ref (a 27), .ref (a 28), .ref (a 29), .ref (a 30), .ref (a 31), .ref (a 32), .ref (a 2), .int (0), .ref (a 33), .ref (a 34), .int (0), .int (nI n)])), (a 2, .inl (ca 0, 60, .inl (fun _ => 0))), (a 3, .inr (5, [.ref (a 0), .ref (a 4), .ref (a 35), .ref (a 36), .ref (a 37), .int (0), .int (0), .int (0), .int (0), .int (0), .int ((-1))])), (a 4, .inl (ca 1, 41, .inl (fun _ => 0))), (a 5, .inr (9, [.ref (a 0), .ref (a 38), .ref (a 39), .int (0)])), (a 6, .inr (4, [.ref (a 0), .ref (a 9), .ref (a 11), .ref (a 40), .int (0), .ref (a 41), .int (0), .ref (a 42), .int (0), .ref (a 43), .int (0)])), (a 7, .inl (ca 2, 3000, .inl (fun _ => 0))), (a 8, .inl (ca 3, 5, .inl (upd (upd (upd (upd (fun _ => 0) (0 : Int32).toNatClampNeg (x1)) (1 : Int32).toNatClampNeg (x2)) (2 : Int32).toNatClampNeg (x3)) (3 : Int32).toNatClampNeg (x4))))] := hD
  refine lv_aload_n hx hb dX11_feed_29 rfl (lv_at hl 0 rfl) ?_
  refine va_get (D := D) (ci := 11) (v := .ref (a 8)) (C := RX11) (T := TX11) (N := 21) hx hb hts (fun w h => List.mem_cons_of_mem _ (List.mem_append_right _ h)) hown hK hP 0 rfl rfl 12 (by decide) (hts (.fieldLink RX11 108 "ProofHouse" "waiting" "[I") (List.mem_of_getElem? (i := 1) rfl)) (fun _ h9 => h9) rfl dX11_feed_30 ?_
  refine lv_iconst hx hb dX11_feed_33 (v := 4) rfl ?_
  refine lv_iload hx hb dX11_feed_34 (lv_at hl 5 rfl) ?_
  refine va_iast hx hb hK hP hD hS 9 3 rfl rfl (by unfold vp_in; decide) dX11_feed_36 ?_
  clear hP hD hS
  intro H locs hP hD hS
  have hP : va_P D vwCl [(h0, .inr (11, [.ref (a 0), .ref (a 1), .ref (a 3), .ref (a 5), .ref (a 9), .ref (a 10), .ref (a 11), .ref (a 12), .ref (a 6), .ref (a 13), .ref (a 7), .int (0), .ref (a 8), .int (1000), .int ((-1)), .int ((-1)), .int ((-1)), .int (0), .int (0), .int (0), .int (0)])), (a 0, .inr (7, [.ref (a 14), .ref (a 15), .ref (a 16), .ref (a 17), .ref (a 18), .int (nI n), .int (0), .int (0), .int (0)])), (a 1, .inr (0, [.ref (a 19), .ref (a 20), .ref (a 21), .ref (a 22), .ref (a 23), .int (0), .ref (a 24), .ref (a 25), .ref (a 26), .ref (a 27), .ref (a 28), .ref (a 29), .ref (a 30), .ref (a 31), .ref (a 32), .ref (a 2), .int (0), .ref (a 33), .ref (a 34), .int (0), .int (nI n)])), (a 2, .inl (ca 0, 60, .inl (fun _ => 0))), (a 3, .inr (5, [.ref (a 0), .ref (a 4), .ref (a 35), .ref (a 36), .ref (a 37), .int (0), .int (0), .int (0), .int (0), .int (0), .int ((-1))])), (a 4, .inl (ca 1, 41, .inl (fun _ => 0))), (a 5, .inr (9, [.ref (a 0), .ref (a 38), .ref (a 39), .int (0)])), (a 6, .inr (4, [.ref (a 0), .ref (a 9), .ref (a 11), .ref (a 40), .int (0), .ref (a 41), .int (0), .ref (a 42), .int (0), .ref (a 43), .int (0)])), (a 7, .inl (ca 2, 3000, .inl (fun _ => 0))), (a 8, .inl (ca 3, 5, .inl (upd (upd (upd (upd (upd (fun _ => 0) (0 : Int32).toNatClampNeg (x1)) (1 : Int32).toNatClampNeg (x2)) (2 : Int32).toNatClampNeg (x3)) (3 : Int32).toNatClampNeg (x4)) (4 : Int32).toNatClampNeg (x5))))] H := hP
  have hD : va_D A [(h0, .inr (11, [.ref (a 0), .ref (a 1), .ref (a 3), .ref (a 5), .ref (a 9), .ref (a 10), .ref (a 11), .ref (a 12), .ref (a 6), .ref (a 13), .ref (a 7), .int (0), .ref (a 8), .int (1000), .int ((-1)), .int ((-1)), .int ((-1)), .int (0), .int (0), .int (0), .int (0)])), (a 0, .inr (7, [.ref (a 14), .ref (a 15), .ref (a 16), .ref (a 17), .ref (a 18), .int (nI n), .int (0), .int (0), .int (0)])), (a 1, .inr (0, [.ref (a 19), .ref (a 20), .ref (a 21), .ref (a 22), .ref (a 23), .int (0), .ref (a 24), .ref (a 25), .ref (a 26), .ref (a 27), .ref (a 28), .ref (a 29), .ref (a 30), .ref (a 31), .ref (a 32), .ref (a 2), .int (0), .ref (a 33), .ref (a 34), .int (0), .int (nI n)])), (a 2, .inl (ca 0, 60, .inl (fun _ => 0))), (a 3, .inr (5, [.ref (a 0), .ref (a 4), .ref (a 35), .ref (a 36), .ref (a 37), .int (0), .int (0), .int (0), .int (0), .int (0), .int ((-1))])), (a 4, .inl (ca 1, 41, .inl (fun _ => 0))), (a 5, .inr (9, [.ref (a 0), .ref (a 38), .ref (a 39), .int (0)])), (a 6, .inr (4, [.ref (a 0), .ref (a 9), .ref (a 11), .ref (a 40), .int (0), .ref (a 41), .int (0), .ref (a 42), .int (0), .ref (a 43), .int (0)])), (a 7, .inl (ca 2, 3000, .inl (fun _ => 0))), (a 8, .inl (ca 3, 5, .inl (upd (upd (upd (upd (upd (fun _ => 0) (0 : Int32).toNatClampNeg (x1)) (1 : Int32).toNatClampNeg (x2)) (2 : Int32).toNatClampNeg (x3)) (3 : Int32).toNatClampNeg (x4)) (4 : Int32).toNatClampNeg (x5))))] := hD
  exact W.vret hx hb hr (fun t ht hW => ⟨⟨(), rfl, trivial, trivial⟩, hS.F ht⟩) hS.2.2 dX11_feed_37
