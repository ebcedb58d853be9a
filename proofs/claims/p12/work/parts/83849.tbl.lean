theorem lq_c11 : Cond.classLink "ProofHouseLaw" 7 RX11 ∈ lw_tbl := List.mem_of_getElem? (i := 270) (by decide +kernel)
theorem lq_c12 : Cond.classLink "ProofHouseLaw" 10 RX12 ∈ lw_tbl := List.mem_of_getElem? (i := 1902) (by decide +kernel)
theorem lq_m11 : Cond.methodLink "ProofHouseLaw" 9 yX11_init ∈ lw_tbl := List.mem_of_getElem? (i := 272) (by decide +kernel)
theorem lq_i11 : Cond.instanceMethod yX11_init ∈ lw_tbl := List.mem_of_getElem? (i := 273) (by decide +kernel)
theorem lq_z11 : Cond.initialized RX11 ∈ lw_tbl := List.mem_of_getElem? (i := 249) (by decide +kernel)
theorem lq_m12 : Cond.methodLink "ProofHouseLaw" 12 yX12_init ∈ lw_tbl := List.mem_of_getElem? (i := 1904) (by decide +kernel)
theorem lq_i12 : Cond.instanceMethod yX12_init ∈ lw_tbl := List.mem_of_getElem? (i := 1905) (by decide +kernel)
theorem lq_z12 : Cond.initialized RX12 ∈ lw_tbl := List.mem_of_getElem? (i := 268) (by decide +kernel)
theorem lq_n0 : Cond.instantiable RX0 21 ∈ lw_tbl := List.mem_of_getElem? (i := 446) (by decide +kernel)
theorem lq_n1 : Cond.instantiable RX1 4 ∈ lw_tbl := List.mem_of_getElem? (i := 837) (by decide +kernel)
theorem lq_n2 : Cond.instantiable RX2 15 ∈ lw_tbl := List.mem_of_getElem? (i := 685) (by decide +kernel)
theorem lq_n3 : Cond.instantiable RX3 11 ∈ lw_tbl := List.mem_of_getElem? (i := 901) (by decide +kernel)
theorem lq_n4 : Cond.instantiable RX4 11 ∈ lw_tbl := List.mem_of_getElem? (i := 830) (by decide +kernel)
theorem lq_n5 : Cond.instantiable RX5 11 ∈ lw_tbl := List.mem_of_getElem? (i := 557) (by decide +kernel)
theorem lq_n6 : Cond.instantiable RX6 14 ∈ lw_tbl := List.mem_of_getElem? (i := 738) (by decide +kernel)
theorem lq_n7 : Cond.instantiable RX7 9 ∈ lw_tbl := List.mem_of_getElem? (i := 279) (by decide +kernel)
theorem lq_n8 : Cond.instantiable RX8 11 ∈ lw_tbl := List.mem_of_getElem? (i := 790) (by decide +kernel)
theorem lq_n9 : Cond.instantiable RX9 4 ∈ lw_tbl := List.mem_of_getElem? (i := 599) (by decide +kernel)
theorem lq_n10 : Cond.instantiable RX10 16 ∈ lw_tbl := List.mem_of_getElem? (i := 624) (by decide +kernel)
theorem lq_n11 : Cond.instantiable RX11 21 ∈ lw_tbl := List.mem_of_getElem? (i := 271) (by decide +kernel)
theorem lq_n12 : Cond.instantiable RX12 149 ∈ lw_tbl := List.mem_of_getElem? (i := 1903) (by decide +kernel)
theorem lq_f20 : Cond.fieldLinkNest RX11 20 "ProofHouse$Room" "used" "I" "ProofHouse" ∈ lw_tbl := List.mem_of_getElem? (i := 413) (by decide +kernel)
theorem lq_l4 : Cond.methodLinkNest RX4 33 yX1_init "ProofHouse" ∈ lw_tbl := List.mem_of_getElem? (i := 838) (by decide +kernel)
theorem lq_l3 : Cond.methodLinkNest RX3 29 yX1_init "ProofHouse" ∈ lw_tbl := List.mem_of_getElem? (i := 908) (by decide +kernel)
theorem lq_ai : Cond.arrayOver (.array .int) ∈ lw_tbl := List.mem_of_getElem? (i := 452) (by decide +kernel)
theorem lq_ao : Cond.arrayOver (.object RX1) ∈ lw_tbl := List.mem_of_getElem? (i := 836) (by decide +kernel)
theorem lq_a_int : Cond.arrayClass .int ∈ lw_tbl := List.mem_of_getElem? (i := 443) (by decide +kernel)
theorem lq_a_boolean : Cond.arrayClass .boolean ∈ lw_tbl := List.mem_of_getElem? (i := 555) (by decide +kernel)
theorem lq_a_char : Cond.arrayClass .char ∈ lw_tbl := List.mem_of_getElem? (i := 622) (by decide +kernel)
theorem lq_a_long : Cond.arrayClass .long ∈ lw_tbl := List.mem_of_getElem? (i := 442) (by decide +kernel)
theorem lq_ls : Cond.laysStatic "java/lang/String" "COMPACT_STRINGS" "Z" ∈ lw_tbl := List.mem_of_getElem? (i := 299) (by decide +kernel)
theorem lq_lp : Cond.laysStatic "jdk/internal/util/Preconditions" "SIOOBE_FORMATTER" "Ljava/util/function/BiFunction;" ∈ lw_tbl := List.mem_of_getElem? (i := 316) (by decide +kernel)
theorem lq_zs : Cond.initialized "java/lang/String" ∈ lw_tbl := List.mem_of_getElem? (i := 252) (by decide +kernel)
theorem lq_zp : Cond.initialized "jdk/internal/util/Preconditions" ∈ lw_tbl := List.mem_of_getElem? (i := 254) (by decide +kernel)
theorem lq_s0 : Cond.stringRef RX7 49 "nil t quote if equal cons implies + - < consp car cdr natp symbolp height not eval simplify prove defun defthm check on off undo use theorem taut same value first second pair yes no def thm weak cut inst swap put induct " ∈ lw_tbl := List.mem_of_getElem? (i := 289) (by decide +kernel)
theorem lq_s1 : Cond.stringRef RX7 57 " abcdefghijklmnopqrstuvwxyz0123456789+-*/<>=?!_" ∈ lw_tbl := List.mem_of_getElem? (i := 300) (by decide +kernel)
theorem lq_s2 : Cond.stringRef RX5 64 " abcdefghijklmnopqrstuvwxyz0123456789+-*/<>=?!_" ∈ lw_tbl := List.mem_of_getElem? (i := 1068) (by decide +kernel)
theorem lq_s3 : Cond.stringRef RX9 65 " abcdefghijklmnopqrstuvwxyz0123456789+-*/<>=?!_" ∈ lw_tbl := List.mem_of_getElem? (i := 1389) (by decide +kernel)
theorem lq_t0 : Cond.laysStatic "ProofHouse$Book" "BASE_ARITIES" "[I" ∈ lw_tbl := List.mem_of_getElem? (i := 1156) (by decide +kernel)
theorem lq_t1 : Cond.laysStatic "ProofHouse$Proofs" "LENGTHS" "[I" ∈ lw_tbl := List.mem_of_getElem? (i := 1691) (by decide +kernel)
theorem lq_t2 : Cond.laysStatic "ProofHouse$Proofs" "TERM_COUNTS" "[I" ∈ lw_tbl := List.mem_of_getElem? (i := 1693) (by decide +kernel)
theorem lq_t3 : Cond.laysStatic "ProofHouse$Proofs" "FIRST_PARTS" "[I" ∈ lw_tbl := List.mem_of_getElem? (i := 1733) (by decide +kernel)
theorem lq_t4 : Cond.laysStatic "ProofHouse$Proofs" "PART_COUNTS" "[I" ∈ lw_tbl := List.mem_of_getElem? (i := 1731) (by decide +kernel)
theorem lq_t_Book : Cond.initialized "ProofHouse$Book" ∈ lw_tbl := List.mem_of_getElem? (i := 258) (by decide +kernel)
theorem lq_t_Proofs : Cond.initialized "ProofHouse$Proofs" ∈ lw_tbl := List.mem_of_getElem? (i := 267) (by decide +kernel)
set_option maxRecDepth 100000 in
theorem gl_wsQ : ∀ w ∈ wsQ, w ∈ lw_tbl := by
  have e : wsQ = ([458, 466, 418, 467, 481, 456, 461, 848, 844, 639, 641, 420, 853, 847, 843, 503, 419, 485, 496, 488, 612, 608, 492, 490, 470, 474, 462, 483, 494, 499, 647, 650, 421, 454, 459, 464, 501, 480, 875, 468, 473, 849, 572, 422, 413, 416, 574, 476, 504, 873, 611, 607, 509, 506, 472, 460, 469, 455, 482, 478, 511, 632, 634, 486, 498, 705, 868, 917, 850, 845, 921] : List Nat).filterMap (fun i => lw_tbl[i]?) := by decide +kernel
  intro w h
  rw [e] at h
  obtain ⟨i, -, hi⟩ := List.mem_filterMap.mp h
  exact List.mem_of_getElem? hi
theorem on_wsQ : ∀ w ∈ wsQ, w.onTables = true := by decide +kernel
set_option maxRecDepth 100000 in
theorem gl_wsQm : ∀ w ∈ wsQm, w ∈ lw_tbl := by
  have e : wsQm = ([1337, 1756, 1641, 1092, 1448, 1490, 1178] : List Nat).filterMap (fun i => lw_tbl[i]?) := by decide +kernel
  intro w h
  rw [e] at h
  obtain ⟨i, -, hi⟩ := List.mem_filterMap.mp h
  exact List.mem_of_getElem? hi
theorem on_wsQm : ∀ w ∈ wsQm, w.onTables = true := by decide +kernel
