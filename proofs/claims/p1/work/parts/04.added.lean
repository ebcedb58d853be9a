/-- what added(l, r, h) makes: one object more -/
def m_added (u : mST) (a b h : Int32) : mST := mI (mA (mA (mA (mA (mA (mA u 0 (u.1 8).toNatClampNeg a) 1 (u.1 8).toNatClampNeg b) 2 (u.1 8).toNatClampNeg (u.2.1 7 h.toNatClampNeg)) 3 (u.1 8).toNatClampNeg 0) 4 (u.1 8).toNatClampNeg (if a < 0 then 0 else 1 + (if u.2.1 4 b.toNatClampNeg < u.2.1 4 a.toNatClampNeg then u.2.1 4 a.toNatClampNeg else u.2.1 4 b.toNatClampNeg))) 7 h.toNatClampNeg (u.1 8)) 8 (u.1 8 + 1)

set_option maxHeartbeats 4000000 in
set_option maxRecDepth 100000 in
/-- added(l, r, h) -/
theorem c_m_added (l : Launch) (D : va_G) (ca : Nat → ClassId) (h0 sz : Nat) (ad : Nat → Nat) (u : mST) (a : Int32) (b : Int32) (h : Int32)  (ho : vp_in (u.1 8) 452000) (hh : vp_in h 8192) (hab : 0 ≤ a → vp_in a 452000 ∧ vp_in b 452000) : Met l yX12_added wsX12_added pR_0 (va_Pc [.ref (h0), .int (a), .int (b), .int (h)] (fun U => U.heap.size = sz ∧ mWd D ca (fun _ => True) h0 ad u U)) (va_Qi (fun (r : Int32) (v : mST) => v = m_added u a b h ∧ r = u.1 8 + 1 - 1) (mWd D ca (va_A (mCl ca h0 ad u) sz) h0 ad) (va_A (mCl ca h0 ad u) sz)) 0 0 (va_A (mCl ca h0 ad u) sz) := by
  refine Met.ofW (cc := cX12_added) (maxL := 4) (ret := (some .int)) (by decide) rfl ?_
  intro p e s m args below meth c s₁ B hml hv
  obtain ⟨rfl, hsz, hP, hK, hD0⟩ := hv
  have hx := B.exec
  have hb := B.bytes
  have hr := B.returns
  have hts := atoms_spec (ws := wsX12_added) B.pre
  have hown : s.vm.findClass RX12 = some m.cls := findClass_of_methodNamed B.named
  have hlocks := B.notSynchronized
  subst hsz
  have hD := hD0.self (sz := s.heap.size)
  generalize hAe : va_A (mCl ca h0 ad u) s.heap.size = A at hD ⊢
  have hA : ∀ q : Nat, s.heap.size ≤ q → A q := fun q h => by rw [← hAe]; exact Or.inr h
  have hS : va_S A s.heap s.heap [] := va_S.rf
  have L_left := hts (.fieldLink RX12 8 "ProofHouseModel" "left" "[I") (by decide +kernel)
  have L_objects := hts (.fieldLink RX12 332 "ProofHouseModel" "objects" "I") (by decide +kernel)
  have L_right := hts (.fieldLink RX12 14 "ProofHouseModel" "right" "[I") (by decide +kernel)
  have L_next := hts (.fieldLink RX12 17 "ProofHouseModel" "next" "[I") (by decide +kernel)
  have L_heads := hts (.fieldLink RX12 31 "ProofHouseModel" "heads" "[I") (by decide +kernel)
  have L_sizes := hts (.fieldLink RX12 20 "ProofHouseModel" "sizes" "[I") (by decide +kernel)
  have L_heights := hts (.fieldLink RX12 23 "ProofHouseModel" "heights" "[I") (by decide +kernel)
  have hin : ∀ w ∈ wsX120, w ∈ wsX12_added := fun w h => List.mem_cons_of_mem _ (List.mem_append_right _ h)
  have hl := lv_entry ([.ref (h0), .int (a), .int (b), .int (h)]) (n := 4) (Nat.le_of_ble_eq_true rfl)
  rw [lg_entry_eq]
  generalize (lg_sl ([.ref (h0), .int (a), .int (b), .int (h)]) ++ List.replicate (4 - (lg_sl ([.ref (h0), .int (a), .int (b), .int (h)])).length) Slot.unset).toArray = ls at hl ⊢
  have hl : lv_has ls 4 [(0, .ref (h0)), (1, .int (a)), (2, .int (b)), (3, .int (h))] := hl
  refine lv_aload_n hx hb dX12_added_0 rfl (lv_at hl 0 rfl) ?_
  refine va_get (D := D) (ci := 12) (v := .ref (ad 0)) (C := RX12) (T := TX12) (N := 149) hx hb hts hin hown hK hP 0 mH_0 rfl 0 (by decide) L_left (fun _ h9 => h9) mF_0 dX12_added_1 ?_
  refine lv_aload_n hx hb dX12_added_4 rfl (lv_at hl 0 rfl) ?_
  refine va_get (D := D) (ci := 12) (v := .int (u.1 8)) (C := RX12) (T := TX12) (N := 149) hx hb hts hin hown hK hP 0 mH_0 rfl 8 (by decide) L_objects (fun _ h9 => h9) mF_8 dX12_added_5 ?_
  refine lv_iload_n hx hb dX12_added_8 rfl (lv_at hl 1 rfl) ?_
  refine va_iast hx hb hK hP hD hS 1 0 mG_0 rfl ho dX12_added_9 (fun H locs hP hD hS => ?_)
  rw [mSA_0] at hP hD
  refine lv_aload_n hx hb dX12_added_10 rfl (lv_at hl 0 rfl) ?_
  refine va_get (D := D) (ci := 12) (v := .ref (ad 1)) (C := RX12) (T := TX12) (N := 149) hx hb hts hin hown hK hP 0 mH_0 rfl 1 (by decide) L_right (fun _ h9 => h9) mF_1 dX12_added_11 ?_
  refine lv_aload_n hx hb dX12_added_14 rfl (lv_at hl 0 rfl) ?_
  refine va_get (D := D) (ci := 12) (v := .int (u.1 8)) (C := RX12) (T := TX12) (N := 149) hx hb hts hin hown hK hP 0 mH_0 rfl 8 (by decide) L_objects (fun _ h9 => h9) mF_8 dX12_added_15 ?_
  refine lv_iload_n hx hb dX12_added_18 rfl (lv_at hl 2 rfl) ?_
  refine va_iast hx hb hK hP hD hS 2 1 mG_1 rfl ho dX12_added_19 (fun H locs hP hD hS => ?_)
  rw [mSA_1] at hP hD
  refine lv_aload_n hx hb dX12_added_20 rfl (lv_at hl 0 rfl) ?_
  refine va_get (D := D) (ci := 12) (v := .ref (ad 2)) (C := RX12) (T := TX12) (N := 149) hx hb hts hin hown hK hP 0 mH_0 rfl 2 (by decide) L_next (fun _ h9 => h9) mF_2 dX12_added_21 ?_
  refine lv_aload_n hx hb dX12_added_24 rfl (lv_at hl 0 rfl) ?_
  refine va_get (D := D) (ci := 12) (v := .int (u.1 8)) (C := RX12) (T := TX12) (N := 149) hx hb hts hin hown hK hP 0 mH_0 rfl 8 (by decide) L_objects (fun _ h9 => h9) mF_8 dX12_added_25 ?_
  refine lv_aload_n hx hb dX12_added_28 rfl (lv_at hl 0 rfl) ?_
  refine va_get (D := D) (ci := 12) (v := .ref (ad 7)) (C := RX12) (T := TX12) (N := 149) hx hb hts hin hown hK hP 0 mH_0 rfl 7 (by decide) L_heads (fun _ h9 => h9) mF_7 dX12_added_29 ?_
  refine lv_iload_n hx hb dX12_added_32 rfl (lv_at hl 3 rfl) ?_
  refine va_iald hx hb hK hP 7 6 mG_7 rfl hh dX12_added_33 ?_
  refine lv_topi (fun v1 ev1 => ?_)
  have ev1 : v1 = (u.2.1 7) (h).toNatClampNeg := ev1
  refine va_iast hx hb hK hP hD hS 3 2 mG_2 rfl ho dX12_added_34 (fun H locs hP hD hS => ?_)
  rw [mSA_2] at hP hD
  refine lv_aload_n hx hb dX12_added_35 rfl (lv_at hl 0 rfl) ?_
  refine va_get (D := D) (ci := 12) (v := .ref (ad 3)) (C := RX12) (T := TX12) (N := 149) hx hb hts hin hown hK hP 0 mH_0 rfl 3 (by decide) L_sizes (fun _ h9 => h9) mF_3 dX12_added_36 ?_
  refine lv_aload_n hx hb dX12_added_39 rfl (lv_at hl 0 rfl) ?_
  refine va_get (D := D) (ci := 12) (v := .int (u.1 8)) (C := RX12) (T := TX12) (N := 149) hx hb hts hin hown hK hP 0 mH_0 rfl 8 (by decide) L_objects (fun _ h9 => h9) mF_8 dX12_added_40 ?_
  refine lv_iconst hx hb dX12_added_43 (v := 0) rfl ?_
  refine va_iast hx hb hK hP hD hS 4 3 mG_3 rfl ho dX12_added_44 (fun H locs hP hD hS => ?_)
  rw [mSA_3] at hP hD
  refine lv_aload_n hx hb dX12_added_45 rfl (lv_at hl 0 rfl) ?_
  refine va_get (D := D) (ci := 12) (v := .ref (ad 4)) (C := RX12) (T := TX12) (N := 149) hx hb hts hin hown hK hP 0 mH_0 rfl 4 (by decide) L_heights (fun _ h9 => h9) mF_4 dX12_added_46 ?_
  refine lv_aload_n hx hb dX12_added_49 rfl (lv_at hl 0 rfl) ?_
  refine va_get (D := D) (ci := 12) (v := .int (u.1 8)) (C := RX12) (T := TX12) (N := 149) hx hb hts hin hown hK hP 0 mH_0 rfl 8 (by decide) L_objects (fun _ h9 => h9) mF_8 dX12_added_50 ?_
  refine lv_iload_n hx hb dX12_added_53 rfl (lv_at hl 1 rfl) ?_
  refine lv_if_ge hx hb dX12_added_54 (tgt := 61) rfl (fun h2 => ?_) (fun h2 => ?_)
  · refine lv_iconst hx hb dX12_added_61 (v := 1) rfl ?_
    refine lv_aload_n hx hb dX12_added_62 rfl (lv_at hl 0 rfl) ?_
    refine va_get (D := D) (ci := 12) (v := .ref (ad 4)) (C := RX12) (T := TX12) (N := 149) hx hb hts hin hown hK hP 0 mH_0 rfl 4 (by decide) L_heights (fun _ h9 => h9) mF_4 dX12_added_63 ?_
    refine lv_iload_n hx hb dX12_added_66 rfl (lv_at hl 1 rfl) ?_
    refine va_iald hx hb hK hP 5 4 mG_4 rfl (hab h2).1 dX12_added_67 ?_
    refine lv_topi (fun v3 ev3 => ?_)
    have ev3 : v3 = (u.2.1 4) (a).toNatClampNeg := ev3
    refine lv_aload_n hx hb dX12_added_68 rfl (lv_at hl 0 rfl) ?_
    refine va_get (D := D) (ci := 12) (v := .ref (ad 4)) (C := RX12) (T := TX12) (N := 149) hx hb hts hin hown hK hP 0 mH_0 rfl 4 (by decide) L_heights (fun _ h9 => h9) mF_4 dX12_added_69 ?_
    refine lv_iload_n hx hb dX12_added_72 rfl (lv_at hl 2 rfl) ?_
    refine va_iald hx hb hK hP 5 4 mG_4 rfl (hab h2).2 dX12_added_73 ?_
    refine lv_topi (fun v4 ev4 => ?_)
    have ev4 : v4 = (u.2.1 4) (b).toNatClampNeg := ev4
    refine lv_icmp_le hx hb dX12_added_74 (tgt := 86) rfl (fun h5 => ?_) (fun h5 => ?_)
    · refine lv_aload_n hx hb dX12_added_86 rfl (lv_at hl 0 rfl) ?_
      refine va_get (D := D) (ci := 12) (v := .ref (ad 4)) (C := RX12) (T := TX12) (N := 149) hx hb hts hin hown hK hP 0 mH_0 rfl 4 (by decide) L_heights (fun _ h9 => h9) mF_4 dX12_added_87 ?_
      refine lv_iload_n hx hb dX12_added_90 rfl (lv_at hl 2 rfl) ?_
      refine va_iald hx hb hK hP 5 4 mG_4 rfl (hab h2).2 dX12_added_91 ?_
      refine lv_topi (fun v6 ev6 => ?_)
      have ev6 : v6 = (u.2.1 4) (b).toNatClampNeg := ev6
      refine lv_iadd hx hb dX12_added_92 ?_
      refine va_iast hx hb hK hP hD hS 5 4 mG_4 rfl ho dX12_added_93 (fun H locs hP hD hS => ?_)
      rw [mSA_4] at hP hD
      refine lv_aload_n hx hb dX12_added_94 rfl (lv_at hl 0 rfl) ?_
      refine va_get (D := D) (ci := 12) (v := .ref (ad 7)) (C := RX12) (T := TX12) (N := 149) hx hb hts hin hown hK hP 0 mH_0 rfl 7 (by decide) L_heads (fun _ h9 => h9) mF_7 dX12_added_95 ?_
      refine lv_iload_n hx hb dX12_added_98 rfl (lv_at hl 3 rfl) ?_
      refine lv_aload_n hx hb dX12_added_99 rfl (lv_at hl 0 rfl) ?_
      refine va_get (D := D) (ci := 12) (v := .int (u.1 8)) (C := RX12) (T := TX12) (N := 149) hx hb hts hin hown hK hP 0 mH_0 rfl 8 (by decide) L_objects (fun _ h9 => h9) mF_8 dX12_added_100 ?_
      refine va_iast hx hb hK hP hD hS 7 6 mG_7 rfl hh dX12_added_103 (fun H locs hP hD hS => ?_)
      rw [mSA_7] at hP hD
      refine lv_aload_n hx hb dX12_added_104 rfl (lv_at hl 0 rfl) ?_
      refine lv_dup hx hb dX12_added_105 rfl ?_
      refine va_get (D := D) (ci := 12) (v := .int (u.1 8)) (C := RX12) (T := TX12) (N := 149) hx hb hts hin hown hK hP 0 mH_0 rfl 8 (by decide) L_objects (fun _ h9 => h9) mF_8 dX12_added_106 ?_
      refine lv_iconst hx hb dX12_added_109 (v := 1) rfl ?_
      refine lv_iadd hx hb dX12_added_110 ?_
      refine va_put (D := D) (ci := 12) (v := .int ((u.1 8) + 1)) (ty := .int) (C := RX12) (T := TX12) (N := 149) hx hb hts hin tyX12 tyX12_ok nmX12 hown hK hP hD hS 0 mH_0 rfl 8 (by decide) L_objects (fun _ h9 => h9) rfl (tyX12_ok 8 (by decide)) rfl rfl (Nat.le_of_ble_eq_true rfl) dX12_added_111 (fun H locs hP hD hS => ?_)
      rw [mSI_8] at hP hD
      refine lv_aload_n hx hb dX12_added_114 rfl (lv_at hl 0 rfl) ?_
      refine va_get (D := D) (ci := 12) (v := .int ((u.1 8) + 1)) (C := RX12) (T := TX12) (N := 149) hx hb hts hin hown hK hP 0 mH_0 rfl 8 (by decide) L_objects (fun _ h9 => h9) mF_8 dX12_added_115 ?_
      refine lv_iconst hx hb dX12_added_118 (v := 1) rfl ?_
      refine lv_isub hx hb dX12_added_119 ?_
      exact W.iret (v := ((u.1 8) + 1) - 1) hx hb hr (fun t ht hW => ⟨⟨((u.1 8) + 1) - 1, mI (mA (mA (mA (mA (mA (mA u 0 (u.1 8).toNatClampNeg (a)) 1 (u.1 8).toNatClampNeg (b)) 2 (u.1 8).toNatClampNeg (v1)) 3 (u.1 8).toNatClampNeg (0)) 4 (u.1 8).toNatClampNeg (1 + v6)) 7 (h).toNatClampNeg (u.1 8)) 8 ((u.1 8) + 1), rfl, ⟨by subst ev1; unfold m_added; first | (rw [if_pos (Int32.not_le.mp h2)]; done) | (rw [if_neg (Int32.not_lt.mpr h2)]; subst_vars; first | (rw [if_neg (Int32.not_lt.mpr h5)]; done) | (rw [if_pos (Int32.not_le.mp h5)]; done)), by rfl⟩, by rw [ht]; exact hP, va_K.moved hW.alike hK, hD⟩, hS.F ht⟩) hS.2.2 dX12_added_120
    · refine lv_aload_n hx hb dX12_added_77 rfl (lv_at hl 0 rfl) ?_
      refine va_get (D := D) (ci := 12) (v := .ref (ad 4)) (C := RX12) (T := TX12) (N := 149) hx hb hts hin hown hK hP 0 mH_0 rfl 4 (by decide) L_heights (fun _ h9 => h9) mF_4 dX12_added_78 ?_
      refine lv_iload_n hx hb dX12_added_81 rfl (lv_at hl 1 rfl) ?_
      refine va_iald hx hb hK hP 5 4 mG_4 rfl (hab h2).1 dX12_added_82 ?_
      refine lv_topi (fun v7 ev7 => ?_)
      have ev7 : v7 = (u.2.1 4) (a).toNatClampNeg := ev7
      refine lv_goto hx hb dX12_added_83 (tgt := 92) rfl ?_
      refine lv_iadd hx hb dX12_added_92 ?_
      refine va_iast hx hb hK hP hD hS 5 4 mG_4 rfl ho dX12_added_93 (fun H locs hP hD hS => ?_)
      rw [mSA_4] at hP hD
      refine lv_aload_n hx hb dX12_added_94 rfl (lv_at hl 0 rfl) ?_
      refine va_get (D := D) (ci := 12) (v := .ref (ad 7)) (C := RX12) (T := TX12) (N := 149) hx hb hts hin hown hK hP 0 mH_0 rfl 7 (by decide) L_heads (fun _ h9 => h9) mF_7 dX12_added_95 ?_
      refine lv_iload_n hx hb dX12_added_98 rfl (lv_at hl 3 rfl) ?_
      refine lv_aload_n hx hb dX12_added_99 rfl (lv_at hl 0 rfl) ?_
      refine va_get (D := D) (ci := 12) (v := .int (u.1 8)) (C := RX12) (T := TX12) (N := 149) hx hb hts hin hown hK hP 0 mH_0 rfl 8 (by decide) L_objects (fun _ h9 => h9) mF_8 dX12_added_100 ?_
      refine va_iast hx hb hK hP hD hS 7 6 mG_7 rfl hh dX12_added_103 (fun H locs hP hD hS => ?_)
      rw [mSA_7] at hP hD
      refine lv_aload_n hx hb dX12_added_104 rfl (lv_at hl 0 rfl) ?_
      refine lv_dup hx hb dX12_added_105 rfl ?_
      refine va_get (D := D) (ci := 12) (v := .int (u.1 8)) (C := RX12) (T := TX12) (N := 149) hx hb hts hin hown hK hP 0 mH_0 rfl 8 (by decide) L_objects (fun _ h9 => h9) mF_8 dX12_added_106 ?_
      refine lv_iconst hx hb dX12_added_109 (v := 1) rfl ?_
      refine lv_iadd hx hb dX12_added_110 ?_
      refine va_put (D := D) (ci := 12) (v := .int ((u.1 8) + 1)) (ty := .int) (C := RX12) (T := TX12) (N := 149) hx hb hts hin tyX12 tyX12_ok nmX12 hown hK hP hD hS 0 mH_0 rfl 8 (by decide) L_objects (fun _ h9 => h9) rfl (tyX12_ok 8 (by decide)) rfl rfl (Nat.le_of_ble_eq_true rfl) dX12_added_111 (fun H locs hP hD hS => ?_)
      rw [mSI_8] at hP hD
      refine lv_aload_n hx hb dX12_added_114 rfl (lv_at hl 0 rfl) ?_
      refine va_get (D := D) (ci := 12) (v := .int ((u.1 8) + 1)) (C := RX12) (T := TX12) (N := 149) hx hb hts hin hown hK hP 0 mH_0 rfl 8 (by decide) L_objects (fun _ h9 => h9) mF_8 dX12_added_115 ?_
      refine lv_iconst hx hb dX12_added_118 (v := 1) rfl ?_
      refine lv_isub hx hb dX12_added_119 ?_
      exact W.iret (v := ((u.1 8) + 1) - 1) hx hb hr (fun t ht hW => ⟨⟨((u.1 8) + 1) - 1, mI (mA (mA (mA (mA (mA (mA u 0 (u.1 8).toNatClampNeg (a)) 1 (u.1 8).toNatClampNeg (b)) 2 (u.1 8).toNatClampNeg (v1)) 3 (u.1 8).toNatClampNeg (0)) 4 (u.1 8).toNatClampNeg (1 + v7)) 7 (h).toNatClampNeg (u.1 8)) 8 ((u.1 8) + 1), rfl, ⟨by subst ev1; unfold m_added; first | (rw [if_pos (Int32.not_le.mp h2)]; done) | (rw [if_neg (Int32.not_lt.mpr h2)]; subst_vars; first | (rw [if_neg (Int32.not_lt.mpr h5)]; done) | (rw [if_pos (Int32.not_le.mp h5)]; done)), by rfl⟩, by rw [ht]; exact hP, va_K.moved hW.alike hK, hD⟩, hS.F ht⟩) hS.2.2 dX12_added_120
  · refine lv_iconst hx hb dX12_added_57 (v := 0) rfl ?_
    refine lv_goto hx hb dX12_added_58 (tgt := 93) rfl ?_
    refine va_iast hx hb hK hP hD hS 5 4 mG_4 rfl ho dX12_added_93 (fun H locs hP hD hS => ?_)
    rw [mSA_4] at hP hD
    refine lv_aload_n hx hb dX12_added_94 rfl (lv_at hl 0 rfl) ?_
    refine va_get (D := D) (ci := 12) (v := .ref (ad 7)) (C := RX12) (T := TX12) (N := 149) hx hb hts hin hown hK hP 0 mH_0 rfl 7 (by decide) L_heads (fun _ h9 => h9) mF_7 dX12_added_95 ?_
    refine lv_iload_n hx hb dX12_added_98 rfl (lv_at hl 3 rfl) ?_
    refine lv_aload_n hx hb dX12_added_99 rfl (lv_at hl 0 rfl) ?_
    refine va_get (D := D) (ci := 12) (v := .int (u.1 8)) (C := RX12) (T := TX12) (N := 149) hx hb hts hin hown hK hP 0 mH_0 rfl 8 (by decide) L_objects (fun _ h9 => h9) mF_8 dX12_added_100 ?_
    refine va_iast hx hb hK hP hD hS 7 6 mG_7 rfl hh dX12_added_103 (fun H locs hP hD hS => ?_)
    rw [mSA_7] at hP hD
    refine lv_aload_n hx hb dX12_added_104 rfl (lv_at hl 0 rfl) ?_
    refine lv_dup hx hb dX12_added_105 rfl ?_
    refine va_get (D := D) (ci := 12) (v := .int (u.1 8)) (C := RX12) (T := TX12) (N := 149) hx hb hts hin hown hK hP 0 mH_0 rfl 8 (by decide) L_objects (fun _ h9 => h9) mF_8 dX12_added_106 ?_
    refine lv_iconst hx hb dX12_added_109 (v := 1) rfl ?_
    refine lv_iadd hx hb dX12_added_110 ?_
    refine va_put (D := D) (ci := 12) (v := .int ((u.1 8) + 1)) (ty := .int) (C := RX12) (T := TX12) (N := 149) hx hb hts hin tyX12 tyX12_ok nmX12 hown hK hP hD hS 0 mH_0 rfl 8 (by decide) L_objects (fun _ h9 => h9) rfl (tyX12_ok 8 (by decide)) rfl rfl (Nat.le_of_ble_eq_true rfl) dX12_added_111 (fun H locs hP hD hS => ?_)
    rw [mSI_8] at hP hD
    refine lv_aload_n hx hb dX12_added_114 rfl (lv_at hl 0 rfl) ?_
    refine va_get (D := D) (ci := 12) (v := .int ((u.1 8) + 1)) (C := RX12) (T := TX12) (N := 149) hx hb hts hin hown hK hP 0 mH_0 rfl 8 (by decide) L_objects (fun _ h9 => h9) mF_8 dX12_added_115 ?_
    refine lv_iconst hx hb dX12_added_118 (v := 1) rfl ?_
    refine lv_isub hx hb dX12_added_119 ?_
    exact W.iret (v := ((u.1 8) + 1) - 1) hx hb hr (fun t ht hW => ⟨⟨((u.1 8) + 1) - 1, mI (mA (mA (mA (mA (mA (mA u 0 (u.1 8).toNatClampNeg (a)) 1 (u.1 8).toNatClampNeg (b)) 2 (u.1 8).toNatClampNeg (v1)) 3 (u.1 8).toNatClampNeg (0)) 4 (u.1 8).toNatClampNeg (0)) 7 (h).toNatClampNeg (u.1 8)) 8 ((u.1 8) + 1), rfl, ⟨by subst ev1; unfold m_added; first | (rw [if_pos (Int32.not_le.mp h2)]; done) | (rw [if_neg (Int32.not_lt.mpr h2)]; subst_vars; first | (rw [if_neg (Int32.not_lt.mpr h5)]; done) | (rw [if_pos (Int32.not_le.mp h5)]; done)), by rfl⟩, by rw [ht]; exact hP, va_K.moved hW.alike hK, hD⟩, hS.F ht⟩) hS.2.2 dX12_added_120
