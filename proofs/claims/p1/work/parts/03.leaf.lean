set_option maxHeartbeats 4000000 in
set_option maxRecDepth 100000 in
/-- isPair(o) -/
theorem c_m_isPair (l : Launch) (D : va_G) (ca : Nat → ClassId) (h0 sz : Nat) (ad : Nat → Nat) (u : mST) (i : Int32)  (hi : vp_in i 452000) : Met l yX12_isPair wsX12_isPair pR_0 (va_Pc [.ref (h0), .int (i)] (fun U => U.heap.size = sz ∧ mWd D ca (fun _ => True) h0 ad u U)) (va_Qi (fun (r : Int32) (v : mST) => v = u ∧ r = if u.2.1 0 i.toNatClampNeg < 0 then 0 else 1) (mWd D ca (va_A (mCl ca h0 ad u) sz) h0 ad) (va_A (mCl ca h0 ad u) sz)) 0 0 (va_A (mCl ca h0 ad u) sz) := by
  refine Met.ofW (cc := cX12_isPair) (maxL := 2) (ret := (some .boolean)) (by decide) rfl ?_
  intro p e s m args below meth c s₁ B hml hv
  obtain ⟨rfl, hsz, hP, hK, hD0⟩ := hv
  have hx := B.exec
  have hb := B.bytes
  have hr := B.returns
  have hts := atoms_spec (ws := wsX12_isPair) B.pre
  have hown : s.vm.findClass RX12 = some m.cls := findClass_of_methodNamed B.named
  have hlocks := B.notSynchronized
  subst hsz
  have hD := hD0.self (sz := s.heap.size)
  generalize hAe : va_A (mCl ca h0 ad u) s.heap.size = A at hD ⊢
  have hA : ∀ q : Nat, s.heap.size ≤ q → A q := fun q h => by rw [← hAe]; exact Or.inr h
  have hS : va_S A s.heap s.heap [] := va_S.rf
  have L_left := hts (.fieldLink RX12 8 "ProofHouseModel" "left" "[I") (by decide +kernel)
  have hin : ∀ w ∈ wsX120, w ∈ wsX12_isPair := fun w h => List.mem_cons_of_mem _ (List.mem_append_right _ h)
  have hl := lv_entry ([.ref (h0), .int (i)]) (n := 2) (Nat.le_of_ble_eq_true rfl)
  rw [lg_entry_eq]
  generalize (lg_sl ([.ref (h0), .int (i)]) ++ List.replicate (2 - (lg_sl ([.ref (h0), .int (i)])).length) Slot.unset).toArray = ls at hl ⊢
  have hl : lv_has ls 2 [(0, .ref (h0)), (1, .int (i))] := hl
  refine lv_aload_n hx hb dX12_isPair_0 rfl (lv_at hl 0 rfl) ?_
  refine va_get (D := D) (ci := 12) (v := .ref (ad 0)) (C := RX12) (T := TX12) (N := 149) hx hb hts hin hown hK hP 0 mH_0 rfl 0 (by decide) L_left (fun _ h9 => h9) mF_0 dX12_isPair_1 ?_
  refine lv_iload_n hx hb dX12_isPair_4 rfl (lv_at hl 1 rfl) ?_
  refine va_iald hx hb hK hP 1 0 mG_0 rfl (by assumption) dX12_isPair_5 ?_
  refine lv_topi (fun v1 ev1 => ?_)
  have ev1 : v1 = (u.2.1 0) (i).toNatClampNeg := ev1
  refine lv_if_lt hx hb dX12_isPair_6 (tgt := 13) rfl (fun h2 => ?_) (fun h2 => ?_)
  · refine lv_iconst hx hb dX12_isPair_13 (v := 0) rfl ?_
    exact W.zret (v := 0) hx hb hr rfl (fun t ht hW => ⟨⟨0, u, rfl, ⟨rfl, by rw [← ev1]; first | rw [if_pos h2] | rw [if_neg h2]⟩, by rw [ht]; exact hP, va_K.moved hW.alike hK, hD⟩, hS.F ht⟩) hS.2.2 dX12_isPair_14
  · refine lv_iconst hx hb dX12_isPair_9 (v := 1) rfl ?_
    refine lv_goto hx hb dX12_isPair_10 (tgt := 14) rfl ?_
    exact W.zret (v := 1) hx hb hr rfl (fun t ht hW => ⟨⟨1, u, rfl, ⟨rfl, by rw [← ev1]; first | rw [if_pos h2] | rw [if_neg h2]⟩, by rw [ht]; exact hP, va_K.moved hW.alike hK, hD⟩, hS.F ht⟩) hS.2.2 dX12_isPair_14

set_option maxHeartbeats 4000000 in
set_option maxRecDepth 100000 in
/-- isNatural(o) -/
theorem c_m_isNatural (l : Launch) (D : va_G) (ca : Nat → ClassId) (h0 sz : Nat) (ad : Nat → Nat) (u : mST) (i : Int32)  (hi : vp_in i 452000) : Met l yX12_isNatural wsX12_isNatural pR_0 (va_Pc [.ref (h0), .int (i)] (fun U => U.heap.size = sz ∧ mWd D ca (fun _ => True) h0 ad u U)) (va_Qi (fun (r : Int32) (v : mST) => v = u ∧ r = if u.2.1 0 i.toNatClampNeg = -1 then 1 else 0) (mWd D ca (va_A (mCl ca h0 ad u) sz) h0 ad) (va_A (mCl ca h0 ad u) sz)) 0 0 (va_A (mCl ca h0 ad u) sz) := by
  refine Met.ofW (cc := cX12_isNatural) (maxL := 2) (ret := (some .boolean)) (by decide) rfl ?_
  intro p e s m args below meth c s₁ B hml hv
  obtain ⟨rfl, hsz, hP, hK, hD0⟩ := hv
  have hx := B.exec
  have hb := B.bytes
  have hr := B.returns
  have hts := atoms_spec (ws := wsX12_isNatural) B.pre
  have hown : s.vm.findClass RX12 = some m.cls := findClass_of_methodNamed B.named
  have hlocks := B.notSynchronized
  subst hsz
  have hD := hD0.self (sz := s.heap.size)
  generalize hAe : va_A (mCl ca h0 ad u) s.heap.size = A at hD ⊢
  have hA : ∀ q : Nat, s.heap.size ≤ q → A q := fun q h => by rw [← hAe]; exact Or.inr h
  have hS : va_S A s.heap s.heap [] := va_S.rf
  have L_left := hts (.fieldLink RX12 8 "ProofHouseModel" "left" "[I") (by decide +kernel)
  have hin : ∀ w ∈ wsX120, w ∈ wsX12_isNatural := fun w h => List.mem_cons_of_mem _ (List.mem_append_right _ h)
  have hl := lv_entry ([.ref (h0), .int (i)]) (n := 2) (Nat.le_of_ble_eq_true rfl)
  rw [lg_entry_eq]
  generalize (lg_sl ([.ref (h0), .int (i)]) ++ List.replicate (2 - (lg_sl ([.ref (h0), .int (i)])).length) Slot.unset).toArray = ls at hl ⊢
  have hl : lv_has ls 2 [(0, .ref (h0)), (1, .int (i))] := hl
  refine lv_aload_n hx hb dX12_isNatural_0 rfl (lv_at hl 0 rfl) ?_
  refine va_get (D := D) (ci := 12) (v := .ref (ad 0)) (C := RX12) (T := TX12) (N := 149) hx hb hts hin hown hK hP 0 mH_0 rfl 0 (by decide) L_left (fun _ h9 => h9) mF_0 dX12_isNatural_1 ?_
  refine lv_iload_n hx hb dX12_isNatural_4 rfl (lv_at hl 1 rfl) ?_
  refine va_iald hx hb hK hP 1 0 mG_0 rfl (by assumption) dX12_isNatural_5 ?_
  refine lv_topi (fun v1 ev1 => ?_)
  have ev1 : v1 = (u.2.1 0) (i).toNatClampNeg := ev1
  refine lv_iconst hx hb dX12_isNatural_6 (v := (-1)) rfl ?_
  refine lv_icmp_ne hx hb dX12_isNatural_7 (tgt := 14) rfl (fun h2 => ?_) (fun h2 => ?_)
  · refine lv_iconst hx hb dX12_isNatural_14 (v := 0) rfl ?_
    exact W.zret (v := 0) hx hb hr rfl (fun t ht hW => ⟨⟨0, u, rfl, ⟨rfl, by rw [← ev1]; first | rw [if_pos h2] | rw [if_neg h2]⟩, by rw [ht]; exact hP, va_K.moved hW.alike hK, hD⟩, hS.F ht⟩) hS.2.2 dX12_isNatural_15
  · refine lv_iconst hx hb dX12_isNatural_10 (v := 1) rfl ?_
    refine lv_goto hx hb dX12_isNatural_11 (tgt := 15) rfl ?_
    exact W.zret (v := 1) hx hb hr rfl (fun t ht hW => ⟨⟨1, u, rfl, ⟨rfl, by rw [← ev1]; first | rw [if_pos h2] | rw [if_neg h2]⟩, by rw [ht]; exact hP, va_K.moved hW.alike hK, hD⟩, hS.F ht⟩) hS.2.2 dX12_isNatural_15

set_option maxHeartbeats 4000000 in
set_option maxRecDepth 100000 in
/-- isSymbol(o) -/
theorem c_m_isSymbol (l : Launch) (D : va_G) (ca : Nat → ClassId) (h0 sz : Nat) (ad : Nat → Nat) (u : mST) (i : Int32)  (hi : vp_in i 452000) : Met l yX12_isSymbol wsX12_isSymbol pR_0 (va_Pc [.ref (h0), .int (i)] (fun U => U.heap.size = sz ∧ mWd D ca (fun _ => True) h0 ad u U)) (va_Qi (fun (r : Int32) (v : mST) => v = u ∧ r = if u.2.1 0 i.toNatClampNeg = -2 then 1 else 0) (mWd D ca (va_A (mCl ca h0 ad u) sz) h0 ad) (va_A (mCl ca h0 ad u) sz)) 0 0 (va_A (mCl ca h0 ad u) sz) := by
  refine Met.ofW (cc := cX12_isSymbol) (maxL := 2) (ret := (some .boolean)) (by decide) rfl ?_
  intro p e s m args below meth c s₁ B hml hv
  obtain ⟨rfl, hsz, hP, hK, hD0⟩ := hv
  have hx := B.exec
  have hb := B.bytes
  have hr := B.returns
  have hts := atoms_spec (ws := wsX12_isSymbol) B.pre
  have hown : s.vm.findClass RX12 = some m.cls := findClass_of_methodNamed B.named
  have hlocks := B.notSynchronized
  subst hsz
  have hD := hD0.self (sz := s.heap.size)
  generalize hAe : va_A (mCl ca h0 ad u) s.heap.size = A at hD ⊢
  have hA : ∀ q : Nat, s.heap.size ≤ q → A q := fun q h => by rw [← hAe]; exact Or.inr h
  have hS : va_S A s.heap s.heap [] := va_S.rf
  have L_left := hts (.fieldLink RX12 8 "ProofHouseModel" "left" "[I") (by decide +kernel)
  have hin : ∀ w ∈ wsX120, w ∈ wsX12_isSymbol := fun w h => List.mem_cons_of_mem _ (List.mem_append_right _ h)
  have hl := lv_entry ([.ref (h0), .int (i)]) (n := 2) (Nat.le_of_ble_eq_true rfl)
  rw [lg_entry_eq]
  generalize (lg_sl ([.ref (h0), .int (i)]) ++ List.replicate (2 - (lg_sl ([.ref (h0), .int (i)])).length) Slot.unset).toArray = ls at hl ⊢
  have hl : lv_has ls 2 [(0, .ref (h0)), (1, .int (i))] := hl
  refine lv_aload_n hx hb dX12_isSymbol_0 rfl (lv_at hl 0 rfl) ?_
  refine va_get (D := D) (ci := 12) (v := .ref (ad 0)) (C := RX12) (T := TX12) (N := 149) hx hb hts hin hown hK hP 0 mH_0 rfl 0 (by decide) L_left (fun _ h9 => h9) mF_0 dX12_isSymbol_1 ?_
  refine lv_iload_n hx hb dX12_isSymbol_4 rfl (lv_at hl 1 rfl) ?_
  refine va_iald hx hb hK hP 1 0 mG_0 rfl (by assumption) dX12_isSymbol_5 ?_
  refine lv_topi (fun v1 ev1 => ?_)
  have ev1 : v1 = (u.2.1 0) (i).toNatClampNeg := ev1
  refine lv_bipush hx hb dX12_isSymbol_6 (v := (-2)) rfl ?_
  refine lv_icmp_ne hx hb dX12_isSymbol_8 (tgt := 15) rfl (fun h2 => ?_) (fun h2 => ?_)
  · refine lv_iconst hx hb dX12_isSymbol_15 (v := 0) rfl ?_
    exact W.zret (v := 0) hx hb hr rfl (fun t ht hW => ⟨⟨0, u, rfl, ⟨rfl, by rw [← ev1]; first | rw [if_pos h2] | rw [if_neg h2]⟩, by rw [ht]; exact hP, va_K.moved hW.alike hK, hD⟩, hS.F ht⟩) hS.2.2 dX12_isSymbol_16
  · refine lv_iconst hx hb dX12_isSymbol_11 (v := 1) rfl ?_
    refine lv_goto hx hb dX12_isSymbol_12 (tgt := 16) rfl ?_
    exact W.zret (v := 1) hx hb hr rfl (fun t ht hW => ⟨⟨1, u, rfl, ⟨rfl, by rw [← ev1]; first | rw [if_pos h2] | rw [if_neg h2]⟩, by rw [ht]; exact hP, va_K.moved hW.alike hK, hD⟩, hS.F ht⟩) hS.2.2 dX12_isSymbol_16

set_option maxHeartbeats 4000000 in
set_option maxRecDepth 100000 in
/-- spell(c) -/
theorem c_m_spell (l : Launch) (D : va_G) (ca : Nat → ClassId) (h0 sz : Nat) (ad : Nat → Nat) (u : mST) (a : Int32)  (hi : vp_in (u.1 18) 12) : Met l yX12_spell wsX12_spell pR_0 (va_Pc [.ref (h0), .int (a)] (fun U => U.heap.size = sz ∧ mWd D ca (fun _ => True) h0 ad u U)) (va_Qv (fun v : mST => v = if a = 0 then u else mI (mA u 17 (u.1 18).toNatClampNeg a) 18 (u.1 18 + 1)) (mWd D ca (va_A (mCl ca h0 ad u) sz) h0 ad) (va_A (mCl ca h0 ad u) sz)) 0 0 (va_A (mCl ca h0 ad u) sz) := by
  refine Met.ofW (cc := cX12_spell) (maxL := 2) (ret := none) (by decide) rfl ?_
  intro p e s m args below meth c s₁ B hml hv
  obtain ⟨rfl, hsz, hP, hK, hD0⟩ := hv
  have hx := B.exec
  have hb := B.bytes
  have hr := B.returns
  have hts := atoms_spec (ws := wsX12_spell) B.pre
  have hown : s.vm.findClass RX12 = some m.cls := findClass_of_methodNamed B.named
  have hlocks := B.notSynchronized
  subst hsz
  have hD := hD0.self (sz := s.heap.size)
  generalize hAe : va_A (mCl ca h0 ad u) s.heap.size = A at hD ⊢
  have hA : ∀ q : Nat, s.heap.size ≤ q → A q := fun q h => by rw [← hAe]; exact Or.inr h
  have hS : va_S A s.heap s.heap [] := va_S.rf
  have L_word := hts (.fieldLink RX12 50 "ProofHouseModel" "word" "[I") (by decide +kernel)
  have L_wordSize := hts (.fieldLink RX12 309 "ProofHouseModel" "wordSize" "I") (by decide +kernel)
  have hin : ∀ w ∈ wsX120, w ∈ wsX12_spell := fun w h => List.mem_cons_of_mem _ (List.mem_append_right _ h)
  have hl := lv_entry ([.ref (h0), .int (a)]) (n := 2) (Nat.le_of_ble_eq_true rfl)
  rw [lg_entry_eq]
  generalize (lg_sl ([.ref (h0), .int (a)]) ++ List.replicate (2 - (lg_sl ([.ref (h0), .int (a)])).length) Slot.unset).toArray = ls at hl ⊢
  have hl : lv_has ls 2 [(0, .ref (h0)), (1, .int (a))] := hl
  refine lv_iload_n hx hb dX12_spell_0 rfl (lv_at hl 1 rfl) ?_
  refine lv_if_ne hx hb dX12_spell_1 (tgt := 5) rfl (fun h1 => ?_) (fun h1 => ?_)
  · refine lv_aload_n hx hb dX12_spell_5 rfl (lv_at hl 0 rfl) ?_
    refine va_get (D := D) (ci := 12) (v := .ref (ad 17)) (C := RX12) (T := TX12) (N := 149) hx hb hts hin hown hK hP 0 mH_0 rfl 17 (by decide) L_word (fun _ h9 => h9) mF_17 dX12_spell_6 ?_
    refine lv_aload_n hx hb dX12_spell_9 rfl (lv_at hl 0 rfl) ?_
    refine va_get (D := D) (ci := 12) (v := .int (u.1 18)) (C := RX12) (T := TX12) (N := 149) hx hb hts hin hown hK hP 0 mH_0 rfl 18 (by decide) L_wordSize (fun _ h9 => h9) mF_18 dX12_spell_10 ?_
    refine lv_iload_n hx hb dX12_spell_13 rfl (lv_at hl 1 rfl) ?_
    refine va_iast hx hb hK hP hD hS 13 12 mG_17 rfl hi dX12_spell_14 (fun H locs hP hD hS => ?_)
    rw [mSA_17] at hP hD
    refine lv_aload_n hx hb dX12_spell_15 rfl (lv_at hl 0 rfl) ?_
    refine lv_dup hx hb dX12_spell_16 rfl ?_
    refine va_get (D := D) (ci := 12) (v := .int (u.1 18)) (C := RX12) (T := TX12) (N := 149) hx hb hts hin hown hK hP 0 mH_0 rfl 18 (by decide) L_wordSize (fun _ h9 => h9) mF_18 dX12_spell_17 ?_
    refine lv_iconst hx hb dX12_spell_20 (v := 1) rfl ?_
    refine lv_iadd hx hb dX12_spell_21 ?_
    refine va_put (D := D) (ci := 12) (v := .int ((u.1 18) + 1)) (ty := .int) (C := RX12) (T := TX12) (N := 149) hx hb hts hin tyX12 tyX12_ok nmX12 hown hK hP hD hS 0 mH_0 rfl 18 (by decide) L_wordSize (fun _ h9 => h9) rfl (tyX12_ok 18 (by decide)) rfl rfl (Nat.le_of_ble_eq_true rfl) dX12_spell_22 (fun H locs hP hD hS => ?_)
    rw [mSI_18] at hP hD
    exact W.vret hx hb hr (fun t ht hW => ⟨⟨mI (mA u 17 (u.1 18).toNatClampNeg (a)) 18 ((u.1 18) + 1), rfl, (if_neg h1).symm, by rw [ht]; exact hP, va_K.moved hW.alike hK, hD⟩, hS.F ht⟩) hS.2.2 dX12_spell_25
  · exact W.vret hx hb hr (fun t ht hW => ⟨⟨u, rfl, (if_pos h1).symm, by rw [ht]; exact hP, va_K.moved hW.alike hK, hD⟩, hS.F ht⟩) hS.2.2 dX12_spell_4
