set_option maxHeartbeats 4000000 in
set_option maxRecDepth 100000 in
/-- slot(l, r) -/
theorem c_m_slot (l : Launch) (D : va_G) (ty : List (ClassId × FieldType)) (L : List Nat) (f : Nat → va_E) (sz : Nat) (a b : Int32) : Met l yX12_slot wsX12_slot pR_0 (va_Pc [.int a, .int b] (fun U => U.heap.size = sz ∧ pW_d D ty (fun _ => True) L f U)) (va_Qi (fun (r : Int32) (_ : Unit) => ∃ j : Nat, j < 8192 ∧ r = nI j) (fun _ t => pW_d D ty (va_A (va_pl L f) sz) L f t) (va_A (va_pl L f) sz)) 0 0 (va_A (va_pl L f) sz) := by
  refine Met.ofW (cc := cX12_slot) (maxL := 2) (ret := some .int) (by decide) rfl ?_
  intro p e s m args below meth c s₁ B hml hv
  obtain ⟨rfl, hsz, hP, hK, hD0⟩ := hv
  have hx := B.exec
  have hb := B.bytes
  have hr := B.returns
  have hts := atoms_spec (ws := wsX12_slot) B.pre
  have hown : s.vm.findClass RX12 = some m.cls := findClass_of_methodNamed B.named
  have hlocks := B.notSynchronized
  subst hsz
  have hD := hD0.self (sz := s.heap.size)
  generalize hAe : va_A (va_pl L f) s.heap.size = A at hD ⊢
  have hA : ∀ q : Nat, s.heap.size ≤ q → A q := fun q h => by rw [← hAe]; exact Or.inr h
  have hS : va_S A s.heap s.heap [] := va_S.rf
  have hl := lv_entry ([.int a, .int b]) (n := 2) (Nat.le_of_ble_eq_true rfl)
  rw [lg_entry_eq]
  generalize (lg_sl ([.int a, .int b]) ++ List.replicate (2 - (lg_sl ([.int a, .int b])).length) Slot.unset).toArray = ls at hl ⊢
  have hl : lv_has ls 2 [(0, .int a), (1, .int b)] := hl
  refine lv_iload_n hx hb dX12_slot_0 rfl (lv_at hl 0 rfl) ?_
  refine lv_ldcw hx hb hown (hts (.constant RX12 320 40503) (by decide +kernel)) dX12_slot_1 ?_
  refine lv_imul hx hb dX12_slot_4 ?_
  refine lv_iload_n hx hb dX12_slot_5 rfl (lv_at hl 1 rfl) ?_
  refine lv_sipush hx hb dX12_slot_6 rfl ?_
  refine lv_imul hx hb dX12_slot_9 ?_
  refine lv_iadd hx hb dX12_slot_10 ?_
  refine lv_bipush hx hb dX12_slot_11 rfl ?_
  refine lv_iadd hx hb dX12_slot_13 ?_
  refine lv_iconst hx hb dX12_slot_14 rfl ?_
  refine lv_iushr hx hb dX12_slot_15 rfl ?_
  refine lv_sipush hx hb dX12_slot_16 rfl ?_
  refine lv_iand hx hb dX12_slot_19 ?_
  refine lv_topi (fun r er => ?_)
  have hj : ∃ j : Nat, j < 8192 ∧ r = nI j := by
    rw [er]
    exact pk_andE _ 13 (by decide)
  exact W.iret (v := r) hx hb hr (fun t ht hW => ⟨⟨r, (), rfl, hj, by rw [ht]; exact hP, va_K.moved hW.alike hK, hD⟩, hS.F ht⟩) hS.2.2 dX12_slot_20
set_option maxHeartbeats 4000000 in
set_option maxRecDepth 100000 in
/-- isPair(o): whether left[o] is at least 0 -/
theorem c_m_isPair (l : Launch) (D : va_G) (ty : List (ClassId × FieldType)) (cI : ClassId) (hti : ty[0]? = some (cI, .int)) (L : List Nat) (f : Nat → va_E) (h0 sz aL nL : Nat) (fs : List Value) (g : Nat → Int32) (i : Int32) (hh : h0 ∈ L) (hf : f h0 = .inr (12, fs)) (hv0 : fs[0]? = some (.ref aL)) (ha : aL ∈ L) (hfa : f aL = .inl (cI, nL, .inl g)) (hin : vp_in i nL) : Met l yX12_isPair wsX12_isPair pR_0 (va_Pc [.ref h0, .int i] (fun U => U.heap.size = sz ∧ pW_d D ty (fun _ => True) L f U)) (va_Qi (fun (r : Int32) (_ : Unit) => r = if g i.toNatClampNeg < 0 then 0 else 1) (fun _ t => pW_d D ty (va_A (va_pl L f) sz) L f t) (va_A (va_pl L f) sz)) 0 0 (va_A (va_pl L f) sz) := by
  refine Met.ofW (cc := cX12_isPair) (maxL := 2) (ret := some .boolean) (by decide) rfl ?_
  intro p e s m args below meth c s₁ B hml hv
  obtain ⟨rfl, hsz, hP, hK, hD0⟩ := hv
  have hx := B.exec
  have hb := B.bytes
  have hr := B.returns
  have hts := atoms_spec (ws := wsX12_isPair) B.pre
  have hown : s.vm.findClass RX12 = some m.cls := findClass_of_methodNamed B.named
  have hlocks := B.notSynchronized
  subst hsz
  have hD := hD0.self (sz := s.heap.size)
  generalize hAe : va_A (va_pl L f) s.heap.size = A at hD ⊢
  have hA : ∀ q : Nat, s.heap.size ≤ q → A q := fun q h => by rw [← hAe]; exact Or.inr h
  have hS : va_S A s.heap s.heap [] := va_S.rf
  have hl := lv_entry ([.ref h0, .int i]) (n := 2) (Nat.le_of_ble_eq_true rfl)
  rw [lg_entry_eq]
  generalize (lg_sl ([.ref h0, .int i]) ++ List.replicate (2 - (lg_sl ([.ref h0, .int i])).length) Slot.unset).toArray = ls at hl ⊢
  have hl : lv_has ls 2 [(0, .ref h0), (1, .int i)] := hl
  obtain ⟨k0, hk0⟩ := pl_at hh hf
  obtain ⟨k1, hk1⟩ := pl_at ha hfa
  refine lv_aload_n hx hb dX12_isPair_0 rfl (lv_at hl 0 rfl) ?_
  refine va_get (D := D) (ci := 12) (v := .ref aL) (C := RX12) (T := TX12) (N := 149) hx hb hts (by decide +kernel) hown hK hP k0 hk0 rfl 0 (by decide) (hts (.fieldLink RX12 8 "ProofHouseModel" "left" "[I") (by decide +kernel)) (fun _ h9 => h9) hv0 dX12_isPair_1 ?_
  refine lv_iload_n hx hb dX12_isPair_4 rfl (lv_at hl 1 rfl) ?_
  refine va_iald hx hb hK hP k1 0 hk1 hti hin dX12_isPair_5 ?_
  refine lv_if_lt hx hb dX12_isPair_6 (tgt := 13) rfl (fun hc => ?_) (fun hc => ?_)
  · refine lv_iconst hx hb dX12_isPair_13 (v := 0) rfl ?_
    exact W.zret (v := 0) hx hb hr rfl (fun t ht hW => ⟨⟨0, (), rfl, by rw [if_pos hc], by rw [ht]; exact hP, va_K.moved hW.alike hK, hD⟩, hS.F ht⟩) hS.2.2 dX12_isPair_14
  · refine lv_iconst hx hb dX12_isPair_9 (v := 1) rfl ?_
    refine lv_goto hx hb dX12_isPair_10 (tgt := 14) rfl ?_
    exact W.zret (v := 1) hx hb hr rfl (fun t ht hW => ⟨⟨1, (), rfl, by rw [if_neg hc], by rw [ht]; exact hP, va_K.moved hW.alike hK, hD⟩, hS.F ht⟩) hS.2.2 dX12_isPair_14
