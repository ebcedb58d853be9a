theorem sp_ok {n N : Nat} {u v : mST} {a : Int32} (hOk : mOk n u) (hN : u.1 18 = nI N) (hv : v = if a = 0 then u else mI (mA u 17 (u.1 18).toNatClampNeg a) 18 (u.1 18 + 1)) : ∃ N2 : Nat, N2 ≤ N + 1 ∧ mOk n v ∧ v.1 18 = nI N2 ∧ mFr u v := by
  by_cases h : a = 0
  · rw [if_pos h] at hv
    rw [hv]
    exact ⟨N, Nat.le_succ N, hOk, hN, mFr_rf u⟩
  · rw [if_neg h] at hv
    rw [hv]
    refine ⟨N + 1, Nat.le_refl _, hOk, ?_, ?_⟩
    · show u.1 18 + 1 = nI (N + 1)
      rw [hN, nI_1]
    · refine ⟨fun k _ _ k3 => if_neg k3, ?_, rfl⟩
      intro g hg
      simp only [mTouch, List.mem_cons, List.not_mem_nil, or_false, not_or] at hg
      exact if_neg hg.2.2.2.2.2.2.2.2
theorem mFr_w (u : mST) (x : Int32) : mFr u (mI u 18 x) := ⟨fun k _ _ k3 => if_neg k3, fun _ _ => rfl, rfl⟩

set_option maxHeartbeats 4000000 in
set_option maxRecDepth 100000 in
/-- said(..) -/
theorem c_m_said (l : Launch) (D : va_G) (ca : Nat → ClassId) (h0 sz : Nat) (ad : Nat → Nat) (u : mST) (a1 : Int32) (a2 : Int32) (a3 : Int32) (a4 : Int32) (a5 : Int32) (a6 : Int32) (a7 : Int32) (a8 : Int32) (n : Nat) (hn : n ≤ 1000) (hOk : mOk n u) : Met l yX12_said wsX12_said ({ frames := 2, cells := 0, slots := 0, locals := 47 }) (va_Pc [.ref (h0), .int (a1), .int (a2), .int (a3), .int (a4), .int (a5), .int (a6), .int (a7), .int (a8)] (fun U => U.heap.size = sz ∧ mWd D ca (fun _ => True) h0 ad u U)) (va_Qv (fun v : mST => ∃ n2 : Nat, n2 ≤ n + 1 ∧ mOk n2 v ∧ mFr u v) (mWd D ca (va_A (mCl ca h0 ad u) sz) h0 ad) (va_A (mCl ca h0 ad u) sz)) 0 0 (va_A (mCl ca h0 ad u) sz) := by
  refine Met.ofW (cc := cX12_said) (maxL := 10) (ret := none) (by decide) rfl ?_
  intro p e s m args below meth c s₁ B hml hv
  obtain ⟨rfl, hsz, hP, hK, hD0⟩ := hv
  have hx := B.exec
  have hb := B.bytes
  have hr := B.returns
  have hts := atoms_spec (ws := wsX12_said) B.pre
  have hown : s.vm.findClass RX12 = some m.cls := findClass_of_methodNamed B.named
  have hlocks := B.notSynchronized
  subst hsz
  have hD := hD0.self (sz := s.heap.size)
  generalize hAe : va_A (mCl ca h0 ad u) s.heap.size = A at hD ⊢
  have hA : ∀ q : Nat, s.heap.size ≤ q → A q := fun q h => by rw [← hAe]; exact Or.inr h
  have hS : va_S A s.heap s.heap [] := va_S.rf
  have L_wordSize := hts (.fieldLink RX12 309 "ProofHouseModel" "wordSize" "I") (by decide +kernel)
  have hin : ∀ w ∈ wsX120, w ∈ wsX12_said := fun w h => List.mem_cons_of_mem _ (List.mem_append_right _ h)
  have hl := lv_entry ([.ref (h0), .int (a1), .int (a2), .int (a3), .int (a4), .int (a5), .int (a6), .int (a7), .int (a8)]) (n := 10) (Nat.le_of_ble_eq_true rfl)
  rw [lg_entry_eq]
  generalize (lg_sl ([.ref (h0), .int (a1), .int (a2), .int (a3), .int (a4), .int (a5), .int (a6), .int (a7), .int (a8)]) ++ List.replicate (10 - (lg_sl ([.ref (h0), .int (a1), .int (a2), .int (a3), .int (a4), .int (a5), .int (a6), .int (a7), .int (a8)])).length) Slot.unset).toArray = ls at hl ⊢
  have hl : lv_has ls 10 [(0, .ref (h0)), (1, .int (a1)), (2, .int (a2)), (3, .int (a3)), (4, .int (a4)), (5, .int (a5)), (6, .int (a6)), (7, .int (a7)), (8, .int (a8))] := hl
  refine lv_aload_n hx hb dX12_said_0 rfl (lv_at hl 0 rfl) ?_
  refine lv_iconst hx hb dX12_said_1 (v := 0) rfl ?_
  refine va_put (D := D) (ci := 12) (v := .int (0)) (ty := .int) (C := RX12) (T := TX12) (N := 149) hx hb hts hin tyX12 tyX12_ok nmX12 hown hK hP hD hS 0 mH_0 rfl 18 (by decide) L_wordSize (fun _ h9 => h9) rfl (tyX12_ok 18 (by decide)) rfl rfl (Nat.le_of_ble_eq_true rfl) dX12_said_2 (fun H locs hP hD hS => ?_)
  rw [mSI_18] at hP hD
  refine lv_aload_n hx hb dX12_said_5 rfl (lv_at hl 0 rfl) ?_
  refine lv_iload_n hx hb dX12_said_6 rfl (lv_at hl 1 rfl) ?_
  have hO0 : mOk n (mI u 18 (0)) := hOk
  have hS0 : (mI u 18 (0)).1 18 = nI 0 := rfl
  have hF0 : mFr u (mI u 18 (0)) := mFr_w u 0
  have hN0 : 0 ≤ 0 := Nat.le_refl 0
  have hFc := pl_free hD hS hA
  refine va_callv (va_runV (As := [.int (a1)]) (rest := []) ⟨hx, hb, hml, hown, hts⟩ (c_m_spell l D ca h0 H.size ad (mI u 18 (0)) (a1) (by rw [hS0]; exact vp_in_nI (by omega) (by decide))) (cwV 1 hts gX12_said_X12_spell rfl rfl rfl (by decide +kernel) ⟨Nat.le_of_ble_eq_true rfl, Nat.le_of_ble_eq_true rfl⟩) ⟨fun a U g mk q => by obtain ⟨q0, q1, qP, qK, qD⟩ := q; exact ⟨q0, q1, qP, va_K.moved (u := U) (U := U.calling g mk a) (Vm.Alike.refl U.vm) qK, qD⟩, va_recv hK hP (ci := 12) (q0 := 0) rfl rfl, fun U hU hW => ⟨rfl, by rw [hU], by rw [hU]; exact hP, va_K.moved hW.alike hK, hD.weaken (fun _ _ _ _ => trivial)⟩⟩ rfl rfl hl.1 rfl (lv_room (Nat.le_of_ble_eq_true rfl)) dX12_said_7 ⟨(Nat.zero_le _), (Nat.zero_le _)⟩) hS (fun q _ h => hFc q h) hFc (fun u1 t H1 locs ht hvm hwu1 hB hz1 hk1 hS => ?_)
  obtain ⟨hP1, hK1, hD1⟩ := hB
  rw [ht] at hP1
  have hK := va_K.moved hvm.symm hK1
  have hD := hD1.weaken (fun _ _ _ h => hFc _ h)
  have hP := hP1
  clear hP1 hK1 hD1 hFc
  generalize H1 = H at hP hS hz1 hk1 ht ⊢
  have hP : va_P D vwCl (mCl ca h0 ad u1) H := hP
  have hD : va_D A (mCl ca h0 ad u1) := hD
  obtain ⟨N1, hM1, hO1, hS1, hF1⟩ := sp_ok hO0 hS0 hwu1
  have hN1 : N1 ≤ 1 := by omega
  have hF1 := mFr_tr hF0 hF1
  refine lv_aload_n hx hb dX12_said_10 rfl (lv_at hl 0 rfl) ?_
  refine lv_iload_n hx hb dX12_said_11 rfl (lv_at hl 2 rfl) ?_
  have hFc := pl_free hD hS hA
  refine va_callv (va_runV (As := [.int (a2)]) (rest := []) ⟨hx, hb, hml, hown, hts⟩ (c_m_spell l D ca h0 H.size ad (u1) (a2) (by rw [hS1]; exact vp_in_nI (by omega) (by decide))) (cwV 1 hts gX12_said_X12_spell rfl rfl rfl (by decide +kernel) ⟨Nat.le_of_ble_eq_true rfl, Nat.le_of_ble_eq_true rfl⟩) ⟨fun a U g mk q => by obtain ⟨q0, q1, qP, qK, qD⟩ := q; exact ⟨q0, q1, qP, va_K.moved (u := U) (U := U.calling g mk a) (Vm.Alike.refl U.vm) qK, qD⟩, va_recv hK hP (ci := 12) (q0 := 0) rfl rfl, fun U hU hW => ⟨rfl, by rw [hU], by rw [hU]; exact hP, va_K.moved hW.alike hK, hD.weaken (fun _ _ _ _ => trivial)⟩⟩ rfl rfl hl.1 rfl (lv_room (Nat.le_of_ble_eq_true rfl)) dX12_said_12 ⟨(Nat.zero_le _), (Nat.zero_le _)⟩) hS (fun q _ h => hFc q h) hFc (fun u3 t H1 locs ht hvm hwu3 hB hz1 hk1 hS => ?_)
  obtain ⟨hP1, hK1, hD1⟩ := hB
  rw [ht] at hP1
  have hK := va_K.moved hvm.symm hK1
  have hD := hD1.weaken (fun _ _ _ h => hFc _ h)
  have hP := hP1
  clear hP1 hK1 hD1 hFc
  generalize H1 = H at hP hS hz1 hk1 ht ⊢
  have hP : va_P D vwCl (mCl ca h0 ad u3) H := hP
  have hD : va_D A (mCl ca h0 ad u3) := hD
  obtain ⟨N2, hM2, hO2, hS2, hF2⟩ := sp_ok hO1 hS1 hwu3
  have hN2 : N2 ≤ 2 := by omega
  have hF2 := mFr_tr hF1 hF2
  refine lv_aload_n hx hb dX12_said_15 rfl (lv_at hl 0 rfl) ?_
  refine lv_iload_n hx hb dX12_said_16 rfl (lv_at hl 3 rfl) ?_
  have hFc := pl_free hD hS hA
  refine va_callv (va_runV (As := [.int (a3)]) (rest := []) ⟨hx, hb, hml, hown, hts⟩ (c_m_spell l D ca h0 H.size ad (u3) (a3) (by rw [hS2]; exact vp_in_nI (by omega) (by decide))) (cwV 1 hts gX12_said_X12_spell rfl rfl rfl (by decide +kernel) ⟨Nat.le_of_ble_eq_true rfl, Nat.le_of_ble_eq_true rfl⟩) ⟨fun a U g mk q => by obtain ⟨q0, q1, qP, qK, qD⟩ := q; exact ⟨q0, q1, qP, va_K.moved (u := U) (U := U.calling g mk a) (Vm.Alike.refl U.vm) qK, qD⟩, va_recv hK hP (ci := 12) (q0 := 0) rfl rfl, fun U hU hW => ⟨rfl, by rw [hU], by rw [hU]; exact hP, va_K.moved hW.alike hK, hD.weaken (fun _ _ _ _ => trivial)⟩⟩ rfl rfl hl.1 rfl (lv_room (Nat.le_of_ble_eq_true rfl)) dX12_said_17 ⟨(Nat.zero_le _), (Nat.zero_le _)⟩) hS (fun q _ h => hFc q h) hFc (fun u5 t H1 locs ht hvm hwu5 hB hz1 hk1 hS => ?_)
  obtain ⟨hP1, hK1, hD1⟩ := hB
  rw [ht] at hP1
  have hK := va_K.moved hvm.symm hK1
  have hD := hD1.weaken (fun _ _ _ h => hFc _ h)
  have hP := hP1
  clear hP1 hK1 hD1 hFc
  generalize H1 = H at hP hS hz1 hk1 ht ⊢
  have hP : va_P D vwCl (mCl ca h0 ad u5) H := hP
  have hD : va_D A (mCl ca h0 ad u5) := hD
  obtain ⟨N3, hM3, hO3, hS3, hF3⟩ := sp_ok hO2 hS2 hwu5
  have hN3 : N3 ≤ 3 := by omega
  have hF3 := mFr_tr hF2 hF3
  refine lv_aload_n hx hb dX12_said_20 rfl (lv_at hl 0 rfl) ?_
  refine lv_iload hx hb dX12_said_21 (lv_at hl 4 rfl) ?_
  have hFc := pl_free hD hS hA
  refine va_callv (va_runV (As := [.int (a4)]) (rest := []) ⟨hx, hb, hml, hown, hts⟩ (c_m_spell l D ca h0 H.size ad (u5) (a4) (by rw [hS3]; exact vp_in_nI (by omega) (by decide))) (cwV 1 hts gX12_said_X12_spell rfl rfl rfl (by decide +kernel) ⟨Nat.le_of_ble_eq_true rfl, Nat.le_of_ble_eq_true rfl⟩) ⟨fun a U g mk q => by obtain ⟨q0, q1, qP, qK, qD⟩ := q; exact ⟨q0, q1, qP, va_K.moved (u := U) (U := U.calling g mk a) (Vm.Alike.refl U.vm) qK, qD⟩, va_recv hK hP (ci := 12) (q0 := 0) rfl rfl, fun U hU hW => ⟨rfl, by rw [hU], by rw [hU]; exact hP, va_K.moved hW.alike hK, hD.weaken (fun _ _ _ _ => trivial)⟩⟩ rfl rfl hl.1 rfl (lv_room (Nat.le_of_ble_eq_true rfl)) dX12_said_23 ⟨(Nat.zero_le _), (Nat.zero_le _)⟩) hS (fun q _ h => hFc q h) hFc (fun u7 t H1 locs ht hvm hwu7 hB hz1 hk1 hS => ?_)
  obtain ⟨hP1, hK1, hD1⟩ := hB
  rw [ht] at hP1
  have hK := va_K.moved hvm.symm hK1
  have hD := hD1.weaken (fun _ _ _ h => hFc _ h)
  have hP := hP1
  clear hP1 hK1 hD1 hFc
  generalize H1 = H at hP hS hz1 hk1 ht ⊢
  have hP : va_P D vwCl (mCl ca h0 ad u7) H := hP
  have hD : va_D A (mCl ca h0 ad u7) := hD
  obtain ⟨N4, hM4, hO4, hS4, hF4⟩ := sp_ok hO3 hS3 hwu7
  have hN4 : N4 ≤ 4 := by omega
  have hF4 := mFr_tr hF3 hF4
  refine lv_aload_n hx hb dX12_said_26 rfl (lv_at hl 0 rfl) ?_
  refine lv_iload hx hb dX12_said_27 (lv_at hl 5 rfl) ?_
  have hFc := pl_free hD hS hA
  refine va_callv (va_runV (As := [.int (a5)]) (rest := []) ⟨hx, hb, hml, hown, hts⟩ (c_m_spell l D ca h0 H.size ad (u7) (a5) (by rw [hS4]; exact vp_in_nI (by omega) (by decide))) (cwV 1 hts gX12_said_X12_spell rfl rfl rfl (by decide +kernel) ⟨Nat.le_of_ble_eq_true rfl, Nat.le_of_ble_eq_true rfl⟩) ⟨fun a U g mk q => by obtain ⟨q0, q1, qP, qK, qD⟩ := q; exact ⟨q0, q1, qP, va_K.moved (u := U) (U := U.calling g mk a) (Vm.Alike.refl U.vm) qK, qD⟩, va_recv hK hP (ci := 12) (q0 := 0) rfl rfl, fun U hU hW => ⟨rfl, by rw [hU], by rw [hU]; exact hP, va_K.moved hW.alike hK, hD.weaken (fun _ _ _ _ => trivial)⟩⟩ rfl rfl hl.1 rfl (lv_room (Nat.le_of_ble_eq_true rfl)) dX12_said_29 ⟨(Nat.zero_le _), (Nat.zero_le _)⟩) hS (fun q _ h => hFc q h) hFc (fun u9 t H1 locs ht hvm hwu9 hB hz1 hk1 hS => ?_)
  obtain ⟨hP1, hK1, hD1⟩ := hB
  rw [ht] at hP1
  have hK := va_K.moved hvm.symm hK1
  have hD := hD1.weaken (fun _ _ _ h => hFc _ h)
  have hP := hP1
  clear hP1 hK1 hD1 hFc
  generalize H1 = H at hP hS hz1 hk1 ht ⊢
  have hP : va_P D vwCl (mCl ca h0 ad u9) H := hP
  have hD : va_D A (mCl ca h0 ad u9) := hD
  obtain ⟨N5, hM5, hO5, hS5, hF5⟩ := sp_ok hO4 hS4 hwu9
  have hN5 : N5 ≤ 5 := by omega
  have hF5 := mFr_tr hF4 hF5
  refine lv_aload_n hx hb dX12_said_32 rfl (lv_at hl 0 rfl) ?_
  refine lv_iload hx hb dX12_said_33 (lv_at hl 6 rfl) ?_
  have hFc := pl_free hD hS hA
  refine va_callv (va_runV (As := [.int (a6)]) (rest := []) ⟨hx, hb, hml, hown, hts⟩ (c_m_spell l D ca h0 H.size ad (u9) (a6) (by rw [hS5]; exact vp_in_nI (by omega) (by decide))) (cwV 1 hts gX12_said_X12_spell rfl rfl rfl (by decide +kernel) ⟨Nat.le_of_ble_eq_true rfl, Nat.le_of_ble_eq_true rfl⟩) ⟨fun a U g mk q => by obtain ⟨q0, q1, qP, qK, qD⟩ := q; exact ⟨q0, q1, qP, va_K.moved (u := U) (U := U.calling g mk a) (Vm.Alike.refl U.vm) qK, qD⟩, va_recv hK hP (ci := 12) (q0 := 0) rfl rfl, fun U hU hW => ⟨rfl, by rw [hU], by rw [hU]; exact hP, va_K.moved hW.alike hK, hD.weaken (fun _ _ _ _ => trivial)⟩⟩ rfl rfl hl.1 rfl (lv_room (Nat.le_of_ble_eq_true rfl)) dX12_said_35 ⟨(Nat.zero_le _), (Nat.zero_le _)⟩) hS (fun q _ h => hFc q h) hFc (fun u11 t H1 locs ht hvm hwu11 hB hz1 hk1 hS => ?_)
  obtain ⟨hP1, hK1, hD1⟩ := hB
  rw [ht] at hP1
  have hK := va_K.moved hvm.symm hK1
  have hD := hD1.weaken (fun _ _ _ h => hFc _ h)
  have hP := hP1
  clear hP1 hK1 hD1 hFc
  generalize H1 = H at hP hS hz1 hk1 ht ⊢
  have hP : va_P D vwCl (mCl ca h0 ad u11) H := hP
  have hD : va_D A (mCl ca h0 ad u11) := hD
  obtain ⟨N6, hM6, hO6, hS6, hF6⟩ := sp_ok hO5 hS5 hwu11
  have hN6 : N6 ≤ 6 := by omega
  have hF6 := mFr_tr hF5 hF6
  refine lv_aload_n hx hb dX12_said_38 rfl (lv_at hl 0 rfl) ?_
  refine lv_iload hx hb dX12_said_39 (lv_at hl 7 rfl) ?_
  have hFc := pl_free hD hS hA
  refine va_callv (va_runV (As := [.int (a7)]) (rest := []) ⟨hx, hb, hml, hown, hts⟩ (c_m_spell l D ca h0 H.size ad (u11) (a7) (by rw [hS6]; exact vp_in_nI (by omega) (by decide))) (cwV 1 hts gX12_said_X12_spell rfl rfl rfl (by decide +kernel) ⟨Nat.le_of_ble_eq_true rfl, Nat.le_of_ble_eq_true rfl⟩) ⟨fun a U g mk q => by obtain ⟨q0, q1, qP, qK, qD⟩ := q; exact ⟨q0, q1, qP, va_K.moved (u := U) (U := U.calling g mk a) (Vm.Alike.refl U.vm) qK, qD⟩, va_recv hK hP (ci := 12) (q0 := 0) rfl rfl, fun U hU hW => ⟨rfl, by rw [hU], by rw [hU]; exact hP, va_K.moved hW.alike hK, hD.weaken (fun _ _ _ _ => trivial)⟩⟩ rfl rfl hl.1 rfl (lv_room (Nat.le_of_ble_eq_true rfl)) dX12_said_41 ⟨(Nat.zero_le _), (Nat.zero_le _)⟩) hS (fun q _ h => hFc q h) hFc (fun u13 t H1 locs ht hvm hwu13 hB hz1 hk1 hS => ?_)
  obtain ⟨hP1, hK1, hD1⟩ := hB
  rw [ht] at hP1
  have hK := va_K.moved hvm.symm hK1
  have hD := hD1.weaken (fun _ _ _ h => hFc _ h)
  have hP := hP1
  clear hP1 hK1 hD1 hFc
  generalize H1 = H at hP hS hz1 hk1 ht ⊢
  have hP : va_P D vwCl (mCl ca h0 ad u13) H := hP
  have hD : va_D A (mCl ca h0 ad u13) := hD
  obtain ⟨N7, hM7, hO7, hS7, hF7⟩ := sp_ok hO6 hS6 hwu13
  have hN7 : N7 ≤ 7 := by omega
  have hF7 := mFr_tr hF6 hF7
  refine lv_aload_n hx hb dX12_said_44 rfl (lv_at hl 0 rfl) ?_
  refine lv_iload hx hb dX12_said_45 (lv_at hl 8 rfl) ?_
  have hFc := pl_free hD hS hA
  refine va_callv (va_runV (As := [.int (a8)]) (rest := []) ⟨hx, hb, hml, hown, hts⟩ (c_m_spell l D ca h0 H.size ad (u13) (a8) (by rw [hS7]; exact vp_in_nI (by omega) (by decide))) (cwV 1 hts gX12_said_X12_spell rfl rfl rfl (by decide +kernel) ⟨Nat.le_of_ble_eq_true rfl, Nat.le_of_ble_eq_true rfl⟩) ⟨fun a U g mk q => by obtain ⟨q0, q1, qP, qK, qD⟩ := q; exact ⟨q0, q1, qP, va_K.moved (u := U) (U := U.calling g mk a) (Vm.Alike.refl U.vm) qK, qD⟩, va_recv hK hP (ci := 12) (q0 := 0) rfl rfl, fun U hU hW => ⟨rfl, by rw [hU], by rw [hU]; exact hP, va_K.moved hW.alike hK, hD.weaken (fun _ _ _ _ => trivial)⟩⟩ rfl rfl hl.1 rfl (lv_room (Nat.le_of_ble_eq_true rfl)) dX12_said_47 ⟨(Nat.zero_le _), (Nat.zero_le _)⟩) hS (fun q _ h => hFc q h) hFc (fun u15 t H1 locs ht hvm hwu15 hB hz1 hk1 hS => ?_)
  obtain ⟨hP1, hK1, hD1⟩ := hB
  rw [ht] at hP1
  have hK := va_K.moved hvm.symm hK1
  have hD := hD1.weaken (fun _ _ _ h => hFc _ h)
  have hP := hP1
  clear hP1 hK1 hD1 hFc
  generalize H1 = H at hP hS hz1 hk1 ht ⊢
  have hP : va_P D vwCl (mCl ca h0 ad u15) H := hP
  have hD : va_D A (mCl ca h0 ad u15) := hD
  obtain ⟨N8, hM8, hO8, hS8, hF8⟩ := sp_ok hO7 hS7 hwu15
  have hN8 : N8 ≤ 8 := by omega
  have hF8 := mFr_tr hF7 hF8
  refine lv_aload_n hx hb dX12_said_50 rfl (lv_at hl 0 rfl) ?_
  have hFc := pl_free hD hS hA
  refine va_calli (va_runV (As := []) (rest := []) ⟨hx, hb, hml, hown, hts⟩ (c_m_symbol l D ca h0 H.size ad u15 n N8 hn hO8 hS8 (by omega)) (cwV 0 hts gX12_said_X12_symbol rfl rfl rfl (by decide +kernel) ⟨Nat.le_of_ble_eq_true rfl, Nat.le_of_ble_eq_true rfl⟩) ⟨fun a U g mk q => by obtain ⟨q0, q1, qP, qK, qD⟩ := q; exact ⟨q0, q1, qP, va_K.moved (u := U) (U := U.calling g mk a) (Vm.Alike.refl U.vm) qK, qD⟩, va_recv hK hP (ci := 12) (q0 := 0) rfl rfl, fun U hU hW => ⟨rfl, by rw [hU], by rw [hU]; exact hP, va_K.moved hW.alike hK, hD.weaken (fun _ _ _ _ => trivial)⟩⟩ rfl rfl hl.1 rfl (lv_room (Nat.le_of_ble_eq_true rfl)) dX12_said_51 ⟨(Nat.zero_le _), (Nat.zero_le _)⟩) hS (fun q _ h => hFc q h) hFc (fun r18 u17 t H1 locs ht hvm hwu17 hB hz1 hk1 hS => ?_)
  obtain ⟨hP1, hK1, hD1⟩ := hB
  rw [ht] at hP1
  have hK := va_K.moved hvm.symm hK1
  have hD := hD1.weaken (fun _ _ _ h => hFc _ h)
  have hP := hP1
  clear hP1 hK1 hD1 hFc
  generalize H1 = H at hP hS hz1 hk1 ht ⊢
  have hP : va_P D vwCl (mCl ca h0 ad u17) H := hP
  have hD : va_D A (mCl ca h0 ad u17) := hD
  obtain ⟨n2, hn2, hO9, hF9, -⟩ := hwu17
  refine lv_istore hx hb dX12_said_54 hl (by decide) rfl (fun ls hl => ?_)
  have hl : lv_has ls 10 [(9, .int (r18)), (0, .ref (h0)), (1, .int (a1)), (2, .int (a2)), (3, .int (a3)), (4, .int (a4)), (5, .int (a5)), (6, .int (a6)), (7, .int (a7)), (8, .int (a8))] := hl
  exact W.vret hx hb hr (fun t ht hW => ⟨⟨u17, rfl, ⟨n2, hn2, hO9, mFr_tr hF8 hF9⟩, by rw [ht]; exact hP, va_K.moved hW.alike hK, hD⟩, hS.F ht⟩) hS.2.2 dX12_said_56
