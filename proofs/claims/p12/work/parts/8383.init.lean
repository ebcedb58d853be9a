set_option maxHeartbeats 16000000 in
set_option maxRecDepth 100000 in
/-- ProofHouseModel() -/
theorem c_m_init (l : Launch) (D : va_G) (h0 sz : Nat) : Met l yX12_init wsZ ({ frames := 3, cells := 93, slots := 2737036, locals := 76 }) (va_Pc [.ref h0] (fun U => U.heap.size = sz ∧ va_P D vwCl [(h0, .inr (12, mF0))] U.heap ∧ va_K D vwCl [] U ∧ va_D (fun _ => True) [(h0, .inr (12, mF0))])) (va_Qv (fun x : (Nat → Nat) × (Nat → ClassId) × iST => SN 44 x.2.2) (fun x t => iWd D x.2.1 (va_A [(h0, .inr (12, mF0))] sz) h0 x.1 x.2.2 t) (va_A [(h0, .inr (12, mF0))] sz)) 93 2737036 (va_A [(h0, .inr (12, mF0))] sz) := by
  refine Met.ofW (cc := cX12_init) (maxL := 2) (ret := none) (by decide) rfl ?_
  intro p e s m args below meth c s₁ B hml hv
  obtain ⟨rfl, hsz, hP, hK, hD0⟩ := hv
  have hx := B.exec
  have hb := B.bytes
  have hr := B.returns
  have htz := atoms_spec (ws := wsZ) B.pre
  have hts := fun (w : Cond) (h : w ∈ wsX12_init) => htz w (zI h)
  have hown : s.vm.findClass RX12 = some m.cls := findClass_of_methodNamed B.named
  have hlocks := B.notSynchronized
  have hnm : meth.name = "<init>" := (name_of_methodNamed B.named B.method).1
  subst hsz
  have hD := hD0.self (sz := s.heap.size)
  generalize hAe : va_A [(h0, .inr (12, mF0))] s.heap.size = A at hD ⊢
  have hA : ∀ q : Nat, s.heap.size ≤ q → A q := fun q h => by rw [← hAe]; exact Or.inr h
  have hS : va_S A s.heap s.heap [] := va_S.rf
  have hin : ∀ w ∈ wsX120, w ∈ wsX12_init := ww_all
  have hl := lv_entry ([.ref h0]) (n := 2) (Nat.le_of_ble_eq_true rfl)
  rw [lg_entry_eq]
  generalize (lg_sl ([.ref h0]) ++ List.replicate (2 - (lg_sl ([.ref h0])).length) Slot.unset).toArray = ls at hl ⊢
  have hl : lv_has ls 2 [(0, .ref h0)] := hl
  obtain ⟨fs0, ef0⟩ : ∃ z, z = mF0 := ⟨_, rfl⟩
  have hlen : fs0.length = 149 := by rw [ef0]; exact mF0_len
  obtain ⟨cs0, ec0⟩ : ∃ z : va_W, z = [] := ⟨_, rfl⟩
  obtain ⟨ts0, et0⟩ : ∃ z : List (ClassId × FieldType), z = [] := ⟨_, rfl⟩
  replace hP : va_P D vwCl ((h0, .inr (12, fs0)) :: cs0) s.heap := by rw [ef0, ec0]; exact hP
  replace hD : va_D A ((h0, .inr (12, fs0)) :: cs0) := by rw [ef0, ec0]; exact hD
  replace hK : va_K D vwCl ts0 s := by rw [et0]; exact hK
  have har_I := hts _ ww_acI
  have har_J := hts _ ww_acJ
  have har_Z := hts _ ww_acZ
  refine lv_aload_n hx hb dX12_init_0 rfl (lv_at hl 0 rfl) ?_
  refine W.objInit hx hb hown (hts _ ww_ol) (hts _ ww_oi) (hts _ ww_oc) rfl (by rw [hml]; exact hl.1) rfl dX12_init_1 (Nat.le_of_ble_eq_true rfl) (Nat.le_of_ble_eq_true rfl) ?_
  refine W.eq (g2 := F0 m 4 ls []) rfl ?_
  have eF0 : fs0 = [.null, .null, .null, .null, .null, .null, .int 0, .null, .int 0, .null, .null, .int 0, .null, .null, .int 0, .null, .int 0, .null, .int 0, .null, .int 0, .null, .int 0, .int 0, .int 0, .int 0, .null, .null, .null, .null, .int 0, .null, .int 0, .int 0, .int 0, .int 0, .null, .null, .null, .null, .null, .null, .int 0, .null, .null, .null, .null, .null, .null, .null, .null, .null, .null, .null, .int 0, .null, .null, .int 0, .int 0, .int 0, .int 0, .int 0, .int 0, .int 0, .int 0, .null, .null, .null, .null, .int 0, .null, .int 0, .null, .null, .int 0, .null, .int 0, .null, .int 0, .null, .null, .null, .null, .null, .null, .int 0, .null, .int 0, .int 0, .int 0, .int 0, .int 0, .null, .null, .null, .null, .null, .null, .null, .null, .null, .null, .int 0, .null, .int 0, .null, .null, .null, .null, .int 0, .int 0, .int 0, .null, .null, .null, .null, .null, .int 0, .null, .int 0, .null, .null, .int 0, .null, .null, .null, .int 0, .null, .null, .null, .null, .int 0, .int 0, .int 0, .int 0, .int 0, .int 0, .null, .null, .int 0, .null, .null, .null, .null, .int 0, .null, .null, .int 0, .int 0] := ef0
  have eC0 : cs0 = [] := ec0
  have eT0 : ts0 = [] := et0
  refine lv_aload_n hx hb dX12_init_4 rfl (lv_at hl 0 rfl) ?_
  refine lv_ldc hx hb hown (hts _ ww_c7) dX12_init_5 ?_
  refine ia_arr (atype := .int) (ty := .int) (a0 := (452000, .inl (fun _ => 0))) (nw := 452000) hx hb hts hin hown hnm hA hlen hK hP hD hS har_I rfl (fun cA => ia_I cA 452000) (by decide) (by decide) (by decide) (Nat.le_of_ble_eq_true rfl) (Nat.le_of_ble_eq_true rfl) dX12_init_7 0 (by decide) (hts _ ww_f0) rfl rfl (tyX12_ok 0 (by decide)) dX12_init_9 ?_
  clear hP hD hS hK
  intro q1 c1 H1 lo1 hK hP hD hS
  obtain ⟨ts1, et1⟩ : ∃ z, z = ts0 ++ [(c1, .int)] := ⟨_, rfl⟩
  rw [← et1] at hK
  obtain ⟨cs1, ec1⟩ : ∃ z : va_W, z = cs0 ++ [(q1, .inl (c1, 452000, .inl (fun _ => 0)))] := ⟨_, rfl⟩
  rw [← ec1] at hP hD
  obtain ⟨fs1, ef1⟩ : ∃ z, z = fs0.set 0 (.ref q1) := ⟨_, rfl⟩
  rw [← ef1] at hP hD
  replace hlen : fs1.length = 149 := by rw [ef1, List.length_set]; exact hlen
  refine lv_aload_n hx hb dX12_init_12 rfl (lv_at hl 0 rfl) ?_
  refine lv_ldc hx hb hown (hts _ ww_c7) dX12_init_13 ?_
  refine ia_arr (atype := .int) (ty := .int) (a0 := (452000, .inl (fun _ => 0))) (nw := 452000) hx hb hts hin hown hnm hA hlen hK hP hD hS har_I rfl (fun cA => ia_I cA 452000) (by decide) (by decide) (by decide) (Nat.le_of_ble_eq_true rfl) (Nat.le_of_ble_eq_true rfl) dX12_init_15 1 (by decide) (hts _ ww_f1) rfl rfl (tyX12_ok 1 (by decide)) dX12_init_17 ?_
  clear hP hD hS hK
  intro q2 c2 H2 lo2 hK hP hD hS
  obtain ⟨ts2, et2⟩ : ∃ z, z = ts1 ++ [(c2, .int)] := ⟨_, rfl⟩
  rw [← et2] at hK
  obtain ⟨cs2, ec2⟩ : ∃ z : va_W, z = cs1 ++ [(q2, .inl (c2, 452000, .inl (fun _ => 0)))] := ⟨_, rfl⟩
  rw [← ec2] at hP hD
  obtain ⟨fs2, ef2⟩ : ∃ z, z = fs1.set 1 (.ref q2) := ⟨_, rfl⟩
  rw [← ef2] at hP hD
  replace hlen : fs2.length = 149 := by rw [ef2, List.length_set]; exact hlen
  refine lv_aload_n hx hb dX12_init_20 rfl (lv_at hl 0 rfl) ?_
  refine lv_ldc hx hb hown (hts _ ww_c7) dX12_init_21 ?_
  refine ia_arr (atype := .int) (ty := .int) (a0 := (452000, .inl (fun _ => 0))) (nw := 452000) hx hb hts hin hown hnm hA hlen hK hP hD hS har_I rfl (fun cA => ia_I cA 452000) (by decide) (by decide) (by decide) (Nat.le_of_ble_eq_true rfl) (Nat.le_of_ble_eq_true rfl) dX12_init_23 2 (by decide) (hts _ ww_f2) rfl rfl (tyX12_ok 2 (by decide)) dX12_init_25 ?_
  clear hP hD hS hK
  intro q3 c3 H3 lo3 hK hP hD hS
  obtain ⟨ts3, et3⟩ : ∃ z, z = ts2 ++ [(c3, .int)] := ⟨_, rfl⟩
  rw [← et3] at hK
  obtain ⟨cs3, ec3⟩ : ∃ z : va_W, z = cs2 ++ [(q3, .inl (c3, 452000, .inl (fun _ => 0)))] := ⟨_, rfl⟩
  rw [← ec3] at hP hD
  obtain ⟨fs3, ef3⟩ : ∃ z, z = fs2.set 2 (.ref q3) := ⟨_, rfl⟩
  rw [← ef3] at hP hD
  replace hlen : fs3.length = 149 := by rw [ef3, List.length_set]; exact hlen
  refine lv_aload_n hx hb dX12_init_28 rfl (lv_at hl 0 rfl) ?_
  refine lv_ldc hx hb hown (hts _ ww_c7) dX12_init_29 ?_
  refine ia_arr (atype := .int) (ty := .int) (a0 := (452000, .inl (fun _ => 0))) (nw := 452000) hx hb hts hin hown hnm hA hlen hK hP hD hS har_I rfl (fun cA => ia_I cA 452000) (by decide) (by decide) (by decide) (Nat.le_of_ble_eq_true rfl) (Nat.le_of_ble_eq_true rfl) dX12_init_31 3 (by decide) (hts _ ww_f3) rfl rfl (tyX12_ok 3 (by decide)) dX12_init_33 ?_
  clear hP hD hS hK
  intro q4 c4 H4 lo4 hK hP hD hS
  obtain ⟨ts4, et4⟩ : ∃ z, z = ts3 ++ [(c4, .int)] := ⟨_, rfl⟩
  rw [← et4] at hK
  obtain ⟨cs4, ec4⟩ : ∃ z : va_W, z = cs3 ++ [(q4, .inl (c4, 452000, .inl (fun _ => 0)))] := ⟨_, rfl⟩
  rw [← ec4] at hP hD
  obtain ⟨fs4, ef4⟩ : ∃ z, z = fs3.set 3 (.ref q4) := ⟨_, rfl⟩
  rw [← ef4] at hP hD
  replace hlen : fs4.length = 149 := by rw [ef4, List.length_set]; exact hlen
  refine lv_aload_n hx hb dX12_init_36 rfl (lv_at hl 0 rfl) ?_
  refine lv_ldc hx hb hown (hts _ ww_c7) dX12_init_37 ?_
  refine ia_arr (atype := .int) (ty := .int) (a0 := (452000, .inl (fun _ => 0))) (nw := 452000) hx hb hts hin hown hnm hA hlen hK hP hD hS har_I rfl (fun cA => ia_I cA 452000) (by decide) (by decide) (by decide) (Nat.le_of_ble_eq_true rfl) (Nat.le_of_ble_eq_true rfl) dX12_init_39 4 (by decide) (hts _ ww_f4) rfl rfl (tyX12_ok 4 (by decide)) dX12_init_41 ?_
  clear hP hD hS hK
  intro q5 c5 H5 lo5 hK hP hD hS
  obtain ⟨ts5, et5⟩ : ∃ z, z = ts4 ++ [(c5, .int)] := ⟨_, rfl⟩
  rw [← et5] at hK
  obtain ⟨cs5, ec5⟩ : ∃ z : va_W, z = cs4 ++ [(q5, .inl (c5, 452000, .inl (fun _ => 0)))] := ⟨_, rfl⟩
  rw [← ec5] at hP hD
  obtain ⟨fs5, ef5⟩ : ∃ z, z = fs4.set 4 (.ref q5) := ⟨_, rfl⟩
  rw [← ef5] at hP hD
  replace hlen : fs5.length = 149 := by rw [ef5, List.length_set]; exact hlen
  refine lv_aload_n hx hb dX12_init_44 rfl (lv_at hl 0 rfl) ?_
  refine lv_ldc hx hb hown (hts _ ww_c26) dX12_init_45 ?_
  refine ia_arr (atype := .long) (ty := .long) (a0 := (40000, .inr (.inl (fun _ => 0)))) (nw := 40000) hx hb hts hin hown hnm hA hlen hK hP hD hS har_J rfl (fun cA => ia_J cA 40000) (by decide) (by decide) (by decide) (Nat.le_of_ble_eq_true rfl) (Nat.le_of_ble_eq_true rfl) dX12_init_47 5 (by decide) (hts _ ww_f5) rfl rfl (tyX12_ok 5 (by decide)) dX12_init_49 ?_
  clear hP hD hS hK
  intro q6 c6 H6 lo6 hK hP hD hS
  obtain ⟨ts6, et6⟩ : ∃ z, z = ts5 ++ [(c6, .long)] := ⟨_, rfl⟩
  rw [← et6] at hK
  obtain ⟨cs6, ec6⟩ : ∃ z : va_W, z = cs5 ++ [(q6, .inl (c6, 40000, .inr (.inl (fun _ => 0))))] := ⟨_, rfl⟩
  rw [← ec6] at hP hD
  obtain ⟨fs6, ef6⟩ : ∃ z, z = fs5.set 5 (.ref q6) := ⟨_, rfl⟩
  rw [← ef6] at hP hD
  replace hlen : fs6.length = 149 := by rw [ef6, List.length_set]; exact hlen
  refine lv_aload_n hx hb dX12_init_52 rfl (lv_at hl 0 rfl) ?_
  refine lv_sipush hx hb dX12_init_53 (v := 8192) rfl ?_
  refine ia_arr (atype := .int) (ty := .int) (a0 := (8192, .inl (fun _ => 0))) (nw := 8192) hx hb hts hin hown hnm hA hlen hK hP hD hS har_I rfl (fun cA => ia_I cA 8192) (by decide) (by decide) (by decide) (Nat.le_of_ble_eq_true rfl) (Nat.le_of_ble_eq_true rfl) dX12_init_56 7 (by decide) (hts _ ww_f7) rfl rfl (tyX12_ok 7 (by decide)) dX12_init_58 ?_
  clear hP hD hS hK
  intro q7 c7 H7 lo7 hK hP hD hS
  obtain ⟨ts7, et7⟩ : ∃ z, z = ts6 ++ [(c7, .int)] := ⟨_, rfl⟩
  rw [← et7] at hK
  obtain ⟨cs7, ec7⟩ : ∃ z : va_W, z = cs6 ++ [(q7, .inl (c7, 8192, .inl (fun _ => 0)))] := ⟨_, rfl⟩
  rw [← ec7] at hP hD
  obtain ⟨fs7, ef7⟩ : ∃ z, z = fs6.set 7 (.ref q7) := ⟨_, rfl⟩
  rw [← ef7] at hP hD
  replace hlen : fs7.length = 149 := by rw [ef7, List.length_set]; exact hlen
  refine lv_aload_n hx hb dX12_init_61 rfl (lv_at hl 0 rfl) ?_
  refine lv_ldc hx hb hown (hts _ ww_c34) dX12_init_62 ?_
  refine ia_arr (atype := .int) (ty := .int) (a0 := (252000, .inl (fun _ => 0))) (nw := 252000) hx hb hts hin hown hnm hA hlen hK hP hD hS har_I rfl (fun cA => ia_I cA 252000) (by decide) (by decide) (by decide) (Nat.le_of_ble_eq_true rfl) (Nat.le_of_ble_eq_true rfl) dX12_init_64 9 (by decide) (hts _ ww_f9) rfl rfl (tyX12_ok 9 (by decide)) dX12_init_66 ?_
  clear hP hD hS hK
  intro q8 c8 H8 lo8 hK hP hD hS
  obtain ⟨ts8, et8⟩ : ∃ z, z = ts7 ++ [(c8, .int)] := ⟨_, rfl⟩
  rw [← et8] at hK
  obtain ⟨cs8, ec8⟩ : ∃ z : va_W, z = cs7 ++ [(q8, .inl (c8, 252000, .inl (fun _ => 0)))] := ⟨_, rfl⟩
  rw [← ec8] at hP hD
  obtain ⟨fs8, ef8⟩ : ∃ z, z = fs7.set 9 (.ref q8) := ⟨_, rfl⟩
  rw [← ef8] at hP hD
  replace hlen : fs8.length = 149 := by rw [ef8, List.length_set]; exact hlen
  have eF8 : fs8 = [.ref q1, .ref q2, .ref q3, .ref q4, .ref q5, .ref q6, .int 0, .ref q7, .int 0, .ref q8, .null, .int 0, .null, .null, .int 0, .null, .int 0, .null, .int 0, .null, .int 0, .null, .int 0, .int 0, .int 0, .int 0, .null, .null, .null, .null, .int 0, .null, .int 0, .int 0, .int 0, .int 0, .null, .null, .null, .null, .null, .null, .int 0, .null, .null, .null, .null, .null, .null, .null, .null, .null, .null, .null, .int 0, .null, .null, .int 0, .int 0, .int 0, .int 0, .int 0, .int 0, .int 0, .int 0, .null, .null, .null, .null, .int 0, .null, .int 0, .null, .null, .int 0, .null, .int 0, .null, .int 0, .null, .null, .null, .null, .null, .null, .int 0, .null, .int 0, .int 0, .int 0, .int 0, .int 0, .null, .null, .null, .null, .null, .null, .null, .null, .null, .null, .int 0, .null, .int 0, .null, .null, .null, .null, .int 0, .int 0, .int 0, .null, .null, .null, .null, .null, .int 0, .null, .int 0, .null, .null, .int 0, .null, .null, .null, .int 0, .null, .null, .null, .null, .int 0, .int 0, .int 0, .int 0, .int 0, .int 0, .null, .null, .int 0, .null, .null, .null, .null, .int 0, .null, .null, .int 0, .int 0] := by
    rw [ef8, ef7, ef6, ef5, ef4, ef3, ef2, ef1, eF0]
    rfl
  have eC8 : cs8 = [(q1, .inl (c1, 452000, .inl (fun _ => 0))), (q2, .inl (c2, 452000, .inl (fun _ => 0))), (q3, .inl (c3, 452000, .inl (fun _ => 0))), (q4, .inl (c4, 452000, .inl (fun _ => 0))), (q5, .inl (c5, 452000, .inl (fun _ => 0))), (q6, .inl (c6, 40000, .inr (.inl (fun _ => 0)))), (q7, .inl (c7, 8192, .inl (fun _ => 0))), (q8, .inl (c8, 252000, .inl (fun _ => 0)))] := by
    rw [ec8, ec7, ec6, ec5, ec4, ec3, ec2, ec1, eC0]
    rfl
  have eT8 : ts8 = [(c1, .int), (c2, .int), (c3, .int), (c4, .int), (c5, .int), (c6, .long), (c7, .int), (c8, .int)] := by
    rw [et8, et7, et6, et5, et4, et3, et2, et1, eT0]
    rfl
  clear ec8 et8 ec7 et7 ec6 et6 ec5 et5 ec4 et4 ec3 et3 ec2 et2 ec1 et1 eC0 eT0
  clear ef8 ef7 ef6 ef5 ef4 ef3 ef2 ef1 eF0
  refine lv_aload_n hx hb dX12_init_69 rfl (lv_at hl 0 rfl) ?_
  refine lv_sipush hx hb dX12_init_70 (v := 21000) rfl ?_
  refine ia_arr (atype := .int) (ty := .int) (a0 := (21000, .inl (fun _ => 0))) (nw := 21000) hx hb hts hin hown hnm hA hlen hK hP hD hS har_I rfl (fun cA => ia_I cA 21000) (by decide) (by decide) (by decide) (Nat.le_of_ble_eq_true rfl) (Nat.le_of_ble_eq_true rfl) dX12_init_73 10 (by decide) (hts _ ww_f10) rfl rfl (tyX12_ok 10 (by decide)) dX12_init_75 ?_
  clear hP hD hS hK
  intro q9 c9 H9 lo9 hK hP hD hS
  obtain ⟨ts9, et9⟩ : ∃ z, z = ts8 ++ [(c9, .int)] := ⟨_, rfl⟩
  rw [← et9] at hK
  obtain ⟨cs9, ec9⟩ : ∃ z : va_W, z = cs8 ++ [(q9, .inl (c9, 21000, .inl (fun _ => 0)))] := ⟨_, rfl⟩
  rw [← ec9] at hP hD
  obtain ⟨fs9, ef9⟩ : ∃ z, z = fs8.set 10 (.ref q9) := ⟨_, rfl⟩
  rw [← ef9] at hP hD
  replace hlen : fs9.length = 149 := by rw [ef9, List.length_set]; exact hlen
  refine lv_aload_n hx hb dX12_init_78 rfl (lv_at hl 0 rfl) ?_
  refine lv_bipush hx hb dX12_init_79 (v := 20) rfl ?_
  refine ia_arr (atype := .int) (ty := .int) (a0 := (20, .inl (fun _ => 0))) (nw := 20) hx hb hts hin hown hnm hA hlen hK hP hD hS har_I rfl (fun cA => ia_I cA 20) (by decide) (by decide) (by decide) (Nat.le_of_ble_eq_true rfl) (Nat.le_of_ble_eq_true rfl) dX12_init_81 12 (by decide) (hts _ ww_f12) rfl rfl (tyX12_ok 12 (by decide)) dX12_init_83 ?_
  clear hP hD hS hK
  intro q10 c10 H10 lo10 hK hP hD hS
  obtain ⟨ts10, et10⟩ : ∃ z, z = ts9 ++ [(c10, .int)] := ⟨_, rfl⟩
  rw [← et10] at hK
  obtain ⟨cs10, ec10⟩ : ∃ z : va_W, z = cs9 ++ [(q10, .inl (c10, 20, .inl (fun _ => 0)))] := ⟨_, rfl⟩
  rw [← ec10] at hP hD
  obtain ⟨fs10, ef10⟩ : ∃ z, z = fs9.set 12 (.ref q10) := ⟨_, rfl⟩
  rw [← ef10] at hP hD
  replace hlen : fs10.length = 149 := by rw [ef10, List.length_set]; exact hlen
  refine lv_aload_n hx hb dX12_init_86 rfl (lv_at hl 0 rfl) ?_
  refine lv_sipush hx hb dX12_init_87 (v := 3000) rfl ?_
  refine ia_arr (atype := .int) (ty := .int) (a0 := (3000, .inl (fun _ => 0))) (nw := 3000) hx hb hts hin hown hnm hA hlen hK hP hD hS har_I rfl (fun cA => ia_I cA 3000) (by decide) (by decide) (by decide) (Nat.le_of_ble_eq_true rfl) (Nat.le_of_ble_eq_true rfl) dX12_init_90 13 (by decide) (hts _ ww_f13) rfl rfl (tyX12_ok 13 (by decide)) dX12_init_92 ?_
  clear hP hD hS hK
  intro q11 c11 H11 lo11 hK hP hD hS
  obtain ⟨ts11, et11⟩ : ∃ z, z = ts10 ++ [(c11, .int)] := ⟨_, rfl⟩
  rw [← et11] at hK
  obtain ⟨cs11, ec11⟩ : ∃ z : va_W, z = cs10 ++ [(q11, .inl (c11, 3000, .inl (fun _ => 0)))] := ⟨_, rfl⟩
  rw [← ec11] at hP hD
  obtain ⟨fs11, ef11⟩ : ∃ z, z = fs10.set 13 (.ref q11) := ⟨_, rfl⟩
  rw [← ef11] at hP hD
  replace hlen : fs11.length = 149 := by rw [ef11, List.length_set]; exact hlen
  refine lv_aload_n hx hb dX12_init_95 rfl (lv_at hl 0 rfl) ?_
  refine lv_sipush hx hb dX12_init_96 (v := 2000) rfl ?_
  refine ia_arr (atype := .int) (ty := .int) (a0 := (2000, .inl (fun _ => 0))) (nw := 2000) hx hb hts hin hown hnm hA hlen hK hP hD hS har_I rfl (fun cA => ia_I cA 2000) (by decide) (by decide) (by decide) (Nat.le_of_ble_eq_true rfl) (Nat.le_of_ble_eq_true rfl) dX12_init_99 15 (by decide) (hts _ ww_f15) rfl rfl (tyX12_ok 15 (by decide)) dX12_init_101 ?_
  clear hP hD hS hK
  intro q12 c12 H12 lo12 hK hP hD hS
  obtain ⟨ts12, et12⟩ : ∃ z, z = ts11 ++ [(c12, .int)] := ⟨_, rfl⟩
  rw [← et12] at hK
  obtain ⟨cs12, ec12⟩ : ∃ z : va_W, z = cs11 ++ [(q12, .inl (c12, 2000, .inl (fun _ => 0)))] := ⟨_, rfl⟩
  rw [← ec12] at hP hD
  obtain ⟨fs12, ef12⟩ : ∃ z, z = fs11.set 15 (.ref q12) := ⟨_, rfl⟩
  rw [← ef12] at hP hD
  replace hlen : fs12.length = 149 := by rw [ef12, List.length_set]; exact hlen
  refine lv_aload_n hx hb dX12_init_104 rfl (lv_at hl 0 rfl) ?_
  refine lv_bipush hx hb dX12_init_105 (v := 12) rfl ?_
  refine ia_arr (atype := .int) (ty := .int) (a0 := (12, .inl (fun _ => 0))) (nw := 12) hx hb hts hin hown hnm hA hlen hK hP hD hS har_I rfl (fun cA => ia_I cA 12) (by decide) (by decide) (by decide) (Nat.le_of_ble_eq_true rfl) (Nat.le_of_ble_eq_true rfl) dX12_init_107 17 (by decide) (hts _ ww_f17) rfl rfl (tyX12_ok 17 (by decide)) dX12_init_109 ?_
  clear hP hD hS hK
  intro q13 c13 H13 lo13 hK hP hD hS
  obtain ⟨ts13, et13⟩ : ∃ z, z = ts12 ++ [(c13, .int)] := ⟨_, rfl⟩
  rw [← et13] at hK
  obtain ⟨cs13, ec13⟩ : ∃ z : va_W, z = cs12 ++ [(q13, .inl (c13, 12, .inl (fun _ => 0)))] := ⟨_, rfl⟩
  rw [← ec13] at hP hD
  obtain ⟨fs13, ef13⟩ : ∃ z, z = fs12.set 17 (.ref q13) := ⟨_, rfl⟩
  rw [← ef13] at hP hD
  replace hlen : fs13.length = 149 := by rw [ef13, List.length_set]; exact hlen
  refine lv_aload_n hx hb dX12_init_112 rfl (lv_at hl 0 rfl) ?_
  refine lv_sipush hx hb dX12_init_113 (v := 4000) rfl ?_
  refine ia_arr (atype := .int) (ty := .int) (a0 := (4000, .inl (fun _ => 0))) (nw := 4000) hx hb hts hin hown hnm hA hlen hK hP hD hS har_I rfl (fun cA => ia_I cA 4000) (by decide) (by decide) (by decide) (Nat.le_of_ble_eq_true rfl) (Nat.le_of_ble_eq_true rfl) dX12_init_116 19 (by decide) (hts _ ww_f19) rfl rfl (tyX12_ok 19 (by decide)) dX12_init_118 ?_
  clear hP hD hS hK
  intro q14 c14 H14 lo14 hK hP hD hS
  obtain ⟨ts14, et14⟩ : ∃ z, z = ts13 ++ [(c14, .int)] := ⟨_, rfl⟩
  rw [← et14] at hK
  obtain ⟨cs14, ec14⟩ : ∃ z : va_W, z = cs13 ++ [(q14, .inl (c14, 4000, .inl (fun _ => 0)))] := ⟨_, rfl⟩
  rw [← ec14] at hP hD
  obtain ⟨fs14, ef14⟩ : ∃ z, z = fs13.set 19 (.ref q14) := ⟨_, rfl⟩
  rw [← ef14] at hP hD
  replace hlen : fs14.length = 149 := by rw [ef14, List.length_set]; exact hlen
  refine lv_aload_n hx hb dX12_init_121 rfl (lv_at hl 0 rfl) ?_
  refine lv_sipush hx hb dX12_init_122 (v := 200) rfl ?_
  refine ia_arr (atype := .int) (ty := .int) (a0 := (200, .inl (fun _ => 0))) (nw := 200) hx hb hts hin hown hnm hA hlen hK hP hD hS har_I rfl (fun cA => ia_I cA 200) (by decide) (by decide) (by decide) (Nat.le_of_ble_eq_true rfl) (Nat.le_of_ble_eq_true rfl) dX12_init_125 21 (by decide) (hts _ ww_f21) rfl rfl (tyX12_ok 21 (by decide)) dX12_init_127 ?_
  clear hP hD hS hK
  intro q15 c15 H15 lo15 hK hP hD hS
  obtain ⟨ts15, et15⟩ : ∃ z, z = ts14 ++ [(c15, .int)] := ⟨_, rfl⟩
  rw [← et15] at hK
  obtain ⟨cs15, ec15⟩ : ∃ z : va_W, z = cs14 ++ [(q15, .inl (c15, 200, .inl (fun _ => 0)))] := ⟨_, rfl⟩
  rw [← ec15] at hP hD
  obtain ⟨fs15, ef15⟩ : ∃ z, z = fs14.set 21 (.ref q15) := ⟨_, rfl⟩
  rw [← ef15] at hP hD
  replace hlen : fs15.length = 149 := by rw [ef15, List.length_set]; exact hlen
  refine lv_aload_n hx hb dX12_init_130 rfl (lv_at hl 0 rfl) ?_
  refine lv_iconst hx hb dX12_init_131 (v := (-1)) rfl ?_
  refine va_put (D := D) (ci := 12) (v := .int (-1)) (ty := .int) (C := RX12) (T := TX12) (N := 149) hx hb hts hin tyX12 tyX12_ok nmX12 hown hK hP hD hS 0 rfl rfl 25 (by decide) (hts _ ww_f25) (fun _ h9 => h9) rfl (tyX12_ok 25 (by decide)) rfl rfl (by rw [hlen]; decide) dX12_init_132 ?_
  clear hP hD hS
  intro G15 go15 hP hD hS
  obtain ⟨fs16, ef16⟩ : ∃ z, z = fs15.set 25 (.int (-1)) := ⟨_, rfl⟩
  replace hP : va_P D vwCl ((h0, .inr (12, fs16)) :: cs15) G15 := by rw [ef16]; exact hP
  replace hD : va_D A ((h0, .inr (12, fs16)) :: cs15) := by rw [ef16]; exact hD
  replace hlen : fs16.length = 149 := by rw [ef16, List.length_set]; exact hlen
  refine lv_aload_n hx hb dX12_init_135 rfl (lv_at hl 0 rfl) ?_
  refine lv_bipush hx hb dX12_init_136 (v := 40) rfl ?_
  refine ia_arr (atype := .int) (ty := .int) (a0 := (40, .inl (fun _ => 0))) (nw := 40) hx hb hts hin hown hnm hA hlen hK hP hD hS har_I rfl (fun cA => ia_I cA 40) (by decide) (by decide) (by decide) (Nat.le_of_ble_eq_true rfl) (Nat.le_of_ble_eq_true rfl) dX12_init_138 26 (by decide) (hts _ ww_f26) rfl rfl (tyX12_ok 26 (by decide)) dX12_init_140 ?_
  clear hP hD hS hK
  intro q16 c16 H16 lo16 hK hP hD hS
  obtain ⟨ts16, et16⟩ : ∃ z, z = ts15 ++ [(c16, .int)] := ⟨_, rfl⟩
  rw [← et16] at hK
  obtain ⟨cs16, ec16⟩ : ∃ z : va_W, z = cs15 ++ [(q16, .inl (c16, 40, .inl (fun _ => 0)))] := ⟨_, rfl⟩
  rw [← ec16] at hP hD
  obtain ⟨fs17, ef17⟩ : ∃ z, z = fs16.set 26 (.ref q16) := ⟨_, rfl⟩
  rw [← ef17] at hP hD
  replace hlen : fs17.length = 149 := by rw [ef17, List.length_set]; exact hlen
  have eF17 : fs17 = [.ref q1, .ref q2, .ref q3, .ref q4, .ref q5, .ref q6, .int 0, .ref q7, .int 0, .ref q8, .ref q9, .int 0, .ref q10, .ref q11, .int 0, .ref q12, .int 0, .ref q13, .int 0, .ref q14, .int 0, .ref q15, .int 0, .int 0, .int 0, .int (-1), .ref q16, .null, .null, .null, .int 0, .null, .int 0, .int 0, .int 0, .int 0, .null, .null, .null, .null, .null, .null, .int 0, .null, .null, .null, .null, .null, .null, .null, .null, .null, .null, .null, .int 0, .null, .null, .int 0, .int 0, .int 0, .int 0, .int 0, .int 0, .int 0, .int 0, .null, .null, .null, .null, .int 0, .null, .int 0, .null, .null, .int 0, .null, .int 0, .null, .int 0, .null, .null, .null, .null, .null, .null, .int 0, .null, .int 0, .int 0, .int 0, .int 0, .int 0, .null, .null, .null, .null, .null, .null, .null, .null, .null, .null, .int 0, .null, .int 0, .null, .null, .null, .null, .int 0, .int 0, .int 0, .null, .null, .null, .null, .null, .int 0, .null, .int 0, .null, .null, .int 0, .null, .null, .null, .int 0, .null, .null, .null, .null, .int 0, .int 0, .int 0, .int 0, .int 0, .int 0, .null, .null, .int 0, .null, .null, .null, .null, .int 0, .null, .null, .int 0, .int 0] := by
    rw [ef17, ef16, ef15, ef14, ef13, ef12, ef11, ef10, ef9, eF8]
    rfl
  have eC16 : cs16 = [(q1, .inl (c1, 452000, .inl (fun _ => 0))), (q2, .inl (c2, 452000, .inl (fun _ => 0))), (q3, .inl (c3, 452000, .inl (fun _ => 0))), (q4, .inl (c4, 452000, .inl (fun _ => 0))), (q5, .inl (c5, 452000, .inl (fun _ => 0))), (q6, .inl (c6, 40000, .inr (.inl (fun _ => 0)))), (q7, .inl (c7, 8192, .inl (fun _ => 0))), (q8, .inl (c8, 252000, .inl (fun _ => 0))), (q9, .inl (c9, 21000, .inl (fun _ => 0))), (q10, .inl (c10, 20, .inl (fun _ => 0))), (q11, .inl (c11, 3000, .inl (fun _ => 0))), (q12, .inl (c12, 2000, .inl (fun _ => 0))), (q13, .inl (c13, 12, .inl (fun _ => 0))), (q14, .inl (c14, 4000, .inl (fun _ => 0))), (q15, .inl (c15, 200, .inl (fun _ => 0))), (q16, .inl (c16, 40, .inl (fun _ => 0)))] := by
    rw [ec16, ec15, ec14, ec13, ec12, ec11, ec10, ec9, eC8]
    rfl
  have eT16 : ts16 = [(c1, .int), (c2, .int), (c3, .int), (c4, .int), (c5, .int), (c6, .long), (c7, .int), (c8, .int), (c9, .int), (c10, .int), (c11, .int), (c12, .int), (c13, .int), (c14, .int), (c15, .int), (c16, .int)] := by
    rw [et16, et15, et14, et13, et12, et11, et10, et9, eT8]
    rfl
  clear ec16 et16 ec15 et15 ec14 et14 ec13 et13 ec12 et12 ec11 et11 ec10 et10 ec9 et9 eC8 eT8
  clear ef17 ef16 ef15 ef14 ef13 ef12 ef11 ef10 ef9 eF8
  refine lv_aload_n hx hb dX12_init_143 rfl (lv_at hl 0 rfl) ?_
  refine lv_bipush hx hb dX12_init_144 (v := 40) rfl ?_
  refine ia_arr (atype := .int) (ty := .int) (a0 := (40, .inl (fun _ => 0))) (nw := 40) hx hb hts hin hown hnm hA hlen hK hP hD hS har_I rfl (fun cA => ia_I cA 40) (by decide) (by decide) (by decide) (Nat.le_of_ble_eq_true rfl) (Nat.le_of_ble_eq_true rfl) dX12_init_146 27 (by decide) (hts _ ww_f27) rfl rfl (tyX12_ok 27 (by decide)) dX12_init_148 ?_
  clear hP hD hS hK
  intro q17 c17 H17 lo17 hK hP hD hS
  obtain ⟨ts17, et17⟩ : ∃ z, z = ts16 ++ [(c17, .int)] := ⟨_, rfl⟩
  rw [← et17] at hK
  obtain ⟨cs17, ec17⟩ : ∃ z : va_W, z = cs16 ++ [(q17, .inl (c17, 40, .inl (fun _ => 0)))] := ⟨_, rfl⟩
  rw [← ec17] at hP hD
  obtain ⟨fs18, ef18⟩ : ∃ z, z = fs17.set 27 (.ref q17) := ⟨_, rfl⟩
  rw [← ef18] at hP hD
  replace hlen : fs18.length = 149 := by rw [ef18, List.length_set]; exact hlen
  refine lv_aload_n hx hb dX12_init_151 rfl (lv_at hl 0 rfl) ?_
  refine lv_bipush hx hb dX12_init_152 (v := 40) rfl ?_
  refine ia_arr (atype := .int) (ty := .int) (a0 := (40, .inl (fun _ => 0))) (nw := 40) hx hb hts hin hown hnm hA hlen hK hP hD hS har_I rfl (fun cA => ia_I cA 40) (by decide) (by decide) (by decide) (Nat.le_of_ble_eq_true rfl) (Nat.le_of_ble_eq_true rfl) dX12_init_154 28 (by decide) (hts _ ww_f28) rfl rfl (tyX12_ok 28 (by decide)) dX12_init_156 ?_
  clear hP hD hS hK
  intro q18 c18 H18 lo18 hK hP hD hS
  obtain ⟨ts18, et18⟩ : ∃ z, z = ts17 ++ [(c18, .int)] := ⟨_, rfl⟩
  rw [← et18] at hK
  obtain ⟨cs18, ec18⟩ : ∃ z : va_W, z = cs17 ++ [(q18, .inl (c18, 40, .inl (fun _ => 0)))] := ⟨_, rfl⟩
  rw [← ec18] at hP hD
  obtain ⟨fs19, ef19⟩ : ∃ z, z = fs18.set 28 (.ref q18) := ⟨_, rfl⟩
  rw [← ef19] at hP hD
  replace hlen : fs19.length = 149 := by rw [ef19, List.length_set]; exact hlen
  refine lv_aload_n hx hb dX12_init_159 rfl (lv_at hl 0 rfl) ?_
  refine lv_bipush hx hb dX12_init_160 (v := 40) rfl ?_
  refine ia_arr (atype := .int) (ty := .int) (a0 := (40, .inl (fun _ => 0))) (nw := 40) hx hb hts hin hown hnm hA hlen hK hP hD hS har_I rfl (fun cA => ia_I cA 40) (by decide) (by decide) (by decide) (Nat.le_of_ble_eq_true rfl) (Nat.le_of_ble_eq_true rfl) dX12_init_162 29 (by decide) (hts _ ww_f29) rfl rfl (tyX12_ok 29 (by decide)) dX12_init_164 ?_
  clear hP hD hS hK
  intro q19 c19 H19 lo19 hK hP hD hS
  obtain ⟨ts19, et19⟩ : ∃ z, z = ts18 ++ [(c19, .int)] := ⟨_, rfl⟩
  rw [← et19] at hK
  obtain ⟨cs19, ec19⟩ : ∃ z : va_W, z = cs18 ++ [(q19, .inl (c19, 40, .inl (fun _ => 0)))] := ⟨_, rfl⟩
  rw [← ec19] at hP hD
  obtain ⟨fs20, ef20⟩ : ∃ z, z = fs19.set 29 (.ref q19) := ⟨_, rfl⟩
  rw [← ef20] at hP hD
  replace hlen : fs20.length = 149 := by rw [ef20, List.length_set]; exact hlen
  refine lv_aload_n hx hb dX12_init_167 rfl (lv_at hl 0 rfl) ?_
  refine lv_sipush hx hb dX12_init_168 (v := 1100) rfl ?_
  refine ia_arr (atype := .int) (ty := .int) (a0 := (1100, .inl (fun _ => 0))) (nw := 1100) hx hb hts hin hown hnm hA hlen hK hP hD hS har_I rfl (fun cA => ia_I cA 1100) (by decide) (by decide) (by decide) (Nat.le_of_ble_eq_true rfl) (Nat.le_of_ble_eq_true rfl) dX12_init_171 31 (by decide) (hts _ ww_f31) rfl rfl (tyX12_ok 31 (by decide)) dX12_init_173 ?_
  clear hP hD hS hK
  intro q20 c20 H20 lo20 hK hP hD hS
  obtain ⟨ts20, et20⟩ : ∃ z, z = ts19 ++ [(c20, .int)] := ⟨_, rfl⟩
  rw [← et20] at hK
  obtain ⟨cs20, ec20⟩ : ∃ z : va_W, z = cs19 ++ [(q20, .inl (c20, 1100, .inl (fun _ => 0)))] := ⟨_, rfl⟩
  rw [← ec20] at hP hD
  obtain ⟨fs21, ef21⟩ : ∃ z, z = fs20.set 31 (.ref q20) := ⟨_, rfl⟩
  rw [← ef21] at hP hD
  replace hlen : fs21.length = 149 := by rw [ef21, List.length_set]; exact hlen
  refine lv_aload_n hx hb dX12_init_176 rfl (lv_at hl 0 rfl) ?_
  refine lv_bipush hx hb dX12_init_177 (v := 40) rfl ?_
  refine ia_arr (atype := .int) (ty := .int) (a0 := (40, .inl (fun _ => 0))) (nw := 40) hx hb hts hin hown hnm hA hlen hK hP hD hS har_I rfl (fun cA => ia_I cA 40) (by decide) (by decide) (by decide) (Nat.le_of_ble_eq_true rfl) (Nat.le_of_ble_eq_true rfl) dX12_init_179 36 (by decide) (hts _ ww_f36) rfl rfl (tyX12_ok 36 (by decide)) dX12_init_181 ?_
  clear hP hD hS hK
  intro q21 c21 H21 lo21 hK hP hD hS
  obtain ⟨ts21, et21⟩ : ∃ z, z = ts20 ++ [(c21, .int)] := ⟨_, rfl⟩
  rw [← et21] at hK
  obtain ⟨cs21, ec21⟩ : ∃ z : va_W, z = cs20 ++ [(q21, .inl (c21, 40, .inl (fun _ => 0)))] := ⟨_, rfl⟩
  rw [← ec21] at hP hD
  obtain ⟨fs22, ef22⟩ : ∃ z, z = fs21.set 36 (.ref q21) := ⟨_, rfl⟩
  rw [← ef22] at hP hD
  replace hlen : fs22.length = 149 := by rw [ef22, List.length_set]; exact hlen
  refine lv_aload_n hx hb dX12_init_184 rfl (lv_at hl 0 rfl) ?_
  refine lv_bipush hx hb dX12_init_185 (v := 40) rfl ?_
  refine ia_arr (atype := .int) (ty := .int) (a0 := (40, .inl (fun _ => 0))) (nw := 40) hx hb hts hin hown hnm hA hlen hK hP hD hS har_I rfl (fun cA => ia_I cA 40) (by decide) (by decide) (by decide) (Nat.le_of_ble_eq_true rfl) (Nat.le_of_ble_eq_true rfl) dX12_init_187 37 (by decide) (hts _ ww_f37) rfl rfl (tyX12_ok 37 (by decide)) dX12_init_189 ?_
  clear hP hD hS hK
  intro q22 c22 H22 lo22 hK hP hD hS
  obtain ⟨ts22, et22⟩ : ∃ z, z = ts21 ++ [(c22, .int)] := ⟨_, rfl⟩
  rw [← et22] at hK
  obtain ⟨cs22, ec22⟩ : ∃ z : va_W, z = cs21 ++ [(q22, .inl (c22, 40, .inl (fun _ => 0)))] := ⟨_, rfl⟩
  rw [← ec22] at hP hD
  obtain ⟨fs23, ef23⟩ : ∃ z, z = fs22.set 37 (.ref q22) := ⟨_, rfl⟩
  rw [← ef23] at hP hD
  replace hlen : fs23.length = 149 := by rw [ef23, List.length_set]; exact hlen
  refine lv_aload_n hx hb dX12_init_192 rfl (lv_at hl 0 rfl) ?_
  refine lv_sipush hx hb dX12_init_193 (v := 240) rfl ?_
  refine ia_arr (atype := .int) (ty := .int) (a0 := (240, .inl (fun _ => 0))) (nw := 240) hx hb hts hin hown hnm hA hlen hK hP hD hS har_I rfl (fun cA => ia_I cA 240) (by decide) (by decide) (by decide) (Nat.le_of_ble_eq_true rfl) (Nat.le_of_ble_eq_true rfl) dX12_init_196 38 (by decide) (hts _ ww_f38) rfl rfl (tyX12_ok 38 (by decide)) dX12_init_198 ?_
  clear hP hD hS hK
  intro q23 c23 H23 lo23 hK hP hD hS
  obtain ⟨ts23, et23⟩ : ∃ z, z = ts22 ++ [(c23, .int)] := ⟨_, rfl⟩
  rw [← et23] at hK
  obtain ⟨cs23, ec23⟩ : ∃ z : va_W, z = cs22 ++ [(q23, .inl (c23, 240, .inl (fun _ => 0)))] := ⟨_, rfl⟩
  rw [← ec23] at hP hD
  obtain ⟨fs24, ef24⟩ : ∃ z, z = fs23.set 38 (.ref q23) := ⟨_, rfl⟩
  rw [← ef24] at hP hD
  replace hlen : fs24.length = 149 := by rw [ef24, List.length_set]; exact hlen
  refine lv_aload_n hx hb dX12_init_201 rfl (lv_at hl 0 rfl) ?_
  refine lv_bipush hx hb dX12_init_202 (v := 40) rfl ?_
  refine ia_arr (atype := .int) (ty := .int) (a0 := (40, .inl (fun _ => 0))) (nw := 40) hx hb hts hin hown hnm hA hlen hK hP hD hS har_I rfl (fun cA => ia_I cA 40) (by decide) (by decide) (by decide) (Nat.le_of_ble_eq_true rfl) (Nat.le_of_ble_eq_true rfl) dX12_init_204 39 (by decide) (hts _ ww_f39) rfl rfl (tyX12_ok 39 (by decide)) dX12_init_206 ?_
  clear hP hD hS hK
  intro q24 c24 H24 lo24 hK hP hD hS
  obtain ⟨ts24, et24⟩ : ∃ z, z = ts23 ++ [(c24, .int)] := ⟨_, rfl⟩
  rw [← et24] at hK
  obtain ⟨cs24, ec24⟩ : ∃ z : va_W, z = cs23 ++ [(q24, .inl (c24, 40, .inl (fun _ => 0)))] := ⟨_, rfl⟩
  rw [← ec24] at hP hD
  obtain ⟨fs25, ef25⟩ : ∃ z, z = fs24.set 39 (.ref q24) := ⟨_, rfl⟩
  rw [← ef25] at hP hD
  replace hlen : fs25.length = 149 := by rw [ef25, List.length_set]; exact hlen
  have eF25 : fs25 = [.ref q1, .ref q2, .ref q3, .ref q4, .ref q5, .ref q6, .int 0, .ref q7, .int 0, .ref q8, .ref q9, .int 0, .ref q10, .ref q11, .int 0, .ref q12, .int 0, .ref q13, .int 0, .ref q14, .int 0, .ref q15, .int 0, .int 0, .int 0, .int (-1), .ref q16, .ref q17, .ref q18, .ref q19, .int 0, .ref q20, .int 0, .int 0, .int 0, .int 0, .ref q21, .ref q22, .ref q23, .ref q24, .null, .null, .int 0, .null, .null, .null, .null, .null, .null, .null, .null, .null, .null, .null, .int 0, .null, .null, .int 0, .int 0, .int 0, .int 0, .int 0, .int 0, .int 0, .int 0, .null, .null, .null, .null, .int 0, .null, .int 0, .null, .null, .int 0, .null, .int 0, .null, .int 0, .null, .null, .null, .null, .null, .null, .int 0, .null, .int 0, .int 0, .int 0, .int 0, .int 0, .null, .null, .null, .null, .null, .null, .null, .null, .null, .null, .int 0, .null, .int 0, .null, .null, .null, .null, .int 0, .int 0, .int 0, .null, .null, .null, .null, .null, .int 0, .null, .int 0, .null, .null, .int 0, .null, .null, .null, .int 0, .null, .null, .null, .null, .int 0, .int 0, .int 0, .int 0, .int 0, .int 0, .null, .null, .int 0, .null, .null, .null, .null, .int 0, .null, .null, .int 0, .int 0] := by
    rw [ef25, ef24, ef23, ef22, ef21, ef20, ef19, ef18, eF17]
    rfl
  have eC24 : cs24 = [(q1, .inl (c1, 452000, .inl (fun _ => 0))), (q2, .inl (c2, 452000, .inl (fun _ => 0))), (q3, .inl (c3, 452000, .inl (fun _ => 0))), (q4, .inl (c4, 452000, .inl (fun _ => 0))), (q5, .inl (c5, 452000, .inl (fun _ => 0))), (q6, .inl (c6, 40000, .inr (.inl (fun _ => 0)))), (q7, .inl (c7, 8192, .inl (fun _ => 0))), (q8, .inl (c8, 252000, .inl (fun _ => 0))), (q9, .inl (c9, 21000, .inl (fun _ => 0))), (q10, .inl (c10, 20, .inl (fun _ => 0))), (q11, .inl (c11, 3000, .inl (fun _ => 0))), (q12, .inl (c12, 2000, .inl (fun _ => 0))), (q13, .inl (c13, 12, .inl (fun _ => 0))), (q14, .inl (c14, 4000, .inl (fun _ => 0))), (q15, .inl (c15, 200, .inl (fun _ => 0))), (q16, .inl (c16, 40, .inl (fun _ => 0))), (q17, .inl (c17, 40, .inl (fun _ => 0))), (q18, .inl (c18, 40, .inl (fun _ => 0))), (q19, .inl (c19, 40, .inl (fun _ => 0))), (q20, .inl (c20, 1100, .inl (fun _ => 0))), (q21, .inl (c21, 40, .inl (fun _ => 0))), (q22, .inl (c22, 40, .inl (fun _ => 0))), (q23, .inl (c23, 240, .inl (fun _ => 0))), (q24, .inl (c24, 40, .inl (fun _ => 0)))] := by
    rw [ec24, ec23, ec22, ec21, ec20, ec19, ec18, ec17, eC16]
    rfl
  have eT24 : ts24 = [(c1, .int), (c2, .int), (c3, .int), (c4, .int), (c5, .int), (c6, .long), (c7, .int), (c8, .int), (c9, .int), (c10, .int), (c11, .int), (c12, .int), (c13, .int), (c14, .int), (c15, .int), (c16, .int), (c17, .int), (c18, .int), (c19, .int), (c20, .int), (c21, .int), (c22, .int), (c23, .int), (c24, .int)] := by
    rw [et24, et23, et22, et21, et20, et19, et18, et17, eT16]
    rfl
  clear ec24 et24 ec23 et23 ec22 et22 ec21 et21 ec20 et20 ec19 et19 ec18 et18 ec17 et17 eC16 eT16
  clear ef25 ef24 ef23 ef22 ef21 ef20 ef19 ef18 eF17
  refine lv_aload_n hx hb dX12_init_209 rfl (lv_at hl 0 rfl) ?_
  refine lv_bipush hx hb dX12_init_210 (v := 40) rfl ?_
  refine ia_arr (atype := .int) (ty := .int) (a0 := (40, .inl (fun _ => 0))) (nw := 40) hx hb hts hin hown hnm hA hlen hK hP hD hS har_I rfl (fun cA => ia_I cA 40) (by decide) (by decide) (by decide) (Nat.le_of_ble_eq_true rfl) (Nat.le_of_ble_eq_true rfl) dX12_init_212 40 (by decide) (hts _ ww_f40) rfl rfl (tyX12_ok 40 (by decide)) dX12_init_214 ?_
  clear hP hD hS hK
  intro q25 c25 H25 lo25 hK hP hD hS
  obtain ⟨ts25, et25⟩ : ∃ z, z = ts24 ++ [(c25, .int)] := ⟨_, rfl⟩
  rw [← et25] at hK
  obtain ⟨cs25, ec25⟩ : ∃ z : va_W, z = cs24 ++ [(q25, .inl (c25, 40, .inl (fun _ => 0)))] := ⟨_, rfl⟩
  rw [← ec25] at hP hD
  obtain ⟨fs26, ef26⟩ : ∃ z, z = fs25.set 40 (.ref q25) := ⟨_, rfl⟩
  rw [← ef26] at hP hD
  replace hlen : fs26.length = 149 := by rw [ef26, List.length_set]; exact hlen
  refine lv_aload_n hx hb dX12_init_217 rfl (lv_at hl 0 rfl) ?_
  refine lv_bipush hx hb dX12_init_218 (v := 40) rfl ?_
  refine ia_arr (atype := .boolean) (ty := .boolean) (a0 := (40, .inl (fun _ => 0))) (nw := 40) hx hb hts hin hown hnm hA hlen hK hP hD hS har_Z rfl (fun cA => ia_Z cA 40) (by decide) (by decide) (by decide) (Nat.le_of_ble_eq_true rfl) (Nat.le_of_ble_eq_true rfl) dX12_init_220 41 (by decide) (hts _ ww_f41) rfl rfl (tyX12_ok 41 (by decide)) dX12_init_222 ?_
  clear hP hD hS hK
  intro q26 c26 H26 lo26 hK hP hD hS
  obtain ⟨ts26, et26⟩ : ∃ z, z = ts25 ++ [(c26, .boolean)] := ⟨_, rfl⟩
  rw [← et26] at hK
  obtain ⟨cs26, ec26⟩ : ∃ z : va_W, z = cs25 ++ [(q26, .inl (c26, 40, .inl (fun _ => 0)))] := ⟨_, rfl⟩
  rw [← ec26] at hP hD
  obtain ⟨fs27, ef27⟩ : ∃ z, z = fs26.set 41 (.ref q26) := ⟨_, rfl⟩
  rw [← ef27] at hP hD
  replace hlen : fs27.length = 149 := by rw [ef27, List.length_set]; exact hlen
  refine lv_aload_n hx hb dX12_init_225 rfl (lv_at hl 0 rfl) ?_
  refine lv_bipush hx hb dX12_init_226 (v := 60) rfl ?_
  refine ia_arr (atype := .int) (ty := .int) (a0 := (60, .inl (fun _ => 0))) (nw := 60) hx hb hts hin hown hnm hA hlen hK hP hD hS har_I rfl (fun cA => ia_I cA 60) (by decide) (by decide) (by decide) (Nat.le_of_ble_eq_true rfl) (Nat.le_of_ble_eq_true rfl) dX12_init_228 43 (by decide) (hts _ ww_f43) rfl rfl (tyX12_ok 43 (by decide)) dX12_init_230 ?_
  clear hP hD hS hK
  intro q27 c27 H27 lo27 hK hP hD hS
  obtain ⟨ts27, et27⟩ : ∃ z, z = ts26 ++ [(c27, .int)] := ⟨_, rfl⟩
  rw [← et27] at hK
  obtain ⟨cs27, ec27⟩ : ∃ z : va_W, z = cs26 ++ [(q27, .inl (c27, 60, .inl (fun _ => 0)))] := ⟨_, rfl⟩
  rw [← ec27] at hP hD
  obtain ⟨fs28, ef28⟩ : ∃ z, z = fs27.set 43 (.ref q27) := ⟨_, rfl⟩
  rw [← ef28] at hP hD
  replace hlen : fs28.length = 149 := by rw [ef28, List.length_set]; exact hlen
  refine lv_aload_n hx hb dX12_init_233 rfl (lv_at hl 0 rfl) ?_
  refine lv_bipush hx hb dX12_init_234 (v := 60) rfl ?_
  refine ia_arr (atype := .int) (ty := .int) (a0 := (60, .inl (fun _ => 0))) (nw := 60) hx hb hts hin hown hnm hA hlen hK hP hD hS har_I rfl (fun cA => ia_I cA 60) (by decide) (by decide) (by decide) (Nat.le_of_ble_eq_true rfl) (Nat.le_of_ble_eq_true rfl) dX12_init_236 44 (by decide) (hts _ ww_f44) rfl rfl (tyX12_ok 44 (by decide)) dX12_init_238 ?_
  clear hP hD hS hK
  intro q28 c28 H28 lo28 hK hP hD hS
  obtain ⟨ts28, et28⟩ : ∃ z, z = ts27 ++ [(c28, .int)] := ⟨_, rfl⟩
  rw [← et28] at hK
  obtain ⟨cs28, ec28⟩ : ∃ z : va_W, z = cs27 ++ [(q28, .inl (c28, 60, .inl (fun _ => 0)))] := ⟨_, rfl⟩
  rw [← ec28] at hP hD
  obtain ⟨fs29, ef29⟩ : ∃ z, z = fs28.set 44 (.ref q28) := ⟨_, rfl⟩
  rw [← ef29] at hP hD
  replace hlen : fs29.length = 149 := by rw [ef29, List.length_set]; exact hlen
  refine lv_aload_n hx hb dX12_init_241 rfl (lv_at hl 0 rfl) ?_
  refine lv_bipush hx hb dX12_init_242 (v := 60) rfl ?_
  refine ia_arr (atype := .int) (ty := .int) (a0 := (60, .inl (fun _ => 0))) (nw := 60) hx hb hts hin hown hnm hA hlen hK hP hD hS har_I rfl (fun cA => ia_I cA 60) (by decide) (by decide) (by decide) (Nat.le_of_ble_eq_true rfl) (Nat.le_of_ble_eq_true rfl) dX12_init_244 45 (by decide) (hts _ ww_f45) rfl rfl (tyX12_ok 45 (by decide)) dX12_init_246 ?_
  clear hP hD hS hK
  intro q29 c29 H29 lo29 hK hP hD hS
  obtain ⟨ts29, et29⟩ : ∃ z, z = ts28 ++ [(c29, .int)] := ⟨_, rfl⟩
  rw [← et29] at hK
  obtain ⟨cs29, ec29⟩ : ∃ z : va_W, z = cs28 ++ [(q29, .inl (c29, 60, .inl (fun _ => 0)))] := ⟨_, rfl⟩
  rw [← ec29] at hP hD
  obtain ⟨fs30, ef30⟩ : ∃ z, z = fs29.set 45 (.ref q29) := ⟨_, rfl⟩
  rw [← ef30] at hP hD
  replace hlen : fs30.length = 149 := by rw [ef30, List.length_set]; exact hlen
  refine lv_aload_n hx hb dX12_init_249 rfl (lv_at hl 0 rfl) ?_
  refine lv_bipush hx hb dX12_init_250 (v := 60) rfl ?_
  refine ia_arr (atype := .int) (ty := .int) (a0 := (60, .inl (fun _ => 0))) (nw := 60) hx hb hts hin hown hnm hA hlen hK hP hD hS har_I rfl (fun cA => ia_I cA 60) (by decide) (by decide) (by decide) (Nat.le_of_ble_eq_true rfl) (Nat.le_of_ble_eq_true rfl) dX12_init_252 46 (by decide) (hts _ ww_f46) rfl rfl (tyX12_ok 46 (by decide)) dX12_init_254 ?_
  clear hP hD hS hK
  intro q30 c30 H30 lo30 hK hP hD hS
  obtain ⟨ts30, et30⟩ : ∃ z, z = ts29 ++ [(c30, .int)] := ⟨_, rfl⟩
  rw [← et30] at hK
  obtain ⟨cs30, ec30⟩ : ∃ z : va_W, z = cs29 ++ [(q30, .inl (c30, 60, .inl (fun _ => 0)))] := ⟨_, rfl⟩
  rw [← ec30] at hP hD
  obtain ⟨fs31, ef31⟩ : ∃ z, z = fs30.set 46 (.ref q30) := ⟨_, rfl⟩
  rw [← ef31] at hP hD
  replace hlen : fs31.length = 149 := by rw [ef31, List.length_set]; exact hlen
  refine lv_aload_n hx hb dX12_init_257 rfl (lv_at hl 0 rfl) ?_
  refine lv_bipush hx hb dX12_init_258 (v := 60) rfl ?_
  refine ia_arr (atype := .int) (ty := .int) (a0 := (60, .inl (fun _ => 0))) (nw := 60) hx hb hts hin hown hnm hA hlen hK hP hD hS har_I rfl (fun cA => ia_I cA 60) (by decide) (by decide) (by decide) (Nat.le_of_ble_eq_true rfl) (Nat.le_of_ble_eq_true rfl) dX12_init_260 47 (by decide) (hts _ ww_f47) rfl rfl (tyX12_ok 47 (by decide)) dX12_init_262 ?_
  clear hP hD hS hK
  intro q31 c31 H31 lo31 hK hP hD hS
  obtain ⟨ts31, et31⟩ : ∃ z, z = ts30 ++ [(c31, .int)] := ⟨_, rfl⟩
  rw [← et31] at hK
  obtain ⟨cs31, ec31⟩ : ∃ z : va_W, z = cs30 ++ [(q31, .inl (c31, 60, .inl (fun _ => 0)))] := ⟨_, rfl⟩
  rw [← ec31] at hP hD
  obtain ⟨fs32, ef32⟩ : ∃ z, z = fs31.set 47 (.ref q31) := ⟨_, rfl⟩
  rw [← ef32] at hP hD
  replace hlen : fs32.length = 149 := by rw [ef32, List.length_set]; exact hlen
  refine lv_aload_n hx hb dX12_init_265 rfl (lv_at hl 0 rfl) ?_
  refine lv_bipush hx hb dX12_init_266 (v := 60) rfl ?_
  refine ia_arr (atype := .int) (ty := .int) (a0 := (60, .inl (fun _ => 0))) (nw := 60) hx hb hts hin hown hnm hA hlen hK hP hD hS har_I rfl (fun cA => ia_I cA 60) (by decide) (by decide) (by decide) (Nat.le_of_ble_eq_true rfl) (Nat.le_of_ble_eq_true rfl) dX12_init_268 48 (by decide) (hts _ ww_f48) rfl rfl (tyX12_ok 48 (by decide)) dX12_init_270 ?_
  clear hP hD hS hK
  intro q32 c32 H32 lo32 hK hP hD hS
  obtain ⟨ts32, et32⟩ : ∃ z, z = ts31 ++ [(c32, .int)] := ⟨_, rfl⟩
  rw [← et32] at hK
  obtain ⟨cs32, ec32⟩ : ∃ z : va_W, z = cs31 ++ [(q32, .inl (c32, 60, .inl (fun _ => 0)))] := ⟨_, rfl⟩
  rw [← ec32] at hP hD
  obtain ⟨fs33, ef33⟩ : ∃ z, z = fs32.set 48 (.ref q32) := ⟨_, rfl⟩
  rw [← ef33] at hP hD
  replace hlen : fs33.length = 149 := by rw [ef33, List.length_set]; exact hlen
  have eF33 : fs33 = [.ref q1, .ref q2, .ref q3, .ref q4, .ref q5, .ref q6, .int 0, .ref q7, .int 0, .ref q8, .ref q9, .int 0, .ref q10, .ref q11, .int 0, .ref q12, .int 0, .ref q13, .int 0, .ref q14, .int 0, .ref q15, .int 0, .int 0, .int 0, .int (-1), .ref q16, .ref q17, .ref q18, .ref q19, .int 0, .ref q20, .int 0, .int 0, .int 0, .int 0, .ref q21, .ref q22, .ref q23, .ref q24, .ref q25, .ref q26, .int 0, .ref q27, .ref q28, .ref q29, .ref q30, .ref q31, .ref q32, .null, .null, .null, .null, .null, .int 0, .null, .null, .int 0, .int 0, .int 0, .int 0, .int 0, .int 0, .int 0, .int 0, .null, .null, .null, .null, .int 0, .null, .int 0, .null, .null, .int 0, .null, .int 0, .null, .int 0, .null, .null, .null, .null, .null, .null, .int 0, .null, .int 0, .int 0, .int 0, .int 0, .int 0, .null, .null, .null, .null, .null, .null, .null, .null, .null, .null, .int 0, .null, .int 0, .null, .null, .null, .null, .int 0, .int 0, .int 0, .null, .null, .null, .null, .null, .int 0, .null, .int 0, .null, .null, .int 0, .null, .null, .null, .int 0, .null, .null, .null, .null, .int 0, .int 0, .int 0, .int 0, .int 0, .int 0, .null, .null, .int 0, .null, .null, .null, .null, .int 0, .null, .null, .int 0, .int 0] := by
    rw [ef33, ef32, ef31, ef30, ef29, ef28, ef27, ef26, eF25]
    rfl
  have eC32 : cs32 = [(q1, .inl (c1, 452000, .inl (fun _ => 0))), (q2, .inl (c2, 452000, .inl (fun _ => 0))), (q3, .inl (c3, 452000, .inl (fun _ => 0))), (q4, .inl (c4, 452000, .inl (fun _ => 0))), (q5, .inl (c5, 452000, .inl (fun _ => 0))), (q6, .inl (c6, 40000, .inr (.inl (fun _ => 0)))), (q7, .inl (c7, 8192, .inl (fun _ => 0))), (q8, .inl (c8, 252000, .inl (fun _ => 0))), (q9, .inl (c9, 21000, .inl (fun _ => 0))), (q10, .inl (c10, 20, .inl (fun _ => 0))), (q11, .inl (c11, 3000, .inl (fun _ => 0))), (q12, .inl (c12, 2000, .inl (fun _ => 0))), (q13, .inl (c13, 12, .inl (fun _ => 0))), (q14, .inl (c14, 4000, .inl (fun _ => 0))), (q15, .inl (c15, 200, .inl (fun _ => 0))), (q16, .inl (c16, 40, .inl (fun _ => 0))), (q17, .inl (c17, 40, .inl (fun _ => 0))), (q18, .inl (c18, 40, .inl (fun _ => 0))), (q19, .inl (c19, 40, .inl (fun _ => 0))), (q20, .inl (c20, 1100, .inl (fun _ => 0))), (q21, .inl (c21, 40, .inl (fun _ => 0))), (q22, .inl (c22, 40, .inl (fun _ => 0))), (q23, .inl (c23, 240, .inl (fun _ => 0))), (q24, .inl (c24, 40, .inl (fun _ => 0))), (q25, .inl (c25, 40, .inl (fun _ => 0))), (q26, .inl (c26, 40, .inl (fun _ => 0))), (q27, .inl (c27, 60, .inl (fun _ => 0))), (q28, .inl (c28, 60, .inl (fun _ => 0))), (q29, .inl (c29, 60, .inl (fun _ => 0))), (q30, .inl (c30, 60, .inl (fun _ => 0))), (q31, .inl (c31, 60, .inl (fun _ => 0))), (q32, .inl (c32, 60, .inl (fun _ => 0)))] := by
    rw [ec32, ec31, ec30, ec29, ec28, ec27, ec26, ec25, eC24]
    rfl
  have eT32 : ts32 = [(c1, .int), (c2, .int), (c3, .int), (c4, .int), (c5, .int), (c6, .long), (c7, .int), (c8, .int), (c9, .int), (c10, .int), (c11, .int), (c12, .int), (c13, .int), (c14, .int), (c15, .int), (c16, .int), (c17, .int), (c18, .int), (c19, .int), (c20, .int), (c21, .int), (c22, .int), (c23, .int), (c24, .int), (c25, .int), (c26, .boolean), (c27, .int), (c28, .int), (c29, .int), (c30, .int), (c31, .int), (c32, .int)] := by
    rw [et32, et31, et30, et29, et28, et27, et26, et25, eT24]
    rfl
  clear ec32 et32 ec31 et31 ec30 et30 ec29 et29 ec28 et28 ec27 et27 ec26 et26 ec25 et25 eC24 eT24
  clear ef33 ef32 ef31 ef30 ef29 ef28 ef27 ef26 eF25
  refine lv_aload_n hx hb dX12_init_273 rfl (lv_at hl 0 rfl) ?_
  refine lv_sipush hx hb dX12_init_274 (v := 7200) rfl ?_
  refine ia_arr (atype := .int) (ty := .int) (a0 := (7200, .inl (fun _ => 0))) (nw := 7200) hx hb hts hin hown hnm hA hlen hK hP hD hS har_I rfl (fun cA => ia_I cA 7200) (by decide) (by decide) (by decide) (Nat.le_of_ble_eq_true rfl) (Nat.le_of_ble_eq_true rfl) dX12_init_277 49 (by decide) (hts _ ww_f49) rfl rfl (tyX12_ok 49 (by decide)) dX12_init_279 ?_
  clear hP hD hS hK
  intro q33 c33 H33 lo33 hK hP hD hS
  obtain ⟨ts33, et33⟩ : ∃ z, z = ts32 ++ [(c33, .int)] := ⟨_, rfl⟩
  rw [← et33] at hK
  obtain ⟨cs33, ec33⟩ : ∃ z : va_W, z = cs32 ++ [(q33, .inl (c33, 7200, .inl (fun _ => 0)))] := ⟨_, rfl⟩
  rw [← ec33] at hP hD
  obtain ⟨fs34, ef34⟩ : ∃ z, z = fs33.set 49 (.ref q33) := ⟨_, rfl⟩
  rw [← ef34] at hP hD
  replace hlen : fs34.length = 149 := by rw [ef34, List.length_set]; exact hlen
  refine lv_aload_n hx hb dX12_init_282 rfl (lv_at hl 0 rfl) ?_
  refine lv_bipush hx hb dX12_init_283 (v := 60) rfl ?_
  refine ia_arr (atype := .boolean) (ty := .boolean) (a0 := (60, .inl (fun _ => 0))) (nw := 60) hx hb hts hin hown hnm hA hlen hK hP hD hS har_Z rfl (fun cA => ia_Z cA 60) (by decide) (by decide) (by decide) (Nat.le_of_ble_eq_true rfl) (Nat.le_of_ble_eq_true rfl) dX12_init_285 50 (by decide) (hts _ ww_f50) rfl rfl (tyX12_ok 50 (by decide)) dX12_init_287 ?_
  clear hP hD hS hK
  intro q34 c34 H34 lo34 hK hP hD hS
  obtain ⟨ts34, et34⟩ : ∃ z, z = ts33 ++ [(c34, .boolean)] := ⟨_, rfl⟩
  rw [← et34] at hK
  obtain ⟨cs34, ec34⟩ : ∃ z : va_W, z = cs33 ++ [(q34, .inl (c34, 60, .inl (fun _ => 0)))] := ⟨_, rfl⟩
  rw [← ec34] at hP hD
  obtain ⟨fs35, ef35⟩ : ∃ z, z = fs34.set 50 (.ref q34) := ⟨_, rfl⟩
  rw [← ef35] at hP hD
  replace hlen : fs35.length = 149 := by rw [ef35, List.length_set]; exact hlen
  refine lv_aload_n hx hb dX12_init_290 rfl (lv_at hl 0 rfl) ?_
  refine lv_bipush hx hb dX12_init_291 (v := 60) rfl ?_
  refine ia_arr (atype := .boolean) (ty := .boolean) (a0 := (60, .inl (fun _ => 0))) (nw := 60) hx hb hts hin hown hnm hA hlen hK hP hD hS har_Z rfl (fun cA => ia_Z cA 60) (by decide) (by decide) (by decide) (Nat.le_of_ble_eq_true rfl) (Nat.le_of_ble_eq_true rfl) dX12_init_293 51 (by decide) (hts _ ww_f51) rfl rfl (tyX12_ok 51 (by decide)) dX12_init_295 ?_
  clear hP hD hS hK
  intro q35 c35 H35 lo35 hK hP hD hS
  obtain ⟨ts35, et35⟩ : ∃ z, z = ts34 ++ [(c35, .boolean)] := ⟨_, rfl⟩
  rw [← et35] at hK
  obtain ⟨cs35, ec35⟩ : ∃ z : va_W, z = cs34 ++ [(q35, .inl (c35, 60, .inl (fun _ => 0)))] := ⟨_, rfl⟩
  rw [← ec35] at hP hD
  obtain ⟨fs36, ef36⟩ : ∃ z, z = fs35.set 51 (.ref q35) := ⟨_, rfl⟩
  rw [← ef36] at hP hD
  replace hlen : fs36.length = 149 := by rw [ef36, List.length_set]; exact hlen
  refine lv_aload_n hx hb dX12_init_298 rfl (lv_at hl 0 rfl) ?_
  refine lv_bipush hx hb dX12_init_299 (v := 60) rfl ?_
  refine ia_arr (atype := .boolean) (ty := .boolean) (a0 := (60, .inl (fun _ => 0))) (nw := 60) hx hb hts hin hown hnm hA hlen hK hP hD hS har_Z rfl (fun cA => ia_Z cA 60) (by decide) (by decide) (by decide) (Nat.le_of_ble_eq_true rfl) (Nat.le_of_ble_eq_true rfl) dX12_init_301 52 (by decide) (hts _ ww_f52) rfl rfl (tyX12_ok 52 (by decide)) dX12_init_303 ?_
  clear hP hD hS hK
  intro q36 c36 H36 lo36 hK hP hD hS
  obtain ⟨ts36, et36⟩ : ∃ z, z = ts35 ++ [(c36, .boolean)] := ⟨_, rfl⟩
  rw [← et36] at hK
  obtain ⟨cs36, ec36⟩ : ∃ z : va_W, z = cs35 ++ [(q36, .inl (c36, 60, .inl (fun _ => 0)))] := ⟨_, rfl⟩
  rw [← ec36] at hP hD
  obtain ⟨fs37, ef37⟩ : ∃ z, z = fs36.set 52 (.ref q36) := ⟨_, rfl⟩
  rw [← ef37] at hP hD
  replace hlen : fs37.length = 149 := by rw [ef37, List.length_set]; exact hlen
  refine lv_aload_n hx hb dX12_init_306 rfl (lv_at hl 0 rfl) ?_
  refine lv_bipush hx hb dX12_init_307 (v := 60) rfl ?_
  refine ia_arr (atype := .boolean) (ty := .boolean) (a0 := (60, .inl (fun _ => 0))) (nw := 60) hx hb hts hin hown hnm hA hlen hK hP hD hS har_Z rfl (fun cA => ia_Z cA 60) (by decide) (by decide) (by decide) (Nat.le_of_ble_eq_true rfl) (Nat.le_of_ble_eq_true rfl) dX12_init_309 53 (by decide) (hts _ ww_f53) rfl rfl (tyX12_ok 53 (by decide)) dX12_init_311 ?_
  clear hP hD hS hK
  intro q37 c37 H37 lo37 hK hP hD hS
  obtain ⟨ts37, et37⟩ : ∃ z, z = ts36 ++ [(c37, .boolean)] := ⟨_, rfl⟩
  rw [← et37] at hK
  obtain ⟨cs37, ec37⟩ : ∃ z : va_W, z = cs36 ++ [(q37, .inl (c37, 60, .inl (fun _ => 0)))] := ⟨_, rfl⟩
  rw [← ec37] at hP hD
  obtain ⟨fs38, ef38⟩ : ∃ z, z = fs37.set 53 (.ref q37) := ⟨_, rfl⟩
  rw [← ef38] at hP hD
  replace hlen : fs38.length = 149 := by rw [ef38, List.length_set]; exact hlen
  refine lv_aload_n hx hb dX12_init_314 rfl (lv_at hl 0 rfl) ?_
  refine lv_bipush hx hb dX12_init_315 (v := 100) rfl ?_
  refine ia_arr (atype := .int) (ty := .int) (a0 := (100, .inl (fun _ => 0))) (nw := 100) hx hb hts hin hown hnm hA hlen hK hP hD hS har_I rfl (fun cA => ia_I cA 100) (by decide) (by decide) (by decide) (Nat.le_of_ble_eq_true rfl) (Nat.le_of_ble_eq_true rfl) dX12_init_317 55 (by decide) (hts _ ww_f55) rfl rfl (tyX12_ok 55 (by decide)) dX12_init_319 ?_
  clear hP hD hS hK
  intro q38 c38 H38 lo38 hK hP hD hS
  obtain ⟨ts38, et38⟩ : ∃ z, z = ts37 ++ [(c38, .int)] := ⟨_, rfl⟩
  rw [← et38] at hK
  obtain ⟨cs38, ec38⟩ : ∃ z : va_W, z = cs37 ++ [(q38, .inl (c38, 100, .inl (fun _ => 0)))] := ⟨_, rfl⟩
  rw [← ec38] at hP hD
  obtain ⟨fs39, ef39⟩ : ∃ z, z = fs38.set 55 (.ref q38) := ⟨_, rfl⟩
  rw [← ef39] at hP hD
  replace hlen : fs39.length = 149 := by rw [ef39, List.length_set]; exact hlen
  refine lv_aload_n hx hb dX12_init_322 rfl (lv_at hl 0 rfl) ?_
  refine lv_bipush hx hb dX12_init_323 (v := 100) rfl ?_
  refine ia_arr (atype := .int) (ty := .int) (a0 := (100, .inl (fun _ => 0))) (nw := 100) hx hb hts hin hown hnm hA hlen hK hP hD hS har_I rfl (fun cA => ia_I cA 100) (by decide) (by decide) (by decide) (Nat.le_of_ble_eq_true rfl) (Nat.le_of_ble_eq_true rfl) dX12_init_325 56 (by decide) (hts _ ww_f56) rfl rfl (tyX12_ok 56 (by decide)) dX12_init_327 ?_
  clear hP hD hS hK
  intro q39 c39 H39 lo39 hK hP hD hS
  obtain ⟨ts39, et39⟩ : ∃ z, z = ts38 ++ [(c39, .int)] := ⟨_, rfl⟩
  rw [← et39] at hK
  obtain ⟨cs39, ec39⟩ : ∃ z : va_W, z = cs38 ++ [(q39, .inl (c39, 100, .inl (fun _ => 0)))] := ⟨_, rfl⟩
  rw [← ec39] at hP hD
  obtain ⟨fs40, ef40⟩ : ∃ z, z = fs39.set 56 (.ref q39) := ⟨_, rfl⟩
  rw [← ef40] at hP hD
  replace hlen : fs40.length = 149 := by rw [ef40, List.length_set]; exact hlen
  refine lv_aload_n hx hb dX12_init_330 rfl (lv_at hl 0 rfl) ?_
  refine lv_iconst hx hb dX12_init_331 (v := (-1)) rfl ?_
  refine va_put (D := D) (ci := 12) (v := .int (-1)) (ty := .int) (C := RX12) (T := TX12) (N := 149) hx hb hts hin tyX12 tyX12_ok nmX12 hown hK hP hD hS 0 rfl rfl 57 (by decide) (hts _ ww_f57) (fun _ h9 => h9) rfl (tyX12_ok 57 (by decide)) rfl rfl (by rw [hlen]; decide) dX12_init_332 ?_
  clear hP hD hS
  intro G40 go40 hP hD hS
  obtain ⟨fs41, ef41⟩ : ∃ z, z = fs40.set 57 (.int (-1)) := ⟨_, rfl⟩
  replace hP : va_P D vwCl ((h0, .inr (12, fs41)) :: cs39) G40 := by rw [ef41]; exact hP
  replace hD : va_D A ((h0, .inr (12, fs41)) :: cs39) := by rw [ef41]; exact hD
  replace hlen : fs41.length = 149 := by rw [ef41, List.length_set]; exact hlen
  refine lv_aload_n hx hb dX12_init_335 rfl (lv_at hl 0 rfl) ?_
  refine lv_sipush hx hb dX12_init_336 (v := 1000) rfl ?_
  refine va_put (D := D) (ci := 12) (v := .int 1000) (ty := .int) (C := RX12) (T := TX12) (N := 149) hx hb hts hin tyX12 tyX12_ok nmX12 hown hK hP hD hS 0 rfl rfl 59 (by decide) (hts _ ww_f59) (fun _ h9 => h9) rfl (tyX12_ok 59 (by decide)) rfl rfl (by rw [hlen]; decide) dX12_init_339 ?_
  clear hP hD hS
  intro G41 go41 hP hD hS
  obtain ⟨fs42, ef42⟩ : ∃ z, z = fs41.set 59 (.int 1000) := ⟨_, rfl⟩
  replace hP : va_P D vwCl ((h0, .inr (12, fs42)) :: cs39) G41 := by rw [ef42]; exact hP
  replace hD : va_D A ((h0, .inr (12, fs42)) :: cs39) := by rw [ef42]; exact hD
  replace hlen : fs42.length = 149 := by rw [ef42, List.length_set]; exact hlen
  refine lv_aload_n hx hb dX12_init_342 rfl (lv_at hl 0 rfl) ?_
  refine lv_sipush hx hb dX12_init_343 (v := 200) rfl ?_
  refine ia_arr (atype := .int) (ty := .int) (a0 := (200, .inl (fun _ => 0))) (nw := 200) hx hb hts hin hown hnm hA hlen hK hP hD hS har_I rfl (fun cA => ia_I cA 200) (by decide) (by decide) (by decide) (Nat.le_of_ble_eq_true rfl) (Nat.le_of_ble_eq_true rfl) dX12_init_346 65 (by decide) (hts _ ww_f65) rfl rfl (tyX12_ok 65 (by decide)) dX12_init_348 ?_
  clear hP hD hS hK
  intro q40 c40 H40 lo40 hK hP hD hS
  obtain ⟨ts40, et40⟩ : ∃ z, z = ts39 ++ [(c40, .int)] := ⟨_, rfl⟩
  rw [← et40] at hK
  obtain ⟨cs40, ec40⟩ : ∃ z : va_W, z = cs39 ++ [(q40, .inl (c40, 200, .inl (fun _ => 0)))] := ⟨_, rfl⟩
  rw [← ec40] at hP hD
  obtain ⟨fs43, ef43⟩ : ∃ z, z = fs42.set 65 (.ref q40) := ⟨_, rfl⟩
  rw [← ef43] at hP hD
  replace hlen : fs43.length = 149 := by rw [ef43, List.length_set]; exact hlen
  have eF43 : fs43 = [.ref q1, .ref q2, .ref q3, .ref q4, .ref q5, .ref q6, .int 0, .ref q7, .int 0, .ref q8, .ref q9, .int 0, .ref q10, .ref q11, .int 0, .ref q12, .int 0, .ref q13, .int 0, .ref q14, .int 0, .ref q15, .int 0, .int 0, .int 0, .int (-1), .ref q16, .ref q17, .ref q18, .ref q19, .int 0, .ref q20, .int 0, .int 0, .int 0, .int 0, .ref q21, .ref q22, .ref q23, .ref q24, .ref q25, .ref q26, .int 0, .ref q27, .ref q28, .ref q29, .ref q30, .ref q31, .ref q32, .ref q33, .ref q34, .ref q35, .ref q36, .ref q37, .int 0, .ref q38, .ref q39, .int (-1), .int 0, .int 1000, .int 0, .int 0, .int 0, .int 0, .int 0, .ref q40, .null, .null, .null, .int 0, .null, .int 0, .null, .null, .int 0, .null, .int 0, .null, .int 0, .null, .null, .null, .null, .null, .null, .int 0, .null, .int 0, .int 0, .int 0, .int 0, .int 0, .null, .null, .null, .null, .null, .null, .null, .null, .null, .null, .int 0, .null, .int 0, .null, .null, .null, .null, .int 0, .int 0, .int 0, .null, .null, .null, .null, .null, .int 0, .null, .int 0, .null, .null, .int 0, .null, .null, .null, .int 0, .null, .null, .null, .null, .int 0, .int 0, .int 0, .int 0, .int 0, .int 0, .null, .null, .int 0, .null, .null, .null, .null, .int 0, .null, .null, .int 0, .int 0] := by
    rw [ef43, ef42, ef41, ef40, ef39, ef38, ef37, ef36, ef35, ef34, eF33]
    rfl
  have eC40 : cs40 = [(q1, .inl (c1, 452000, .inl (fun _ => 0))), (q2, .inl (c2, 452000, .inl (fun _ => 0))), (q3, .inl (c3, 452000, .inl (fun _ => 0))), (q4, .inl (c4, 452000, .inl (fun _ => 0))), (q5, .inl (c5, 452000, .inl (fun _ => 0))), (q6, .inl (c6, 40000, .inr (.inl (fun _ => 0)))), (q7, .inl (c7, 8192, .inl (fun _ => 0))), (q8, .inl (c8, 252000, .inl (fun _ => 0))), (q9, .inl (c9, 21000, .inl (fun _ => 0))), (q10, .inl (c10, 20, .inl (fun _ => 0))), (q11, .inl (c11, 3000, .inl (fun _ => 0))), (q12, .inl (c12, 2000, .inl (fun _ => 0))), (q13, .inl (c13, 12, .inl (fun _ => 0))), (q14, .inl (c14, 4000, .inl (fun _ => 0))), (q15, .inl (c15, 200, .inl (fun _ => 0))), (q16, .inl (c16, 40, .inl (fun _ => 0))), (q17, .inl (c17, 40, .inl (fun _ => 0))), (q18, .inl (c18, 40, .inl (fun _ => 0))), (q19, .inl (c19, 40, .inl (fun _ => 0))), (q20, .inl (c20, 1100, .inl (fun _ => 0))), (q21, .inl (c21, 40, .inl (fun _ => 0))), (q22, .inl (c22, 40, .inl (fun _ => 0))), (q23, .inl (c23, 240, .inl (fun _ => 0))), (q24, .inl (c24, 40, .inl (fun _ => 0))), (q25, .inl (c25, 40, .inl (fun _ => 0))), (q26, .inl (c26, 40, .inl (fun _ => 0))), (q27, .inl (c27, 60, .inl (fun _ => 0))), (q28, .inl (c28, 60, .inl (fun _ => 0))), (q29, .inl (c29, 60, .inl (fun _ => 0))), (q30, .inl (c30, 60, .inl (fun _ => 0))), (q31, .inl (c31, 60, .inl (fun _ => 0))), (q32, .inl (c32, 60, .inl (fun _ => 0))), (q33, .inl (c33, 7200, .inl (fun _ => 0))), (q34, .inl (c34, 60, .inl (fun _ => 0))), (q35, .inl (c35, 60, .inl (fun _ => 0))), (q36, .inl (c36, 60, .inl (fun _ => 0))), (q37, .inl (c37, 60, .inl (fun _ => 0))), (q38, .inl (c38, 100, .inl (fun _ => 0))), (q39, .inl (c39, 100, .inl (fun _ => 0))), (q40, .inl (c40, 200, .inl (fun _ => 0)))] := by
    rw [ec40, ec39, ec38, ec37, ec36, ec35, ec34, ec33, eC32]
    rfl
  have eT40 : ts40 = [(c1, .int), (c2, .int), (c3, .int), (c4, .int), (c5, .int), (c6, .long), (c7, .int), (c8, .int), (c9, .int), (c10, .int), (c11, .int), (c12, .int), (c13, .int), (c14, .int), (c15, .int), (c16, .int), (c17, .int), (c18, .int), (c19, .int), (c20, .int), (c21, .int), (c22, .int), (c23, .int), (c24, .int), (c25, .int), (c26, .boolean), (c27, .int), (c28, .int), (c29, .int), (c30, .int), (c31, .int), (c32, .int), (c33, .int), (c34, .boolean), (c35, .boolean), (c36, .boolean), (c37, .boolean), (c38, .int), (c39, .int), (c40, .int)] := by
    rw [et40, et39, et38, et37, et36, et35, et34, et33, eT32]
    rfl
  clear ec40 et40 ec39 et39 ec38 et38 ec37 et37 ec36 et36 ec35 et35 ec34 et34 ec33 et33 eC32 eT32
  clear ef43 ef42 ef41 ef40 ef39 ef38 ef37 ef36 ef35 ef34 eF33
  refine lv_aload_n hx hb dX12_init_351 rfl (lv_at hl 0 rfl) ?_
  refine lv_sipush hx hb dX12_init_352 (v := 1200) rfl ?_
  refine ia_arr (atype := .int) (ty := .int) (a0 := (1200, .inl (fun _ => 0))) (nw := 1200) hx hb hts hin hown hnm hA hlen hK hP hD hS har_I rfl (fun cA => ia_I cA 1200) (by decide) (by decide) (by decide) (Nat.le_of_ble_eq_true rfl) (Nat.le_of_ble_eq_true rfl) dX12_init_355 66 (by decide) (hts _ ww_f66) rfl rfl (tyX12_ok 66 (by decide)) dX12_init_357 ?_
  clear hP hD hS hK
  intro q41 c41 H41 lo41 hK hP hD hS
  obtain ⟨ts41, et41⟩ : ∃ z, z = ts40 ++ [(c41, .int)] := ⟨_, rfl⟩
  rw [← et41] at hK
  obtain ⟨cs41, ec41⟩ : ∃ z : va_W, z = cs40 ++ [(q41, .inl (c41, 1200, .inl (fun _ => 0)))] := ⟨_, rfl⟩
  rw [← ec41] at hP hD
  obtain ⟨fs44, ef44⟩ : ∃ z, z = fs43.set 66 (.ref q41) := ⟨_, rfl⟩
  rw [← ef44] at hP hD
  replace hlen : fs44.length = 149 := by rw [ef44, List.length_set]; exact hlen
  refine lv_aload_n hx hb dX12_init_360 rfl (lv_at hl 0 rfl) ?_
  refine lv_sipush hx hb dX12_init_361 (v := 1200) rfl ?_
  refine ia_arr (atype := .int) (ty := .int) (a0 := (1200, .inl (fun _ => 0))) (nw := 1200) hx hb hts hin hown hnm hA hlen hK hP hD hS har_I rfl (fun cA => ia_I cA 1200) (by decide) (by decide) (by decide) (Nat.le_of_ble_eq_true rfl) (Nat.le_of_ble_eq_true rfl) dX12_init_364 67 (by decide) (hts _ ww_f67) rfl rfl (tyX12_ok 67 (by decide)) dX12_init_366 ?_
  clear hP hD hS hK
  intro q42 c42 H42 lo42 hK hP hD hS
  obtain ⟨ts42, et42⟩ : ∃ z, z = ts41 ++ [(c42, .int)] := ⟨_, rfl⟩
  rw [← et42] at hK
  obtain ⟨cs42, ec42⟩ : ∃ z : va_W, z = cs41 ++ [(q42, .inl (c42, 1200, .inl (fun _ => 0)))] := ⟨_, rfl⟩
  rw [← ec42] at hP hD
  obtain ⟨fs45, ef45⟩ : ∃ z, z = fs44.set 67 (.ref q42) := ⟨_, rfl⟩
  rw [← ef45] at hP hD
  replace hlen : fs45.length = 149 := by rw [ef45, List.length_set]; exact hlen
  refine lv_aload_n hx hb dX12_init_369 rfl (lv_at hl 0 rfl) ?_
  refine lv_sipush hx hb dX12_init_370 (v := 1200) rfl ?_
  refine ia_arr (atype := .int) (ty := .int) (a0 := (1200, .inl (fun _ => 0))) (nw := 1200) hx hb hts hin hown hnm hA hlen hK hP hD hS har_I rfl (fun cA => ia_I cA 1200) (by decide) (by decide) (by decide) (Nat.le_of_ble_eq_true rfl) (Nat.le_of_ble_eq_true rfl) dX12_init_373 68 (by decide) (hts _ ww_f68) rfl rfl (tyX12_ok 68 (by decide)) dX12_init_375 ?_
  clear hP hD hS hK
  intro q43 c43 H43 lo43 hK hP hD hS
  obtain ⟨ts43, et43⟩ : ∃ z, z = ts42 ++ [(c43, .int)] := ⟨_, rfl⟩
  rw [← et43] at hK
  obtain ⟨cs43, ec43⟩ : ∃ z : va_W, z = cs42 ++ [(q43, .inl (c43, 1200, .inl (fun _ => 0)))] := ⟨_, rfl⟩
  rw [← ec43] at hP hD
  obtain ⟨fs46, ef46⟩ : ∃ z, z = fs45.set 68 (.ref q43) := ⟨_, rfl⟩
  rw [← ef46] at hP hD
  replace hlen : fs46.length = 149 := by rw [ef46, List.length_set]; exact hlen
  refine lv_aload_n hx hb dX12_init_378 rfl (lv_at hl 0 rfl) ?_
  refine lv_sipush hx hb dX12_init_379 (v := 2400) rfl ?_
  refine ia_arr (atype := .int) (ty := .int) (a0 := (2400, .inl (fun _ => 0))) (nw := 2400) hx hb hts hin hown hnm hA hlen hK hP hD hS har_I rfl (fun cA => ia_I cA 2400) (by decide) (by decide) (by decide) (Nat.le_of_ble_eq_true rfl) (Nat.le_of_ble_eq_true rfl) dX12_init_382 70 (by decide) (hts _ ww_f70) rfl rfl (tyX12_ok 70 (by decide)) dX12_init_384 ?_
  clear hP hD hS hK
  intro q44 c44 H44 lo44 hK hP hD hS
  obtain ⟨ts44, et44⟩ : ∃ z, z = ts43 ++ [(c44, .int)] := ⟨_, rfl⟩
  rw [← et44] at hK
  obtain ⟨cs44, ec44⟩ : ∃ z : va_W, z = cs43 ++ [(q44, .inl (c44, 2400, .inl (fun _ => 0)))] := ⟨_, rfl⟩
  rw [← ec44] at hP hD
  obtain ⟨fs47, ef47⟩ : ∃ z, z = fs46.set 70 (.ref q44) := ⟨_, rfl⟩
  rw [← ef47] at hP hD
  replace hlen : fs47.length = 149 := by rw [ef47, List.length_set]; exact hlen
  refine lv_aload_n hx hb dX12_init_387 rfl (lv_at hl 0 rfl) ?_
  refine lv_sipush hx hb dX12_init_388 (v := 400) rfl ?_
  refine ia_arr (atype := .int) (ty := .int) (a0 := (400, .inl (fun _ => 0))) (nw := 400) hx hb hts hin hown hnm hA hlen hK hP hD hS har_I rfl (fun cA => ia_I cA 400) (by decide) (by decide) (by decide) (Nat.le_of_ble_eq_true rfl) (Nat.le_of_ble_eq_true rfl) dX12_init_391 72 (by decide) (hts _ ww_f72) rfl rfl (tyX12_ok 72 (by decide)) dX12_init_393 ?_
  clear hP hD hS hK
  intro q45 c45 H45 lo45 hK hP hD hS
  obtain ⟨ts45, et45⟩ : ∃ z, z = ts44 ++ [(c45, .int)] := ⟨_, rfl⟩
  rw [← et45] at hK
  obtain ⟨cs45, ec45⟩ : ∃ z : va_W, z = cs44 ++ [(q45, .inl (c45, 400, .inl (fun _ => 0)))] := ⟨_, rfl⟩
  rw [← ec45] at hP hD
  obtain ⟨fs48, ef48⟩ : ∃ z, z = fs47.set 72 (.ref q45) := ⟨_, rfl⟩
  rw [← ef48] at hP hD
  replace hlen : fs48.length = 149 := by rw [ef48, List.length_set]; exact hlen
  refine lv_aload_n hx hb dX12_init_396 rfl (lv_at hl 0 rfl) ?_
  refine lv_sipush hx hb dX12_init_397 (v := 400) rfl ?_
  refine ia_arr (atype := .int) (ty := .int) (a0 := (400, .inl (fun _ => 0))) (nw := 400) hx hb hts hin hown hnm hA hlen hK hP hD hS har_I rfl (fun cA => ia_I cA 400) (by decide) (by decide) (by decide) (Nat.le_of_ble_eq_true rfl) (Nat.le_of_ble_eq_true rfl) dX12_init_400 73 (by decide) (hts _ ww_f73) rfl rfl (tyX12_ok 73 (by decide)) dX12_init_402 ?_
  clear hP hD hS hK
  intro q46 c46 H46 lo46 hK hP hD hS
  obtain ⟨ts46, et46⟩ : ∃ z, z = ts45 ++ [(c46, .int)] := ⟨_, rfl⟩
  rw [← et46] at hK
  obtain ⟨cs46, ec46⟩ : ∃ z : va_W, z = cs45 ++ [(q46, .inl (c46, 400, .inl (fun _ => 0)))] := ⟨_, rfl⟩
  rw [← ec46] at hP hD
  obtain ⟨fs49, ef49⟩ : ∃ z, z = fs48.set 73 (.ref q46) := ⟨_, rfl⟩
  rw [← ef49] at hP hD
  replace hlen : fs49.length = 149 := by rw [ef49, List.length_set]; exact hlen
  refine lv_aload_n hx hb dX12_init_405 rfl (lv_at hl 0 rfl) ?_
  refine lv_sipush hx hb dX12_init_406 (v := 400) rfl ?_
  refine ia_arr (atype := .int) (ty := .int) (a0 := (400, .inl (fun _ => 0))) (nw := 400) hx hb hts hin hown hnm hA hlen hK hP hD hS har_I rfl (fun cA => ia_I cA 400) (by decide) (by decide) (by decide) (Nat.le_of_ble_eq_true rfl) (Nat.le_of_ble_eq_true rfl) dX12_init_409 75 (by decide) (hts _ ww_f75) rfl rfl (tyX12_ok 75 (by decide)) dX12_init_411 ?_
  clear hP hD hS hK
  intro q47 c47 H47 lo47 hK hP hD hS
  obtain ⟨ts47, et47⟩ : ∃ z, z = ts46 ++ [(c47, .int)] := ⟨_, rfl⟩
  rw [← et47] at hK
  obtain ⟨cs47, ec47⟩ : ∃ z : va_W, z = cs46 ++ [(q47, .inl (c47, 400, .inl (fun _ => 0)))] := ⟨_, rfl⟩
  rw [← ec47] at hP hD
  obtain ⟨fs50, ef50⟩ : ∃ z, z = fs49.set 75 (.ref q47) := ⟨_, rfl⟩
  rw [← ef50] at hP hD
  replace hlen : fs50.length = 149 := by rw [ef50, List.length_set]; exact hlen
  refine lv_aload_n hx hb dX12_init_414 rfl (lv_at hl 0 rfl) ?_
  refine lv_sipush hx hb dX12_init_415 (v := 130) rfl ?_
  refine ia_arr (atype := .int) (ty := .int) (a0 := (130, .inl (fun _ => 0))) (nw := 130) hx hb hts hin hown hnm hA hlen hK hP hD hS har_I rfl (fun cA => ia_I cA 130) (by decide) (by decide) (by decide) (Nat.le_of_ble_eq_true rfl) (Nat.le_of_ble_eq_true rfl) dX12_init_418 77 (by decide) (hts _ ww_f77) rfl rfl (tyX12_ok 77 (by decide)) dX12_init_420 ?_
  clear hP hD hS hK
  intro q48 c48 H48 lo48 hK hP hD hS
  obtain ⟨ts48, et48⟩ : ∃ z, z = ts47 ++ [(c48, .int)] := ⟨_, rfl⟩
  rw [← et48] at hK
  obtain ⟨cs48, ec48⟩ : ∃ z : va_W, z = cs47 ++ [(q48, .inl (c48, 130, .inl (fun _ => 0)))] := ⟨_, rfl⟩
  rw [← ec48] at hP hD
  obtain ⟨fs51, ef51⟩ : ∃ z, z = fs50.set 77 (.ref q48) := ⟨_, rfl⟩
  rw [← ef51] at hP hD
  replace hlen : fs51.length = 149 := by rw [ef51, List.length_set]; exact hlen
  have eF51 : fs51 = [.ref q1, .ref q2, .ref q3, .ref q4, .ref q5, .ref q6, .int 0, .ref q7, .int 0, .ref q8, .ref q9, .int 0, .ref q10, .ref q11, .int 0, .ref q12, .int 0, .ref q13, .int 0, .ref q14, .int 0, .ref q15, .int 0, .int 0, .int 0, .int (-1), .ref q16, .ref q17, .ref q18, .ref q19, .int 0, .ref q20, .int 0, .int 0, .int 0, .int 0, .ref q21, .ref q22, .ref q23, .ref q24, .ref q25, .ref q26, .int 0, .ref q27, .ref q28, .ref q29, .ref q30, .ref q31, .ref q32, .ref q33, .ref q34, .ref q35, .ref q36, .ref q37, .int 0, .ref q38, .ref q39, .int (-1), .int 0, .int 1000, .int 0, .int 0, .int 0, .int 0, .int 0, .ref q40, .ref q41, .ref q42, .ref q43, .int 0, .ref q44, .int 0, .ref q45, .ref q46, .int 0, .ref q47, .int 0, .ref q48, .int 0, .null, .null, .null, .null, .null, .null, .int 0, .null, .int 0, .int 0, .int 0, .int 0, .int 0, .null, .null, .null, .null, .null, .null, .null, .null, .null, .null, .int 0, .null, .int 0, .null, .null, .null, .null, .int 0, .int 0, .int 0, .null, .null, .null, .null, .null, .int 0, .null, .int 0, .null, .null, .int 0, .null, .null, .null, .int 0, .null, .null, .null, .null, .int 0, .int 0, .int 0, .int 0, .int 0, .int 0, .null, .null, .int 0, .null, .null, .null, .null, .int 0, .null, .null, .int 0, .int 0] := by
    rw [ef51, ef50, ef49, ef48, ef47, ef46, ef45, ef44, eF43]
    rfl
  have eC48 : cs48 = [(q1, .inl (c1, 452000, .inl (fun _ => 0))), (q2, .inl (c2, 452000, .inl (fun _ => 0))), (q3, .inl (c3, 452000, .inl (fun _ => 0))), (q4, .inl (c4, 452000, .inl (fun _ => 0))), (q5, .inl (c5, 452000, .inl (fun _ => 0))), (q6, .inl (c6, 40000, .inr (.inl (fun _ => 0)))), (q7, .inl (c7, 8192, .inl (fun _ => 0))), (q8, .inl (c8, 252000, .inl (fun _ => 0))), (q9, .inl (c9, 21000, .inl (fun _ => 0))), (q10, .inl (c10, 20, .inl (fun _ => 0))), (q11, .inl (c11, 3000, .inl (fun _ => 0))), (q12, .inl (c12, 2000, .inl (fun _ => 0))), (q13, .inl (c13, 12, .inl (fun _ => 0))), (q14, .inl (c14, 4000, .inl (fun _ => 0))), (q15, .inl (c15, 200, .inl (fun _ => 0))), (q16, .inl (c16, 40, .inl (fun _ => 0))), (q17, .inl (c17, 40, .inl (fun _ => 0))), (q18, .inl (c18, 40, .inl (fun _ => 0))), (q19, .inl (c19, 40, .inl (fun _ => 0))), (q20, .inl (c20, 1100, .inl (fun _ => 0))), (q21, .inl (c21, 40, .inl (fun _ => 0))), (q22, .inl (c22, 40, .inl (fun _ => 0))), (q23, .inl (c23, 240, .inl (fun _ => 0))), (q24, .inl (c24, 40, .inl (fun _ => 0))), (q25, .inl (c25, 40, .inl (fun _ => 0))), (q26, .inl (c26, 40, .inl (fun _ => 0))), (q27, .inl (c27, 60, .inl (fun _ => 0))), (q28, .inl (c28, 60, .inl (fun _ => 0))), (q29, .inl (c29, 60, .inl (fun _ => 0))), (q30, .inl (c30, 60, .inl (fun _ => 0))), (q31, .inl (c31, 60, .inl (fun _ => 0))), (q32, .inl (c32, 60, .inl (fun _ => 0))), (q33, .inl (c33, 7200, .inl (fun _ => 0))), (q34, .inl (c34, 60, .inl (fun _ => 0))), (q35, .inl (c35, 60, .inl (fun _ => 0))), (q36, .inl (c36, 60, .inl (fun _ => 0))), (q37, .inl (c37, 60, .inl (fun _ => 0))), (q38, .inl (c38, 100, .inl (fun _ => 0))), (q39, .inl (c39, 100, .inl (fun _ => 0))), (q40, .inl (c40, 200, .inl (fun _ => 0))), (q41, .inl (c41, 1200, .inl (fun _ => 0))), (q42, .inl (c42, 1200, .inl (fun _ => 0))), (q43, .inl (c43, 1200, .inl (fun _ => 0))), (q44, .inl (c44, 2400, .inl (fun _ => 0))), (q45, .inl (c45, 400, .inl (fun _ => 0))), (q46, .inl (c46, 400, .inl (fun _ => 0))), (q47, .inl (c47, 400, .inl (fun _ => 0))), (q48, .inl (c48, 130, .inl (fun _ => 0)))] := by
    rw [ec48, ec47, ec46, ec45, ec44, ec43, ec42, ec41, eC40]
    rfl
  have eT48 : ts48 = [(c1, .int), (c2, .int), (c3, .int), (c4, .int), (c5, .int), (c6, .long), (c7, .int), (c8, .int), (c9, .int), (c10, .int), (c11, .int), (c12, .int), (c13, .int), (c14, .int), (c15, .int), (c16, .int), (c17, .int), (c18, .int), (c19, .int), (c20, .int), (c21, .int), (c22, .int), (c23, .int), (c24, .int), (c25, .int), (c26, .boolean), (c27, .int), (c28, .int), (c29, .int), (c30, .int), (c31, .int), (c32, .int), (c33, .int), (c34, .boolean), (c35, .boolean), (c36, .boolean), (c37, .boolean), (c38, .int), (c39, .int), (c40, .int), (c41, .int), (c42, .int), (c43, .int), (c44, .int), (c45, .int), (c46, .int), (c47, .int), (c48, .int)] := by
    rw [et48, et47, et46, et45, et44, et43, et42, et41, eT40]
    rfl
  clear ec48 et48 ec47 et47 ec46 et46 ec45 et45 ec44 et44 ec43 et43 ec42 et42 ec41 et41 eC40 eT40
  clear ef51 ef50 ef49 ef48 ef47 ef46 ef45 ef44 eF43
  refine lv_aload_n hx hb dX12_init_423 rfl (lv_at hl 0 rfl) ?_
  refine lv_sipush hx hb dX12_init_424 (v := 300) rfl ?_
  refine ia_arr (atype := .int) (ty := .int) (a0 := (300, .inl (fun _ => 0))) (nw := 300) hx hb hts hin hown hnm hA hlen hK hP hD hS har_I rfl (fun cA => ia_I cA 300) (by decide) (by decide) (by decide) (Nat.le_of_ble_eq_true rfl) (Nat.le_of_ble_eq_true rfl) dX12_init_427 79 (by decide) (hts _ ww_f79) rfl rfl (tyX12_ok 79 (by decide)) dX12_init_429 ?_
  clear hP hD hS hK
  intro q49 c49 H49 lo49 hK hP hD hS
  obtain ⟨ts49, et49⟩ : ∃ z, z = ts48 ++ [(c49, .int)] := ⟨_, rfl⟩
  rw [← et49] at hK
  obtain ⟨cs49, ec49⟩ : ∃ z : va_W, z = cs48 ++ [(q49, .inl (c49, 300, .inl (fun _ => 0)))] := ⟨_, rfl⟩
  rw [← ec49] at hP hD
  obtain ⟨fs52, ef52⟩ : ∃ z, z = fs51.set 79 (.ref q49) := ⟨_, rfl⟩
  rw [← ef52] at hP hD
  replace hlen : fs52.length = 149 := by rw [ef52, List.length_set]; exact hlen
  refine lv_aload_n hx hb dX12_init_432 rfl (lv_at hl 0 rfl) ?_
  refine lv_sipush hx hb dX12_init_433 (v := 300) rfl ?_
  refine ia_arr (atype := .int) (ty := .int) (a0 := (300, .inl (fun _ => 0))) (nw := 300) hx hb hts hin hown hnm hA hlen hK hP hD hS har_I rfl (fun cA => ia_I cA 300) (by decide) (by decide) (by decide) (Nat.le_of_ble_eq_true rfl) (Nat.le_of_ble_eq_true rfl) dX12_init_436 80 (by decide) (hts _ ww_f80) rfl rfl (tyX12_ok 80 (by decide)) dX12_init_438 ?_
  clear hP hD hS hK
  intro q50 c50 H50 lo50 hK hP hD hS
  obtain ⟨ts50, et50⟩ : ∃ z, z = ts49 ++ [(c50, .int)] := ⟨_, rfl⟩
  rw [← et50] at hK
  obtain ⟨cs50, ec50⟩ : ∃ z : va_W, z = cs49 ++ [(q50, .inl (c50, 300, .inl (fun _ => 0)))] := ⟨_, rfl⟩
  rw [← ec50] at hP hD
  obtain ⟨fs53, ef53⟩ : ∃ z, z = fs52.set 80 (.ref q50) := ⟨_, rfl⟩
  rw [← ef53] at hP hD
  replace hlen : fs53.length = 149 := by rw [ef53, List.length_set]; exact hlen
  refine lv_aload_n hx hb dX12_init_441 rfl (lv_at hl 0 rfl) ?_
  refine lv_sipush hx hb dX12_init_442 (v := 300) rfl ?_
  refine ia_arr (atype := .int) (ty := .int) (a0 := (300, .inl (fun _ => 0))) (nw := 300) hx hb hts hin hown hnm hA hlen hK hP hD hS har_I rfl (fun cA => ia_I cA 300) (by decide) (by decide) (by decide) (Nat.le_of_ble_eq_true rfl) (Nat.le_of_ble_eq_true rfl) dX12_init_445 81 (by decide) (hts _ ww_f81) rfl rfl (tyX12_ok 81 (by decide)) dX12_init_447 ?_
  clear hP hD hS hK
  intro q51 c51 H51 lo51 hK hP hD hS
  obtain ⟨ts51, et51⟩ : ∃ z, z = ts50 ++ [(c51, .int)] := ⟨_, rfl⟩
  rw [← et51] at hK
  obtain ⟨cs51, ec51⟩ : ∃ z : va_W, z = cs50 ++ [(q51, .inl (c51, 300, .inl (fun _ => 0)))] := ⟨_, rfl⟩
  rw [← ec51] at hP hD
  obtain ⟨fs54, ef54⟩ : ∃ z, z = fs53.set 81 (.ref q51) := ⟨_, rfl⟩
  rw [← ef54] at hP hD
  replace hlen : fs54.length = 149 := by rw [ef54, List.length_set]; exact hlen
  refine lv_aload_n hx hb dX12_init_450 rfl (lv_at hl 0 rfl) ?_
  refine lv_sipush hx hb dX12_init_451 (v := 300) rfl ?_
  refine ia_arr (atype := .int) (ty := .int) (a0 := (300, .inl (fun _ => 0))) (nw := 300) hx hb hts hin hown hnm hA hlen hK hP hD hS har_I rfl (fun cA => ia_I cA 300) (by decide) (by decide) (by decide) (Nat.le_of_ble_eq_true rfl) (Nat.le_of_ble_eq_true rfl) dX12_init_454 82 (by decide) (hts _ ww_f82) rfl rfl (tyX12_ok 82 (by decide)) dX12_init_456 ?_
  clear hP hD hS hK
  intro q52 c52 H52 lo52 hK hP hD hS
  obtain ⟨ts52, et52⟩ : ∃ z, z = ts51 ++ [(c52, .int)] := ⟨_, rfl⟩
  rw [← et52] at hK
  obtain ⟨cs52, ec52⟩ : ∃ z : va_W, z = cs51 ++ [(q52, .inl (c52, 300, .inl (fun _ => 0)))] := ⟨_, rfl⟩
  rw [← ec52] at hP hD
  obtain ⟨fs55, ef55⟩ : ∃ z, z = fs54.set 82 (.ref q52) := ⟨_, rfl⟩
  rw [← ef55] at hP hD
  replace hlen : fs55.length = 149 := by rw [ef55, List.length_set]; exact hlen
  refine lv_aload_n hx hb dX12_init_459 rfl (lv_at hl 0 rfl) ?_
  refine lv_sipush hx hb dX12_init_460 (v := 300) rfl ?_
  refine ia_arr (atype := .int) (ty := .int) (a0 := (300, .inl (fun _ => 0))) (nw := 300) hx hb hts hin hown hnm hA hlen hK hP hD hS har_I rfl (fun cA => ia_I cA 300) (by decide) (by decide) (by decide) (Nat.le_of_ble_eq_true rfl) (Nat.le_of_ble_eq_true rfl) dX12_init_463 83 (by decide) (hts _ ww_f83) rfl rfl (tyX12_ok 83 (by decide)) dX12_init_465 ?_
  clear hP hD hS hK
  intro q53 c53 H53 lo53 hK hP hD hS
  obtain ⟨ts53, et53⟩ : ∃ z, z = ts52 ++ [(c53, .int)] := ⟨_, rfl⟩
  rw [← et53] at hK
  obtain ⟨cs53, ec53⟩ : ∃ z : va_W, z = cs52 ++ [(q53, .inl (c53, 300, .inl (fun _ => 0)))] := ⟨_, rfl⟩
  rw [← ec53] at hP hD
  obtain ⟨fs56, ef56⟩ : ∃ z, z = fs55.set 83 (.ref q53) := ⟨_, rfl⟩
  rw [← ef56] at hP hD
  replace hlen : fs56.length = 149 := by rw [ef56, List.length_set]; exact hlen
  refine lv_aload_n hx hb dX12_init_468 rfl (lv_at hl 0 rfl) ?_
  refine lv_sipush hx hb dX12_init_469 (v := 300) rfl ?_
  refine ia_arr (atype := .boolean) (ty := .boolean) (a0 := (300, .inl (fun _ => 0))) (nw := 300) hx hb hts hin hown hnm hA hlen hK hP hD hS har_Z rfl (fun cA => ia_Z cA 300) (by decide) (by decide) (by decide) (Nat.le_of_ble_eq_true rfl) (Nat.le_of_ble_eq_true rfl) dX12_init_472 84 (by decide) (hts _ ww_f84) rfl rfl (tyX12_ok 84 (by decide)) dX12_init_474 ?_
  clear hP hD hS hK
  intro q54 c54 H54 lo54 hK hP hD hS
  obtain ⟨ts54, et54⟩ : ∃ z, z = ts53 ++ [(c54, .boolean)] := ⟨_, rfl⟩
  rw [← et54] at hK
  obtain ⟨cs54, ec54⟩ : ∃ z : va_W, z = cs53 ++ [(q54, .inl (c54, 300, .inl (fun _ => 0)))] := ⟨_, rfl⟩
  rw [← ec54] at hP hD
  obtain ⟨fs57, ef57⟩ : ∃ z, z = fs56.set 84 (.ref q54) := ⟨_, rfl⟩
  rw [← ef57] at hP hD
  replace hlen : fs57.length = 149 := by rw [ef57, List.length_set]; exact hlen
  refine lv_aload_n hx hb dX12_init_477 rfl (lv_at hl 0 rfl) ?_
  refine lv_sipush hx hb dX12_init_478 (v := 2400) rfl ?_
  refine ia_arr (atype := .int) (ty := .int) (a0 := (2400, .inl (fun _ => 0))) (nw := 2400) hx hb hts hin hown hnm hA hlen hK hP hD hS har_I rfl (fun cA => ia_I cA 2400) (by decide) (by decide) (by decide) (Nat.le_of_ble_eq_true rfl) (Nat.le_of_ble_eq_true rfl) dX12_init_481 86 (by decide) (hts _ ww_f86) rfl rfl (tyX12_ok 86 (by decide)) dX12_init_483 ?_
  clear hP hD hS hK
  intro q55 c55 H55 lo55 hK hP hD hS
  obtain ⟨ts55, et55⟩ : ∃ z, z = ts54 ++ [(c55, .int)] := ⟨_, rfl⟩
  rw [← et55] at hK
  obtain ⟨cs55, ec55⟩ : ∃ z : va_W, z = cs54 ++ [(q55, .inl (c55, 2400, .inl (fun _ => 0)))] := ⟨_, rfl⟩
  rw [← ec55] at hP hD
  obtain ⟨fs58, ef58⟩ : ∃ z, z = fs57.set 86 (.ref q55) := ⟨_, rfl⟩
  rw [← ef58] at hP hD
  replace hlen : fs58.length = 149 := by rw [ef58, List.length_set]; exact hlen
  refine lv_aload_n hx hb dX12_init_486 rfl (lv_at hl 0 rfl) ?_
  refine lv_bipush hx hb dX12_init_487 (v := 60) rfl ?_
  refine ia_arr (atype := .int) (ty := .int) (a0 := (60, .inl (fun _ => 0))) (nw := 60) hx hb hts hin hown hnm hA hlen hK hP hD hS har_I rfl (fun cA => ia_I cA 60) (by decide) (by decide) (by decide) (Nat.le_of_ble_eq_true rfl) (Nat.le_of_ble_eq_true rfl) dX12_init_489 92 (by decide) (hts _ ww_f92) rfl rfl (tyX12_ok 92 (by decide)) dX12_init_491 ?_
  clear hP hD hS hK
  intro q56 c56 H56 lo56 hK hP hD hS
  obtain ⟨ts56, et56⟩ : ∃ z, z = ts55 ++ [(c56, .int)] := ⟨_, rfl⟩
  rw [← et56] at hK
  obtain ⟨cs56, ec56⟩ : ∃ z : va_W, z = cs55 ++ [(q56, .inl (c56, 60, .inl (fun _ => 0)))] := ⟨_, rfl⟩
  rw [← ec56] at hP hD
  obtain ⟨fs59, ef59⟩ : ∃ z, z = fs58.set 92 (.ref q56) := ⟨_, rfl⟩
  rw [← ef59] at hP hD
  replace hlen : fs59.length = 149 := by rw [ef59, List.length_set]; exact hlen
  have eF59 : fs59 = [.ref q1, .ref q2, .ref q3, .ref q4, .ref q5, .ref q6, .int 0, .ref q7, .int 0, .ref q8, .ref q9, .int 0, .ref q10, .ref q11, .int 0, .ref q12, .int 0, .ref q13, .int 0, .ref q14, .int 0, .ref q15, .int 0, .int 0, .int 0, .int (-1), .ref q16, .ref q17, .ref q18, .ref q19, .int 0, .ref q20, .int 0, .int 0, .int 0, .int 0, .ref q21, .ref q22, .ref q23, .ref q24, .ref q25, .ref q26, .int 0, .ref q27, .ref q28, .ref q29, .ref q30, .ref q31, .ref q32, .ref q33, .ref q34, .ref q35, .ref q36, .ref q37, .int 0, .ref q38, .ref q39, .int (-1), .int 0, .int 1000, .int 0, .int 0, .int 0, .int 0, .int 0, .ref q40, .ref q41, .ref q42, .ref q43, .int 0, .ref q44, .int 0, .ref q45, .ref q46, .int 0, .ref q47, .int 0, .ref q48, .int 0, .ref q49, .ref q50, .ref q51, .ref q52, .ref q53, .ref q54, .int 0, .ref q55, .int 0, .int 0, .int 0, .int 0, .int 0, .ref q56, .null, .null, .null, .null, .null, .null, .null, .null, .null, .int 0, .null, .int 0, .null, .null, .null, .null, .int 0, .int 0, .int 0, .null, .null, .null, .null, .null, .int 0, .null, .int 0, .null, .null, .int 0, .null, .null, .null, .int 0, .null, .null, .null, .null, .int 0, .int 0, .int 0, .int 0, .int 0, .int 0, .null, .null, .int 0, .null, .null, .null, .null, .int 0, .null, .null, .int 0, .int 0] := by
    rw [ef59, ef58, ef57, ef56, ef55, ef54, ef53, ef52, eF51]
    rfl
  have eC56 : cs56 = [(q1, .inl (c1, 452000, .inl (fun _ => 0))), (q2, .inl (c2, 452000, .inl (fun _ => 0))), (q3, .inl (c3, 452000, .inl (fun _ => 0))), (q4, .inl (c4, 452000, .inl (fun _ => 0))), (q5, .inl (c5, 452000, .inl (fun _ => 0))), (q6, .inl (c6, 40000, .inr (.inl (fun _ => 0)))), (q7, .inl (c7, 8192, .inl (fun _ => 0))), (q8, .inl (c8, 252000, .inl (fun _ => 0))), (q9, .inl (c9, 21000, .inl (fun _ => 0))), (q10, .inl (c10, 20, .inl (fun _ => 0))), (q11, .inl (c11, 3000, .inl (fun _ => 0))), (q12, .inl (c12, 2000, .inl (fun _ => 0))), (q13, .inl (c13, 12, .inl (fun _ => 0))), (q14, .inl (c14, 4000, .inl (fun _ => 0))), (q15, .inl (c15, 200, .inl (fun _ => 0))), (q16, .inl (c16, 40, .inl (fun _ => 0))), (q17, .inl (c17, 40, .inl (fun _ => 0))), (q18, .inl (c18, 40, .inl (fun _ => 0))), (q19, .inl (c19, 40, .inl (fun _ => 0))), (q20, .inl (c20, 1100, .inl (fun _ => 0))), (q21, .inl (c21, 40, .inl (fun _ => 0))), (q22, .inl (c22, 40, .inl (fun _ => 0))), (q23, .inl (c23, 240, .inl (fun _ => 0))), (q24, .inl (c24, 40, .inl (fun _ => 0))), (q25, .inl (c25, 40, .inl (fun _ => 0))), (q26, .inl (c26, 40, .inl (fun _ => 0))), (q27, .inl (c27, 60, .inl (fun _ => 0))), (q28, .inl (c28, 60, .inl (fun _ => 0))), (q29, .inl (c29, 60, .inl (fun _ => 0))), (q30, .inl (c30, 60, .inl (fun _ => 0))), (q31, .inl (c31, 60, .inl (fun _ => 0))), (q32, .inl (c32, 60, .inl (fun _ => 0))), (q33, .inl (c33, 7200, .inl (fun _ => 0))), (q34, .inl (c34, 60, .inl (fun _ => 0))), (q35, .inl (c35, 60, .inl (fun _ => 0))), (q36, .inl (c36, 60, .inl (fun _ => 0))), (q37, .inl (c37, 60, .inl (fun _ => 0))), (q38, .inl (c38, 100, .inl (fun _ => 0))), (q39, .inl (c39, 100, .inl (fun _ => 0))), (q40, .inl (c40, 200, .inl (fun _ => 0))), (q41, .inl (c41, 1200, .inl (fun _ => 0))), (q42, .inl (c42, 1200, .inl (fun _ => 0))), (q43, .inl (c43, 1200, .inl (fun _ => 0))), (q44, .inl (c44, 2400, .inl (fun _ => 0))), (q45, .inl (c45, 400, .inl (fun _ => 0))), (q46, .inl (c46, 400, .inl (fun _ => 0))), (q47, .inl (c47, 400, .inl (fun _ => 0))), (q48, .inl (c48, 130, .inl (fun _ => 0))), (q49, .inl (c49, 300, .inl (fun _ => 0))), (q50, .inl (c50, 300, .inl (fun _ => 0))), (q51, .inl (c51, 300, .inl (fun _ => 0))), (q52, .inl (c52, 300, .inl (fun _ => 0))), (q53, .inl (c53, 300, .inl (fun _ => 0))), (q54, .inl (c54, 300, .inl (fun _ => 0))), (q55, .inl (c55, 2400, .inl (fun _ => 0))), (q56, .inl (c56, 60, .inl (fun _ => 0)))] := by
    rw [ec56, ec55, ec54, ec53, ec52, ec51, ec50, ec49, eC48]
    rfl
  have eT56 : ts56 = [(c1, .int), (c2, .int), (c3, .int), (c4, .int), (c5, .int), (c6, .long), (c7, .int), (c8, .int), (c9, .int), (c10, .int), (c11, .int), (c12, .int), (c13, .int), (c14, .int), (c15, .int), (c16, .int), (c17, .int), (c18, .int), (c19, .int), (c20, .int), (c21, .int), (c22, .int), (c23, .int), (c24, .int), (c25, .int), (c26, .boolean), (c27, .int), (c28, .int), (c29, .int), (c30, .int), (c31, .int), (c32, .int), (c33, .int), (c34, .boolean), (c35, .boolean), (c36, .boolean), (c37, .boolean), (c38, .int), (c39, .int), (c40, .int), (c41, .int), (c42, .int), (c43, .int), (c44, .int), (c45, .int), (c46, .int), (c47, .int), (c48, .int), (c49, .int), (c50, .int), (c51, .int), (c52, .int), (c53, .int), (c54, .boolean), (c55, .int), (c56, .int)] := by
    rw [et56, et55, et54, et53, et52, et51, et50, et49, eT48]
    rfl
  clear ec56 et56 ec55 et55 ec54 et54 ec53 et53 ec52 et52 ec51 et51 ec50 et50 ec49 et49 eC48 eT48
  clear ef59 ef58 ef57 ef56 ef55 ef54 ef53 ef52 eF51
  refine lv_aload_n hx hb dX12_init_494 rfl (lv_at hl 0 rfl) ?_
  refine lv_bipush hx hb dX12_init_495 (v := 60) rfl ?_
  refine ia_arr (atype := .boolean) (ty := .boolean) (a0 := (60, .inl (fun _ => 0))) (nw := 60) hx hb hts hin hown hnm hA hlen hK hP hD hS har_Z rfl (fun cA => ia_Z cA 60) (by decide) (by decide) (by decide) (Nat.le_of_ble_eq_true rfl) (Nat.le_of_ble_eq_true rfl) dX12_init_497 93 (by decide) (hts _ ww_f93) rfl rfl (tyX12_ok 93 (by decide)) dX12_init_499 ?_
  clear hP hD hS hK
  intro q57 c57 H57 lo57 hK hP hD hS
  obtain ⟨ts57, et57⟩ : ∃ z, z = ts56 ++ [(c57, .boolean)] := ⟨_, rfl⟩
  rw [← et57] at hK
  obtain ⟨cs57, ec57⟩ : ∃ z : va_W, z = cs56 ++ [(q57, .inl (c57, 60, .inl (fun _ => 0)))] := ⟨_, rfl⟩
  rw [← ec57] at hP hD
  obtain ⟨fs60, ef60⟩ : ∃ z, z = fs59.set 93 (.ref q57) := ⟨_, rfl⟩
  rw [← ef60] at hP hD
  replace hlen : fs60.length = 149 := by rw [ef60, List.length_set]; exact hlen
  refine lv_aload_n hx hb dX12_init_502 rfl (lv_at hl 0 rfl) ?_
  refine lv_bipush hx hb dX12_init_503 (v := 60) rfl ?_
  refine ia_arr (atype := .int) (ty := .int) (a0 := (60, .inl (fun _ => 0))) (nw := 60) hx hb hts hin hown hnm hA hlen hK hP hD hS har_I rfl (fun cA => ia_I cA 60) (by decide) (by decide) (by decide) (Nat.le_of_ble_eq_true rfl) (Nat.le_of_ble_eq_true rfl) dX12_init_505 94 (by decide) (hts _ ww_f94) rfl rfl (tyX12_ok 94 (by decide)) dX12_init_507 ?_
  clear hP hD hS hK
  intro q58 c58 H58 lo58 hK hP hD hS
  obtain ⟨ts58, et58⟩ : ∃ z, z = ts57 ++ [(c58, .int)] := ⟨_, rfl⟩
  rw [← et58] at hK
  obtain ⟨cs58, ec58⟩ : ∃ z : va_W, z = cs57 ++ [(q58, .inl (c58, 60, .inl (fun _ => 0)))] := ⟨_, rfl⟩
  rw [← ec58] at hP hD
  obtain ⟨fs61, ef61⟩ : ∃ z, z = fs60.set 94 (.ref q58) := ⟨_, rfl⟩
  rw [← ef61] at hP hD
  replace hlen : fs61.length = 149 := by rw [ef61, List.length_set]; exact hlen
  refine lv_aload_n hx hb dX12_init_510 rfl (lv_at hl 0 rfl) ?_
  refine lv_bipush hx hb dX12_init_511 (v := 60) rfl ?_
  refine ia_arr (atype := .int) (ty := .int) (a0 := (60, .inl (fun _ => 0))) (nw := 60) hx hb hts hin hown hnm hA hlen hK hP hD hS har_I rfl (fun cA => ia_I cA 60) (by decide) (by decide) (by decide) (Nat.le_of_ble_eq_true rfl) (Nat.le_of_ble_eq_true rfl) dX12_init_513 95 (by decide) (hts _ ww_f95) rfl rfl (tyX12_ok 95 (by decide)) dX12_init_515 ?_
  clear hP hD hS hK
  intro q59 c59 H59 lo59 hK hP hD hS
  obtain ⟨ts59, et59⟩ : ∃ z, z = ts58 ++ [(c59, .int)] := ⟨_, rfl⟩
  rw [← et59] at hK
  obtain ⟨cs59, ec59⟩ : ∃ z : va_W, z = cs58 ++ [(q59, .inl (c59, 60, .inl (fun _ => 0)))] := ⟨_, rfl⟩
  rw [← ec59] at hP hD
  obtain ⟨fs62, ef62⟩ : ∃ z, z = fs61.set 95 (.ref q59) := ⟨_, rfl⟩
  rw [← ef62] at hP hD
  replace hlen : fs62.length = 149 := by rw [ef62, List.length_set]; exact hlen
  refine lv_aload_n hx hb dX12_init_518 rfl (lv_at hl 0 rfl) ?_
  refine lv_bipush hx hb dX12_init_519 (v := 60) rfl ?_
  refine ia_arr (atype := .int) (ty := .int) (a0 := (60, .inl (fun _ => 0))) (nw := 60) hx hb hts hin hown hnm hA hlen hK hP hD hS har_I rfl (fun cA => ia_I cA 60) (by decide) (by decide) (by decide) (Nat.le_of_ble_eq_true rfl) (Nat.le_of_ble_eq_true rfl) dX12_init_521 96 (by decide) (hts _ ww_f96) rfl rfl (tyX12_ok 96 (by decide)) dX12_init_523 ?_
  clear hP hD hS hK
  intro q60 c60 H60 lo60 hK hP hD hS
  obtain ⟨ts60, et60⟩ : ∃ z, z = ts59 ++ [(c60, .int)] := ⟨_, rfl⟩
  rw [← et60] at hK
  obtain ⟨cs60, ec60⟩ : ∃ z : va_W, z = cs59 ++ [(q60, .inl (c60, 60, .inl (fun _ => 0)))] := ⟨_, rfl⟩
  rw [← ec60] at hP hD
  obtain ⟨fs63, ef63⟩ : ∃ z, z = fs62.set 96 (.ref q60) := ⟨_, rfl⟩
  rw [← ef63] at hP hD
  replace hlen : fs63.length = 149 := by rw [ef63, List.length_set]; exact hlen
  refine lv_aload_n hx hb dX12_init_526 rfl (lv_at hl 0 rfl) ?_
  refine lv_bipush hx hb dX12_init_527 (v := 60) rfl ?_
  refine ia_arr (atype := .int) (ty := .int) (a0 := (60, .inl (fun _ => 0))) (nw := 60) hx hb hts hin hown hnm hA hlen hK hP hD hS har_I rfl (fun cA => ia_I cA 60) (by decide) (by decide) (by decide) (Nat.le_of_ble_eq_true rfl) (Nat.le_of_ble_eq_true rfl) dX12_init_529 97 (by decide) (hts _ ww_f97) rfl rfl (tyX12_ok 97 (by decide)) dX12_init_531 ?_
  clear hP hD hS hK
  intro q61 c61 H61 lo61 hK hP hD hS
  obtain ⟨ts61, et61⟩ : ∃ z, z = ts60 ++ [(c61, .int)] := ⟨_, rfl⟩
  rw [← et61] at hK
  obtain ⟨cs61, ec61⟩ : ∃ z : va_W, z = cs60 ++ [(q61, .inl (c61, 60, .inl (fun _ => 0)))] := ⟨_, rfl⟩
  rw [← ec61] at hP hD
  obtain ⟨fs64, ef64⟩ : ∃ z, z = fs63.set 97 (.ref q61) := ⟨_, rfl⟩
  rw [← ef64] at hP hD
  replace hlen : fs64.length = 149 := by rw [ef64, List.length_set]; exact hlen
  refine lv_aload_n hx hb dX12_init_534 rfl (lv_at hl 0 rfl) ?_
  refine lv_bipush hx hb dX12_init_535 (v := 60) rfl ?_
  refine ia_arr (atype := .int) (ty := .int) (a0 := (60, .inl (fun _ => 0))) (nw := 60) hx hb hts hin hown hnm hA hlen hK hP hD hS har_I rfl (fun cA => ia_I cA 60) (by decide) (by decide) (by decide) (Nat.le_of_ble_eq_true rfl) (Nat.le_of_ble_eq_true rfl) dX12_init_537 98 (by decide) (hts _ ww_f98) rfl rfl (tyX12_ok 98 (by decide)) dX12_init_539 ?_
  clear hP hD hS hK
  intro q62 c62 H62 lo62 hK hP hD hS
  obtain ⟨ts62, et62⟩ : ∃ z, z = ts61 ++ [(c62, .int)] := ⟨_, rfl⟩
  rw [← et62] at hK
  obtain ⟨cs62, ec62⟩ : ∃ z : va_W, z = cs61 ++ [(q62, .inl (c62, 60, .inl (fun _ => 0)))] := ⟨_, rfl⟩
  rw [← ec62] at hP hD
  obtain ⟨fs65, ef65⟩ : ∃ z, z = fs64.set 98 (.ref q62) := ⟨_, rfl⟩
  rw [← ef65] at hP hD
  replace hlen : fs65.length = 149 := by rw [ef65, List.length_set]; exact hlen
  refine lv_aload_n hx hb dX12_init_542 rfl (lv_at hl 0 rfl) ?_
  refine lv_bipush hx hb dX12_init_543 (v := 60) rfl ?_
  refine ia_arr (atype := .int) (ty := .int) (a0 := (60, .inl (fun _ => 0))) (nw := 60) hx hb hts hin hown hnm hA hlen hK hP hD hS har_I rfl (fun cA => ia_I cA 60) (by decide) (by decide) (by decide) (Nat.le_of_ble_eq_true rfl) (Nat.le_of_ble_eq_true rfl) dX12_init_545 99 (by decide) (hts _ ww_f99) rfl rfl (tyX12_ok 99 (by decide)) dX12_init_547 ?_
  clear hP hD hS hK
  intro q63 c63 H63 lo63 hK hP hD hS
  obtain ⟨ts63, et63⟩ : ∃ z, z = ts62 ++ [(c63, .int)] := ⟨_, rfl⟩
  rw [← et63] at hK
  obtain ⟨cs63, ec63⟩ : ∃ z : va_W, z = cs62 ++ [(q63, .inl (c63, 60, .inl (fun _ => 0)))] := ⟨_, rfl⟩
  rw [← ec63] at hP hD
  obtain ⟨fs66, ef66⟩ : ∃ z, z = fs65.set 99 (.ref q63) := ⟨_, rfl⟩
  rw [← ef66] at hP hD
  replace hlen : fs66.length = 149 := by rw [ef66, List.length_set]; exact hlen
  refine lv_aload_n hx hb dX12_init_550 rfl (lv_at hl 0 rfl) ?_
  refine lv_bipush hx hb dX12_init_551 (v := 60) rfl ?_
  refine ia_arr (atype := .int) (ty := .int) (a0 := (60, .inl (fun _ => 0))) (nw := 60) hx hb hts hin hown hnm hA hlen hK hP hD hS har_I rfl (fun cA => ia_I cA 60) (by decide) (by decide) (by decide) (Nat.le_of_ble_eq_true rfl) (Nat.le_of_ble_eq_true rfl) dX12_init_553 100 (by decide) (hts _ ww_f100) rfl rfl (tyX12_ok 100 (by decide)) dX12_init_555 ?_
  clear hP hD hS hK
  intro q64 c64 H64 lo64 hK hP hD hS
  obtain ⟨ts64, et64⟩ : ∃ z, z = ts63 ++ [(c64, .int)] := ⟨_, rfl⟩
  rw [← et64] at hK
  obtain ⟨cs64, ec64⟩ : ∃ z : va_W, z = cs63 ++ [(q64, .inl (c64, 60, .inl (fun _ => 0)))] := ⟨_, rfl⟩
  rw [← ec64] at hP hD
  obtain ⟨fs67, ef67⟩ : ∃ z, z = fs66.set 100 (.ref q64) := ⟨_, rfl⟩
  rw [← ef67] at hP hD
  replace hlen : fs67.length = 149 := by rw [ef67, List.length_set]; exact hlen
  have eF67 : fs67 = [.ref q1, .ref q2, .ref q3, .ref q4, .ref q5, .ref q6, .int 0, .ref q7, .int 0, .ref q8, .ref q9, .int 0, .ref q10, .ref q11, .int 0, .ref q12, .int 0, .ref q13, .int 0, .ref q14, .int 0, .ref q15, .int 0, .int 0, .int 0, .int (-1), .ref q16, .ref q17, .ref q18, .ref q19, .int 0, .ref q20, .int 0, .int 0, .int 0, .int 0, .ref q21, .ref q22, .ref q23, .ref q24, .ref q25, .ref q26, .int 0, .ref q27, .ref q28, .ref q29, .ref q30, .ref q31, .ref q32, .ref q33, .ref q34, .ref q35, .ref q36, .ref q37, .int 0, .ref q38, .ref q39, .int (-1), .int 0, .int 1000, .int 0, .int 0, .int 0, .int 0, .int 0, .ref q40, .ref q41, .ref q42, .ref q43, .int 0, .ref q44, .int 0, .ref q45, .ref q46, .int 0, .ref q47, .int 0, .ref q48, .int 0, .ref q49, .ref q50, .ref q51, .ref q52, .ref q53, .ref q54, .int 0, .ref q55, .int 0, .int 0, .int 0, .int 0, .int 0, .ref q56, .ref q57, .ref q58, .ref q59, .ref q60, .ref q61, .ref q62, .ref q63, .ref q64, .null, .int 0, .null, .int 0, .null, .null, .null, .null, .int 0, .int 0, .int 0, .null, .null, .null, .null, .null, .int 0, .null, .int 0, .null, .null, .int 0, .null, .null, .null, .int 0, .null, .null, .null, .null, .int 0, .int 0, .int 0, .int 0, .int 0, .int 0, .null, .null, .int 0, .null, .null, .null, .null, .int 0, .null, .null, .int 0, .int 0] := by
    rw [ef67, ef66, ef65, ef64, ef63, ef62, ef61, ef60, eF59]
    rfl
  have eC64 : cs64 = [(q1, .inl (c1, 452000, .inl (fun _ => 0))), (q2, .inl (c2, 452000, .inl (fun _ => 0))), (q3, .inl (c3, 452000, .inl (fun _ => 0))), (q4, .inl (c4, 452000, .inl (fun _ => 0))), (q5, .inl (c5, 452000, .inl (fun _ => 0))), (q6, .inl (c6, 40000, .inr (.inl (fun _ => 0)))), (q7, .inl (c7, 8192, .inl (fun _ => 0))), (q8, .inl (c8, 252000, .inl (fun _ => 0))), (q9, .inl (c9, 21000, .inl (fun _ => 0))), (q10, .inl (c10, 20, .inl (fun _ => 0))), (q11, .inl (c11, 3000, .inl (fun _ => 0))), (q12, .inl (c12, 2000, .inl (fun _ => 0))), (q13, .inl (c13, 12, .inl (fun _ => 0))), (q14, .inl (c14, 4000, .inl (fun _ => 0))), (q15, .inl (c15, 200, .inl (fun _ => 0))), (q16, .inl (c16, 40, .inl (fun _ => 0))), (q17, .inl (c17, 40, .inl (fun _ => 0))), (q18, .inl (c18, 40, .inl (fun _ => 0))), (q19, .inl (c19, 40, .inl (fun _ => 0))), (q20, .inl (c20, 1100, .inl (fun _ => 0))), (q21, .inl (c21, 40, .inl (fun _ => 0))), (q22, .inl (c22, 40, .inl (fun _ => 0))), (q23, .inl (c23, 240, .inl (fun _ => 0))), (q24, .inl (c24, 40, .inl (fun _ => 0))), (q25, .inl (c25, 40, .inl (fun _ => 0))), (q26, .inl (c26, 40, .inl (fun _ => 0))), (q27, .inl (c27, 60, .inl (fun _ => 0))), (q28, .inl (c28, 60, .inl (fun _ => 0))), (q29, .inl (c29, 60, .inl (fun _ => 0))), (q30, .inl (c30, 60, .inl (fun _ => 0))), (q31, .inl (c31, 60, .inl (fun _ => 0))), (q32, .inl (c32, 60, .inl (fun _ => 0))), (q33, .inl (c33, 7200, .inl (fun _ => 0))), (q34, .inl (c34, 60, .inl (fun _ => 0))), (q35, .inl (c35, 60, .inl (fun _ => 0))), (q36, .inl (c36, 60, .inl (fun _ => 0))), (q37, .inl (c37, 60, .inl (fun _ => 0))), (q38, .inl (c38, 100, .inl (fun _ => 0))), (q39, .inl (c39, 100, .inl (fun _ => 0))), (q40, .inl (c40, 200, .inl (fun _ => 0))), (q41, .inl (c41, 1200, .inl (fun _ => 0))), (q42, .inl (c42, 1200, .inl (fun _ => 0))), (q43, .inl (c43, 1200, .inl (fun _ => 0))), (q44, .inl (c44, 2400, .inl (fun _ => 0))), (q45, .inl (c45, 400, .inl (fun _ => 0))), (q46, .inl (c46, 400, .inl (fun _ => 0))), (q47, .inl (c47, 400, .inl (fun _ => 0))), (q48, .inl (c48, 130, .inl (fun _ => 0))), (q49, .inl (c49, 300, .inl (fun _ => 0))), (q50, .inl (c50, 300, .inl (fun _ => 0))), (q51, .inl (c51, 300, .inl (fun _ => 0))), (q52, .inl (c52, 300, .inl (fun _ => 0))), (q53, .inl (c53, 300, .inl (fun _ => 0))), (q54, .inl (c54, 300, .inl (fun _ => 0))), (q55, .inl (c55, 2400, .inl (fun _ => 0))), (q56, .inl (c56, 60, .inl (fun _ => 0))), (q57, .inl (c57, 60, .inl (fun _ => 0))), (q58, .inl (c58, 60, .inl (fun _ => 0))), (q59, .inl (c59, 60, .inl (fun _ => 0))), (q60, .inl (c60, 60, .inl (fun _ => 0))), (q61, .inl (c61, 60, .inl (fun _ => 0))), (q62, .inl (c62, 60, .inl (fun _ => 0))), (q63, .inl (c63, 60, .inl (fun _ => 0))), (q64, .inl (c64, 60, .inl (fun _ => 0)))] := by
    rw [ec64, ec63, ec62, ec61, ec60, ec59, ec58, ec57, eC56]
    rfl
  have eT64 : ts64 = [(c1, .int), (c2, .int), (c3, .int), (c4, .int), (c5, .int), (c6, .long), (c7, .int), (c8, .int), (c9, .int), (c10, .int), (c11, .int), (c12, .int), (c13, .int), (c14, .int), (c15, .int), (c16, .int), (c17, .int), (c18, .int), (c19, .int), (c20, .int), (c21, .int), (c22, .int), (c23, .int), (c24, .int), (c25, .int), (c26, .boolean), (c27, .int), (c28, .int), (c29, .int), (c30, .int), (c31, .int), (c32, .int), (c33, .int), (c34, .boolean), (c35, .boolean), (c36, .boolean), (c37, .boolean), (c38, .int), (c39, .int), (c40, .int), (c41, .int), (c42, .int), (c43, .int), (c44, .int), (c45, .int), (c46, .int), (c47, .int), (c48, .int), (c49, .int), (c50, .int), (c51, .int), (c52, .int), (c53, .int), (c54, .boolean), (c55, .int), (c56, .int), (c57, .boolean), (c58, .int), (c59, .int), (c60, .int), (c61, .int), (c62, .int), (c63, .int), (c64, .int)] := by
    rw [et64, et63, et62, et61, et60, et59, et58, et57, eT56]
    rfl
  clear ec64 et64 ec63 et63 ec62 et62 ec61 et61 ec60 et60 ec59 et59 ec58 et58 ec57 et57 eC56 eT56
  clear ef67 ef66 ef65 ef64 ef63 ef62 ef61 ef60 eF59
  refine lv_aload_n hx hb dX12_init_558 rfl (lv_at hl 0 rfl) ?_
  refine lv_bipush hx hb dX12_init_559 (v := 60) rfl ?_
  refine ia_arr (atype := .int) (ty := .int) (a0 := (60, .inl (fun _ => 0))) (nw := 60) hx hb hts hin hown hnm hA hlen hK hP hD hS har_I rfl (fun cA => ia_I cA 60) (by decide) (by decide) (by decide) (Nat.le_of_ble_eq_true rfl) (Nat.le_of_ble_eq_true rfl) dX12_init_561 101 (by decide) (hts _ ww_f101) rfl rfl (tyX12_ok 101 (by decide)) dX12_init_563 ?_
  clear hP hD hS hK
  intro q65 c65 H65 lo65 hK hP hD hS
  obtain ⟨ts65, et65⟩ : ∃ z, z = ts64 ++ [(c65, .int)] := ⟨_, rfl⟩
  rw [← et65] at hK
  obtain ⟨cs65, ec65⟩ : ∃ z : va_W, z = cs64 ++ [(q65, .inl (c65, 60, .inl (fun _ => 0)))] := ⟨_, rfl⟩
  rw [← ec65] at hP hD
  obtain ⟨fs68, ef68⟩ : ∃ z, z = fs67.set 101 (.ref q65) := ⟨_, rfl⟩
  rw [← ef68] at hP hD
  replace hlen : fs68.length = 149 := by rw [ef68, List.length_set]; exact hlen
  refine lv_aload_n hx hb dX12_init_566 rfl (lv_at hl 0 rfl) ?_
  refine lv_sipush hx hb dX12_init_567 (v := 1200) rfl ?_
  refine ia_arr (atype := .int) (ty := .int) (a0 := (1200, .inl (fun _ => 0))) (nw := 1200) hx hb hts hin hown hnm hA hlen hK hP hD hS har_I rfl (fun cA => ia_I cA 1200) (by decide) (by decide) (by decide) (Nat.le_of_ble_eq_true rfl) (Nat.le_of_ble_eq_true rfl) dX12_init_570 103 (by decide) (hts _ ww_f103) rfl rfl (tyX12_ok 103 (by decide)) dX12_init_572 ?_
  clear hP hD hS hK
  intro q66 c66 H66 lo66 hK hP hD hS
  obtain ⟨ts66, et66⟩ : ∃ z, z = ts65 ++ [(c66, .int)] := ⟨_, rfl⟩
  rw [← et66] at hK
  obtain ⟨cs66, ec66⟩ : ∃ z : va_W, z = cs65 ++ [(q66, .inl (c66, 1200, .inl (fun _ => 0)))] := ⟨_, rfl⟩
  rw [← ec66] at hP hD
  obtain ⟨fs69, ef69⟩ : ∃ z, z = fs68.set 103 (.ref q66) := ⟨_, rfl⟩
  rw [← ef69] at hP hD
  replace hlen : fs69.length = 149 := by rw [ef69, List.length_set]; exact hlen
  refine lv_aload_n hx hb dX12_init_575 rfl (lv_at hl 0 rfl) ?_
  refine lv_sipush hx hb dX12_init_576 (v := 7800) rfl ?_
  refine ia_arr (atype := .int) (ty := .int) (a0 := (7800, .inl (fun _ => 0))) (nw := 7800) hx hb hts hin hown hnm hA hlen hK hP hD hS har_I rfl (fun cA => ia_I cA 7800) (by decide) (by decide) (by decide) (Nat.le_of_ble_eq_true rfl) (Nat.le_of_ble_eq_true rfl) dX12_init_579 105 (by decide) (hts _ ww_f105) rfl rfl (tyX12_ok 105 (by decide)) dX12_init_581 ?_
  clear hP hD hS hK
  intro q67 c67 H67 lo67 hK hP hD hS
  obtain ⟨ts67, et67⟩ : ∃ z, z = ts66 ++ [(c67, .int)] := ⟨_, rfl⟩
  rw [← et67] at hK
  obtain ⟨cs67, ec67⟩ : ∃ z : va_W, z = cs66 ++ [(q67, .inl (c67, 7800, .inl (fun _ => 0)))] := ⟨_, rfl⟩
  rw [← ec67] at hP hD
  obtain ⟨fs70, ef70⟩ : ∃ z, z = fs69.set 105 (.ref q67) := ⟨_, rfl⟩
  rw [← ef70] at hP hD
  replace hlen : fs70.length = 149 := by rw [ef70, List.length_set]; exact hlen
  refine lv_aload_n hx hb dX12_init_584 rfl (lv_at hl 0 rfl) ?_
  refine lv_sipush hx hb dX12_init_585 (v := 7800) rfl ?_
  refine ia_arr (atype := .int) (ty := .int) (a0 := (7800, .inl (fun _ => 0))) (nw := 7800) hx hb hts hin hown hnm hA hlen hK hP hD hS har_I rfl (fun cA => ia_I cA 7800) (by decide) (by decide) (by decide) (Nat.le_of_ble_eq_true rfl) (Nat.le_of_ble_eq_true rfl) dX12_init_588 106 (by decide) (hts _ ww_f106) rfl rfl (tyX12_ok 106 (by decide)) dX12_init_590 ?_
  clear hP hD hS hK
  intro q68 c68 H68 lo68 hK hP hD hS
  obtain ⟨ts68, et68⟩ : ∃ z, z = ts67 ++ [(c68, .int)] := ⟨_, rfl⟩
  rw [← et68] at hK
  obtain ⟨cs68, ec68⟩ : ∃ z : va_W, z = cs67 ++ [(q68, .inl (c68, 7800, .inl (fun _ => 0)))] := ⟨_, rfl⟩
  rw [← ec68] at hP hD
  obtain ⟨fs71, ef71⟩ : ∃ z, z = fs70.set 106 (.ref q68) := ⟨_, rfl⟩
  rw [← ef71] at hP hD
  replace hlen : fs71.length = 149 := by rw [ef71, List.length_set]; exact hlen
  refine lv_aload_n hx hb dX12_init_593 rfl (lv_at hl 0 rfl) ?_
  refine lv_bipush hx hb dX12_init_594 (v := 60) rfl ?_
  refine ia_arr (atype := .int) (ty := .int) (a0 := (60, .inl (fun _ => 0))) (nw := 60) hx hb hts hin hown hnm hA hlen hK hP hD hS har_I rfl (fun cA => ia_I cA 60) (by decide) (by decide) (by decide) (Nat.le_of_ble_eq_true rfl) (Nat.le_of_ble_eq_true rfl) dX12_init_596 107 (by decide) (hts _ ww_f107) rfl rfl (tyX12_ok 107 (by decide)) dX12_init_598 ?_
  clear hP hD hS hK
  intro q69 c69 H69 lo69 hK hP hD hS
  obtain ⟨ts69, et69⟩ : ∃ z, z = ts68 ++ [(c69, .int)] := ⟨_, rfl⟩
  rw [← et69] at hK
  obtain ⟨cs69, ec69⟩ : ∃ z : va_W, z = cs68 ++ [(q69, .inl (c69, 60, .inl (fun _ => 0)))] := ⟨_, rfl⟩
  rw [← ec69] at hP hD
  obtain ⟨fs72, ef72⟩ : ∃ z, z = fs71.set 107 (.ref q69) := ⟨_, rfl⟩
  rw [← ef72] at hP hD
  replace hlen : fs72.length = 149 := by rw [ef72, List.length_set]; exact hlen
  refine lv_aload_n hx hb dX12_init_601 rfl (lv_at hl 0 rfl) ?_
  refine lv_sipush hx hb dX12_init_602 (v := 200) rfl ?_
  refine ia_arr (atype := .int) (ty := .int) (a0 := (200, .inl (fun _ => 0))) (nw := 200) hx hb hts hin hown hnm hA hlen hK hP hD hS har_I rfl (fun cA => ia_I cA 200) (by decide) (by decide) (by decide) (Nat.le_of_ble_eq_true rfl) (Nat.le_of_ble_eq_true rfl) dX12_init_605 108 (by decide) (hts _ ww_f108) rfl rfl (tyX12_ok 108 (by decide)) dX12_init_607 ?_
  clear hP hD hS hK
  intro q70 c70 H70 lo70 hK hP hD hS
  obtain ⟨ts70, et70⟩ : ∃ z, z = ts69 ++ [(c70, .int)] := ⟨_, rfl⟩
  rw [← et70] at hK
  obtain ⟨cs70, ec70⟩ : ∃ z : va_W, z = cs69 ++ [(q70, .inl (c70, 200, .inl (fun _ => 0)))] := ⟨_, rfl⟩
  rw [← ec70] at hP hD
  obtain ⟨fs73, ef73⟩ : ∃ z, z = fs72.set 108 (.ref q70) := ⟨_, rfl⟩
  rw [← ef73] at hP hD
  replace hlen : fs73.length = 149 := by rw [ef73, List.length_set]; exact hlen
  refine lv_aload_n hx hb dX12_init_610 rfl (lv_at hl 0 rfl) ?_
  refine lv_sipush hx hb dX12_init_611 (v := 800) rfl ?_
  refine ia_arr (atype := .int) (ty := .int) (a0 := (800, .inl (fun _ => 0))) (nw := 800) hx hb hts hin hown hnm hA hlen hK hP hD hS har_I rfl (fun cA => ia_I cA 800) (by decide) (by decide) (by decide) (Nat.le_of_ble_eq_true rfl) (Nat.le_of_ble_eq_true rfl) dX12_init_614 112 (by decide) (hts _ ww_f112) rfl rfl (tyX12_ok 112 (by decide)) dX12_init_616 ?_
  clear hP hD hS hK
  intro q71 c71 H71 lo71 hK hP hD hS
  obtain ⟨ts71, et71⟩ : ∃ z, z = ts70 ++ [(c71, .int)] := ⟨_, rfl⟩
  rw [← et71] at hK
  obtain ⟨cs71, ec71⟩ : ∃ z : va_W, z = cs70 ++ [(q71, .inl (c71, 800, .inl (fun _ => 0)))] := ⟨_, rfl⟩
  rw [← ec71] at hP hD
  obtain ⟨fs74, ef74⟩ : ∃ z, z = fs73.set 112 (.ref q71) := ⟨_, rfl⟩
  rw [← ef74] at hP hD
  replace hlen : fs74.length = 149 := by rw [ef74, List.length_set]; exact hlen
  refine lv_aload_n hx hb dX12_init_619 rfl (lv_at hl 0 rfl) ?_
  refine lv_sipush hx hb dX12_init_620 (v := 800) rfl ?_
  refine ia_arr (atype := .int) (ty := .int) (a0 := (800, .inl (fun _ => 0))) (nw := 800) hx hb hts hin hown hnm hA hlen hK hP hD hS har_I rfl (fun cA => ia_I cA 800) (by decide) (by decide) (by decide) (Nat.le_of_ble_eq_true rfl) (Nat.le_of_ble_eq_true rfl) dX12_init_623 113 (by decide) (hts _ ww_f113) rfl rfl (tyX12_ok 113 (by decide)) dX12_init_625 ?_
  clear hP hD hS hK
  intro q72 c72 H72 lo72 hK hP hD hS
  obtain ⟨ts72, et72⟩ : ∃ z, z = ts71 ++ [(c72, .int)] := ⟨_, rfl⟩
  rw [← et72] at hK
  obtain ⟨cs72, ec72⟩ : ∃ z : va_W, z = cs71 ++ [(q72, .inl (c72, 800, .inl (fun _ => 0)))] := ⟨_, rfl⟩
  rw [← ec72] at hP hD
  obtain ⟨fs75, ef75⟩ : ∃ z, z = fs74.set 113 (.ref q72) := ⟨_, rfl⟩
  rw [← ef75] at hP hD
  replace hlen : fs75.length = 149 := by rw [ef75, List.length_set]; exact hlen
  have eF75 : fs75 = [.ref q1, .ref q2, .ref q3, .ref q4, .ref q5, .ref q6, .int 0, .ref q7, .int 0, .ref q8, .ref q9, .int 0, .ref q10, .ref q11, .int 0, .ref q12, .int 0, .ref q13, .int 0, .ref q14, .int 0, .ref q15, .int 0, .int 0, .int 0, .int (-1), .ref q16, .ref q17, .ref q18, .ref q19, .int 0, .ref q20, .int 0, .int 0, .int 0, .int 0, .ref q21, .ref q22, .ref q23, .ref q24, .ref q25, .ref q26, .int 0, .ref q27, .ref q28, .ref q29, .ref q30, .ref q31, .ref q32, .ref q33, .ref q34, .ref q35, .ref q36, .ref q37, .int 0, .ref q38, .ref q39, .int (-1), .int 0, .int 1000, .int 0, .int 0, .int 0, .int 0, .int 0, .ref q40, .ref q41, .ref q42, .ref q43, .int 0, .ref q44, .int 0, .ref q45, .ref q46, .int 0, .ref q47, .int 0, .ref q48, .int 0, .ref q49, .ref q50, .ref q51, .ref q52, .ref q53, .ref q54, .int 0, .ref q55, .int 0, .int 0, .int 0, .int 0, .int 0, .ref q56, .ref q57, .ref q58, .ref q59, .ref q60, .ref q61, .ref q62, .ref q63, .ref q64, .ref q65, .int 0, .ref q66, .int 0, .ref q67, .ref q68, .ref q69, .ref q70, .int 0, .int 0, .int 0, .ref q71, .ref q72, .null, .null, .null, .int 0, .null, .int 0, .null, .null, .int 0, .null, .null, .null, .int 0, .null, .null, .null, .null, .int 0, .int 0, .int 0, .int 0, .int 0, .int 0, .null, .null, .int 0, .null, .null, .null, .null, .int 0, .null, .null, .int 0, .int 0] := by
    rw [ef75, ef74, ef73, ef72, ef71, ef70, ef69, ef68, eF67]
    rfl
  have eC72 : cs72 = [(q1, .inl (c1, 452000, .inl (fun _ => 0))), (q2, .inl (c2, 452000, .inl (fun _ => 0))), (q3, .inl (c3, 452000, .inl (fun _ => 0))), (q4, .inl (c4, 452000, .inl (fun _ => 0))), (q5, .inl (c5, 452000, .inl (fun _ => 0))), (q6, .inl (c6, 40000, .inr (.inl (fun _ => 0)))), (q7, .inl (c7, 8192, .inl (fun _ => 0))), (q8, .inl (c8, 252000, .inl (fun _ => 0))), (q9, .inl (c9, 21000, .inl (fun _ => 0))), (q10, .inl (c10, 20, .inl (fun _ => 0))), (q11, .inl (c11, 3000, .inl (fun _ => 0))), (q12, .inl (c12, 2000, .inl (fun _ => 0))), (q13, .inl (c13, 12, .inl (fun _ => 0))), (q14, .inl (c14, 4000, .inl (fun _ => 0))), (q15, .inl (c15, 200, .inl (fun _ => 0))), (q16, .inl (c16, 40, .inl (fun _ => 0))), (q17, .inl (c17, 40, .inl (fun _ => 0))), (q18, .inl (c18, 40, .inl (fun _ => 0))), (q19, .inl (c19, 40, .inl (fun _ => 0))), (q20, .inl (c20, 1100, .inl (fun _ => 0))), (q21, .inl (c21, 40, .inl (fun _ => 0))), (q22, .inl (c22, 40, .inl (fun _ => 0))), (q23, .inl (c23, 240, .inl (fun _ => 0))), (q24, .inl (c24, 40, .inl (fun _ => 0))), (q25, .inl (c25, 40, .inl (fun _ => 0))), (q26, .inl (c26, 40, .inl (fun _ => 0))), (q27, .inl (c27, 60, .inl (fun _ => 0))), (q28, .inl (c28, 60, .inl (fun _ => 0))), (q29, .inl (c29, 60, .inl (fun _ => 0))), (q30, .inl (c30, 60, .inl (fun _ => 0))), (q31, .inl (c31, 60, .inl (fun _ => 0))), (q32, .inl (c32, 60, .inl (fun _ => 0))), (q33, .inl (c33, 7200, .inl (fun _ => 0))), (q34, .inl (c34, 60, .inl (fun _ => 0))), (q35, .inl (c35, 60, .inl (fun _ => 0))), (q36, .inl (c36, 60, .inl (fun _ => 0))), (q37, .inl (c37, 60, .inl (fun _ => 0))), (q38, .inl (c38, 100, .inl (fun _ => 0))), (q39, .inl (c39, 100, .inl (fun _ => 0))), (q40, .inl (c40, 200, .inl (fun _ => 0))), (q41, .inl (c41, 1200, .inl (fun _ => 0))), (q42, .inl (c42, 1200, .inl (fun _ => 0))), (q43, .inl (c43, 1200, .inl (fun _ => 0))), (q44, .inl (c44, 2400, .inl (fun _ => 0))), (q45, .inl (c45, 400, .inl (fun _ => 0))), (q46, .inl (c46, 400, .inl (fun _ => 0))), (q47, .inl (c47, 400, .inl (fun _ => 0))), (q48, .inl (c48, 130, .inl (fun _ => 0))), (q49, .inl (c49, 300, .inl (fun _ => 0))), (q50, .inl (c50, 300, .inl (fun _ => 0))), (q51, .inl (c51, 300, .inl (fun _ => 0))), (q52, .inl (c52, 300, .inl (fun _ => 0))), (q53, .inl (c53, 300, .inl (fun _ => 0))), (q54, .inl (c54, 300, .inl (fun _ => 0))), (q55, .inl (c55, 2400, .inl (fun _ => 0))), (q56, .inl (c56, 60, .inl (fun _ => 0))), (q57, .inl (c57, 60, .inl (fun _ => 0))), (q58, .inl (c58, 60, .inl (fun _ => 0))), (q59, .inl (c59, 60, .inl (fun _ => 0))), (q60, .inl (c60, 60, .inl (fun _ => 0))), (q61, .inl (c61, 60, .inl (fun _ => 0))), (q62, .inl (c62, 60, .inl (fun _ => 0))), (q63, .inl (c63, 60, .inl (fun _ => 0))), (q64, .inl (c64, 60, .inl (fun _ => 0))), (q65, .inl (c65, 60, .inl (fun _ => 0))), (q66, .inl (c66, 1200, .inl (fun _ => 0))), (q67, .inl (c67, 7800, .inl (fun _ => 0))), (q68, .inl (c68, 7800, .inl (fun _ => 0))), (q69, .inl (c69, 60, .inl (fun _ => 0))), (q70, .inl (c70, 200, .inl (fun _ => 0))), (q71, .inl (c71, 800, .inl (fun _ => 0))), (q72, .inl (c72, 800, .inl (fun _ => 0)))] := by
    rw [ec72, ec71, ec70, ec69, ec68, ec67, ec66, ec65, eC64]
    rfl
  have eT72 : ts72 = [(c1, .int), (c2, .int), (c3, .int), (c4, .int), (c5, .int), (c6, .long), (c7, .int), (c8, .int), (c9, .int), (c10, .int), (c11, .int), (c12, .int), (c13, .int), (c14, .int), (c15, .int), (c16, .int), (c17, .int), (c18, .int), (c19, .int), (c20, .int), (c21, .int), (c22, .int), (c23, .int), (c24, .int), (c25, .int), (c26, .boolean), (c27, .int), (c28, .int), (c29, .int), (c30, .int), (c31, .int), (c32, .int), (c33, .int), (c34, .boolean), (c35, .boolean), (c36, .boolean), (c37, .boolean), (c38, .int), (c39, .int), (c40, .int), (c41, .int), (c42, .int), (c43, .int), (c44, .int), (c45, .int), (c46, .int), (c47, .int), (c48, .int), (c49, .int), (c50, .int), (c51, .int), (c52, .int), (c53, .int), (c54, .boolean), (c55, .int), (c56, .int), (c57, .boolean), (c58, .int), (c59, .int), (c60, .int), (c61, .int), (c62, .int), (c63, .int), (c64, .int), (c65, .int), (c66, .int), (c67, .int), (c68, .int), (c69, .int), (c70, .int), (c71, .int), (c72, .int)] := by
    rw [et72, et71, et70, et69, et68, et67, et66, et65, eT64]
    rfl
  clear ec72 et72 ec71 et71 ec70 et70 ec69 et69 ec68 et68 ec67 et67 ec66 et66 ec65 et65 eC64 eT64
  clear ef75 ef74 ef73 ef72 ef71 ef70 ef69 ef68 eF67
  refine lv_aload_n hx hb dX12_init_628 rfl (lv_at hl 0 rfl) ?_
  refine lv_ldc hx hb hown (hts _ ww_c241) dX12_init_629 ?_
  refine ia_arr (atype := .int) (ty := .int) (a0 := (69000, .inl (fun _ => 0))) (nw := 69000) hx hb hts hin hown hnm hA hlen hK hP hD hS har_I rfl (fun cA => ia_I cA 69000) (by decide) (by decide) (by decide) (Nat.le_of_ble_eq_true rfl) (Nat.le_of_ble_eq_true rfl) dX12_init_631 114 (by decide) (hts _ ww_f114) rfl rfl (tyX12_ok 114 (by decide)) dX12_init_633 ?_
  clear hP hD hS hK
  intro q73 c73 H73 lo73 hK hP hD hS
  obtain ⟨ts73, et73⟩ : ∃ z, z = ts72 ++ [(c73, .int)] := ⟨_, rfl⟩
  rw [← et73] at hK
  obtain ⟨cs73, ec73⟩ : ∃ z : va_W, z = cs72 ++ [(q73, .inl (c73, 69000, .inl (fun _ => 0)))] := ⟨_, rfl⟩
  rw [← ec73] at hP hD
  obtain ⟨fs76, ef76⟩ : ∃ z, z = fs75.set 114 (.ref q73) := ⟨_, rfl⟩
  rw [← ef76] at hP hD
  replace hlen : fs76.length = 149 := by rw [ef76, List.length_set]; exact hlen
  refine lv_aload_n hx hb dX12_init_636 rfl (lv_at hl 0 rfl) ?_
  refine lv_sipush hx hb dX12_init_637 (v := 2300) rfl ?_
  refine ia_arr (atype := .int) (ty := .int) (a0 := (2300, .inl (fun _ => 0))) (nw := 2300) hx hb hts hin hown hnm hA hlen hK hP hD hS har_I rfl (fun cA => ia_I cA 2300) (by decide) (by decide) (by decide) (Nat.le_of_ble_eq_true rfl) (Nat.le_of_ble_eq_true rfl) dX12_init_640 115 (by decide) (hts _ ww_f115) rfl rfl (tyX12_ok 115 (by decide)) dX12_init_642 ?_
  clear hP hD hS hK
  intro q74 c74 H74 lo74 hK hP hD hS
  obtain ⟨ts74, et74⟩ : ∃ z, z = ts73 ++ [(c74, .int)] := ⟨_, rfl⟩
  rw [← et74] at hK
  obtain ⟨cs74, ec74⟩ : ∃ z : va_W, z = cs73 ++ [(q74, .inl (c74, 2300, .inl (fun _ => 0)))] := ⟨_, rfl⟩
  rw [← ec74] at hP hD
  obtain ⟨fs77, ef77⟩ : ∃ z, z = fs76.set 115 (.ref q74) := ⟨_, rfl⟩
  rw [← ef77] at hP hD
  replace hlen : fs77.length = 149 := by rw [ef77, List.length_set]; exact hlen
  refine lv_aload_n hx hb dX12_init_645 rfl (lv_at hl 0 rfl) ?_
  refine lv_sipush hx hb dX12_init_646 (v := 2300) rfl ?_
  refine ia_arr (atype := .int) (ty := .int) (a0 := (2300, .inl (fun _ => 0))) (nw := 2300) hx hb hts hin hown hnm hA hlen hK hP hD hS har_I rfl (fun cA => ia_I cA 2300) (by decide) (by decide) (by decide) (Nat.le_of_ble_eq_true rfl) (Nat.le_of_ble_eq_true rfl) dX12_init_649 116 (by decide) (hts _ ww_f116) rfl rfl (tyX12_ok 116 (by decide)) dX12_init_651 ?_
  clear hP hD hS hK
  intro q75 c75 H75 lo75 hK hP hD hS
  obtain ⟨ts75, et75⟩ : ∃ z, z = ts74 ++ [(c75, .int)] := ⟨_, rfl⟩
  rw [← et75] at hK
  obtain ⟨cs75, ec75⟩ : ∃ z : va_W, z = cs74 ++ [(q75, .inl (c75, 2300, .inl (fun _ => 0)))] := ⟨_, rfl⟩
  rw [← ec75] at hP hD
  obtain ⟨fs78, ef78⟩ : ∃ z, z = fs77.set 116 (.ref q75) := ⟨_, rfl⟩
  rw [← ef78] at hP hD
  replace hlen : fs78.length = 149 := by rw [ef78, List.length_set]; exact hlen
  refine lv_aload_n hx hb dX12_init_654 rfl (lv_at hl 0 rfl) ?_
  refine lv_sipush hx hb dX12_init_655 (v := 2300) rfl ?_
  refine ia_arr (atype := .int) (ty := .int) (a0 := (2300, .inl (fun _ => 0))) (nw := 2300) hx hb hts hin hown hnm hA hlen hK hP hD hS har_I rfl (fun cA => ia_I cA 2300) (by decide) (by decide) (by decide) (Nat.le_of_ble_eq_true rfl) (Nat.le_of_ble_eq_true rfl) dX12_init_658 118 (by decide) (hts _ ww_f118) rfl rfl (tyX12_ok 118 (by decide)) dX12_init_660 ?_
  clear hP hD hS hK
  intro q76 c76 H76 lo76 hK hP hD hS
  obtain ⟨ts76, et76⟩ : ∃ z, z = ts75 ++ [(c76, .int)] := ⟨_, rfl⟩
  rw [← et76] at hK
  obtain ⟨cs76, ec76⟩ : ∃ z : va_W, z = cs75 ++ [(q76, .inl (c76, 2300, .inl (fun _ => 0)))] := ⟨_, rfl⟩
  rw [← ec76] at hP hD
  obtain ⟨fs79, ef79⟩ : ∃ z, z = fs78.set 118 (.ref q76) := ⟨_, rfl⟩
  rw [← ef79] at hP hD
  replace hlen : fs79.length = 149 := by rw [ef79, List.length_set]; exact hlen
  refine lv_aload_n hx hb dX12_init_663 rfl (lv_at hl 0 rfl) ?_
  refine lv_bipush hx hb dX12_init_664 (v := 20) rfl ?_
  refine ia_arr (atype := .int) (ty := .int) (a0 := (20, .inl (fun _ => 0))) (nw := 20) hx hb hts hin hown hnm hA hlen hK hP hD hS har_I rfl (fun cA => ia_I cA 20) (by decide) (by decide) (by decide) (Nat.le_of_ble_eq_true rfl) (Nat.le_of_ble_eq_true rfl) dX12_init_666 120 (by decide) (hts _ ww_f120) rfl rfl (tyX12_ok 120 (by decide)) dX12_init_668 ?_
  clear hP hD hS hK
  intro q77 c77 H77 lo77 hK hP hD hS
  obtain ⟨ts77, et77⟩ : ∃ z, z = ts76 ++ [(c77, .int)] := ⟨_, rfl⟩
  rw [← et77] at hK
  obtain ⟨cs77, ec77⟩ : ∃ z : va_W, z = cs76 ++ [(q77, .inl (c77, 20, .inl (fun _ => 0)))] := ⟨_, rfl⟩
  rw [← ec77] at hP hD
  obtain ⟨fs80, ef80⟩ : ∃ z, z = fs79.set 120 (.ref q77) := ⟨_, rfl⟩
  rw [← ef80] at hP hD
  replace hlen : fs80.length = 149 := by rw [ef80, List.length_set]; exact hlen
  refine lv_aload_n hx hb dX12_init_671 rfl (lv_at hl 0 rfl) ?_
  refine lv_sipush hx hb dX12_init_672 (v := 1200) rfl ?_
  refine ia_arr (atype := .int) (ty := .int) (a0 := (1200, .inl (fun _ => 0))) (nw := 1200) hx hb hts hin hown hnm hA hlen hK hP hD hS har_I rfl (fun cA => ia_I cA 1200) (by decide) (by decide) (by decide) (Nat.le_of_ble_eq_true rfl) (Nat.le_of_ble_eq_true rfl) dX12_init_675 121 (by decide) (hts _ ww_f121) rfl rfl (tyX12_ok 121 (by decide)) dX12_init_677 ?_
  clear hP hD hS hK
  intro q78 c78 H78 lo78 hK hP hD hS
  obtain ⟨ts78, et78⟩ : ∃ z, z = ts77 ++ [(c78, .int)] := ⟨_, rfl⟩
  rw [← et78] at hK
  obtain ⟨cs78, ec78⟩ : ∃ z : va_W, z = cs77 ++ [(q78, .inl (c78, 1200, .inl (fun _ => 0)))] := ⟨_, rfl⟩
  rw [← ec78] at hP hD
  obtain ⟨fs81, ef81⟩ : ∃ z, z = fs80.set 121 (.ref q78) := ⟨_, rfl⟩
  rw [← ef81] at hP hD
  replace hlen : fs81.length = 149 := by rw [ef81, List.length_set]; exact hlen
  refine lv_aload_n hx hb dX12_init_680 rfl (lv_at hl 0 rfl) ?_
  refine lv_sipush hx hb dX12_init_681 (v := 128) rfl ?_
  refine ia_arr (atype := .int) (ty := .int) (a0 := (128, .inl (fun _ => 0))) (nw := 128) hx hb hts hin hown hnm hA hlen hK hP hD hS har_I rfl (fun cA => ia_I cA 128) (by decide) (by decide) (by decide) (Nat.le_of_ble_eq_true rfl) (Nat.le_of_ble_eq_true rfl) dX12_init_684 123 (by decide) (hts _ ww_f123) rfl rfl (tyX12_ok 123 (by decide)) dX12_init_686 ?_
  clear hP hD hS hK
  intro q79 c79 H79 lo79 hK hP hD hS
  obtain ⟨ts79, et79⟩ : ∃ z, z = ts78 ++ [(c79, .int)] := ⟨_, rfl⟩
  rw [← et79] at hK
  obtain ⟨cs79, ec79⟩ : ∃ z : va_W, z = cs78 ++ [(q79, .inl (c79, 128, .inl (fun _ => 0)))] := ⟨_, rfl⟩
  rw [← ec79] at hP hD
  obtain ⟨fs82, ef82⟩ : ∃ z, z = fs81.set 123 (.ref q79) := ⟨_, rfl⟩
  rw [← ef82] at hP hD
  replace hlen : fs82.length = 149 := by rw [ef82, List.length_set]; exact hlen
  refine lv_aload_n hx hb dX12_init_689 rfl (lv_at hl 0 rfl) ?_
  refine lv_sipush hx hb dX12_init_690 (v := 8192) rfl ?_
  refine ia_arr (atype := .int) (ty := .int) (a0 := (8192, .inl (fun _ => 0))) (nw := 8192) hx hb hts hin hown hnm hA hlen hK hP hD hS har_I rfl (fun cA => ia_I cA 8192) (by decide) (by decide) (by decide) (Nat.le_of_ble_eq_true rfl) (Nat.le_of_ble_eq_true rfl) dX12_init_693 124 (by decide) (hts _ ww_f124) rfl rfl (tyX12_ok 124 (by decide)) dX12_init_695 ?_
  clear hP hD hS hK
  intro q80 c80 H80 lo80 hK hP hD hS
  obtain ⟨ts80, et80⟩ : ∃ z, z = ts79 ++ [(c80, .int)] := ⟨_, rfl⟩
  rw [← et80] at hK
  obtain ⟨cs80, ec80⟩ : ∃ z : va_W, z = cs79 ++ [(q80, .inl (c80, 8192, .inl (fun _ => 0)))] := ⟨_, rfl⟩
  rw [← ec80] at hP hD
  obtain ⟨fs83, ef83⟩ : ∃ z, z = fs82.set 124 (.ref q80) := ⟨_, rfl⟩
  rw [← ef83] at hP hD
  replace hlen : fs83.length = 149 := by rw [ef83, List.length_set]; exact hlen
  have eF83 : fs83 = [.ref q1, .ref q2, .ref q3, .ref q4, .ref q5, .ref q6, .int 0, .ref q7, .int 0, .ref q8, .ref q9, .int 0, .ref q10, .ref q11, .int 0, .ref q12, .int 0, .ref q13, .int 0, .ref q14, .int 0, .ref q15, .int 0, .int 0, .int 0, .int (-1), .ref q16, .ref q17, .ref q18, .ref q19, .int 0, .ref q20, .int 0, .int 0, .int 0, .int 0, .ref q21, .ref q22, .ref q23, .ref q24, .ref q25, .ref q26, .int 0, .ref q27, .ref q28, .ref q29, .ref q30, .ref q31, .ref q32, .ref q33, .ref q34, .ref q35, .ref q36, .ref q37, .int 0, .ref q38, .ref q39, .int (-1), .int 0, .int 1000, .int 0, .int 0, .int 0, .int 0, .int 0, .ref q40, .ref q41, .ref q42, .ref q43, .int 0, .ref q44, .int 0, .ref q45, .ref q46, .int 0, .ref q47, .int 0, .ref q48, .int 0, .ref q49, .ref q50, .ref q51, .ref q52, .ref q53, .ref q54, .int 0, .ref q55, .int 0, .int 0, .int 0, .int 0, .int 0, .ref q56, .ref q57, .ref q58, .ref q59, .ref q60, .ref q61, .ref q62, .ref q63, .ref q64, .ref q65, .int 0, .ref q66, .int 0, .ref q67, .ref q68, .ref q69, .ref q70, .int 0, .int 0, .int 0, .ref q71, .ref q72, .ref q73, .ref q74, .ref q75, .int 0, .ref q76, .int 0, .ref q77, .ref q78, .int 0, .ref q79, .ref q80, .null, .int 0, .null, .null, .null, .null, .int 0, .int 0, .int 0, .int 0, .int 0, .int 0, .null, .null, .int 0, .null, .null, .null, .null, .int 0, .null, .null, .int 0, .int 0] := by
    rw [ef83, ef82, ef81, ef80, ef79, ef78, ef77, ef76, eF75]
    rfl
  have eC80 : cs80 = [(q1, .inl (c1, 452000, .inl (fun _ => 0))), (q2, .inl (c2, 452000, .inl (fun _ => 0))), (q3, .inl (c3, 452000, .inl (fun _ => 0))), (q4, .inl (c4, 452000, .inl (fun _ => 0))), (q5, .inl (c5, 452000, .inl (fun _ => 0))), (q6, .inl (c6, 40000, .inr (.inl (fun _ => 0)))), (q7, .inl (c7, 8192, .inl (fun _ => 0))), (q8, .inl (c8, 252000, .inl (fun _ => 0))), (q9, .inl (c9, 21000, .inl (fun _ => 0))), (q10, .inl (c10, 20, .inl (fun _ => 0))), (q11, .inl (c11, 3000, .inl (fun _ => 0))), (q12, .inl (c12, 2000, .inl (fun _ => 0))), (q13, .inl (c13, 12, .inl (fun _ => 0))), (q14, .inl (c14, 4000, .inl (fun _ => 0))), (q15, .inl (c15, 200, .inl (fun _ => 0))), (q16, .inl (c16, 40, .inl (fun _ => 0))), (q17, .inl (c17, 40, .inl (fun _ => 0))), (q18, .inl (c18, 40, .inl (fun _ => 0))), (q19, .inl (c19, 40, .inl (fun _ => 0))), (q20, .inl (c20, 1100, .inl (fun _ => 0))), (q21, .inl (c21, 40, .inl (fun _ => 0))), (q22, .inl (c22, 40, .inl (fun _ => 0))), (q23, .inl (c23, 240, .inl (fun _ => 0))), (q24, .inl (c24, 40, .inl (fun _ => 0))), (q25, .inl (c25, 40, .inl (fun _ => 0))), (q26, .inl (c26, 40, .inl (fun _ => 0))), (q27, .inl (c27, 60, .inl (fun _ => 0))), (q28, .inl (c28, 60, .inl (fun _ => 0))), (q29, .inl (c29, 60, .inl (fun _ => 0))), (q30, .inl (c30, 60, .inl (fun _ => 0))), (q31, .inl (c31, 60, .inl (fun _ => 0))), (q32, .inl (c32, 60, .inl (fun _ => 0))), (q33, .inl (c33, 7200, .inl (fun _ => 0))), (q34, .inl (c34, 60, .inl (fun _ => 0))), (q35, .inl (c35, 60, .inl (fun _ => 0))), (q36, .inl (c36, 60, .inl (fun _ => 0))), (q37, .inl (c37, 60, .inl (fun _ => 0))), (q38, .inl (c38, 100, .inl (fun _ => 0))), (q39, .inl (c39, 100, .inl (fun _ => 0))), (q40, .inl (c40, 200, .inl (fun _ => 0))), (q41, .inl (c41, 1200, .inl (fun _ => 0))), (q42, .inl (c42, 1200, .inl (fun _ => 0))), (q43, .inl (c43, 1200, .inl (fun _ => 0))), (q44, .inl (c44, 2400, .inl (fun _ => 0))), (q45, .inl (c45, 400, .inl (fun _ => 0))), (q46, .inl (c46, 400, .inl (fun _ => 0))), (q47, .inl (c47, 400, .inl (fun _ => 0))), (q48, .inl (c48, 130, .inl (fun _ => 0))), (q49, .inl (c49, 300, .inl (fun _ => 0))), (q50, .inl (c50, 300, .inl (fun _ => 0))), (q51, .inl (c51, 300, .inl (fun _ => 0))), (q52, .inl (c52, 300, .inl (fun _ => 0))), (q53, .inl (c53, 300, .inl (fun _ => 0))), (q54, .inl (c54, 300, .inl (fun _ => 0))), (q55, .inl (c55, 2400, .inl (fun _ => 0))), (q56, .inl (c56, 60, .inl (fun _ => 0))), (q57, .inl (c57, 60, .inl (fun _ => 0))), (q58, .inl (c58, 60, .inl (fun _ => 0))), (q59, .inl (c59, 60, .inl (fun _ => 0))), (q60, .inl (c60, 60, .inl (fun _ => 0))), (q61, .inl (c61, 60, .inl (fun _ => 0))), (q62, .inl (c62, 60, .inl (fun _ => 0))), (q63, .inl (c63, 60, .inl (fun _ => 0))), (q64, .inl (c64, 60, .inl (fun _ => 0))), (q65, .inl (c65, 60, .inl (fun _ => 0))), (q66, .inl (c66, 1200, .inl (fun _ => 0))), (q67, .inl (c67, 7800, .inl (fun _ => 0))), (q68, .inl (c68, 7800, .inl (fun _ => 0))), (q69, .inl (c69, 60, .inl (fun _ => 0))), (q70, .inl (c70, 200, .inl (fun _ => 0))), (q71, .inl (c71, 800, .inl (fun _ => 0))), (q72, .inl (c72, 800, .inl (fun _ => 0))), (q73, .inl (c73, 69000, .inl (fun _ => 0))), (q74, .inl (c74, 2300, .inl (fun _ => 0))), (q75, .inl (c75, 2300, .inl (fun _ => 0))), (q76, .inl (c76, 2300, .inl (fun _ => 0))), (q77, .inl (c77, 20, .inl (fun _ => 0))), (q78, .inl (c78, 1200, .inl (fun _ => 0))), (q79, .inl (c79, 128, .inl (fun _ => 0))), (q80, .inl (c80, 8192, .inl (fun _ => 0)))] := by
    rw [ec80, ec79, ec78, ec77, ec76, ec75, ec74, ec73, eC72]
    rfl
  have eT80 : ts80 = [(c1, .int), (c2, .int), (c3, .int), (c4, .int), (c5, .int), (c6, .long), (c7, .int), (c8, .int), (c9, .int), (c10, .int), (c11, .int), (c12, .int), (c13, .int), (c14, .int), (c15, .int), (c16, .int), (c17, .int), (c18, .int), (c19, .int), (c20, .int), (c21, .int), (c22, .int), (c23, .int), (c24, .int), (c25, .int), (c26, .boolean), (c27, .int), (c28, .int), (c29, .int), (c30, .int), (c31, .int), (c32, .int), (c33, .int), (c34, .boolean), (c35, .boolean), (c36, .boolean), (c37, .boolean), (c38, .int), (c39, .int), (c40, .int), (c41, .int), (c42, .int), (c43, .int), (c44, .int), (c45, .int), (c46, .int), (c47, .int), (c48, .int), (c49, .int), (c50, .int), (c51, .int), (c52, .int), (c53, .int), (c54, .boolean), (c55, .int), (c56, .int), (c57, .boolean), (c58, .int), (c59, .int), (c60, .int), (c61, .int), (c62, .int), (c63, .int), (c64, .int), (c65, .int), (c66, .int), (c67, .int), (c68, .int), (c69, .int), (c70, .int), (c71, .int), (c72, .int), (c73, .int), (c74, .int), (c75, .int), (c76, .int), (c77, .int), (c78, .int), (c79, .int), (c80, .int)] := by
    rw [et80, et79, et78, et77, et76, et75, et74, et73, eT72]
    rfl
  clear ec80 et80 ec79 et79 ec78 et78 ec77 et77 ec76 et76 ec75 et75 ec74 et74 ec73 et73 eC72 eT72
  clear ef83 ef82 ef81 ef80 ef79 ef78 ef77 ef76 eF75
  refine lv_aload_n hx hb dX12_init_698 rfl (lv_at hl 0 rfl) ?_
  refine lv_sipush hx hb dX12_init_699 (v := 128) rfl ?_
  refine ia_arr (atype := .int) (ty := .int) (a0 := (128, .inl (fun _ => 0))) (nw := 128) hx hb hts hin hown hnm hA hlen hK hP hD hS har_I rfl (fun cA => ia_I cA 128) (by decide) (by decide) (by decide) (Nat.le_of_ble_eq_true rfl) (Nat.le_of_ble_eq_true rfl) dX12_init_702 125 (by decide) (hts _ ww_f125) rfl rfl (tyX12_ok 125 (by decide)) dX12_init_704 ?_
  clear hP hD hS hK
  intro q81 c81 H81 lo81 hK hP hD hS
  obtain ⟨ts81, et81⟩ : ∃ z, z = ts80 ++ [(c81, .int)] := ⟨_, rfl⟩
  rw [← et81] at hK
  obtain ⟨cs81, ec81⟩ : ∃ z : va_W, z = cs80 ++ [(q81, .inl (c81, 128, .inl (fun _ => 0)))] := ⟨_, rfl⟩
  rw [← ec81] at hP hD
  obtain ⟨fs84, ef84⟩ : ∃ z, z = fs83.set 125 (.ref q81) := ⟨_, rfl⟩
  rw [← ef84] at hP hD
  replace hlen : fs84.length = 149 := by rw [ef84, List.length_set]; exact hlen
  refine lv_aload_n hx hb dX12_init_707 rfl (lv_at hl 0 rfl) ?_
  refine lv_sipush hx hb dX12_init_708 (v := 128) rfl ?_
  refine ia_arr (atype := .int) (ty := .int) (a0 := (128, .inl (fun _ => 0))) (nw := 128) hx hb hts hin hown hnm hA hlen hK hP hD hS har_I rfl (fun cA => ia_I cA 128) (by decide) (by decide) (by decide) (Nat.le_of_ble_eq_true rfl) (Nat.le_of_ble_eq_true rfl) dX12_init_711 127 (by decide) (hts _ ww_f127) rfl rfl (tyX12_ok 127 (by decide)) dX12_init_713 ?_
  clear hP hD hS hK
  intro q82 c82 H82 lo82 hK hP hD hS
  obtain ⟨ts82, et82⟩ : ∃ z, z = ts81 ++ [(c82, .int)] := ⟨_, rfl⟩
  rw [← et82] at hK
  obtain ⟨cs82, ec82⟩ : ∃ z : va_W, z = cs81 ++ [(q82, .inl (c82, 128, .inl (fun _ => 0)))] := ⟨_, rfl⟩
  rw [← ec82] at hP hD
  obtain ⟨fs85, ef85⟩ : ∃ z, z = fs84.set 127 (.ref q82) := ⟨_, rfl⟩
  rw [← ef85] at hP hD
  replace hlen : fs85.length = 149 := by rw [ef85, List.length_set]; exact hlen
  refine lv_aload_n hx hb dX12_init_716 rfl (lv_at hl 0 rfl) ?_
  refine lv_sipush hx hb dX12_init_717 (v := 8192) rfl ?_
  refine ia_arr (atype := .int) (ty := .int) (a0 := (8192, .inl (fun _ => 0))) (nw := 8192) hx hb hts hin hown hnm hA hlen hK hP hD hS har_I rfl (fun cA => ia_I cA 8192) (by decide) (by decide) (by decide) (Nat.le_of_ble_eq_true rfl) (Nat.le_of_ble_eq_true rfl) dX12_init_720 128 (by decide) (hts _ ww_f128) rfl rfl (tyX12_ok 128 (by decide)) dX12_init_722 ?_
  clear hP hD hS hK
  intro q83 c83 H83 lo83 hK hP hD hS
  obtain ⟨ts83, et83⟩ : ∃ z, z = ts82 ++ [(c83, .int)] := ⟨_, rfl⟩
  rw [← et83] at hK
  obtain ⟨cs83, ec83⟩ : ∃ z : va_W, z = cs82 ++ [(q83, .inl (c83, 8192, .inl (fun _ => 0)))] := ⟨_, rfl⟩
  rw [← ec83] at hP hD
  obtain ⟨fs86, ef86⟩ : ∃ z, z = fs85.set 128 (.ref q83) := ⟨_, rfl⟩
  rw [← ef86] at hP hD
  replace hlen : fs86.length = 149 := by rw [ef86, List.length_set]; exact hlen
  refine lv_aload_n hx hb dX12_init_725 rfl (lv_at hl 0 rfl) ?_
  refine lv_sipush hx hb dX12_init_726 (v := 128) rfl ?_
  refine ia_arr (atype := .int) (ty := .int) (a0 := (128, .inl (fun _ => 0))) (nw := 128) hx hb hts hin hown hnm hA hlen hK hP hD hS har_I rfl (fun cA => ia_I cA 128) (by decide) (by decide) (by decide) (Nat.le_of_ble_eq_true rfl) (Nat.le_of_ble_eq_true rfl) dX12_init_729 129 (by decide) (hts _ ww_f129) rfl rfl (tyX12_ok 129 (by decide)) dX12_init_731 ?_
  clear hP hD hS hK
  intro q84 c84 H84 lo84 hK hP hD hS
  obtain ⟨ts84, et84⟩ : ∃ z, z = ts83 ++ [(c84, .int)] := ⟨_, rfl⟩
  rw [← et84] at hK
  obtain ⟨cs84, ec84⟩ : ∃ z : va_W, z = cs83 ++ [(q84, .inl (c84, 128, .inl (fun _ => 0)))] := ⟨_, rfl⟩
  rw [← ec84] at hP hD
  obtain ⟨fs87, ef87⟩ : ∃ z, z = fs86.set 129 (.ref q84) := ⟨_, rfl⟩
  rw [← ef87] at hP hD
  replace hlen : fs87.length = 149 := by rw [ef87, List.length_set]; exact hlen
  refine lv_aload_n hx hb dX12_init_734 rfl (lv_at hl 0 rfl) ?_
  refine lv_sipush hx hb dX12_init_735 (v := 130) rfl ?_
  refine ia_arr (atype := .int) (ty := .int) (a0 := (130, .inl (fun _ => 0))) (nw := 130) hx hb hts hin hown hnm hA hlen hK hP hD hS har_I rfl (fun cA => ia_I cA 130) (by decide) (by decide) (by decide) (Nat.le_of_ble_eq_true rfl) (Nat.le_of_ble_eq_true rfl) dX12_init_738 130 (by decide) (hts _ ww_f130) rfl rfl (tyX12_ok 130 (by decide)) dX12_init_740 ?_
  clear hP hD hS hK
  intro q85 c85 H85 lo85 hK hP hD hS
  obtain ⟨ts85, et85⟩ : ∃ z, z = ts84 ++ [(c85, .int)] := ⟨_, rfl⟩
  rw [← et85] at hK
  obtain ⟨cs85, ec85⟩ : ∃ z : va_W, z = cs84 ++ [(q85, .inl (c85, 130, .inl (fun _ => 0)))] := ⟨_, rfl⟩
  rw [← ec85] at hP hD
  obtain ⟨fs88, ef88⟩ : ∃ z, z = fs87.set 130 (.ref q85) := ⟨_, rfl⟩
  rw [← ef88] at hP hD
  replace hlen : fs88.length = 149 := by rw [ef88, List.length_set]; exact hlen
  refine lv_aload_n hx hb dX12_init_743 rfl (lv_at hl 0 rfl) ?_
  refine lv_sipush hx hb dX12_init_744 (v := 400) rfl ?_
  refine ia_arr (atype := .int) (ty := .int) (a0 := (400, .inl (fun _ => 0))) (nw := 400) hx hb hts hin hown hnm hA hlen hK hP hD hS har_I rfl (fun cA => ia_I cA 400) (by decide) (by decide) (by decide) (Nat.le_of_ble_eq_true rfl) (Nat.le_of_ble_eq_true rfl) dX12_init_747 137 (by decide) (hts _ ww_f137) rfl rfl (tyX12_ok 137 (by decide)) dX12_init_749 ?_
  clear hP hD hS hK
  intro q86 c86 H86 lo86 hK hP hD hS
  obtain ⟨ts86, et86⟩ : ∃ z, z = ts85 ++ [(c86, .int)] := ⟨_, rfl⟩
  rw [← et86] at hK
  obtain ⟨cs86, ec86⟩ : ∃ z : va_W, z = cs85 ++ [(q86, .inl (c86, 400, .inl (fun _ => 0)))] := ⟨_, rfl⟩
  rw [← ec86] at hP hD
  obtain ⟨fs89, ef89⟩ : ∃ z, z = fs88.set 137 (.ref q86) := ⟨_, rfl⟩
  rw [← ef89] at hP hD
  replace hlen : fs89.length = 149 := by rw [ef89, List.length_set]; exact hlen
  refine lv_aload_n hx hb dX12_init_752 rfl (lv_at hl 0 rfl) ?_
  refine lv_sipush hx hb dX12_init_753 (v := 400) rfl ?_
  refine ia_arr (atype := .int) (ty := .int) (a0 := (400, .inl (fun _ => 0))) (nw := 400) hx hb hts hin hown hnm hA hlen hK hP hD hS har_I rfl (fun cA => ia_I cA 400) (by decide) (by decide) (by decide) (Nat.le_of_ble_eq_true rfl) (Nat.le_of_ble_eq_true rfl) dX12_init_756 138 (by decide) (hts _ ww_f138) rfl rfl (tyX12_ok 138 (by decide)) dX12_init_758 ?_
  clear hP hD hS hK
  intro q87 c87 H87 lo87 hK hP hD hS
  obtain ⟨ts87, et87⟩ : ∃ z, z = ts86 ++ [(c87, .int)] := ⟨_, rfl⟩
  rw [← et87] at hK
  obtain ⟨cs87, ec87⟩ : ∃ z : va_W, z = cs86 ++ [(q87, .inl (c87, 400, .inl (fun _ => 0)))] := ⟨_, rfl⟩
  rw [← ec87] at hP hD
  obtain ⟨fs90, ef90⟩ : ∃ z, z = fs89.set 138 (.ref q87) := ⟨_, rfl⟩
  rw [← ef90] at hP hD
  replace hlen : fs90.length = 149 := by rw [ef90, List.length_set]; exact hlen
  refine lv_aload_n hx hb dX12_init_761 rfl (lv_at hl 0 rfl) ?_
  refine lv_bipush hx hb dX12_init_762 (v := 6) rfl ?_
  refine ia_arr (atype := .int) (ty := .int) (a0 := (6, .inl (fun _ => 0))) (nw := 6) hx hb hts hin hown hnm hA hlen hK hP hD hS har_I rfl (fun cA => ia_I cA 6) (by decide) (by decide) (by decide) (Nat.le_of_ble_eq_true rfl) (Nat.le_of_ble_eq_true rfl) dX12_init_764 140 (by decide) (hts _ ww_f140) rfl rfl (tyX12_ok 140 (by decide)) dX12_init_766 ?_
  clear hP hD hS hK
  intro q88 c88 H88 lo88 hK hP hD hS
  obtain ⟨ts88, et88⟩ : ∃ z, z = ts87 ++ [(c88, .int)] := ⟨_, rfl⟩
  rw [← et88] at hK
  obtain ⟨cs88, ec88⟩ : ∃ z : va_W, z = cs87 ++ [(q88, .inl (c88, 6, .inl (fun _ => 0)))] := ⟨_, rfl⟩
  rw [← ec88] at hP hD
  obtain ⟨fs91, ef91⟩ : ∃ z, z = fs90.set 140 (.ref q88) := ⟨_, rfl⟩
  rw [← ef91] at hP hD
  replace hlen : fs91.length = 149 := by rw [ef91, List.length_set]; exact hlen
  have eF91 : fs91 = [.ref q1, .ref q2, .ref q3, .ref q4, .ref q5, .ref q6, .int 0, .ref q7, .int 0, .ref q8, .ref q9, .int 0, .ref q10, .ref q11, .int 0, .ref q12, .int 0, .ref q13, .int 0, .ref q14, .int 0, .ref q15, .int 0, .int 0, .int 0, .int (-1), .ref q16, .ref q17, .ref q18, .ref q19, .int 0, .ref q20, .int 0, .int 0, .int 0, .int 0, .ref q21, .ref q22, .ref q23, .ref q24, .ref q25, .ref q26, .int 0, .ref q27, .ref q28, .ref q29, .ref q30, .ref q31, .ref q32, .ref q33, .ref q34, .ref q35, .ref q36, .ref q37, .int 0, .ref q38, .ref q39, .int (-1), .int 0, .int 1000, .int 0, .int 0, .int 0, .int 0, .int 0, .ref q40, .ref q41, .ref q42, .ref q43, .int 0, .ref q44, .int 0, .ref q45, .ref q46, .int 0, .ref q47, .int 0, .ref q48, .int 0, .ref q49, .ref q50, .ref q51, .ref q52, .ref q53, .ref q54, .int 0, .ref q55, .int 0, .int 0, .int 0, .int 0, .int 0, .ref q56, .ref q57, .ref q58, .ref q59, .ref q60, .ref q61, .ref q62, .ref q63, .ref q64, .ref q65, .int 0, .ref q66, .int 0, .ref q67, .ref q68, .ref q69, .ref q70, .int 0, .int 0, .int 0, .ref q71, .ref q72, .ref q73, .ref q74, .ref q75, .int 0, .ref q76, .int 0, .ref q77, .ref q78, .int 0, .ref q79, .ref q80, .ref q81, .int 0, .ref q82, .ref q83, .ref q84, .ref q85, .int 0, .int 0, .int 0, .int 0, .int 0, .int 0, .ref q86, .ref q87, .int 0, .ref q88, .null, .null, .null, .int 0, .null, .null, .int 0, .int 0] := by
    rw [ef91, ef90, ef89, ef88, ef87, ef86, ef85, ef84, eF83]
    rfl
  have eC88 : cs88 = [(q1, .inl (c1, 452000, .inl (fun _ => 0))), (q2, .inl (c2, 452000, .inl (fun _ => 0))), (q3, .inl (c3, 452000, .inl (fun _ => 0))), (q4, .inl (c4, 452000, .inl (fun _ => 0))), (q5, .inl (c5, 452000, .inl (fun _ => 0))), (q6, .inl (c6, 40000, .inr (.inl (fun _ => 0)))), (q7, .inl (c7, 8192, .inl (fun _ => 0))), (q8, .inl (c8, 252000, .inl (fun _ => 0))), (q9, .inl (c9, 21000, .inl (fun _ => 0))), (q10, .inl (c10, 20, .inl (fun _ => 0))), (q11, .inl (c11, 3000, .inl (fun _ => 0))), (q12, .inl (c12, 2000, .inl (fun _ => 0))), (q13, .inl (c13, 12, .inl (fun _ => 0))), (q14, .inl (c14, 4000, .inl (fun _ => 0))), (q15, .inl (c15, 200, .inl (fun _ => 0))), (q16, .inl (c16, 40, .inl (fun _ => 0))), (q17, .inl (c17, 40, .inl (fun _ => 0))), (q18, .inl (c18, 40, .inl (fun _ => 0))), (q19, .inl (c19, 40, .inl (fun _ => 0))), (q20, .inl (c20, 1100, .inl (fun _ => 0))), (q21, .inl (c21, 40, .inl (fun _ => 0))), (q22, .inl (c22, 40, .inl (fun _ => 0))), (q23, .inl (c23, 240, .inl (fun _ => 0))), (q24, .inl (c24, 40, .inl (fun _ => 0))), (q25, .inl (c25, 40, .inl (fun _ => 0))), (q26, .inl (c26, 40, .inl (fun _ => 0))), (q27, .inl (c27, 60, .inl (fun _ => 0))), (q28, .inl (c28, 60, .inl (fun _ => 0))), (q29, .inl (c29, 60, .inl (fun _ => 0))), (q30, .inl (c30, 60, .inl (fun _ => 0))), (q31, .inl (c31, 60, .inl (fun _ => 0))), (q32, .inl (c32, 60, .inl (fun _ => 0))), (q33, .inl (c33, 7200, .inl (fun _ => 0))), (q34, .inl (c34, 60, .inl (fun _ => 0))), (q35, .inl (c35, 60, .inl (fun _ => 0))), (q36, .inl (c36, 60, .inl (fun _ => 0))), (q37, .inl (c37, 60, .inl (fun _ => 0))), (q38, .inl (c38, 100, .inl (fun _ => 0))), (q39, .inl (c39, 100, .inl (fun _ => 0))), (q40, .inl (c40, 200, .inl (fun _ => 0))), (q41, .inl (c41, 1200, .inl (fun _ => 0))), (q42, .inl (c42, 1200, .inl (fun _ => 0))), (q43, .inl (c43, 1200, .inl (fun _ => 0))), (q44, .inl (c44, 2400, .inl (fun _ => 0))), (q45, .inl (c45, 400, .inl (fun _ => 0))), (q46, .inl (c46, 400, .inl (fun _ => 0))), (q47, .inl (c47, 400, .inl (fun _ => 0))), (q48, .inl (c48, 130, .inl (fun _ => 0))), (q49, .inl (c49, 300, .inl (fun _ => 0))), (q50, .inl (c50, 300, .inl (fun _ => 0))), (q51, .inl (c51, 300, .inl (fun _ => 0))), (q52, .inl (c52, 300, .inl (fun _ => 0))), (q53, .inl (c53, 300, .inl (fun _ => 0))), (q54, .inl (c54, 300, .inl (fun _ => 0))), (q55, .inl (c55, 2400, .inl (fun _ => 0))), (q56, .inl (c56, 60, .inl (fun _ => 0))), (q57, .inl (c57, 60, .inl (fun _ => 0))), (q58, .inl (c58, 60, .inl (fun _ => 0))), (q59, .inl (c59, 60, .inl (fun _ => 0))), (q60, .inl (c60, 60, .inl (fun _ => 0))), (q61, .inl (c61, 60, .inl (fun _ => 0))), (q62, .inl (c62, 60, .inl (fun _ => 0))), (q63, .inl (c63, 60, .inl (fun _ => 0))), (q64, .inl (c64, 60, .inl (fun _ => 0))), (q65, .inl (c65, 60, .inl (fun _ => 0))), (q66, .inl (c66, 1200, .inl (fun _ => 0))), (q67, .inl (c67, 7800, .inl (fun _ => 0))), (q68, .inl (c68, 7800, .inl (fun _ => 0))), (q69, .inl (c69, 60, .inl (fun _ => 0))), (q70, .inl (c70, 200, .inl (fun _ => 0))), (q71, .inl (c71, 800, .inl (fun _ => 0))), (q72, .inl (c72, 800, .inl (fun _ => 0))), (q73, .inl (c73, 69000, .inl (fun _ => 0))), (q74, .inl (c74, 2300, .inl (fun _ => 0))), (q75, .inl (c75, 2300, .inl (fun _ => 0))), (q76, .inl (c76, 2300, .inl (fun _ => 0))), (q77, .inl (c77, 20, .inl (fun _ => 0))), (q78, .inl (c78, 1200, .inl (fun _ => 0))), (q79, .inl (c79, 128, .inl (fun _ => 0))), (q80, .inl (c80, 8192, .inl (fun _ => 0))), (q81, .inl (c81, 128, .inl (fun _ => 0))), (q82, .inl (c82, 128, .inl (fun _ => 0))), (q83, .inl (c83, 8192, .inl (fun _ => 0))), (q84, .inl (c84, 128, .inl (fun _ => 0))), (q85, .inl (c85, 130, .inl (fun _ => 0))), (q86, .inl (c86, 400, .inl (fun _ => 0))), (q87, .inl (c87, 400, .inl (fun _ => 0))), (q88, .inl (c88, 6, .inl (fun _ => 0)))] := by
    rw [ec88, ec87, ec86, ec85, ec84, ec83, ec82, ec81, eC80]
    rfl
  have eT88 : ts88 = [(c1, .int), (c2, .int), (c3, .int), (c4, .int), (c5, .int), (c6, .long), (c7, .int), (c8, .int), (c9, .int), (c10, .int), (c11, .int), (c12, .int), (c13, .int), (c14, .int), (c15, .int), (c16, .int), (c17, .int), (c18, .int), (c19, .int), (c20, .int), (c21, .int), (c22, .int), (c23, .int), (c24, .int), (c25, .int), (c26, .boolean), (c27, .int), (c28, .int), (c29, .int), (c30, .int), (c31, .int), (c32, .int), (c33, .int), (c34, .boolean), (c35, .boolean), (c36, .boolean), (c37, .boolean), (c38, .int), (c39, .int), (c40, .int), (c41, .int), (c42, .int), (c43, .int), (c44, .int), (c45, .int), (c46, .int), (c47, .int), (c48, .int), (c49, .int), (c50, .int), (c51, .int), (c52, .int), (c53, .int), (c54, .boolean), (c55, .int), (c56, .int), (c57, .boolean), (c58, .int), (c59, .int), (c60, .int), (c61, .int), (c62, .int), (c63, .int), (c64, .int), (c65, .int), (c66, .int), (c67, .int), (c68, .int), (c69, .int), (c70, .int), (c71, .int), (c72, .int), (c73, .int), (c74, .int), (c75, .int), (c76, .int), (c77, .int), (c78, .int), (c79, .int), (c80, .int), (c81, .int), (c82, .int), (c83, .int), (c84, .int), (c85, .int), (c86, .int), (c87, .int), (c88, .int)] := by
    rw [et88, et87, et86, et85, et84, et83, et82, et81, eT80]
    rfl
  clear ec88 et88 ec87 et87 ec86 et86 ec85 et85 ec84 et84 ec83 et83 ec82 et82 ec81 et81 eC80 eT80
  clear ef91 ef90 ef89 ef88 ef87 ef86 ef85 ef84 eF83
  refine lv_aload_n hx hb dX12_init_769 rfl (lv_at hl 0 rfl) ?_
  refine lv_bipush hx hb dX12_init_770 (v := 40) rfl ?_
  refine ia_arr (atype := .int) (ty := .int) (a0 := (40, .inl (fun _ => 0))) (nw := 40) hx hb hts hin hown hnm hA hlen hK hP hD hS har_I rfl (fun cA => ia_I cA 40) (by decide) (by decide) (by decide) (Nat.le_of_ble_eq_true rfl) (Nat.le_of_ble_eq_true rfl) dX12_init_772 141 (by decide) (hts _ ww_f141) rfl rfl (tyX12_ok 141 (by decide)) dX12_init_774 ?_
  clear hP hD hS hK
  intro q89 c89 H89 lo89 hK hP hD hS
  obtain ⟨ts89, et89⟩ : ∃ z, z = ts88 ++ [(c89, .int)] := ⟨_, rfl⟩
  rw [← et89] at hK
  obtain ⟨cs89, ec89⟩ : ∃ z : va_W, z = cs88 ++ [(q89, .inl (c89, 40, .inl (fun _ => 0)))] := ⟨_, rfl⟩
  rw [← ec89] at hP hD
  obtain ⟨fs92, ef92⟩ : ∃ z, z = fs91.set 141 (.ref q89) := ⟨_, rfl⟩
  rw [← ef92] at hP hD
  replace hlen : fs92.length = 149 := by rw [ef92, List.length_set]; exact hlen
  refine lv_aload_n hx hb dX12_init_777 rfl (lv_at hl 0 rfl) ?_
  refine lv_bipush hx hb dX12_init_778 (v := 40) rfl ?_
  refine ia_arr (atype := .int) (ty := .int) (a0 := (40, .inl (fun _ => 0))) (nw := 40) hx hb hts hin hown hnm hA hlen hK hP hD hS har_I rfl (fun cA => ia_I cA 40) (by decide) (by decide) (by decide) (Nat.le_of_ble_eq_true rfl) (Nat.le_of_ble_eq_true rfl) dX12_init_780 142 (by decide) (hts _ ww_f142) rfl rfl (tyX12_ok 142 (by decide)) dX12_init_782 ?_
  clear hP hD hS hK
  intro q90 c90 H90 lo90 hK hP hD hS
  obtain ⟨ts90, et90⟩ : ∃ z, z = ts89 ++ [(c90, .int)] := ⟨_, rfl⟩
  rw [← et90] at hK
  obtain ⟨cs90, ec90⟩ : ∃ z : va_W, z = cs89 ++ [(q90, .inl (c90, 40, .inl (fun _ => 0)))] := ⟨_, rfl⟩
  rw [← ec90] at hP hD
  obtain ⟨fs93, ef93⟩ : ∃ z, z = fs92.set 142 (.ref q90) := ⟨_, rfl⟩
  rw [← ef93] at hP hD
  replace hlen : fs93.length = 149 := by rw [ef93, List.length_set]; exact hlen
  refine lv_aload_n hx hb dX12_init_785 rfl (lv_at hl 0 rfl) ?_
  refine lv_bipush hx hb dX12_init_786 (v := 40) rfl ?_
  refine ia_arr (atype := .int) (ty := .int) (a0 := (40, .inl (fun _ => 0))) (nw := 40) hx hb hts hin hown hnm hA hlen hK hP hD hS har_I rfl (fun cA => ia_I cA 40) (by decide) (by decide) (by decide) (Nat.le_of_ble_eq_true rfl) (Nat.le_of_ble_eq_true rfl) dX12_init_788 143 (by decide) (hts _ ww_f143) rfl rfl (tyX12_ok 143 (by decide)) dX12_init_790 ?_
  clear hP hD hS hK
  intro q91 c91 H91 lo91 hK hP hD hS
  obtain ⟨ts91, et91⟩ : ∃ z, z = ts90 ++ [(c91, .int)] := ⟨_, rfl⟩
  rw [← et91] at hK
  obtain ⟨cs91, ec91⟩ : ∃ z : va_W, z = cs90 ++ [(q91, .inl (c91, 40, .inl (fun _ => 0)))] := ⟨_, rfl⟩
  rw [← ec91] at hP hD
  obtain ⟨fs94, ef94⟩ : ∃ z, z = fs93.set 143 (.ref q91) := ⟨_, rfl⟩
  rw [← ef94] at hP hD
  replace hlen : fs94.length = 149 := by rw [ef94, List.length_set]; exact hlen
  refine lv_aload_n hx hb dX12_init_793 rfl (lv_at hl 0 rfl) ?_
  refine lv_sipush hx hb dX12_init_794 (v := 10500) rfl ?_
  refine ia_arr (atype := .int) (ty := .int) (a0 := (10500, .inl (fun _ => 0))) (nw := 10500) hx hb hts hin hown hnm hA hlen hK hP hD hS har_I rfl (fun cA => ia_I cA 10500) (by decide) (by decide) (by decide) (Nat.le_of_ble_eq_true rfl) (Nat.le_of_ble_eq_true rfl) dX12_init_797 145 (by decide) (hts _ ww_f145) rfl rfl (tyX12_ok 145 (by decide)) dX12_init_799 ?_
  clear hP hD hS hK
  intro q92 c92 H92 lo92 hK hP hD hS
  obtain ⟨ts92, et92⟩ : ∃ z, z = ts91 ++ [(c92, .int)] := ⟨_, rfl⟩
  rw [← et92] at hK
  obtain ⟨cs92, ec92⟩ : ∃ z : va_W, z = cs91 ++ [(q92, .inl (c92, 10500, .inl (fun _ => 0)))] := ⟨_, rfl⟩
  rw [← ec92] at hP hD
  obtain ⟨fs95, ef95⟩ : ∃ z, z = fs94.set 145 (.ref q92) := ⟨_, rfl⟩
  rw [← ef95] at hP hD
  replace hlen : fs95.length = 149 := by rw [ef95, List.length_set]; exact hlen
  refine lv_aload_n hx hb dX12_init_802 rfl (lv_at hl 0 rfl) ?_
  refine lv_sipush hx hb dX12_init_803 (v := 350) rfl ?_
  refine ia_arr (atype := .int) (ty := .int) (a0 := (350, .inl (fun _ => 0))) (nw := 350) hx hb hts hin hown hnm hA hlen hK hP hD hS har_I rfl (fun cA => ia_I cA 350) (by decide) (by decide) (by decide) (Nat.le_of_ble_eq_true rfl) (Nat.le_of_ble_eq_true rfl) dX12_init_806 146 (by decide) (hts _ ww_f146) rfl rfl (tyX12_ok 146 (by decide)) dX12_init_808 ?_
  clear hP hD hS hK
  intro q93 c93 H93 lo93 hK hP hD hS
  obtain ⟨ts93, et93⟩ : ∃ z, z = ts92 ++ [(c93, .int)] := ⟨_, rfl⟩
  rw [← et93] at hK
  obtain ⟨cs93, ec93⟩ : ∃ z : va_W, z = cs92 ++ [(q93, .inl (c93, 350, .inl (fun _ => 0)))] := ⟨_, rfl⟩
  rw [← ec93] at hP hD
  obtain ⟨fs96, ef96⟩ : ∃ z, z = fs95.set 146 (.ref q93) := ⟨_, rfl⟩
  rw [← ef96] at hP hD
  replace hlen : fs96.length = 149 := by rw [ef96, List.length_set]; exact hlen
  obtain ⟨ad, had⟩ : ∃ z : Nat → Nat, z = (fun k => ([q1, q2, q3, q4, q5, q6, 0, q7, 0, q8, q9, 0, q10, q11, 0, q12, 0, q13, 0, q14, 0, q15, 0, 0, 0, 0, q16, q17, q18, q19, 0, q20, 0, 0, 0, 0, q21, q22, q23, q24, q25, q26, 0, q27, q28, q29, q30, q31, q32, q33, q34, q35, q36, q37, 0, q38, q39, 0, 0, 0, 0, 0, 0, 0, 0, q40, q41, q42, q43, 0, q44, 0, q45, q46, 0, q47, 0, q48, 0, q49, q50, q51, q52, q53, q54, 0, q55, 0, 0, 0, 0, 0, q56, q57, q58, q59, q60, q61, q62, q63, q64, q65, 0, q66, 0, q67, q68, q69, q70, 0, 0, 0, q71, q72, q73, q74, q75, 0, q76, 0, q77, q78, 0, q79, q80, q81, 0, q82, q83, q84, q85, 0, 0, 0, 0, 0, 0, q86, q87, 0, q88, q89, q90, q91, 0, q92, q93, 0, 0] : List Nat).getD k 0) := ⟨_, rfl⟩
  obtain ⟨ca, hca⟩ : ∃ z : Nat → ClassId, z = (fun k => ([c1, c2, c3, c4, c5, c6, c1, c7, c1, c8, c9, c1, c10, c11, c1, c12, c1, c13, c1, c14, c1, c15, c1, c1, c1, c1, c16, c17, c18, c19, c1, c20, c1, c1, c1, c1, c21, c22, c23, c24, c25, c26, c1, c27, c28, c29, c30, c31, c32, c33, c34, c35, c36, c37, c1, c38, c39, c1, c1, c1, c1, c1, c1, c1, c1, c40, c41, c42, c43, c1, c44, c1, c45, c46, c1, c47, c1, c48, c1, c49, c50, c51, c52, c53, c54, c1, c55, c1, c1, c1, c1, c1, c56, c57, c58, c59, c60, c61, c62, c63, c64, c65, c1, c66, c1, c67, c68, c69, c70, c1, c1, c1, c71, c72, c73, c74, c75, c1, c76, c1, c77, c78, c1, c79, c80, c81, c1, c82, c83, c84, c85, c1, c1, c1, c1, c1, c1, c86, c87, c1, c88, c89, c90, c91, c1, c92, c93, c1, c1] : List ClassId).getD k c1) := ⟨_, rfl⟩
  have eF96 : fs96 = [.ref q1, .ref q2, .ref q3, .ref q4, .ref q5, .ref q6, .int 0, .ref q7, .int 0, .ref q8, .ref q9, .int 0, .ref q10, .ref q11, .int 0, .ref q12, .int 0, .ref q13, .int 0, .ref q14, .int 0, .ref q15, .int 0, .int 0, .int 0, .int (-1), .ref q16, .ref q17, .ref q18, .ref q19, .int 0, .ref q20, .int 0, .int 0, .int 0, .int 0, .ref q21, .ref q22, .ref q23, .ref q24, .ref q25, .ref q26, .int 0, .ref q27, .ref q28, .ref q29, .ref q30, .ref q31, .ref q32, .ref q33, .ref q34, .ref q35, .ref q36, .ref q37, .int 0, .ref q38, .ref q39, .int (-1), .int 0, .int 1000, .int 0, .int 0, .int 0, .int 0, .int 0, .ref q40, .ref q41, .ref q42, .ref q43, .int 0, .ref q44, .int 0, .ref q45, .ref q46, .int 0, .ref q47, .int 0, .ref q48, .int 0, .ref q49, .ref q50, .ref q51, .ref q52, .ref q53, .ref q54, .int 0, .ref q55, .int 0, .int 0, .int 0, .int 0, .int 0, .ref q56, .ref q57, .ref q58, .ref q59, .ref q60, .ref q61, .ref q62, .ref q63, .ref q64, .ref q65, .int 0, .ref q66, .int 0, .ref q67, .ref q68, .ref q69, .ref q70, .int 0, .int 0, .int 0, .ref q71, .ref q72, .ref q73, .ref q74, .ref q75, .int 0, .ref q76, .int 0, .ref q77, .ref q78, .int 0, .ref q79, .ref q80, .ref q81, .int 0, .ref q82, .ref q83, .ref q84, .ref q85, .int 0, .int 0, .int 0, .int 0, .int 0, .int 0, .ref q86, .ref q87, .int 0, .ref q88, .ref q89, .ref q90, .ref q91, .int 0, .ref q92, .ref q93, .int 0, .int 0] := by
    rw [ef96, ef95, ef94, ef93, ef92, eF91]
    rfl
  have eC93 : cs93 = [(q1, .inl (c1, 452000, .inl (fun _ => 0))), (q2, .inl (c2, 452000, .inl (fun _ => 0))), (q3, .inl (c3, 452000, .inl (fun _ => 0))), (q4, .inl (c4, 452000, .inl (fun _ => 0))), (q5, .inl (c5, 452000, .inl (fun _ => 0))), (q6, .inl (c6, 40000, .inr (.inl (fun _ => 0)))), (q7, .inl (c7, 8192, .inl (fun _ => 0))), (q8, .inl (c8, 252000, .inl (fun _ => 0))), (q9, .inl (c9, 21000, .inl (fun _ => 0))), (q10, .inl (c10, 20, .inl (fun _ => 0))), (q11, .inl (c11, 3000, .inl (fun _ => 0))), (q12, .inl (c12, 2000, .inl (fun _ => 0))), (q13, .inl (c13, 12, .inl (fun _ => 0))), (q14, .inl (c14, 4000, .inl (fun _ => 0))), (q15, .inl (c15, 200, .inl (fun _ => 0))), (q16, .inl (c16, 40, .inl (fun _ => 0))), (q17, .inl (c17, 40, .inl (fun _ => 0))), (q18, .inl (c18, 40, .inl (fun _ => 0))), (q19, .inl (c19, 40, .inl (fun _ => 0))), (q20, .inl (c20, 1100, .inl (fun _ => 0))), (q21, .inl (c21, 40, .inl (fun _ => 0))), (q22, .inl (c22, 40, .inl (fun _ => 0))), (q23, .inl (c23, 240, .inl (fun _ => 0))), (q24, .inl (c24, 40, .inl (fun _ => 0))), (q25, .inl (c25, 40, .inl (fun _ => 0))), (q26, .inl (c26, 40, .inl (fun _ => 0))), (q27, .inl (c27, 60, .inl (fun _ => 0))), (q28, .inl (c28, 60, .inl (fun _ => 0))), (q29, .inl (c29, 60, .inl (fun _ => 0))), (q30, .inl (c30, 60, .inl (fun _ => 0))), (q31, .inl (c31, 60, .inl (fun _ => 0))), (q32, .inl (c32, 60, .inl (fun _ => 0))), (q33, .inl (c33, 7200, .inl (fun _ => 0))), (q34, .inl (c34, 60, .inl (fun _ => 0))), (q35, .inl (c35, 60, .inl (fun _ => 0))), (q36, .inl (c36, 60, .inl (fun _ => 0))), (q37, .inl (c37, 60, .inl (fun _ => 0))), (q38, .inl (c38, 100, .inl (fun _ => 0))), (q39, .inl (c39, 100, .inl (fun _ => 0))), (q40, .inl (c40, 200, .inl (fun _ => 0))), (q41, .inl (c41, 1200, .inl (fun _ => 0))), (q42, .inl (c42, 1200, .inl (fun _ => 0))), (q43, .inl (c43, 1200, .inl (fun _ => 0))), (q44, .inl (c44, 2400, .inl (fun _ => 0))), (q45, .inl (c45, 400, .inl (fun _ => 0))), (q46, .inl (c46, 400, .inl (fun _ => 0))), (q47, .inl (c47, 400, .inl (fun _ => 0))), (q48, .inl (c48, 130, .inl (fun _ => 0))), (q49, .inl (c49, 300, .inl (fun _ => 0))), (q50, .inl (c50, 300, .inl (fun _ => 0))), (q51, .inl (c51, 300, .inl (fun _ => 0))), (q52, .inl (c52, 300, .inl (fun _ => 0))), (q53, .inl (c53, 300, .inl (fun _ => 0))), (q54, .inl (c54, 300, .inl (fun _ => 0))), (q55, .inl (c55, 2400, .inl (fun _ => 0))), (q56, .inl (c56, 60, .inl (fun _ => 0))), (q57, .inl (c57, 60, .inl (fun _ => 0))), (q58, .inl (c58, 60, .inl (fun _ => 0))), (q59, .inl (c59, 60, .inl (fun _ => 0))), (q60, .inl (c60, 60, .inl (fun _ => 0))), (q61, .inl (c61, 60, .inl (fun _ => 0))), (q62, .inl (c62, 60, .inl (fun _ => 0))), (q63, .inl (c63, 60, .inl (fun _ => 0))), (q64, .inl (c64, 60, .inl (fun _ => 0))), (q65, .inl (c65, 60, .inl (fun _ => 0))), (q66, .inl (c66, 1200, .inl (fun _ => 0))), (q67, .inl (c67, 7800, .inl (fun _ => 0))), (q68, .inl (c68, 7800, .inl (fun _ => 0))), (q69, .inl (c69, 60, .inl (fun _ => 0))), (q70, .inl (c70, 200, .inl (fun _ => 0))), (q71, .inl (c71, 800, .inl (fun _ => 0))), (q72, .inl (c72, 800, .inl (fun _ => 0))), (q73, .inl (c73, 69000, .inl (fun _ => 0))), (q74, .inl (c74, 2300, .inl (fun _ => 0))), (q75, .inl (c75, 2300, .inl (fun _ => 0))), (q76, .inl (c76, 2300, .inl (fun _ => 0))), (q77, .inl (c77, 20, .inl (fun _ => 0))), (q78, .inl (c78, 1200, .inl (fun _ => 0))), (q79, .inl (c79, 128, .inl (fun _ => 0))), (q80, .inl (c80, 8192, .inl (fun _ => 0))), (q81, .inl (c81, 128, .inl (fun _ => 0))), (q82, .inl (c82, 128, .inl (fun _ => 0))), (q83, .inl (c83, 8192, .inl (fun _ => 0))), (q84, .inl (c84, 128, .inl (fun _ => 0))), (q85, .inl (c85, 130, .inl (fun _ => 0))), (q86, .inl (c86, 400, .inl (fun _ => 0))), (q87, .inl (c87, 400, .inl (fun _ => 0))), (q88, .inl (c88, 6, .inl (fun _ => 0))), (q89, .inl (c89, 40, .inl (fun _ => 0))), (q90, .inl (c90, 40, .inl (fun _ => 0))), (q91, .inl (c91, 40, .inl (fun _ => 0))), (q92, .inl (c92, 10500, .inl (fun _ => 0))), (q93, .inl (c93, 350, .inl (fun _ => 0)))] := by
    rw [ec93, ec92, ec91, ec90, ec89, eC88]
    rfl
  have eT93 : ts93 = [(c1, .int), (c2, .int), (c3, .int), (c4, .int), (c5, .int), (c6, .long), (c7, .int), (c8, .int), (c9, .int), (c10, .int), (c11, .int), (c12, .int), (c13, .int), (c14, .int), (c15, .int), (c16, .int), (c17, .int), (c18, .int), (c19, .int), (c20, .int), (c21, .int), (c22, .int), (c23, .int), (c24, .int), (c25, .int), (c26, .boolean), (c27, .int), (c28, .int), (c29, .int), (c30, .int), (c31, .int), (c32, .int), (c33, .int), (c34, .boolean), (c35, .boolean), (c36, .boolean), (c37, .boolean), (c38, .int), (c39, .int), (c40, .int), (c41, .int), (c42, .int), (c43, .int), (c44, .int), (c45, .int), (c46, .int), (c47, .int), (c48, .int), (c49, .int), (c50, .int), (c51, .int), (c52, .int), (c53, .int), (c54, .boolean), (c55, .int), (c56, .int), (c57, .boolean), (c58, .int), (c59, .int), (c60, .int), (c61, .int), (c62, .int), (c63, .int), (c64, .int), (c65, .int), (c66, .int), (c67, .int), (c68, .int), (c69, .int), (c70, .int), (c71, .int), (c72, .int), (c73, .int), (c74, .int), (c75, .int), (c76, .int), (c77, .int), (c78, .int), (c79, .int), (c80, .int), (c81, .int), (c82, .int), (c83, .int), (c84, .int), (c85, .int), (c86, .int), (c87, .int), (c88, .int), (c89, .int), (c90, .int), (c91, .int), (c92, .int), (c93, .int)] := by
    rw [et93, et92, et91, et90, et89, eT88]
    rfl
  clear ec93 et93 ec92 et92 ec91 et91 ec90 et90 ec89 et89 eC88 eT88
  clear ef96 ef95 ef94 ef93 ef92 eF91
  have hcl : ((h0, .inr (12, fs96)) :: cs93 : va_W) = mCl ca h0 ad mU0 := by
    rw [had, hca, eF96, eC93]
    rfl
  have hty : ts93 = mTy ca := by
    rw [hca, eT93]
    rfl
  rw [hcl] at hP hD
  rw [hty] at hK
  clear hcl hty had hca hlen
  refine init_rest hx hb htz hown hml hA hK hP hD hS hl (Nat.le_of_ble_eq_true rfl) (Nat.le_of_ble_eq_true rfl) ?_
  clear hP hD hS hl
  intro w H locs ls hw hP hD hS hl
  exact W.vret hx hb hr (fun t ht hW => ⟨⟨(ad, ca, w), rfl, hw.1, ⟨by rw [ht]; exact hP, va_K.moved hW.alike hK, hD⟩, hw.2⟩, hS.F ht⟩) hS.2.2 dX12_init_1537
