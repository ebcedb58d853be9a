set_option maxHeartbeats 16000000 in
set_option maxRecDepth 100000 in
/-- the constructor behind its fields: heads are -1, the symbols are said -/
theorem init_rest {p : Program} {l : Launch} {e : Env} {s : State} {m : MethodId} {args : Array Value} {below : List Frame} {meth : Method} {c : Code} {H : Heap} {locs : List Loc} {cells slots : Nat} {Q : State → Prop} {A : Nat → Prop} {H0 : Heap} {D : va_G} {ca : Nat → ClassId} {h0 : Nat} {ad : Nat → Nat} {ls : Array Slot} (hx : p.tables.exec = Jvm.exec) (hb : c.code = cX12_init) (hts : ∀ w ∈ wsX12_init, w.before args s = true) (hown : s.vm.findClass RX12 = some m.cls) (hml : c.maxLocals = 2) (hA : ∀ q : Nat, H0.size ≤ q → A q) (hK : va_K D vwCl (mTy ca) s) (hP : va_P D vwCl (mCl ca h0 ad mU0) H) (hD : va_D A (mCl ca h0 ad mU0)) (hS : va_S A H0 H locs) (hl : lv_has ls 2 [(0, .ref h0)]) (hc9 : cells ≤ 93) (hs9 : slots ≤ 2737036) (kk : ∀ (w : mST) (H : Heap) (locs : List Loc) (ls : Array Slot), (∃ n : Nat, n ≤ 44 ∧ mOk n w ∧ mFr mU0 w) → va_P D vwCl (mCl ca h0 ad w) H → va_D A (mCl ca h0 ad w) → va_S A H0 H locs → lv_has ls 2 [(0, .ref h0)] → W p l e (({ frames := 3, cells := 93, slots := 2737036, locals := 76 }) : Room) s m args below meth c H locs cells slots Q (F0 m 1537 ls [])) : W p l e (({ frames := 3, cells := 93, slots := 2737036, locals := 76 }) : Room) s m args below meth c H locs cells slots Q (F0 m 811 ls []) := by
  have L_heads := hts _ ww_f7
  have hin : ∀ w ∈ wsX120, w ∈ wsX12_init := ww_all
  refine lv_iconst hx hb dX12_init_811 (v := 0) rfl ?_
  refine lv_istore_n hx hb dX12_init_812 rfl hl (by decide) rfl (fun ls hl => ?_)
  have hl : lv_has ls 2 [(1, .int (0)), (0, .ref (h0))] := hl
  refine w_loopS (nL := 2) (sta := fun q : mST × Nat => q.1) (lst := fun q : mST × Nat => [(1, .int (nI q.2)), (0, .ref h0)]) (μ := fun q => 8192 - q.2) (I := fun q => q.2 ≤ 8192 ∧ q.1.1 = mU0.1 ∧ (∀ h : Nat, h < q.2 → q.1.2.1 7 h = -1) ∧ (∀ g : Nat, g ≠ 7 → q.1.2.1 g = mU0.2.1 g) ∧ q.1.2.2 = mU0.2.2) ?_ (mU0, 0) ls ⟨Nat.zero_le _, rfl, fun h hh => absurd hh (Nat.not_lt_zero _), fun _ _ => rfl, rfl⟩ hP hD hS hl
  clear hP hD hS hl
  intro q H locs ls hI hP hD hS hl ih
  obtain ⟨w, j⟩ := q
  obtain ⟨hI1, hI2, hI3, hI4, hI5⟩ := hI
  dsimp only at hI1 hI2 hI3 hI4 hI5 hP hD
  have hl : lv_has ls 2 [(1, .int (nI j)), (0, .ref (h0))] := hl
  refine lv_iload_n hx hb dX12_init_813 rfl (lv_at hl 0 rfl) ?_
  refine lv_sipush hx hb dX12_init_814 (v := 8192) rfl ?_
  refine lv_icmp_ge hx hb dX12_init_817 (tgt := 833) rfl (fun h1 => ?_) (fun h1 => ?_)
  · have hj : j = 8192 := by
      rcases Nat.lt_or_ge j 8192 with h | h
      · exact absurd h1 (nI_ge h (by decide))
      · omega
    subst hj
    have hO0 : mOk 0 w := ⟨by rw [hI2]; rfl, by rw [hI2]; rfl, fun h hh => Or.inl (hI3 h hh), fun j hj => absurd hj (Nat.not_lt_zero _)⟩
    have hF0 : mFr mU0 w := ⟨fun k _ _ _ => congrFun hI2 k, fun g hg => hI4 g (fun e => hg (by rw [e]; decide)), hI5⟩
    clear hI1 hI2 hI3 hI4 hI5 ih
    refine lv_aload_n hx hb dX12_init_833 rfl (lv_at hl 1 rfl) ?_
    refine lv_bipush hx hb dX12_init_834 (v := 110) rfl ?_
    refine lv_bipush hx hb dX12_init_836 (v := 105) rfl ?_
    refine lv_bipush hx hb dX12_init_838 (v := 108) rfl ?_
    refine lv_iconst hx hb dX12_init_840 (v := 0) rfl ?_
    refine lv_iconst hx hb dX12_init_841 (v := 0) rfl ?_
    refine lv_iconst hx hb dX12_init_842 (v := 0) rfl ?_
    refine lv_iconst hx hb dX12_init_843 (v := 0) rfl ?_
    refine lv_iconst hx hb dX12_init_844 (v := 0) rfl ?_
    have hFc := pl_free hD hS hA
    refine va_callv (va_runV (As := [.int (110), .int (105), .int (108), .int (0), .int (0), .int (0), .int (0), .int (0)]) (rest := []) ⟨hx, hb, hml, hown, hts⟩ (c_m_said l D ca h0 H.size ad w (110) (105) (108) (0) (0) (0) (0) (0) 0 (by omega) hO0) (cwV 8 hts gX12_init_X12_said rfl rfl rfl (by decide +kernel) ⟨Nat.le_of_ble_eq_true rfl, Nat.le_of_ble_eq_true rfl⟩) ⟨fun a U g mk q => by obtain ⟨q0, q1, qP, qK, qD⟩ := q; exact ⟨q0, q1, qP, va_K.moved (u := U) (U := U.calling g mk a) (Vm.Alike.refl U.vm) qK, qD⟩, va_recv hK hP (ci := 12) (q0 := 0) rfl rfl, fun U hU hW => ⟨rfl, by rw [hU], by rw [hU]; exact hP, va_K.moved hW.alike hK, hD.weaken (fun _ _ _ _ => trivial)⟩⟩ rfl rfl hl.1 rfl (lv_room (Nat.le_of_ble_eq_true rfl)) dX12_init_845 ⟨hc9, hs9⟩) hS (fun q _ h => hFc q h) hFc (fun u2 t H1 locs ht hvm hwu2 hB hz1 hk1 hS => ?_)
    obtain ⟨hP1, hK1, hD1⟩ := hB
    rw [ht] at hP1
    have hK := va_K.moved hvm.symm hK1
    have hD := hD1.weaken (fun _ _ _ h => hFc _ h)
    have hP := hP1
    clear hP1 hK1 hD1 hFc
    generalize H1 = H at hP hS hz1 hk1 ht ⊢
    have hP : va_P D vwCl (mCl ca h0 ad u2) H := hP
    have hD : va_D A (mCl ca h0 ad u2) := hD
    obtain ⟨n1, hm1, hO1, hG1⟩ := hwu2
    replace hm1 : n1 ≤ 1 := by omega
    have hF1 := mFr_tr hF0 hG1
    clear hF0 hO0 hG1 ht hvm hz1 hk1
    refine lv_aload_n hx hb dX12_init_848 rfl (lv_at hl 1 rfl) ?_
    refine lv_bipush hx hb dX12_init_849 (v := 116) rfl ?_
    refine lv_iconst hx hb dX12_init_851 (v := 0) rfl ?_
    refine lv_iconst hx hb dX12_init_852 (v := 0) rfl ?_
    refine lv_iconst hx hb dX12_init_853 (v := 0) rfl ?_
    refine lv_iconst hx hb dX12_init_854 (v := 0) rfl ?_
    refine lv_iconst hx hb dX12_init_855 (v := 0) rfl ?_
    refine lv_iconst hx hb dX12_init_856 (v := 0) rfl ?_
    refine lv_iconst hx hb dX12_init_857 (v := 0) rfl ?_
    have hFc := pl_free hD hS hA
    refine va_callv (va_runV (As := [.int (116), .int (0), .int (0), .int (0), .int (0), .int (0), .int (0), .int (0)]) (rest := []) ⟨hx, hb, hml, hown, hts⟩ (c_m_said l D ca h0 H.size ad u2 (116) (0) (0) (0) (0) (0) (0) (0) n1 (by omega) hO1) (cwV 8 hts gX12_init_X12_said rfl rfl rfl (by decide +kernel) ⟨Nat.le_of_ble_eq_true rfl, Nat.le_of_ble_eq_true rfl⟩) ⟨fun a U g mk q => by obtain ⟨q0, q1, qP, qK, qD⟩ := q; exact ⟨q0, q1, qP, va_K.moved (u := U) (U := U.calling g mk a) (Vm.Alike.refl U.vm) qK, qD⟩, va_recv hK hP (ci := 12) (q0 := 0) rfl rfl, fun U hU hW => ⟨rfl, by rw [hU], by rw [hU]; exact hP, va_K.moved hW.alike hK, hD.weaken (fun _ _ _ _ => trivial)⟩⟩ rfl rfl hl.1 rfl (lv_room (Nat.le_of_ble_eq_true rfl)) dX12_init_858 ⟨hc9, hs9⟩) hS (fun q _ h => hFc q h) hFc (fun u4 t H1 locs ht hvm hwu4 hB hz1 hk1 hS => ?_)
    obtain ⟨hP1, hK1, hD1⟩ := hB
    rw [ht] at hP1
    have hK := va_K.moved hvm.symm hK1
    have hD := hD1.weaken (fun _ _ _ h => hFc _ h)
    have hP := hP1
    clear hP1 hK1 hD1 hFc
    generalize H1 = H at hP hS hz1 hk1 ht ⊢
    have hP : va_P D vwCl (mCl ca h0 ad u4) H := hP
    have hD : va_D A (mCl ca h0 ad u4) := hD
    obtain ⟨n2, hm2, hO2, hG2⟩ := hwu4
    replace hm2 : n2 ≤ 2 := by omega
    have hF2 := mFr_tr hF1 hG2
    clear hF1 hO1 hG2 ht hvm hz1 hk1
    refine lv_aload_n hx hb dX12_init_861 rfl (lv_at hl 1 rfl) ?_
    refine lv_bipush hx hb dX12_init_862 (v := 113) rfl ?_
    refine lv_bipush hx hb dX12_init_864 (v := 117) rfl ?_
    refine lv_bipush hx hb dX12_init_866 (v := 111) rfl ?_
    refine lv_bipush hx hb dX12_init_868 (v := 116) rfl ?_
    refine lv_bipush hx hb dX12_init_870 (v := 101) rfl ?_
    refine lv_iconst hx hb dX12_init_872 (v := 0) rfl ?_
    refine lv_iconst hx hb dX12_init_873 (v := 0) rfl ?_
    refine lv_iconst hx hb dX12_init_874 (v := 0) rfl ?_
    have hFc := pl_free hD hS hA
    refine va_callv (va_runV (As := [.int (113), .int (117), .int (111), .int (116), .int (101), .int (0), .int (0), .int (0)]) (rest := []) ⟨hx, hb, hml, hown, hts⟩ (c_m_said l D ca h0 H.size ad u4 (113) (117) (111) (116) (101) (0) (0) (0) n2 (by omega) hO2) (cwV 8 hts gX12_init_X12_said rfl rfl rfl (by decide +kernel) ⟨Nat.le_of_ble_eq_true rfl, Nat.le_of_ble_eq_true rfl⟩) ⟨fun a U g mk q => by obtain ⟨q0, q1, qP, qK, qD⟩ := q; exact ⟨q0, q1, qP, va_K.moved (u := U) (U := U.calling g mk a) (Vm.Alike.refl U.vm) qK, qD⟩, va_recv hK hP (ci := 12) (q0 := 0) rfl rfl, fun U hU hW => ⟨rfl, by rw [hU], by rw [hU]; exact hP, va_K.moved hW.alike hK, hD.weaken (fun _ _ _ _ => trivial)⟩⟩ rfl rfl hl.1 rfl (lv_room (Nat.le_of_ble_eq_true rfl)) dX12_init_875 ⟨hc9, hs9⟩) hS (fun q _ h => hFc q h) hFc (fun u6 t H1 locs ht hvm hwu6 hB hz1 hk1 hS => ?_)
    obtain ⟨hP1, hK1, hD1⟩ := hB
    rw [ht] at hP1
    have hK := va_K.moved hvm.symm hK1
    have hD := hD1.weaken (fun _ _ _ h => hFc _ h)
    have hP := hP1
    clear hP1 hK1 hD1 hFc
    generalize H1 = H at hP hS hz1 hk1 ht ⊢
    have hP : va_P D vwCl (mCl ca h0 ad u6) H := hP
    have hD : va_D A (mCl ca h0 ad u6) := hD
    obtain ⟨n3, hm3, hO3, hG3⟩ := hwu6
    replace hm3 : n3 ≤ 3 := by omega
    have hF3 := mFr_tr hF2 hG3
    clear hF2 hO2 hG3 ht hvm hz1 hk1
    refine lv_aload_n hx hb dX12_init_878 rfl (lv_at hl 1 rfl) ?_
    refine lv_bipush hx hb dX12_init_879 (v := 105) rfl ?_
    refine lv_bipush hx hb dX12_init_881 (v := 102) rfl ?_
    refine lv_iconst hx hb dX12_init_883 (v := 0) rfl ?_
    refine lv_iconst hx hb dX12_init_884 (v := 0) rfl ?_
    refine lv_iconst hx hb dX12_init_885 (v := 0) rfl ?_
    refine lv_iconst hx hb dX12_init_886 (v := 0) rfl ?_
    refine lv_iconst hx hb dX12_init_887 (v := 0) rfl ?_
    refine lv_iconst hx hb dX12_init_888 (v := 0) rfl ?_
    have hFc := pl_free hD hS hA
    refine va_callv (va_runV (As := [.int (105), .int (102), .int (0), .int (0), .int (0), .int (0), .int (0), .int (0)]) (rest := []) ⟨hx, hb, hml, hown, hts⟩ (c_m_said l D ca h0 H.size ad u6 (105) (102) (0) (0) (0) (0) (0) (0) n3 (by omega) hO3) (cwV 8 hts gX12_init_X12_said rfl rfl rfl (by decide +kernel) ⟨Nat.le_of_ble_eq_true rfl, Nat.le_of_ble_eq_true rfl⟩) ⟨fun a U g mk q => by obtain ⟨q0, q1, qP, qK, qD⟩ := q; exact ⟨q0, q1, qP, va_K.moved (u := U) (U := U.calling g mk a) (Vm.Alike.refl U.vm) qK, qD⟩, va_recv hK hP (ci := 12) (q0 := 0) rfl rfl, fun U hU hW => ⟨rfl, by rw [hU], by rw [hU]; exact hP, va_K.moved hW.alike hK, hD.weaken (fun _ _ _ _ => trivial)⟩⟩ rfl rfl hl.1 rfl (lv_room (Nat.le_of_ble_eq_true rfl)) dX12_init_889 ⟨hc9, hs9⟩) hS (fun q _ h => hFc q h) hFc (fun u8 t H1 locs ht hvm hwu8 hB hz1 hk1 hS => ?_)
    obtain ⟨hP1, hK1, hD1⟩ := hB
    rw [ht] at hP1
    have hK := va_K.moved hvm.symm hK1
    have hD := hD1.weaken (fun _ _ _ h => hFc _ h)
    have hP := hP1
    clear hP1 hK1 hD1 hFc
    generalize H1 = H at hP hS hz1 hk1 ht ⊢
    have hP : va_P D vwCl (mCl ca h0 ad u8) H := hP
    have hD : va_D A (mCl ca h0 ad u8) := hD
    obtain ⟨n4, hm4, hO4, hG4⟩ := hwu8
    replace hm4 : n4 ≤ 4 := by omega
    have hF4 := mFr_tr hF3 hG4
    clear hF3 hO3 hG4 ht hvm hz1 hk1
    refine lv_aload_n hx hb dX12_init_892 rfl (lv_at hl 1 rfl) ?_
    refine lv_bipush hx hb dX12_init_893 (v := 101) rfl ?_
    refine lv_bipush hx hb dX12_init_895 (v := 113) rfl ?_
    refine lv_bipush hx hb dX12_init_897 (v := 117) rfl ?_
    refine lv_bipush hx hb dX12_init_899 (v := 97) rfl ?_
    refine lv_bipush hx hb dX12_init_901 (v := 108) rfl ?_
    refine lv_iconst hx hb dX12_init_903 (v := 0) rfl ?_
    refine lv_iconst hx hb dX12_init_904 (v := 0) rfl ?_
    refine lv_iconst hx hb dX12_init_905 (v := 0) rfl ?_
    have hFc := pl_free hD hS hA
    refine va_callv (va_runV (As := [.int (101), .int (113), .int (117), .int (97), .int (108), .int (0), .int (0), .int (0)]) (rest := []) ⟨hx, hb, hml, hown, hts⟩ (c_m_said l D ca h0 H.size ad u8 (101) (113) (117) (97) (108) (0) (0) (0) n4 (by omega) hO4) (cwV 8 hts gX12_init_X12_said rfl rfl rfl (by decide +kernel) ⟨Nat.le_of_ble_eq_true rfl, Nat.le_of_ble_eq_true rfl⟩) ⟨fun a U g mk q => by obtain ⟨q0, q1, qP, qK, qD⟩ := q; exact ⟨q0, q1, qP, va_K.moved (u := U) (U := U.calling g mk a) (Vm.Alike.refl U.vm) qK, qD⟩, va_recv hK hP (ci := 12) (q0 := 0) rfl rfl, fun U hU hW => ⟨rfl, by rw [hU], by rw [hU]; exact hP, va_K.moved hW.alike hK, hD.weaken (fun _ _ _ _ => trivial)⟩⟩ rfl rfl hl.1 rfl (lv_room (Nat.le_of_ble_eq_true rfl)) dX12_init_906 ⟨hc9, hs9⟩) hS (fun q _ h => hFc q h) hFc (fun u10 t H1 locs ht hvm hwu10 hB hz1 hk1 hS => ?_)
    obtain ⟨hP1, hK1, hD1⟩ := hB
    rw [ht] at hP1
    have hK := va_K.moved hvm.symm hK1
    have hD := hD1.weaken (fun _ _ _ h => hFc _ h)
    have hP := hP1
    clear hP1 hK1 hD1 hFc
    generalize H1 = H at hP hS hz1 hk1 ht ⊢
    have hP : va_P D vwCl (mCl ca h0 ad u10) H := hP
    have hD : va_D A (mCl ca h0 ad u10) := hD
    obtain ⟨n5, hm5, hO5, hG5⟩ := hwu10
    replace hm5 : n5 ≤ 5 := by omega
    have hF5 := mFr_tr hF4 hG5
    clear hF4 hO4 hG5 ht hvm hz1 hk1
    refine lv_aload_n hx hb dX12_init_909 rfl (lv_at hl 1 rfl) ?_
    refine lv_bipush hx hb dX12_init_910 (v := 99) rfl ?_
    refine lv_bipush hx hb dX12_init_912 (v := 111) rfl ?_
    refine lv_bipush hx hb dX12_init_914 (v := 110) rfl ?_
    refine lv_bipush hx hb dX12_init_916 (v := 115) rfl ?_
    refine lv_iconst hx hb dX12_init_918 (v := 0) rfl ?_
    refine lv_iconst hx hb dX12_init_919 (v := 0) rfl ?_
    refine lv_iconst hx hb dX12_init_920 (v := 0) rfl ?_
    refine lv_iconst hx hb dX12_init_921 (v := 0) rfl ?_
    have hFc := pl_free hD hS hA
    refine va_callv (va_runV (As := [.int (99), .int (111), .int (110), .int (115), .int (0), .int (0), .int (0), .int (0)]) (rest := []) ⟨hx, hb, hml, hown, hts⟩ (c_m_said l D ca h0 H.size ad u10 (99) (111) (110) (115) (0) (0) (0) (0) n5 (by omega) hO5) (cwV 8 hts gX12_init_X12_said rfl rfl rfl (by decide +kernel) ⟨Nat.le_of_ble_eq_true rfl, Nat.le_of_ble_eq_true rfl⟩) ⟨fun a U g mk q => by obtain ⟨q0, q1, qP, qK, qD⟩ := q; exact ⟨q0, q1, qP, va_K.moved (u := U) (U := U.calling g mk a) (Vm.Alike.refl U.vm) qK, qD⟩, va_recv hK hP (ci := 12) (q0 := 0) rfl rfl, fun U hU hW => ⟨rfl, by rw [hU], by rw [hU]; exact hP, va_K.moved hW.alike hK, hD.weaken (fun _ _ _ _ => trivial)⟩⟩ rfl rfl hl.1 rfl (lv_room (Nat.le_of_ble_eq_true rfl)) dX12_init_922 ⟨hc9, hs9⟩) hS (fun q _ h => hFc q h) hFc (fun u12 t H1 locs ht hvm hwu12 hB hz1 hk1 hS => ?_)
    obtain ⟨hP1, hK1, hD1⟩ := hB
    rw [ht] at hP1
    have hK := va_K.moved hvm.symm hK1
    have hD := hD1.weaken (fun _ _ _ h => hFc _ h)
    have hP := hP1
    clear hP1 hK1 hD1 hFc
    generalize H1 = H at hP hS hz1 hk1 ht ⊢
    have hP : va_P D vwCl (mCl ca h0 ad u12) H := hP
    have hD : va_D A (mCl ca h0 ad u12) := hD
    obtain ⟨n6, hm6, hO6, hG6⟩ := hwu12
    replace hm6 : n6 ≤ 6 := by omega
    have hF6 := mFr_tr hF5 hG6
    clear hF5 hO5 hG6 ht hvm hz1 hk1
    refine lv_aload_n hx hb dX12_init_925 rfl (lv_at hl 1 rfl) ?_
    refine lv_bipush hx hb dX12_init_926 (v := 105) rfl ?_
    refine lv_bipush hx hb dX12_init_928 (v := 109) rfl ?_
    refine lv_bipush hx hb dX12_init_930 (v := 112) rfl ?_
    refine lv_bipush hx hb dX12_init_932 (v := 108) rfl ?_
    refine lv_bipush hx hb dX12_init_934 (v := 105) rfl ?_
    refine lv_bipush hx hb dX12_init_936 (v := 101) rfl ?_
    refine lv_bipush hx hb dX12_init_938 (v := 115) rfl ?_
    refine lv_iconst hx hb dX12_init_940 (v := 0) rfl ?_
    have hFc := pl_free hD hS hA
    refine va_callv (va_runV (As := [.int (105), .int (109), .int (112), .int (108), .int (105), .int (101), .int (115), .int (0)]) (rest := []) ⟨hx, hb, hml, hown, hts⟩ (c_m_said l D ca h0 H.size ad u12 (105) (109) (112) (108) (105) (101) (115) (0) n6 (by omega) hO6) (cwV 8 hts gX12_init_X12_said rfl rfl rfl (by decide +kernel) ⟨Nat.le_of_ble_eq_true rfl, Nat.le_of_ble_eq_true rfl⟩) ⟨fun a U g mk q => by obtain ⟨q0, q1, qP, qK, qD⟩ := q; exact ⟨q0, q1, qP, va_K.moved (u := U) (U := U.calling g mk a) (Vm.Alike.refl U.vm) qK, qD⟩, va_recv hK hP (ci := 12) (q0 := 0) rfl rfl, fun U hU hW => ⟨rfl, by rw [hU], by rw [hU]; exact hP, va_K.moved hW.alike hK, hD.weaken (fun _ _ _ _ => trivial)⟩⟩ rfl rfl hl.1 rfl (lv_room (Nat.le_of_ble_eq_true rfl)) dX12_init_941 ⟨hc9, hs9⟩) hS (fun q _ h => hFc q h) hFc (fun u14 t H1 locs ht hvm hwu14 hB hz1 hk1 hS => ?_)
    obtain ⟨hP1, hK1, hD1⟩ := hB
    rw [ht] at hP1
    have hK := va_K.moved hvm.symm hK1
    have hD := hD1.weaken (fun _ _ _ h => hFc _ h)
    have hP := hP1
    clear hP1 hK1 hD1 hFc
    generalize H1 = H at hP hS hz1 hk1 ht ⊢
    have hP : va_P D vwCl (mCl ca h0 ad u14) H := hP
    have hD : va_D A (mCl ca h0 ad u14) := hD
    obtain ⟨n7, hm7, hO7, hG7⟩ := hwu14
    replace hm7 : n7 ≤ 7 := by omega
    have hF7 := mFr_tr hF6 hG7
    clear hF6 hO6 hG7 ht hvm hz1 hk1
    refine lv_aload_n hx hb dX12_init_944 rfl (lv_at hl 1 rfl) ?_
    refine lv_bipush hx hb dX12_init_945 (v := 43) rfl ?_
    refine lv_iconst hx hb dX12_init_947 (v := 0) rfl ?_
    refine lv_iconst hx hb dX12_init_948 (v := 0) rfl ?_
    refine lv_iconst hx hb dX12_init_949 (v := 0) rfl ?_
    refine lv_iconst hx hb dX12_init_950 (v := 0) rfl ?_
    refine lv_iconst hx hb dX12_init_951 (v := 0) rfl ?_
    refine lv_iconst hx hb dX12_init_952 (v := 0) rfl ?_
    refine lv_iconst hx hb dX12_init_953 (v := 0) rfl ?_
    have hFc := pl_free hD hS hA
    refine va_callv (va_runV (As := [.int (43), .int (0), .int (0), .int (0), .int (0), .int (0), .int (0), .int (0)]) (rest := []) ⟨hx, hb, hml, hown, hts⟩ (c_m_said l D ca h0 H.size ad u14 (43) (0) (0) (0) (0) (0) (0) (0) n7 (by omega) hO7) (cwV 8 hts gX12_init_X12_said rfl rfl rfl (by decide +kernel) ⟨Nat.le_of_ble_eq_true rfl, Nat.le_of_ble_eq_true rfl⟩) ⟨fun a U g mk q => by obtain ⟨q0, q1, qP, qK, qD⟩ := q; exact ⟨q0, q1, qP, va_K.moved (u := U) (U := U.calling g mk a) (Vm.Alike.refl U.vm) qK, qD⟩, va_recv hK hP (ci := 12) (q0 := 0) rfl rfl, fun U hU hW => ⟨rfl, by rw [hU], by rw [hU]; exact hP, va_K.moved hW.alike hK, hD.weaken (fun _ _ _ _ => trivial)⟩⟩ rfl rfl hl.1 rfl (lv_room (Nat.le_of_ble_eq_true rfl)) dX12_init_954 ⟨hc9, hs9⟩) hS (fun q _ h => hFc q h) hFc (fun u16 t H1 locs ht hvm hwu16 hB hz1 hk1 hS => ?_)
    obtain ⟨hP1, hK1, hD1⟩ := hB
    rw [ht] at hP1
    have hK := va_K.moved hvm.symm hK1
    have hD := hD1.weaken (fun _ _ _ h => hFc _ h)
    have hP := hP1
    clear hP1 hK1 hD1 hFc
    generalize H1 = H at hP hS hz1 hk1 ht ⊢
    have hP : va_P D vwCl (mCl ca h0 ad u16) H := hP
    have hD : va_D A (mCl ca h0 ad u16) := hD
    obtain ⟨n8, hm8, hO8, hG8⟩ := hwu16
    replace hm8 : n8 ≤ 8 := by omega
    have hF8 := mFr_tr hF7 hG8
    clear hF7 hO7 hG8 ht hvm hz1 hk1
    refine lv_aload_n hx hb dX12_init_957 rfl (lv_at hl 1 rfl) ?_
    refine lv_bipush hx hb dX12_init_958 (v := 45) rfl ?_
    refine lv_iconst hx hb dX12_init_960 (v := 0) rfl ?_
    refine lv_iconst hx hb dX12_init_961 (v := 0) rfl ?_
    refine lv_iconst hx hb dX12_init_962 (v := 0) rfl ?_
    refine lv_iconst hx hb dX12_init_963 (v := 0) rfl ?_
    refine lv_iconst hx hb dX12_init_964 (v := 0) rfl ?_
    refine lv_iconst hx hb dX12_init_965 (v := 0) rfl ?_
    refine lv_iconst hx hb dX12_init_966 (v := 0) rfl ?_
    have hFc := pl_free hD hS hA
    refine va_callv (va_runV (As := [.int (45), .int (0), .int (0), .int (0), .int (0), .int (0), .int (0), .int (0)]) (rest := []) ⟨hx, hb, hml, hown, hts⟩ (c_m_said l D ca h0 H.size ad u16 (45) (0) (0) (0) (0) (0) (0) (0) n8 (by omega) hO8) (cwV 8 hts gX12_init_X12_said rfl rfl rfl (by decide +kernel) ⟨Nat.le_of_ble_eq_true rfl, Nat.le_of_ble_eq_true rfl⟩) ⟨fun a U g mk q => by obtain ⟨q0, q1, qP, qK, qD⟩ := q; exact ⟨q0, q1, qP, va_K.moved (u := U) (U := U.calling g mk a) (Vm.Alike.refl U.vm) qK, qD⟩, va_recv hK hP (ci := 12) (q0 := 0) rfl rfl, fun U hU hW => ⟨rfl, by rw [hU], by rw [hU]; exact hP, va_K.moved hW.alike hK, hD.weaken (fun _ _ _ _ => trivial)⟩⟩ rfl rfl hl.1 rfl (lv_room (Nat.le_of_ble_eq_true rfl)) dX12_init_967 ⟨hc9, hs9⟩) hS (fun q _ h => hFc q h) hFc (fun u18 t H1 locs ht hvm hwu18 hB hz1 hk1 hS => ?_)
    obtain ⟨hP1, hK1, hD1⟩ := hB
    rw [ht] at hP1
    have hK := va_K.moved hvm.symm hK1
    have hD := hD1.weaken (fun _ _ _ h => hFc _ h)
    have hP := hP1
    clear hP1 hK1 hD1 hFc
    generalize H1 = H at hP hS hz1 hk1 ht ⊢
    have hP : va_P D vwCl (mCl ca h0 ad u18) H := hP
    have hD : va_D A (mCl ca h0 ad u18) := hD
    obtain ⟨n9, hm9, hO9, hG9⟩ := hwu18
    replace hm9 : n9 ≤ 9 := by omega
    have hF9 := mFr_tr hF8 hG9
    clear hF8 hO8 hG9 ht hvm hz1 hk1
    refine lv_aload_n hx hb dX12_init_970 rfl (lv_at hl 1 rfl) ?_
    refine lv_bipush hx hb dX12_init_971 (v := 60) rfl ?_
    refine lv_iconst hx hb dX12_init_973 (v := 0) rfl ?_
    refine lv_iconst hx hb dX12_init_974 (v := 0) rfl ?_
    refine lv_iconst hx hb dX12_init_975 (v := 0) rfl ?_
    refine lv_iconst hx hb dX12_init_976 (v := 0) rfl ?_
    refine lv_iconst hx hb dX12_init_977 (v := 0) rfl ?_
    refine lv_iconst hx hb dX12_init_978 (v := 0) rfl ?_
    refine lv_iconst hx hb dX12_init_979 (v := 0) rfl ?_
    have hFc := pl_free hD hS hA
    refine va_callv (va_runV (As := [.int (60), .int (0), .int (0), .int (0), .int (0), .int (0), .int (0), .int (0)]) (rest := []) ⟨hx, hb, hml, hown, hts⟩ (c_m_said l D ca h0 H.size ad u18 (60) (0) (0) (0) (0) (0) (0) (0) n9 (by omega) hO9) (cwV 8 hts gX12_init_X12_said rfl rfl rfl (by decide +kernel) ⟨Nat.le_of_ble_eq_true rfl, Nat.le_of_ble_eq_true rfl⟩) ⟨fun a U g mk q => by obtain ⟨q0, q1, qP, qK, qD⟩ := q; exact ⟨q0, q1, qP, va_K.moved (u := U) (U := U.calling g mk a) (Vm.Alike.refl U.vm) qK, qD⟩, va_recv hK hP (ci := 12) (q0 := 0) rfl rfl, fun U hU hW => ⟨rfl, by rw [hU], by rw [hU]; exact hP, va_K.moved hW.alike hK, hD.weaken (fun _ _ _ _ => trivial)⟩⟩ rfl rfl hl.1 rfl (lv_room (Nat.le_of_ble_eq_true rfl)) dX12_init_980 ⟨hc9, hs9⟩) hS (fun q _ h => hFc q h) hFc (fun u20 t H1 locs ht hvm hwu20 hB hz1 hk1 hS => ?_)
    obtain ⟨hP1, hK1, hD1⟩ := hB
    rw [ht] at hP1
    have hK := va_K.moved hvm.symm hK1
    have hD := hD1.weaken (fun _ _ _ h => hFc _ h)
    have hP := hP1
    clear hP1 hK1 hD1 hFc
    generalize H1 = H at hP hS hz1 hk1 ht ⊢
    have hP : va_P D vwCl (mCl ca h0 ad u20) H := hP
    have hD : va_D A (mCl ca h0 ad u20) := hD
    obtain ⟨n10, hm10, hO10, hG10⟩ := hwu20
    replace hm10 : n10 ≤ 10 := by omega
    have hF10 := mFr_tr hF9 hG10
    clear hF9 hO9 hG10 ht hvm hz1 hk1
    refine lv_aload_n hx hb dX12_init_983 rfl (lv_at hl 1 rfl) ?_
    refine lv_bipush hx hb dX12_init_984 (v := 99) rfl ?_
    refine lv_bipush hx hb dX12_init_986 (v := 111) rfl ?_
    refine lv_bipush hx hb dX12_init_988 (v := 110) rfl ?_
    refine lv_bipush hx hb dX12_init_990 (v := 115) rfl ?_
    refine lv_bipush hx hb dX12_init_992 (v := 112) rfl ?_
    refine lv_iconst hx hb dX12_init_994 (v := 0) rfl ?_
    refine lv_iconst hx hb dX12_init_995 (v := 0) rfl ?_
    refine lv_iconst hx hb dX12_init_996 (v := 0) rfl ?_
    have hFc := pl_free hD hS hA
    refine va_callv (va_runV (As := [.int (99), .int (111), .int (110), .int (115), .int (112), .int (0), .int (0), .int (0)]) (rest := []) ⟨hx, hb, hml, hown, hts⟩ (c_m_said l D ca h0 H.size ad u20 (99) (111) (110) (115) (112) (0) (0) (0) n10 (by omega) hO10) (cwV 8 hts gX12_init_X12_said rfl rfl rfl (by decide +kernel) ⟨Nat.le_of_ble_eq_true rfl, Nat.le_of_ble_eq_true rfl⟩) ⟨fun a U g mk q => by obtain ⟨q0, q1, qP, qK, qD⟩ := q; exact ⟨q0, q1, qP, va_K.moved (u := U) (U := U.calling g mk a) (Vm.Alike.refl U.vm) qK, qD⟩, va_recv hK hP (ci := 12) (q0 := 0) rfl rfl, fun U hU hW => ⟨rfl, by rw [hU], by rw [hU]; exact hP, va_K.moved hW.alike hK, hD.weaken (fun _ _ _ _ => trivial)⟩⟩ rfl rfl hl.1 rfl (lv_room (Nat.le_of_ble_eq_true rfl)) dX12_init_997 ⟨hc9, hs9⟩) hS (fun q _ h => hFc q h) hFc (fun u22 t H1 locs ht hvm hwu22 hB hz1 hk1 hS => ?_)
    obtain ⟨hP1, hK1, hD1⟩ := hB
    rw [ht] at hP1
    have hK := va_K.moved hvm.symm hK1
    have hD := hD1.weaken (fun _ _ _ h => hFc _ h)
    have hP := hP1
    clear hP1 hK1 hD1 hFc
    generalize H1 = H at hP hS hz1 hk1 ht ⊢
    have hP : va_P D vwCl (mCl ca h0 ad u22) H := hP
    have hD : va_D A (mCl ca h0 ad u22) := hD
    obtain ⟨n11, hm11, hO11, hG11⟩ := hwu22
    replace hm11 : n11 ≤ 11 := by omega
    have hF11 := mFr_tr hF10 hG11
    clear hF10 hO10 hG11 ht hvm hz1 hk1
    refine lv_aload_n hx hb dX12_init_1000 rfl (lv_at hl 1 rfl) ?_
    refine lv_bipush hx hb dX12_init_1001 (v := 99) rfl ?_
    refine lv_bipush hx hb dX12_init_1003 (v := 97) rfl ?_
    refine lv_bipush hx hb dX12_init_1005 (v := 114) rfl ?_
    refine lv_iconst hx hb dX12_init_1007 (v := 0) rfl ?_
    refine lv_iconst hx hb dX12_init_1008 (v := 0) rfl ?_
    refine lv_iconst hx hb dX12_init_1009 (v := 0) rfl ?_
    refine lv_iconst hx hb dX12_init_1010 (v := 0) rfl ?_
    refine lv_iconst hx hb dX12_init_1011 (v := 0) rfl ?_
    have hFc := pl_free hD hS hA
    refine va_callv (va_runV (As := [.int (99), .int (97), .int (114), .int (0), .int (0), .int (0), .int (0), .int (0)]) (rest := []) ⟨hx, hb, hml, hown, hts⟩ (c_m_said l D ca h0 H.size ad u22 (99) (97) (114) (0) (0) (0) (0) (0) n11 (by omega) hO11) (cwV 8 hts gX12_init_X12_said rfl rfl rfl (by decide +kernel) ⟨Nat.le_of_ble_eq_true rfl, Nat.le_of_ble_eq_true rfl⟩) ⟨fun a U g mk q => by obtain ⟨q0, q1, qP, qK, qD⟩ := q; exact ⟨q0, q1, qP, va_K.moved (u := U) (U := U.calling g mk a) (Vm.Alike.refl U.vm) qK, qD⟩, va_recv hK hP (ci := 12) (q0 := 0) rfl rfl, fun U hU hW => ⟨rfl, by rw [hU], by rw [hU]; exact hP, va_K.moved hW.alike hK, hD.weaken (fun _ _ _ _ => trivial)⟩⟩ rfl rfl hl.1 rfl (lv_room (Nat.le_of_ble_eq_true rfl)) dX12_init_1012 ⟨hc9, hs9⟩) hS (fun q _ h => hFc q h) hFc (fun u24 t H1 locs ht hvm hwu24 hB hz1 hk1 hS => ?_)
    obtain ⟨hP1, hK1, hD1⟩ := hB
    rw [ht] at hP1
    have hK := va_K.moved hvm.symm hK1
    have hD := hD1.weaken (fun _ _ _ h => hFc _ h)
    have hP := hP1
    clear hP1 hK1 hD1 hFc
    generalize H1 = H at hP hS hz1 hk1 ht ⊢
    have hP : va_P D vwCl (mCl ca h0 ad u24) H := hP
    have hD : va_D A (mCl ca h0 ad u24) := hD
    obtain ⟨n12, hm12, hO12, hG12⟩ := hwu24
    replace hm12 : n12 ≤ 12 := by omega
    have hF12 := mFr_tr hF11 hG12
    clear hF11 hO11 hG12 ht hvm hz1 hk1
    refine lv_aload_n hx hb dX12_init_1015 rfl (lv_at hl 1 rfl) ?_
    refine lv_bipush hx hb dX12_init_1016 (v := 99) rfl ?_
    refine lv_bipush hx hb dX12_init_1018 (v := 100) rfl ?_
    refine lv_bipush hx hb dX12_init_1020 (v := 114) rfl ?_
    refine lv_iconst hx hb dX12_init_1022 (v := 0) rfl ?_
    refine lv_iconst hx hb dX12_init_1023 (v := 0) rfl ?_
    refine lv_iconst hx hb dX12_init_1024 (v := 0) rfl ?_
    refine lv_iconst hx hb dX12_init_1025 (v := 0) rfl ?_
    refine lv_iconst hx hb dX12_init_1026 (v := 0) rfl ?_
    have hFc := pl_free hD hS hA
    refine va_callv (va_runV (As := [.int (99), .int (100), .int (114), .int (0), .int (0), .int (0), .int (0), .int (0)]) (rest := []) ⟨hx, hb, hml, hown, hts⟩ (c_m_said l D ca h0 H.size ad u24 (99) (100) (114) (0) (0) (0) (0) (0) n12 (by omega) hO12) (cwV 8 hts gX12_init_X12_said rfl rfl rfl (by decide +kernel) ⟨Nat.le_of_ble_eq_true rfl, Nat.le_of_ble_eq_true rfl⟩) ⟨fun a U g mk q => by obtain ⟨q0, q1, qP, qK, qD⟩ := q; exact ⟨q0, q1, qP, va_K.moved (u := U) (U := U.calling g mk a) (Vm.Alike.refl U.vm) qK, qD⟩, va_recv hK hP (ci := 12) (q0 := 0) rfl rfl, fun U hU hW => ⟨rfl, by rw [hU], by rw [hU]; exact hP, va_K.moved hW.alike hK, hD.weaken (fun _ _ _ _ => trivial)⟩⟩ rfl rfl hl.1 rfl (lv_room (Nat.le_of_ble_eq_true rfl)) dX12_init_1027 ⟨hc9, hs9⟩) hS (fun q _ h => hFc q h) hFc (fun u26 t H1 locs ht hvm hwu26 hB hz1 hk1 hS => ?_)
    obtain ⟨hP1, hK1, hD1⟩ := hB
    rw [ht] at hP1
    have hK := va_K.moved hvm.symm hK1
    have hD := hD1.weaken (fun _ _ _ h => hFc _ h)
    have hP := hP1
    clear hP1 hK1 hD1 hFc
    generalize H1 = H at hP hS hz1 hk1 ht ⊢
    have hP : va_P D vwCl (mCl ca h0 ad u26) H := hP
    have hD : va_D A (mCl ca h0 ad u26) := hD
    obtain ⟨n13, hm13, hO13, hG13⟩ := hwu26
    replace hm13 : n13 ≤ 13 := by omega
    have hF13 := mFr_tr hF12 hG13
    clear hF12 hO12 hG13 ht hvm hz1 hk1
    refine lv_aload_n hx hb dX12_init_1030 rfl (lv_at hl 1 rfl) ?_
    refine lv_bipush hx hb dX12_init_1031 (v := 110) rfl ?_
    refine lv_bipush hx hb dX12_init_1033 (v := 97) rfl ?_
    refine lv_bipush hx hb dX12_init_1035 (v := 116) rfl ?_
    refine lv_bipush hx hb dX12_init_1037 (v := 112) rfl ?_
    refine lv_iconst hx hb dX12_init_1039 (v := 0) rfl ?_
    refine lv_iconst hx hb dX12_init_1040 (v := 0) rfl ?_
    refine lv_iconst hx hb dX12_init_1041 (v := 0) rfl ?_
    refine lv_iconst hx hb dX12_init_1042 (v := 0) rfl ?_
    have hFc := pl_free hD hS hA
    refine va_callv (va_runV (As := [.int (110), .int (97), .int (116), .int (112), .int (0), .int (0), .int (0), .int (0)]) (rest := []) ⟨hx, hb, hml, hown, hts⟩ (c_m_said l D ca h0 H.size ad u26 (110) (97) (116) (112) (0) (0) (0) (0) n13 (by omega) hO13) (cwV 8 hts gX12_init_X12_said rfl rfl rfl (by decide +kernel) ⟨Nat.le_of_ble_eq_true rfl, Nat.le_of_ble_eq_true rfl⟩) ⟨fun a U g mk q => by obtain ⟨q0, q1, qP, qK, qD⟩ := q; exact ⟨q0, q1, qP, va_K.moved (u := U) (U := U.calling g mk a) (Vm.Alike.refl U.vm) qK, qD⟩, va_recv hK hP (ci := 12) (q0 := 0) rfl rfl, fun U hU hW => ⟨rfl, by rw [hU], by rw [hU]; exact hP, va_K.moved hW.alike hK, hD.weaken (fun _ _ _ _ => trivial)⟩⟩ rfl rfl hl.1 rfl (lv_room (Nat.le_of_ble_eq_true rfl)) dX12_init_1043 ⟨hc9, hs9⟩) hS (fun q _ h => hFc q h) hFc (fun u28 t H1 locs ht hvm hwu28 hB hz1 hk1 hS => ?_)
    obtain ⟨hP1, hK1, hD1⟩ := hB
    rw [ht] at hP1
    have hK := va_K.moved hvm.symm hK1
    have hD := hD1.weaken (fun _ _ _ h => hFc _ h)
    have hP := hP1
    clear hP1 hK1 hD1 hFc
    generalize H1 = H at hP hS hz1 hk1 ht ⊢
    have hP : va_P D vwCl (mCl ca h0 ad u28) H := hP
    have hD : va_D A (mCl ca h0 ad u28) := hD
    obtain ⟨n14, hm14, hO14, hG14⟩ := hwu28
    replace hm14 : n14 ≤ 14 := by omega
    have hF14 := mFr_tr hF13 hG14
    clear hF13 hO13 hG14 ht hvm hz1 hk1
    refine lv_aload_n hx hb dX12_init_1046 rfl (lv_at hl 1 rfl) ?_
    refine lv_bipush hx hb dX12_init_1047 (v := 115) rfl ?_
    refine lv_bipush hx hb dX12_init_1049 (v := 121) rfl ?_
    refine lv_bipush hx hb dX12_init_1051 (v := 109) rfl ?_
    refine lv_bipush hx hb dX12_init_1053 (v := 98) rfl ?_
    refine lv_bipush hx hb dX12_init_1055 (v := 111) rfl ?_
    refine lv_bipush hx hb dX12_init_1057 (v := 108) rfl ?_
    refine lv_bipush hx hb dX12_init_1059 (v := 112) rfl ?_
    refine lv_iconst hx hb dX12_init_1061 (v := 0) rfl ?_
    have hFc := pl_free hD hS hA
    refine va_callv (va_runV (As := [.int (115), .int (121), .int (109), .int (98), .int (111), .int (108), .int (112), .int (0)]) (rest := []) ⟨hx, hb, hml, hown, hts⟩ (c_m_said l D ca h0 H.size ad u28 (115) (121) (109) (98) (111) (108) (112) (0) n14 (by omega) hO14) (cwV 8 hts gX12_init_X12_said rfl rfl rfl (by decide +kernel) ⟨Nat.le_of_ble_eq_true rfl, Nat.le_of_ble_eq_true rfl⟩) ⟨fun a U g mk q => by obtain ⟨q0, q1, qP, qK, qD⟩ := q; exact ⟨q0, q1, qP, va_K.moved (u := U) (U := U.calling g mk a) (Vm.Alike.refl U.vm) qK, qD⟩, va_recv hK hP (ci := 12) (q0 := 0) rfl rfl, fun U hU hW => ⟨rfl, by rw [hU], by rw [hU]; exact hP, va_K.moved hW.alike hK, hD.weaken (fun _ _ _ _ => trivial)⟩⟩ rfl rfl hl.1 rfl (lv_room (Nat.le_of_ble_eq_true rfl)) dX12_init_1062 ⟨hc9, hs9⟩) hS (fun q _ h => hFc q h) hFc (fun u30 t H1 locs ht hvm hwu30 hB hz1 hk1 hS => ?_)
    obtain ⟨hP1, hK1, hD1⟩ := hB
    rw [ht] at hP1
    have hK := va_K.moved hvm.symm hK1
    have hD := hD1.weaken (fun _ _ _ h => hFc _ h)
    have hP := hP1
    clear hP1 hK1 hD1 hFc
    generalize H1 = H at hP hS hz1 hk1 ht ⊢
    have hP : va_P D vwCl (mCl ca h0 ad u30) H := hP
    have hD : va_D A (mCl ca h0 ad u30) := hD
    obtain ⟨n15, hm15, hO15, hG15⟩ := hwu30
    replace hm15 : n15 ≤ 15 := by omega
    have hF15 := mFr_tr hF14 hG15
    clear hF14 hO14 hG15 ht hvm hz1 hk1
    refine lv_aload_n hx hb dX12_init_1065 rfl (lv_at hl 1 rfl) ?_
    refine lv_bipush hx hb dX12_init_1066 (v := 110) rfl ?_
    refine lv_bipush hx hb dX12_init_1068 (v := 111) rfl ?_
    refine lv_bipush hx hb dX12_init_1070 (v := 116) rfl ?_
    refine lv_iconst hx hb dX12_init_1072 (v := 0) rfl ?_
    refine lv_iconst hx hb dX12_init_1073 (v := 0) rfl ?_
    refine lv_iconst hx hb dX12_init_1074 (v := 0) rfl ?_
    refine lv_iconst hx hb dX12_init_1075 (v := 0) rfl ?_
    refine lv_iconst hx hb dX12_init_1076 (v := 0) rfl ?_
    have hFc := pl_free hD hS hA
    refine va_callv (va_runV (As := [.int (110), .int (111), .int (116), .int (0), .int (0), .int (0), .int (0), .int (0)]) (rest := []) ⟨hx, hb, hml, hown, hts⟩ (c_m_said l D ca h0 H.size ad u30 (110) (111) (116) (0) (0) (0) (0) (0) n15 (by omega) hO15) (cwV 8 hts gX12_init_X12_said rfl rfl rfl (by decide +kernel) ⟨Nat.le_of_ble_eq_true rfl, Nat.le_of_ble_eq_true rfl⟩) ⟨fun a U g mk q => by obtain ⟨q0, q1, qP, qK, qD⟩ := q; exact ⟨q0, q1, qP, va_K.moved (u := U) (U := U.calling g mk a) (Vm.Alike.refl U.vm) qK, qD⟩, va_recv hK hP (ci := 12) (q0 := 0) rfl rfl, fun U hU hW => ⟨rfl, by rw [hU], by rw [hU]; exact hP, va_K.moved hW.alike hK, hD.weaken (fun _ _ _ _ => trivial)⟩⟩ rfl rfl hl.1 rfl (lv_room (Nat.le_of_ble_eq_true rfl)) dX12_init_1077 ⟨hc9, hs9⟩) hS (fun q _ h => hFc q h) hFc (fun u32 t H1 locs ht hvm hwu32 hB hz1 hk1 hS => ?_)
    obtain ⟨hP1, hK1, hD1⟩ := hB
    rw [ht] at hP1
    have hK := va_K.moved hvm.symm hK1
    have hD := hD1.weaken (fun _ _ _ h => hFc _ h)
    have hP := hP1
    clear hP1 hK1 hD1 hFc
    generalize H1 = H at hP hS hz1 hk1 ht ⊢
    have hP : va_P D vwCl (mCl ca h0 ad u32) H := hP
    have hD : va_D A (mCl ca h0 ad u32) := hD
    obtain ⟨n16, hm16, hO16, hG16⟩ := hwu32
    replace hm16 : n16 ≤ 16 := by omega
    have hF16 := mFr_tr hF15 hG16
    clear hF15 hO15 hG16 ht hvm hz1 hk1
    refine lv_aload_n hx hb dX12_init_1080 rfl (lv_at hl 1 rfl) ?_
    refine lv_bipush hx hb dX12_init_1081 (v := 104) rfl ?_
    refine lv_bipush hx hb dX12_init_1083 (v := 101) rfl ?_
    refine lv_bipush hx hb dX12_init_1085 (v := 105) rfl ?_
    refine lv_bipush hx hb dX12_init_1087 (v := 103) rfl ?_
    refine lv_bipush hx hb dX12_init_1089 (v := 104) rfl ?_
    refine lv_bipush hx hb dX12_init_1091 (v := 116) rfl ?_
    refine lv_iconst hx hb dX12_init_1093 (v := 0) rfl ?_
    refine lv_iconst hx hb dX12_init_1094 (v := 0) rfl ?_
    have hFc := pl_free hD hS hA
    refine va_callv (va_runV (As := [.int (104), .int (101), .int (105), .int (103), .int (104), .int (116), .int (0), .int (0)]) (rest := []) ⟨hx, hb, hml, hown, hts⟩ (c_m_said l D ca h0 H.size ad u32 (104) (101) (105) (103) (104) (116) (0) (0) n16 (by omega) hO16) (cwV 8 hts gX12_init_X12_said rfl rfl rfl (by decide +kernel) ⟨Nat.le_of_ble_eq_true rfl, Nat.le_of_ble_eq_true rfl⟩) ⟨fun a U g mk q => by obtain ⟨q0, q1, qP, qK, qD⟩ := q; exact ⟨q0, q1, qP, va_K.moved (u := U) (U := U.calling g mk a) (Vm.Alike.refl U.vm) qK, qD⟩, va_recv hK hP (ci := 12) (q0 := 0) rfl rfl, fun U hU hW => ⟨rfl, by rw [hU], by rw [hU]; exact hP, va_K.moved hW.alike hK, hD.weaken (fun _ _ _ _ => trivial)⟩⟩ rfl rfl hl.1 rfl (lv_room (Nat.le_of_ble_eq_true rfl)) dX12_init_1095 ⟨hc9, hs9⟩) hS (fun q _ h => hFc q h) hFc (fun u34 t H1 locs ht hvm hwu34 hB hz1 hk1 hS => ?_)
    obtain ⟨hP1, hK1, hD1⟩ := hB
    rw [ht] at hP1
    have hK := va_K.moved hvm.symm hK1
    have hD := hD1.weaken (fun _ _ _ h => hFc _ h)
    have hP := hP1
    clear hP1 hK1 hD1 hFc
    generalize H1 = H at hP hS hz1 hk1 ht ⊢
    have hP : va_P D vwCl (mCl ca h0 ad u34) H := hP
    have hD : va_D A (mCl ca h0 ad u34) := hD
    obtain ⟨n17, hm17, hO17, hG17⟩ := hwu34
    replace hm17 : n17 ≤ 17 := by omega
    have hF17 := mFr_tr hF16 hG17
    clear hF16 hO16 hG17 ht hvm hz1 hk1
    refine lv_aload_n hx hb dX12_init_1098 rfl (lv_at hl 1 rfl) ?_
    refine lv_bipush hx hb dX12_init_1099 (v := 100) rfl ?_
    refine lv_bipush hx hb dX12_init_1101 (v := 101) rfl ?_
    refine lv_bipush hx hb dX12_init_1103 (v := 102) rfl ?_
    refine lv_bipush hx hb dX12_init_1105 (v := 117) rfl ?_
    refine lv_bipush hx hb dX12_init_1107 (v := 110) rfl ?_
    refine lv_iconst hx hb dX12_init_1109 (v := 0) rfl ?_
    refine lv_iconst hx hb dX12_init_1110 (v := 0) rfl ?_
    refine lv_iconst hx hb dX12_init_1111 (v := 0) rfl ?_
    have hFc := pl_free hD hS hA
    refine va_callv (va_runV (As := [.int (100), .int (101), .int (102), .int (117), .int (110), .int (0), .int (0), .int (0)]) (rest := []) ⟨hx, hb, hml, hown, hts⟩ (c_m_said l D ca h0 H.size ad u34 (100) (101) (102) (117) (110) (0) (0) (0) n17 (by omega) hO17) (cwV 8 hts gX12_init_X12_said rfl rfl rfl (by decide +kernel) ⟨Nat.le_of_ble_eq_true rfl, Nat.le_of_ble_eq_true rfl⟩) ⟨fun a U g mk q => by obtain ⟨q0, q1, qP, qK, qD⟩ := q; exact ⟨q0, q1, qP, va_K.moved (u := U) (U := U.calling g mk a) (Vm.Alike.refl U.vm) qK, qD⟩, va_recv hK hP (ci := 12) (q0 := 0) rfl rfl, fun U hU hW => ⟨rfl, by rw [hU], by rw [hU]; exact hP, va_K.moved hW.alike hK, hD.weaken (fun _ _ _ _ => trivial)⟩⟩ rfl rfl hl.1 rfl (lv_room (Nat.le_of_ble_eq_true rfl)) dX12_init_1112 ⟨hc9, hs9⟩) hS (fun q _ h => hFc q h) hFc (fun u36 t H1 locs ht hvm hwu36 hB hz1 hk1 hS => ?_)
    obtain ⟨hP1, hK1, hD1⟩ := hB
    rw [ht] at hP1
    have hK := va_K.moved hvm.symm hK1
    have hD := hD1.weaken (fun _ _ _ h => hFc _ h)
    have hP := hP1
    clear hP1 hK1 hD1 hFc
    generalize H1 = H at hP hS hz1 hk1 ht ⊢
    have hP : va_P D vwCl (mCl ca h0 ad u36) H := hP
    have hD : va_D A (mCl ca h0 ad u36) := hD
    obtain ⟨n18, hm18, hO18, hG18⟩ := hwu36
    replace hm18 : n18 ≤ 18 := by omega
    have hF18 := mFr_tr hF17 hG18
    clear hF17 hO17 hG18 ht hvm hz1 hk1
    refine lv_aload_n hx hb dX12_init_1115 rfl (lv_at hl 1 rfl) ?_
    refine lv_bipush hx hb dX12_init_1116 (v := 116) rfl ?_
    refine lv_bipush hx hb dX12_init_1118 (v := 104) rfl ?_
    refine lv_bipush hx hb dX12_init_1120 (v := 101) rfl ?_
    refine lv_bipush hx hb dX12_init_1122 (v := 111) rfl ?_
    refine lv_bipush hx hb dX12_init_1124 (v := 114) rfl ?_
    refine lv_bipush hx hb dX12_init_1126 (v := 101) rfl ?_
    refine lv_bipush hx hb dX12_init_1128 (v := 109) rfl ?_
    refine lv_iconst hx hb dX12_init_1130 (v := 0) rfl ?_
    have hFc := pl_free hD hS hA
    refine va_callv (va_runV (As := [.int (116), .int (104), .int (101), .int (111), .int (114), .int (101), .int (109), .int (0)]) (rest := []) ⟨hx, hb, hml, hown, hts⟩ (c_m_said l D ca h0 H.size ad u36 (116) (104) (101) (111) (114) (101) (109) (0) n18 (by omega) hO18) (cwV 8 hts gX12_init_X12_said rfl rfl rfl (by decide +kernel) ⟨Nat.le_of_ble_eq_true rfl, Nat.le_of_ble_eq_true rfl⟩) ⟨fun a U g mk q => by obtain ⟨q0, q1, qP, qK, qD⟩ := q; exact ⟨q0, q1, qP, va_K.moved (u := U) (U := U.calling g mk a) (Vm.Alike.refl U.vm) qK, qD⟩, va_recv hK hP (ci := 12) (q0 := 0) rfl rfl, fun U hU hW => ⟨rfl, by rw [hU], by rw [hU]; exact hP, va_K.moved hW.alike hK, hD.weaken (fun _ _ _ _ => trivial)⟩⟩ rfl rfl hl.1 rfl (lv_room (Nat.le_of_ble_eq_true rfl)) dX12_init_1131 ⟨hc9, hs9⟩) hS (fun q _ h => hFc q h) hFc (fun u38 t H1 locs ht hvm hwu38 hB hz1 hk1 hS => ?_)
    obtain ⟨hP1, hK1, hD1⟩ := hB
    rw [ht] at hP1
    have hK := va_K.moved hvm.symm hK1
    have hD := hD1.weaken (fun _ _ _ h => hFc _ h)
    have hP := hP1
    clear hP1 hK1 hD1 hFc
    generalize H1 = H at hP hS hz1 hk1 ht ⊢
    have hP : va_P D vwCl (mCl ca h0 ad u38) H := hP
    have hD : va_D A (mCl ca h0 ad u38) := hD
    obtain ⟨n19, hm19, hO19, hG19⟩ := hwu38
    replace hm19 : n19 ≤ 19 := by omega
    have hF19 := mFr_tr hF18 hG19
    clear hF18 hO18 hG19 ht hvm hz1 hk1
    refine lv_aload_n hx hb dX12_init_1134 rfl (lv_at hl 1 rfl) ?_
    refine lv_bipush hx hb dX12_init_1135 (v := 101) rfl ?_
    refine lv_bipush hx hb dX12_init_1137 (v := 118) rfl ?_
    refine lv_bipush hx hb dX12_init_1139 (v := 97) rfl ?_
    refine lv_bipush hx hb dX12_init_1141 (v := 108) rfl ?_
    refine lv_iconst hx hb dX12_init_1143 (v := 0) rfl ?_
    refine lv_iconst hx hb dX12_init_1144 (v := 0) rfl ?_
    refine lv_iconst hx hb dX12_init_1145 (v := 0) rfl ?_
    refine lv_iconst hx hb dX12_init_1146 (v := 0) rfl ?_
    have hFc := pl_free hD hS hA
    refine va_callv (va_runV (As := [.int (101), .int (118), .int (97), .int (108), .int (0), .int (0), .int (0), .int (0)]) (rest := []) ⟨hx, hb, hml, hown, hts⟩ (c_m_said l D ca h0 H.size ad u38 (101) (118) (97) (108) (0) (0) (0) (0) n19 (by omega) hO19) (cwV 8 hts gX12_init_X12_said rfl rfl rfl (by decide +kernel) ⟨Nat.le_of_ble_eq_true rfl, Nat.le_of_ble_eq_true rfl⟩) ⟨fun a U g mk q => by obtain ⟨q0, q1, qP, qK, qD⟩ := q; exact ⟨q0, q1, qP, va_K.moved (u := U) (U := U.calling g mk a) (Vm.Alike.refl U.vm) qK, qD⟩, va_recv hK hP (ci := 12) (q0 := 0) rfl rfl, fun U hU hW => ⟨rfl, by rw [hU], by rw [hU]; exact hP, va_K.moved hW.alike hK, hD.weaken (fun _ _ _ _ => trivial)⟩⟩ rfl rfl hl.1 rfl (lv_room (Nat.le_of_ble_eq_true rfl)) dX12_init_1147 ⟨hc9, hs9⟩) hS (fun q _ h => hFc q h) hFc (fun u40 t H1 locs ht hvm hwu40 hB hz1 hk1 hS => ?_)
    obtain ⟨hP1, hK1, hD1⟩ := hB
    rw [ht] at hP1
    have hK := va_K.moved hvm.symm hK1
    have hD := hD1.weaken (fun _ _ _ h => hFc _ h)
    have hP := hP1
    clear hP1 hK1 hD1 hFc
    generalize H1 = H at hP hS hz1 hk1 ht ⊢
    have hP : va_P D vwCl (mCl ca h0 ad u40) H := hP
    have hD : va_D A (mCl ca h0 ad u40) := hD
    obtain ⟨n20, hm20, hO20, hG20⟩ := hwu40
    replace hm20 : n20 ≤ 20 := by omega
    have hF20 := mFr_tr hF19 hG20
    clear hF19 hO19 hG20 ht hvm hz1 hk1
    refine lv_aload_n hx hb dX12_init_1150 rfl (lv_at hl 1 rfl) ?_
    refine lv_bipush hx hb dX12_init_1151 (v := 115) rfl ?_
    refine lv_bipush hx hb dX12_init_1153 (v := 105) rfl ?_
    refine lv_bipush hx hb dX12_init_1155 (v := 109) rfl ?_
    refine lv_bipush hx hb dX12_init_1157 (v := 112) rfl ?_
    refine lv_bipush hx hb dX12_init_1159 (v := 108) rfl ?_
    refine lv_bipush hx hb dX12_init_1161 (v := 105) rfl ?_
    refine lv_bipush hx hb dX12_init_1163 (v := 102) rfl ?_
    refine lv_bipush hx hb dX12_init_1165 (v := 121) rfl ?_
    have hFc := pl_free hD hS hA
    refine va_callv (va_runV (As := [.int (115), .int (105), .int (109), .int (112), .int (108), .int (105), .int (102), .int (121)]) (rest := []) ⟨hx, hb, hml, hown, hts⟩ (c_m_said l D ca h0 H.size ad u40 (115) (105) (109) (112) (108) (105) (102) (121) n20 (by omega) hO20) (cwV 8 hts gX12_init_X12_said rfl rfl rfl (by decide +kernel) ⟨Nat.le_of_ble_eq_true rfl, Nat.le_of_ble_eq_true rfl⟩) ⟨fun a U g mk q => by obtain ⟨q0, q1, qP, qK, qD⟩ := q; exact ⟨q0, q1, qP, va_K.moved (u := U) (U := U.calling g mk a) (Vm.Alike.refl U.vm) qK, qD⟩, va_recv hK hP (ci := 12) (q0 := 0) rfl rfl, fun U hU hW => ⟨rfl, by rw [hU], by rw [hU]; exact hP, va_K.moved hW.alike hK, hD.weaken (fun _ _ _ _ => trivial)⟩⟩ rfl rfl hl.1 rfl (lv_room (Nat.le_of_ble_eq_true rfl)) dX12_init_1167 ⟨hc9, hs9⟩) hS (fun q _ h => hFc q h) hFc (fun u42 t H1 locs ht hvm hwu42 hB hz1 hk1 hS => ?_)
    obtain ⟨hP1, hK1, hD1⟩ := hB
    rw [ht] at hP1
    have hK := va_K.moved hvm.symm hK1
    have hD := hD1.weaken (fun _ _ _ h => hFc _ h)
    have hP := hP1
    clear hP1 hK1 hD1 hFc
    generalize H1 = H at hP hS hz1 hk1 ht ⊢
    have hP : va_P D vwCl (mCl ca h0 ad u42) H := hP
    have hD : va_D A (mCl ca h0 ad u42) := hD
    obtain ⟨n21, hm21, hO21, hG21⟩ := hwu42
    replace hm21 : n21 ≤ 21 := by omega
    have hF21 := mFr_tr hF20 hG21
    clear hF20 hO20 hG21 ht hvm hz1 hk1
    refine lv_aload_n hx hb dX12_init_1170 rfl (lv_at hl 1 rfl) ?_
    refine lv_bipush hx hb dX12_init_1171 (v := 112) rfl ?_
    refine lv_bipush hx hb dX12_init_1173 (v := 114) rfl ?_
    refine lv_bipush hx hb dX12_init_1175 (v := 111) rfl ?_
    refine lv_bipush hx hb dX12_init_1177 (v := 118) rfl ?_
    refine lv_bipush hx hb dX12_init_1179 (v := 101) rfl ?_
    refine lv_iconst hx hb dX12_init_1181 (v := 0) rfl ?_
    refine lv_iconst hx hb dX12_init_1182 (v := 0) rfl ?_
    refine lv_iconst hx hb dX12_init_1183 (v := 0) rfl ?_
    have hFc := pl_free hD hS hA
    refine va_callv (va_runV (As := [.int (112), .int (114), .int (111), .int (118), .int (101), .int (0), .int (0), .int (0)]) (rest := []) ⟨hx, hb, hml, hown, hts⟩ (c_m_said l D ca h0 H.size ad u42 (112) (114) (111) (118) (101) (0) (0) (0) n21 (by omega) hO21) (cwV 8 hts gX12_init_X12_said rfl rfl rfl (by decide +kernel) ⟨Nat.le_of_ble_eq_true rfl, Nat.le_of_ble_eq_true rfl⟩) ⟨fun a U g mk q => by obtain ⟨q0, q1, qP, qK, qD⟩ := q; exact ⟨q0, q1, qP, va_K.moved (u := U) (U := U.calling g mk a) (Vm.Alike.refl U.vm) qK, qD⟩, va_recv hK hP (ci := 12) (q0 := 0) rfl rfl, fun U hU hW => ⟨rfl, by rw [hU], by rw [hU]; exact hP, va_K.moved hW.alike hK, hD.weaken (fun _ _ _ _ => trivial)⟩⟩ rfl rfl hl.1 rfl (lv_room (Nat.le_of_ble_eq_true rfl)) dX12_init_1184 ⟨hc9, hs9⟩) hS (fun q _ h => hFc q h) hFc (fun u44 t H1 locs ht hvm hwu44 hB hz1 hk1 hS => ?_)
    obtain ⟨hP1, hK1, hD1⟩ := hB
    rw [ht] at hP1
    have hK := va_K.moved hvm.symm hK1
    have hD := hD1.weaken (fun _ _ _ h => hFc _ h)
    have hP := hP1
    clear hP1 hK1 hD1 hFc
    generalize H1 = H at hP hS hz1 hk1 ht ⊢
    have hP : va_P D vwCl (mCl ca h0 ad u44) H := hP
    have hD : va_D A (mCl ca h0 ad u44) := hD
    obtain ⟨n22, hm22, hO22, hG22⟩ := hwu44
    replace hm22 : n22 ≤ 22 := by omega
    have hF22 := mFr_tr hF21 hG22
    clear hF21 hO21 hG22 ht hvm hz1 hk1
    refine lv_aload_n hx hb dX12_init_1187 rfl (lv_at hl 1 rfl) ?_
    refine lv_bipush hx hb dX12_init_1188 (v := 100) rfl ?_
    refine lv_bipush hx hb dX12_init_1190 (v := 101) rfl ?_
    refine lv_bipush hx hb dX12_init_1192 (v := 102) rfl ?_
    refine lv_bipush hx hb dX12_init_1194 (v := 116) rfl ?_
    refine lv_bipush hx hb dX12_init_1196 (v := 104) rfl ?_
    refine lv_bipush hx hb dX12_init_1198 (v := 109) rfl ?_
    refine lv_iconst hx hb dX12_init_1200 (v := 0) rfl ?_
    refine lv_iconst hx hb dX12_init_1201 (v := 0) rfl ?_
    have hFc := pl_free hD hS hA
    refine va_callv (va_runV (As := [.int (100), .int (101), .int (102), .int (116), .int (104), .int (109), .int (0), .int (0)]) (rest := []) ⟨hx, hb, hml, hown, hts⟩ (c_m_said l D ca h0 H.size ad u44 (100) (101) (102) (116) (104) (109) (0) (0) n22 (by omega) hO22) (cwV 8 hts gX12_init_X12_said rfl rfl rfl (by decide +kernel) ⟨Nat.le_of_ble_eq_true rfl, Nat.le_of_ble_eq_true rfl⟩) ⟨fun a U g mk q => by obtain ⟨q0, q1, qP, qK, qD⟩ := q; exact ⟨q0, q1, qP, va_K.moved (u := U) (U := U.calling g mk a) (Vm.Alike.refl U.vm) qK, qD⟩, va_recv hK hP (ci := 12) (q0 := 0) rfl rfl, fun U hU hW => ⟨rfl, by rw [hU], by rw [hU]; exact hP, va_K.moved hW.alike hK, hD.weaken (fun _ _ _ _ => trivial)⟩⟩ rfl rfl hl.1 rfl (lv_room (Nat.le_of_ble_eq_true rfl)) dX12_init_1202 ⟨hc9, hs9⟩) hS (fun q _ h => hFc q h) hFc (fun u46 t H1 locs ht hvm hwu46 hB hz1 hk1 hS => ?_)
    obtain ⟨hP1, hK1, hD1⟩ := hB
    rw [ht] at hP1
    have hK := va_K.moved hvm.symm hK1
    have hD := hD1.weaken (fun _ _ _ h => hFc _ h)
    have hP := hP1
    clear hP1 hK1 hD1 hFc
    generalize H1 = H at hP hS hz1 hk1 ht ⊢
    have hP : va_P D vwCl (mCl ca h0 ad u46) H := hP
    have hD : va_D A (mCl ca h0 ad u46) := hD
    obtain ⟨n23, hm23, hO23, hG23⟩ := hwu46
    replace hm23 : n23 ≤ 23 := by omega
    have hF23 := mFr_tr hF22 hG23
    clear hF22 hO22 hG23 ht hvm hz1 hk1
    refine lv_aload_n hx hb dX12_init_1205 rfl (lv_at hl 1 rfl) ?_
    refine lv_bipush hx hb dX12_init_1206 (v := 111) rfl ?_
    refine lv_bipush hx hb dX12_init_1208 (v := 110) rfl ?_
    refine lv_iconst hx hb dX12_init_1210 (v := 0) rfl ?_
    refine lv_iconst hx hb dX12_init_1211 (v := 0) rfl ?_
    refine lv_iconst hx hb dX12_init_1212 (v := 0) rfl ?_
    refine lv_iconst hx hb dX12_init_1213 (v := 0) rfl ?_
    refine lv_iconst hx hb dX12_init_1214 (v := 0) rfl ?_
    refine lv_iconst hx hb dX12_init_1215 (v := 0) rfl ?_
    have hFc := pl_free hD hS hA
    refine va_callv (va_runV (As := [.int (111), .int (110), .int (0), .int (0), .int (0), .int (0), .int (0), .int (0)]) (rest := []) ⟨hx, hb, hml, hown, hts⟩ (c_m_said l D ca h0 H.size ad u46 (111) (110) (0) (0) (0) (0) (0) (0) n23 (by omega) hO23) (cwV 8 hts gX12_init_X12_said rfl rfl rfl (by decide +kernel) ⟨Nat.le_of_ble_eq_true rfl, Nat.le_of_ble_eq_true rfl⟩) ⟨fun a U g mk q => by obtain ⟨q0, q1, qP, qK, qD⟩ := q; exact ⟨q0, q1, qP, va_K.moved (u := U) (U := U.calling g mk a) (Vm.Alike.refl U.vm) qK, qD⟩, va_recv hK hP (ci := 12) (q0 := 0) rfl rfl, fun U hU hW => ⟨rfl, by rw [hU], by rw [hU]; exact hP, va_K.moved hW.alike hK, hD.weaken (fun _ _ _ _ => trivial)⟩⟩ rfl rfl hl.1 rfl (lv_room (Nat.le_of_ble_eq_true rfl)) dX12_init_1216 ⟨hc9, hs9⟩) hS (fun q _ h => hFc q h) hFc (fun u48 t H1 locs ht hvm hwu48 hB hz1 hk1 hS => ?_)
    obtain ⟨hP1, hK1, hD1⟩ := hB
    rw [ht] at hP1
    have hK := va_K.moved hvm.symm hK1
    have hD := hD1.weaken (fun _ _ _ h => hFc _ h)
    have hP := hP1
    clear hP1 hK1 hD1 hFc
    generalize H1 = H at hP hS hz1 hk1 ht ⊢
    have hP : va_P D vwCl (mCl ca h0 ad u48) H := hP
    have hD : va_D A (mCl ca h0 ad u48) := hD
    obtain ⟨n24, hm24, hO24, hG24⟩ := hwu48
    replace hm24 : n24 ≤ 24 := by omega
    have hF24 := mFr_tr hF23 hG24
    clear hF23 hO23 hG24 ht hvm hz1 hk1
    refine lv_aload_n hx hb dX12_init_1219 rfl (lv_at hl 1 rfl) ?_
    refine lv_bipush hx hb dX12_init_1220 (v := 111) rfl ?_
    refine lv_bipush hx hb dX12_init_1222 (v := 102) rfl ?_
    refine lv_bipush hx hb dX12_init_1224 (v := 102) rfl ?_
    refine lv_iconst hx hb dX12_init_1226 (v := 0) rfl ?_
    refine lv_iconst hx hb dX12_init_1227 (v := 0) rfl ?_
    refine lv_iconst hx hb dX12_init_1228 (v := 0) rfl ?_
    refine lv_iconst hx hb dX12_init_1229 (v := 0) rfl ?_
    refine lv_iconst hx hb dX12_init_1230 (v := 0) rfl ?_
    have hFc := pl_free hD hS hA
    refine va_callv (va_runV (As := [.int (111), .int (102), .int (102), .int (0), .int (0), .int (0), .int (0), .int (0)]) (rest := []) ⟨hx, hb, hml, hown, hts⟩ (c_m_said l D ca h0 H.size ad u48 (111) (102) (102) (0) (0) (0) (0) (0) n24 (by omega) hO24) (cwV 8 hts gX12_init_X12_said rfl rfl rfl (by decide +kernel) ⟨Nat.le_of_ble_eq_true rfl, Nat.le_of_ble_eq_true rfl⟩) ⟨fun a U g mk q => by obtain ⟨q0, q1, qP, qK, qD⟩ := q; exact ⟨q0, q1, qP, va_K.moved (u := U) (U := U.calling g mk a) (Vm.Alike.refl U.vm) qK, qD⟩, va_recv hK hP (ci := 12) (q0 := 0) rfl rfl, fun U hU hW => ⟨rfl, by rw [hU], by rw [hU]; exact hP, va_K.moved hW.alike hK, hD.weaken (fun _ _ _ _ => trivial)⟩⟩ rfl rfl hl.1 rfl (lv_room (Nat.le_of_ble_eq_true rfl)) dX12_init_1231 ⟨hc9, hs9⟩) hS (fun q _ h => hFc q h) hFc (fun u50 t H1 locs ht hvm hwu50 hB hz1 hk1 hS => ?_)
    obtain ⟨hP1, hK1, hD1⟩ := hB
    rw [ht] at hP1
    have hK := va_K.moved hvm.symm hK1
    have hD := hD1.weaken (fun _ _ _ h => hFc _ h)
    have hP := hP1
    clear hP1 hK1 hD1 hFc
    generalize H1 = H at hP hS hz1 hk1 ht ⊢
    have hP : va_P D vwCl (mCl ca h0 ad u50) H := hP
    have hD : va_D A (mCl ca h0 ad u50) := hD
    obtain ⟨n25, hm25, hO25, hG25⟩ := hwu50
    replace hm25 : n25 ≤ 25 := by omega
    have hF25 := mFr_tr hF24 hG25
    clear hF24 hO24 hG25 ht hvm hz1 hk1
    refine lv_aload_n hx hb dX12_init_1234 rfl (lv_at hl 1 rfl) ?_
    refine lv_bipush hx hb dX12_init_1235 (v := 117) rfl ?_
    refine lv_bipush hx hb dX12_init_1237 (v := 110) rfl ?_
    refine lv_bipush hx hb dX12_init_1239 (v := 100) rfl ?_
    refine lv_bipush hx hb dX12_init_1241 (v := 111) rfl ?_
    refine lv_iconst hx hb dX12_init_1243 (v := 0) rfl ?_
    refine lv_iconst hx hb dX12_init_1244 (v := 0) rfl ?_
    refine lv_iconst hx hb dX12_init_1245 (v := 0) rfl ?_
    refine lv_iconst hx hb dX12_init_1246 (v := 0) rfl ?_
    have hFc := pl_free hD hS hA
    refine va_callv (va_runV (As := [.int (117), .int (110), .int (100), .int (111), .int (0), .int (0), .int (0), .int (0)]) (rest := []) ⟨hx, hb, hml, hown, hts⟩ (c_m_said l D ca h0 H.size ad u50 (117) (110) (100) (111) (0) (0) (0) (0) n25 (by omega) hO25) (cwV 8 hts gX12_init_X12_said rfl rfl rfl (by decide +kernel) ⟨Nat.le_of_ble_eq_true rfl, Nat.le_of_ble_eq_true rfl⟩) ⟨fun a U g mk q => by obtain ⟨q0, q1, qP, qK, qD⟩ := q; exact ⟨q0, q1, qP, va_K.moved (u := U) (U := U.calling g mk a) (Vm.Alike.refl U.vm) qK, qD⟩, va_recv hK hP (ci := 12) (q0 := 0) rfl rfl, fun U hU hW => ⟨rfl, by rw [hU], by rw [hU]; exact hP, va_K.moved hW.alike hK, hD.weaken (fun _ _ _ _ => trivial)⟩⟩ rfl rfl hl.1 rfl (lv_room (Nat.le_of_ble_eq_true rfl)) dX12_init_1247 ⟨hc9, hs9⟩) hS (fun q _ h => hFc q h) hFc (fun u52 t H1 locs ht hvm hwu52 hB hz1 hk1 hS => ?_)
    obtain ⟨hP1, hK1, hD1⟩ := hB
    rw [ht] at hP1
    have hK := va_K.moved hvm.symm hK1
    have hD := hD1.weaken (fun _ _ _ h => hFc _ h)
    have hP := hP1
    clear hP1 hK1 hD1 hFc
    generalize H1 = H at hP hS hz1 hk1 ht ⊢
    have hP : va_P D vwCl (mCl ca h0 ad u52) H := hP
    have hD : va_D A (mCl ca h0 ad u52) := hD
    obtain ⟨n26, hm26, hO26, hG26⟩ := hwu52
    replace hm26 : n26 ≤ 26 := by omega
    have hF26 := mFr_tr hF25 hG26
    clear hF25 hO25 hG26 ht hvm hz1 hk1
    refine lv_aload_n hx hb dX12_init_1250 rfl (lv_at hl 1 rfl) ?_
    refine lv_bipush hx hb dX12_init_1251 (v := 99) rfl ?_
    refine lv_bipush hx hb dX12_init_1253 (v := 104) rfl ?_
    refine lv_bipush hx hb dX12_init_1255 (v := 101) rfl ?_
    refine lv_bipush hx hb dX12_init_1257 (v := 99) rfl ?_
    refine lv_bipush hx hb dX12_init_1259 (v := 107) rfl ?_
    refine lv_iconst hx hb dX12_init_1261 (v := 0) rfl ?_
    refine lv_iconst hx hb dX12_init_1262 (v := 0) rfl ?_
    refine lv_iconst hx hb dX12_init_1263 (v := 0) rfl ?_
    have hFc := pl_free hD hS hA
    refine va_callv (va_runV (As := [.int (99), .int (104), .int (101), .int (99), .int (107), .int (0), .int (0), .int (0)]) (rest := []) ⟨hx, hb, hml, hown, hts⟩ (c_m_said l D ca h0 H.size ad u52 (99) (104) (101) (99) (107) (0) (0) (0) n26 (by omega) hO26) (cwV 8 hts gX12_init_X12_said rfl rfl rfl (by decide +kernel) ⟨Nat.le_of_ble_eq_true rfl, Nat.le_of_ble_eq_true rfl⟩) ⟨fun a U g mk q => by obtain ⟨q0, q1, qP, qK, qD⟩ := q; exact ⟨q0, q1, qP, va_K.moved (u := U) (U := U.calling g mk a) (Vm.Alike.refl U.vm) qK, qD⟩, va_recv hK hP (ci := 12) (q0 := 0) rfl rfl, fun U hU hW => ⟨rfl, by rw [hU], by rw [hU]; exact hP, va_K.moved hW.alike hK, hD.weaken (fun _ _ _ _ => trivial)⟩⟩ rfl rfl hl.1 rfl (lv_room (Nat.le_of_ble_eq_true rfl)) dX12_init_1264 ⟨hc9, hs9⟩) hS (fun q _ h => hFc q h) hFc (fun u54 t H1 locs ht hvm hwu54 hB hz1 hk1 hS => ?_)
    obtain ⟨hP1, hK1, hD1⟩ := hB
    rw [ht] at hP1
    have hK := va_K.moved hvm.symm hK1
    have hD := hD1.weaken (fun _ _ _ h => hFc _ h)
    have hP := hP1
    clear hP1 hK1 hD1 hFc
    generalize H1 = H at hP hS hz1 hk1 ht ⊢
    have hP : va_P D vwCl (mCl ca h0 ad u54) H := hP
    have hD : va_D A (mCl ca h0 ad u54) := hD
    obtain ⟨n27, hm27, hO27, hG27⟩ := hwu54
    replace hm27 : n27 ≤ 27 := by omega
    have hF27 := mFr_tr hF26 hG27
    clear hF26 hO26 hG27 ht hvm hz1 hk1
    refine lv_aload_n hx hb dX12_init_1267 rfl (lv_at hl 1 rfl) ?_
    refine lv_bipush hx hb dX12_init_1268 (v := 105) rfl ?_
    refine lv_bipush hx hb dX12_init_1270 (v := 110) rfl ?_
    refine lv_bipush hx hb dX12_init_1272 (v := 100) rfl ?_
    refine lv_bipush hx hb dX12_init_1274 (v := 117) rfl ?_
    refine lv_bipush hx hb dX12_init_1276 (v := 99) rfl ?_
    refine lv_bipush hx hb dX12_init_1278 (v := 116) rfl ?_
    refine lv_iconst hx hb dX12_init_1280 (v := 0) rfl ?_
    refine lv_iconst hx hb dX12_init_1281 (v := 0) rfl ?_
    have hFc := pl_free hD hS hA
    refine va_callv (va_runV (As := [.int (105), .int (110), .int (100), .int (117), .int (99), .int (116), .int (0), .int (0)]) (rest := []) ⟨hx, hb, hml, hown, hts⟩ (c_m_said l D ca h0 H.size ad u54 (105) (110) (100) (117) (99) (116) (0) (0) n27 (by omega) hO27) (cwV 8 hts gX12_init_X12_said rfl rfl rfl (by decide +kernel) ⟨Nat.le_of_ble_eq_true rfl, Nat.le_of_ble_eq_true rfl⟩) ⟨fun a U g mk q => by obtain ⟨q0, q1, qP, qK, qD⟩ := q; exact ⟨q0, q1, qP, va_K.moved (u := U) (U := U.calling g mk a) (Vm.Alike.refl U.vm) qK, qD⟩, va_recv hK hP (ci := 12) (q0 := 0) rfl rfl, fun U hU hW => ⟨rfl, by rw [hU], by rw [hU]; exact hP, va_K.moved hW.alike hK, hD.weaken (fun _ _ _ _ => trivial)⟩⟩ rfl rfl hl.1 rfl (lv_room (Nat.le_of_ble_eq_true rfl)) dX12_init_1282 ⟨hc9, hs9⟩) hS (fun q _ h => hFc q h) hFc (fun u56 t H1 locs ht hvm hwu56 hB hz1 hk1 hS => ?_)
    obtain ⟨hP1, hK1, hD1⟩ := hB
    rw [ht] at hP1
    have hK := va_K.moved hvm.symm hK1
    have hD := hD1.weaken (fun _ _ _ h => hFc _ h)
    have hP := hP1
    clear hP1 hK1 hD1 hFc
    generalize H1 = H at hP hS hz1 hk1 ht ⊢
    have hP : va_P D vwCl (mCl ca h0 ad u56) H := hP
    have hD : va_D A (mCl ca h0 ad u56) := hD
    obtain ⟨n28, hm28, hO28, hG28⟩ := hwu56
    replace hm28 : n28 ≤ 28 := by omega
    have hF28 := mFr_tr hF27 hG28
    clear hF27 hO27 hG28 ht hvm hz1 hk1
    refine lv_aload_n hx hb dX12_init_1285 rfl (lv_at hl 1 rfl) ?_
    refine lv_bipush hx hb dX12_init_1286 (v := 117) rfl ?_
    refine lv_bipush hx hb dX12_init_1288 (v := 115) rfl ?_
    refine lv_bipush hx hb dX12_init_1290 (v := 101) rfl ?_
    refine lv_iconst hx hb dX12_init_1292 (v := 0) rfl ?_
    refine lv_iconst hx hb dX12_init_1293 (v := 0) rfl ?_
    refine lv_iconst hx hb dX12_init_1294 (v := 0) rfl ?_
    refine lv_iconst hx hb dX12_init_1295 (v := 0) rfl ?_
    refine lv_iconst hx hb dX12_init_1296 (v := 0) rfl ?_
    have hFc := pl_free hD hS hA
    refine va_callv (va_runV (As := [.int (117), .int (115), .int (101), .int (0), .int (0), .int (0), .int (0), .int (0)]) (rest := []) ⟨hx, hb, hml, hown, hts⟩ (c_m_said l D ca h0 H.size ad u56 (117) (115) (101) (0) (0) (0) (0) (0) n28 (by omega) hO28) (cwV 8 hts gX12_init_X12_said rfl rfl rfl (by decide +kernel) ⟨Nat.le_of_ble_eq_true rfl, Nat.le_of_ble_eq_true rfl⟩) ⟨fun a U g mk q => by obtain ⟨q0, q1, qP, qK, qD⟩ := q; exact ⟨q0, q1, qP, va_K.moved (u := U) (U := U.calling g mk a) (Vm.Alike.refl U.vm) qK, qD⟩, va_recv hK hP (ci := 12) (q0 := 0) rfl rfl, fun U hU hW => ⟨rfl, by rw [hU], by rw [hU]; exact hP, va_K.moved hW.alike hK, hD.weaken (fun _ _ _ _ => trivial)⟩⟩ rfl rfl hl.1 rfl (lv_room (Nat.le_of_ble_eq_true rfl)) dX12_init_1297 ⟨hc9, hs9⟩) hS (fun q _ h => hFc q h) hFc (fun u58 t H1 locs ht hvm hwu58 hB hz1 hk1 hS => ?_)
    obtain ⟨hP1, hK1, hD1⟩ := hB
    rw [ht] at hP1
    have hK := va_K.moved hvm.symm hK1
    have hD := hD1.weaken (fun _ _ _ h => hFc _ h)
    have hP := hP1
    clear hP1 hK1 hD1 hFc
    generalize H1 = H at hP hS hz1 hk1 ht ⊢
    have hP : va_P D vwCl (mCl ca h0 ad u58) H := hP
    have hD : va_D A (mCl ca h0 ad u58) := hD
    obtain ⟨n29, hm29, hO29, hG29⟩ := hwu58
    replace hm29 : n29 ≤ 29 := by omega
    have hF29 := mFr_tr hF28 hG29
    clear hF28 hO28 hG29 ht hvm hz1 hk1
    refine lv_aload_n hx hb dX12_init_1300 rfl (lv_at hl 1 rfl) ?_
    refine lv_bipush hx hb dX12_init_1301 (v := 116) rfl ?_
    refine lv_bipush hx hb dX12_init_1303 (v := 97) rfl ?_
    refine lv_bipush hx hb dX12_init_1305 (v := 117) rfl ?_
    refine lv_bipush hx hb dX12_init_1307 (v := 116) rfl ?_
    refine lv_iconst hx hb dX12_init_1309 (v := 0) rfl ?_
    refine lv_iconst hx hb dX12_init_1310 (v := 0) rfl ?_
    refine lv_iconst hx hb dX12_init_1311 (v := 0) rfl ?_
    refine lv_iconst hx hb dX12_init_1312 (v := 0) rfl ?_
    have hFc := pl_free hD hS hA
    refine va_callv (va_runV (As := [.int (116), .int (97), .int (117), .int (116), .int (0), .int (0), .int (0), .int (0)]) (rest := []) ⟨hx, hb, hml, hown, hts⟩ (c_m_said l D ca h0 H.size ad u58 (116) (97) (117) (116) (0) (0) (0) (0) n29 (by omega) hO29) (cwV 8 hts gX12_init_X12_said rfl rfl rfl (by decide +kernel) ⟨Nat.le_of_ble_eq_true rfl, Nat.le_of_ble_eq_true rfl⟩) ⟨fun a U g mk q => by obtain ⟨q0, q1, qP, qK, qD⟩ := q; exact ⟨q0, q1, qP, va_K.moved (u := U) (U := U.calling g mk a) (Vm.Alike.refl U.vm) qK, qD⟩, va_recv hK hP (ci := 12) (q0 := 0) rfl rfl, fun U hU hW => ⟨rfl, by rw [hU], by rw [hU]; exact hP, va_K.moved hW.alike hK, hD.weaken (fun _ _ _ _ => trivial)⟩⟩ rfl rfl hl.1 rfl (lv_room (Nat.le_of_ble_eq_true rfl)) dX12_init_1313 ⟨hc9, hs9⟩) hS (fun q _ h => hFc q h) hFc (fun u60 t H1 locs ht hvm hwu60 hB hz1 hk1 hS => ?_)
    obtain ⟨hP1, hK1, hD1⟩ := hB
    rw [ht] at hP1
    have hK := va_K.moved hvm.symm hK1
    have hD := hD1.weaken (fun _ _ _ h => hFc _ h)
    have hP := hP1
    clear hP1 hK1 hD1 hFc
    generalize H1 = H at hP hS hz1 hk1 ht ⊢
    have hP : va_P D vwCl (mCl ca h0 ad u60) H := hP
    have hD : va_D A (mCl ca h0 ad u60) := hD
    obtain ⟨n30, hm30, hO30, hG30⟩ := hwu60
    replace hm30 : n30 ≤ 30 := by omega
    have hF30 := mFr_tr hF29 hG30
    clear hF29 hO29 hG30 ht hvm hz1 hk1
    refine lv_aload_n hx hb dX12_init_1316 rfl (lv_at hl 1 rfl) ?_
    refine lv_bipush hx hb dX12_init_1317 (v := 115) rfl ?_
    refine lv_bipush hx hb dX12_init_1319 (v := 97) rfl ?_
    refine lv_bipush hx hb dX12_init_1321 (v := 109) rfl ?_
    refine lv_bipush hx hb dX12_init_1323 (v := 101) rfl ?_
    refine lv_iconst hx hb dX12_init_1325 (v := 0) rfl ?_
    refine lv_iconst hx hb dX12_init_1326 (v := 0) rfl ?_
    refine lv_iconst hx hb dX12_init_1327 (v := 0) rfl ?_
    refine lv_iconst hx hb dX12_init_1328 (v := 0) rfl ?_
    have hFc := pl_free hD hS hA
    refine va_callv (va_runV (As := [.int (115), .int (97), .int (109), .int (101), .int (0), .int (0), .int (0), .int (0)]) (rest := []) ⟨hx, hb, hml, hown, hts⟩ (c_m_said l D ca h0 H.size ad u60 (115) (97) (109) (101) (0) (0) (0) (0) n30 (by omega) hO30) (cwV 8 hts gX12_init_X12_said rfl rfl rfl (by decide +kernel) ⟨Nat.le_of_ble_eq_true rfl, Nat.le_of_ble_eq_true rfl⟩) ⟨fun a U g mk q => by obtain ⟨q0, q1, qP, qK, qD⟩ := q; exact ⟨q0, q1, qP, va_K.moved (u := U) (U := U.calling g mk a) (Vm.Alike.refl U.vm) qK, qD⟩, va_recv hK hP (ci := 12) (q0 := 0) rfl rfl, fun U hU hW => ⟨rfl, by rw [hU], by rw [hU]; exact hP, va_K.moved hW.alike hK, hD.weaken (fun _ _ _ _ => trivial)⟩⟩ rfl rfl hl.1 rfl (lv_room (Nat.le_of_ble_eq_true rfl)) dX12_init_1329 ⟨hc9, hs9⟩) hS (fun q _ h => hFc q h) hFc (fun u62 t H1 locs ht hvm hwu62 hB hz1 hk1 hS => ?_)
    obtain ⟨hP1, hK1, hD1⟩ := hB
    rw [ht] at hP1
    have hK := va_K.moved hvm.symm hK1
    have hD := hD1.weaken (fun _ _ _ h => hFc _ h)
    have hP := hP1
    clear hP1 hK1 hD1 hFc
    generalize H1 = H at hP hS hz1 hk1 ht ⊢
    have hP : va_P D vwCl (mCl ca h0 ad u62) H := hP
    have hD : va_D A (mCl ca h0 ad u62) := hD
    obtain ⟨n31, hm31, hO31, hG31⟩ := hwu62
    replace hm31 : n31 ≤ 31 := by omega
    have hF31 := mFr_tr hF30 hG31
    clear hF30 hO30 hG31 ht hvm hz1 hk1
    refine lv_aload_n hx hb dX12_init_1332 rfl (lv_at hl 1 rfl) ?_
    refine lv_bipush hx hb dX12_init_1333 (v := 118) rfl ?_
    refine lv_bipush hx hb dX12_init_1335 (v := 97) rfl ?_
    refine lv_bipush hx hb dX12_init_1337 (v := 108) rfl ?_
    refine lv_bipush hx hb dX12_init_1339 (v := 117) rfl ?_
    refine lv_bipush hx hb dX12_init_1341 (v := 101) rfl ?_
    refine lv_iconst hx hb dX12_init_1343 (v := 0) rfl ?_
    refine lv_iconst hx hb dX12_init_1344 (v := 0) rfl ?_
    refine lv_iconst hx hb dX12_init_1345 (v := 0) rfl ?_
    have hFc := pl_free hD hS hA
    refine va_callv (va_runV (As := [.int (118), .int (97), .int (108), .int (117), .int (101), .int (0), .int (0), .int (0)]) (rest := []) ⟨hx, hb, hml, hown, hts⟩ (c_m_said l D ca h0 H.size ad u62 (118) (97) (108) (117) (101) (0) (0) (0) n31 (by omega) hO31) (cwV 8 hts gX12_init_X12_said rfl rfl rfl (by decide +kernel) ⟨Nat.le_of_ble_eq_true rfl, Nat.le_of_ble_eq_true rfl⟩) ⟨fun a U g mk q => by obtain ⟨q0, q1, qP, qK, qD⟩ := q; exact ⟨q0, q1, qP, va_K.moved (u := U) (U := U.calling g mk a) (Vm.Alike.refl U.vm) qK, qD⟩, va_recv hK hP (ci := 12) (q0 := 0) rfl rfl, fun U hU hW => ⟨rfl, by rw [hU], by rw [hU]; exact hP, va_K.moved hW.alike hK, hD.weaken (fun _ _ _ _ => trivial)⟩⟩ rfl rfl hl.1 rfl (lv_room (Nat.le_of_ble_eq_true rfl)) dX12_init_1346 ⟨hc9, hs9⟩) hS (fun q _ h => hFc q h) hFc (fun u64 t H1 locs ht hvm hwu64 hB hz1 hk1 hS => ?_)
    obtain ⟨hP1, hK1, hD1⟩ := hB
    rw [ht] at hP1
    have hK := va_K.moved hvm.symm hK1
    have hD := hD1.weaken (fun _ _ _ h => hFc _ h)
    have hP := hP1
    clear hP1 hK1 hD1 hFc
    generalize H1 = H at hP hS hz1 hk1 ht ⊢
    have hP : va_P D vwCl (mCl ca h0 ad u64) H := hP
    have hD : va_D A (mCl ca h0 ad u64) := hD
    obtain ⟨n32, hm32, hO32, hG32⟩ := hwu64
    replace hm32 : n32 ≤ 32 := by omega
    have hF32 := mFr_tr hF31 hG32
    clear hF31 hO31 hG32 ht hvm hz1 hk1
    refine lv_aload_n hx hb dX12_init_1349 rfl (lv_at hl 1 rfl) ?_
    refine lv_bipush hx hb dX12_init_1350 (v := 102) rfl ?_
    refine lv_bipush hx hb dX12_init_1352 (v := 105) rfl ?_
    refine lv_bipush hx hb dX12_init_1354 (v := 114) rfl ?_
    refine lv_bipush hx hb dX12_init_1356 (v := 115) rfl ?_
    refine lv_bipush hx hb dX12_init_1358 (v := 116) rfl ?_
    refine lv_iconst hx hb dX12_init_1360 (v := 0) rfl ?_
    refine lv_iconst hx hb dX12_init_1361 (v := 0) rfl ?_
    refine lv_iconst hx hb dX12_init_1362 (v := 0) rfl ?_
    have hFc := pl_free hD hS hA
    refine va_callv (va_runV (As := [.int (102), .int (105), .int (114), .int (115), .int (116), .int (0), .int (0), .int (0)]) (rest := []) ⟨hx, hb, hml, hown, hts⟩ (c_m_said l D ca h0 H.size ad u64 (102) (105) (114) (115) (116) (0) (0) (0) n32 (by omega) hO32) (cwV 8 hts gX12_init_X12_said rfl rfl rfl (by decide +kernel) ⟨Nat.le_of_ble_eq_true rfl, Nat.le_of_ble_eq_true rfl⟩) ⟨fun a U g mk q => by obtain ⟨q0, q1, qP, qK, qD⟩ := q; exact ⟨q0, q1, qP, va_K.moved (u := U) (U := U.calling g mk a) (Vm.Alike.refl U.vm) qK, qD⟩, va_recv hK hP (ci := 12) (q0 := 0) rfl rfl, fun U hU hW => ⟨rfl, by rw [hU], by rw [hU]; exact hP, va_K.moved hW.alike hK, hD.weaken (fun _ _ _ _ => trivial)⟩⟩ rfl rfl hl.1 rfl (lv_room (Nat.le_of_ble_eq_true rfl)) dX12_init_1363 ⟨hc9, hs9⟩) hS (fun q _ h => hFc q h) hFc (fun u66 t H1 locs ht hvm hwu66 hB hz1 hk1 hS => ?_)
    obtain ⟨hP1, hK1, hD1⟩ := hB
    rw [ht] at hP1
    have hK := va_K.moved hvm.symm hK1
    have hD := hD1.weaken (fun _ _ _ h => hFc _ h)
    have hP := hP1
    clear hP1 hK1 hD1 hFc
    generalize H1 = H at hP hS hz1 hk1 ht ⊢
    have hP : va_P D vwCl (mCl ca h0 ad u66) H := hP
    have hD : va_D A (mCl ca h0 ad u66) := hD
    obtain ⟨n33, hm33, hO33, hG33⟩ := hwu66
    replace hm33 : n33 ≤ 33 := by omega
    have hF33 := mFr_tr hF32 hG33
    clear hF32 hO32 hG33 ht hvm hz1 hk1
    refine lv_aload_n hx hb dX12_init_1366 rfl (lv_at hl 1 rfl) ?_
    refine lv_bipush hx hb dX12_init_1367 (v := 115) rfl ?_
    refine lv_bipush hx hb dX12_init_1369 (v := 101) rfl ?_
    refine lv_bipush hx hb dX12_init_1371 (v := 99) rfl ?_
    refine lv_bipush hx hb dX12_init_1373 (v := 111) rfl ?_
    refine lv_bipush hx hb dX12_init_1375 (v := 110) rfl ?_
    refine lv_bipush hx hb dX12_init_1377 (v := 100) rfl ?_
    refine lv_iconst hx hb dX12_init_1379 (v := 0) rfl ?_
    refine lv_iconst hx hb dX12_init_1380 (v := 0) rfl ?_
    have hFc := pl_free hD hS hA
    refine va_callv (va_runV (As := [.int (115), .int (101), .int (99), .int (111), .int (110), .int (100), .int (0), .int (0)]) (rest := []) ⟨hx, hb, hml, hown, hts⟩ (c_m_said l D ca h0 H.size ad u66 (115) (101) (99) (111) (110) (100) (0) (0) n33 (by omega) hO33) (cwV 8 hts gX12_init_X12_said rfl rfl rfl (by decide +kernel) ⟨Nat.le_of_ble_eq_true rfl, Nat.le_of_ble_eq_true rfl⟩) ⟨fun a U g mk q => by obtain ⟨q0, q1, qP, qK, qD⟩ := q; exact ⟨q0, q1, qP, va_K.moved (u := U) (U := U.calling g mk a) (Vm.Alike.refl U.vm) qK, qD⟩, va_recv hK hP (ci := 12) (q0 := 0) rfl rfl, fun U hU hW => ⟨rfl, by rw [hU], by rw [hU]; exact hP, va_K.moved hW.alike hK, hD.weaken (fun _ _ _ _ => trivial)⟩⟩ rfl rfl hl.1 rfl (lv_room (Nat.le_of_ble_eq_true rfl)) dX12_init_1381 ⟨hc9, hs9⟩) hS (fun q _ h => hFc q h) hFc (fun u68 t H1 locs ht hvm hwu68 hB hz1 hk1 hS => ?_)
    obtain ⟨hP1, hK1, hD1⟩ := hB
    rw [ht] at hP1
    have hK := va_K.moved hvm.symm hK1
    have hD := hD1.weaken (fun _ _ _ h => hFc _ h)
    have hP := hP1
    clear hP1 hK1 hD1 hFc
    generalize H1 = H at hP hS hz1 hk1 ht ⊢
    have hP : va_P D vwCl (mCl ca h0 ad u68) H := hP
    have hD : va_D A (mCl ca h0 ad u68) := hD
    obtain ⟨n34, hm34, hO34, hG34⟩ := hwu68
    replace hm34 : n34 ≤ 34 := by omega
    have hF34 := mFr_tr hF33 hG34
    clear hF33 hO33 hG34 ht hvm hz1 hk1
    refine lv_aload_n hx hb dX12_init_1384 rfl (lv_at hl 1 rfl) ?_
    refine lv_bipush hx hb dX12_init_1385 (v := 112) rfl ?_
    refine lv_bipush hx hb dX12_init_1387 (v := 97) rfl ?_
    refine lv_bipush hx hb dX12_init_1389 (v := 105) rfl ?_
    refine lv_bipush hx hb dX12_init_1391 (v := 114) rfl ?_
    refine lv_iconst hx hb dX12_init_1393 (v := 0) rfl ?_
    refine lv_iconst hx hb dX12_init_1394 (v := 0) rfl ?_
    refine lv_iconst hx hb dX12_init_1395 (v := 0) rfl ?_
    refine lv_iconst hx hb dX12_init_1396 (v := 0) rfl ?_
    have hFc := pl_free hD hS hA
    refine va_callv (va_runV (As := [.int (112), .int (97), .int (105), .int (114), .int (0), .int (0), .int (0), .int (0)]) (rest := []) ⟨hx, hb, hml, hown, hts⟩ (c_m_said l D ca h0 H.size ad u68 (112) (97) (105) (114) (0) (0) (0) (0) n34 (by omega) hO34) (cwV 8 hts gX12_init_X12_said rfl rfl rfl (by decide +kernel) ⟨Nat.le_of_ble_eq_true rfl, Nat.le_of_ble_eq_true rfl⟩) ⟨fun a U g mk q => by obtain ⟨q0, q1, qP, qK, qD⟩ := q; exact ⟨q0, q1, qP, va_K.moved (u := U) (U := U.calling g mk a) (Vm.Alike.refl U.vm) qK, qD⟩, va_recv hK hP (ci := 12) (q0 := 0) rfl rfl, fun U hU hW => ⟨rfl, by rw [hU], by rw [hU]; exact hP, va_K.moved hW.alike hK, hD.weaken (fun _ _ _ _ => trivial)⟩⟩ rfl rfl hl.1 rfl (lv_room (Nat.le_of_ble_eq_true rfl)) dX12_init_1397 ⟨hc9, hs9⟩) hS (fun q _ h => hFc q h) hFc (fun u70 t H1 locs ht hvm hwu70 hB hz1 hk1 hS => ?_)
    obtain ⟨hP1, hK1, hD1⟩ := hB
    rw [ht] at hP1
    have hK := va_K.moved hvm.symm hK1
    have hD := hD1.weaken (fun _ _ _ h => hFc _ h)
    have hP := hP1
    clear hP1 hK1 hD1 hFc
    generalize H1 = H at hP hS hz1 hk1 ht ⊢
    have hP : va_P D vwCl (mCl ca h0 ad u70) H := hP
    have hD : va_D A (mCl ca h0 ad u70) := hD
    obtain ⟨n35, hm35, hO35, hG35⟩ := hwu70
    replace hm35 : n35 ≤ 35 := by omega
    have hF35 := mFr_tr hF34 hG35
    clear hF34 hO34 hG35 ht hvm hz1 hk1
    refine lv_aload_n hx hb dX12_init_1400 rfl (lv_at hl 1 rfl) ?_
    refine lv_bipush hx hb dX12_init_1401 (v := 121) rfl ?_
    refine lv_bipush hx hb dX12_init_1403 (v := 101) rfl ?_
    refine lv_bipush hx hb dX12_init_1405 (v := 115) rfl ?_
    refine lv_iconst hx hb dX12_init_1407 (v := 0) rfl ?_
    refine lv_iconst hx hb dX12_init_1408 (v := 0) rfl ?_
    refine lv_iconst hx hb dX12_init_1409 (v := 0) rfl ?_
    refine lv_iconst hx hb dX12_init_1410 (v := 0) rfl ?_
    refine lv_iconst hx hb dX12_init_1411 (v := 0) rfl ?_
    have hFc := pl_free hD hS hA
    refine va_callv (va_runV (As := [.int (121), .int (101), .int (115), .int (0), .int (0), .int (0), .int (0), .int (0)]) (rest := []) ⟨hx, hb, hml, hown, hts⟩ (c_m_said l D ca h0 H.size ad u70 (121) (101) (115) (0) (0) (0) (0) (0) n35 (by omega) hO35) (cwV 8 hts gX12_init_X12_said rfl rfl rfl (by decide +kernel) ⟨Nat.le_of_ble_eq_true rfl, Nat.le_of_ble_eq_true rfl⟩) ⟨fun a U g mk q => by obtain ⟨q0, q1, qP, qK, qD⟩ := q; exact ⟨q0, q1, qP, va_K.moved (u := U) (U := U.calling g mk a) (Vm.Alike.refl U.vm) qK, qD⟩, va_recv hK hP (ci := 12) (q0 := 0) rfl rfl, fun U hU hW => ⟨rfl, by rw [hU], by rw [hU]; exact hP, va_K.moved hW.alike hK, hD.weaken (fun _ _ _ _ => trivial)⟩⟩ rfl rfl hl.1 rfl (lv_room (Nat.le_of_ble_eq_true rfl)) dX12_init_1412 ⟨hc9, hs9⟩) hS (fun q _ h => hFc q h) hFc (fun u72 t H1 locs ht hvm hwu72 hB hz1 hk1 hS => ?_)
    obtain ⟨hP1, hK1, hD1⟩ := hB
    rw [ht] at hP1
    have hK := va_K.moved hvm.symm hK1
    have hD := hD1.weaken (fun _ _ _ h => hFc _ h)
    have hP := hP1
    clear hP1 hK1 hD1 hFc
    generalize H1 = H at hP hS hz1 hk1 ht ⊢
    have hP : va_P D vwCl (mCl ca h0 ad u72) H := hP
    have hD : va_D A (mCl ca h0 ad u72) := hD
    obtain ⟨n36, hm36, hO36, hG36⟩ := hwu72
    replace hm36 : n36 ≤ 36 := by omega
    have hF36 := mFr_tr hF35 hG36
    clear hF35 hO35 hG36 ht hvm hz1 hk1
    refine lv_aload_n hx hb dX12_init_1415 rfl (lv_at hl 1 rfl) ?_
    refine lv_bipush hx hb dX12_init_1416 (v := 110) rfl ?_
    refine lv_bipush hx hb dX12_init_1418 (v := 111) rfl ?_
    refine lv_iconst hx hb dX12_init_1420 (v := 0) rfl ?_
    refine lv_iconst hx hb dX12_init_1421 (v := 0) rfl ?_
    refine lv_iconst hx hb dX12_init_1422 (v := 0) rfl ?_
    refine lv_iconst hx hb dX12_init_1423 (v := 0) rfl ?_
    refine lv_iconst hx hb dX12_init_1424 (v := 0) rfl ?_
    refine lv_iconst hx hb dX12_init_1425 (v := 0) rfl ?_
    have hFc := pl_free hD hS hA
    refine va_callv (va_runV (As := [.int (110), .int (111), .int (0), .int (0), .int (0), .int (0), .int (0), .int (0)]) (rest := []) ⟨hx, hb, hml, hown, hts⟩ (c_m_said l D ca h0 H.size ad u72 (110) (111) (0) (0) (0) (0) (0) (0) n36 (by omega) hO36) (cwV 8 hts gX12_init_X12_said rfl rfl rfl (by decide +kernel) ⟨Nat.le_of_ble_eq_true rfl, Nat.le_of_ble_eq_true rfl⟩) ⟨fun a U g mk q => by obtain ⟨q0, q1, qP, qK, qD⟩ := q; exact ⟨q0, q1, qP, va_K.moved (u := U) (U := U.calling g mk a) (Vm.Alike.refl U.vm) qK, qD⟩, va_recv hK hP (ci := 12) (q0 := 0) rfl rfl, fun U hU hW => ⟨rfl, by rw [hU], by rw [hU]; exact hP, va_K.moved hW.alike hK, hD.weaken (fun _ _ _ _ => trivial)⟩⟩ rfl rfl hl.1 rfl (lv_room (Nat.le_of_ble_eq_true rfl)) dX12_init_1426 ⟨hc9, hs9⟩) hS (fun q _ h => hFc q h) hFc (fun u74 t H1 locs ht hvm hwu74 hB hz1 hk1 hS => ?_)
    obtain ⟨hP1, hK1, hD1⟩ := hB
    rw [ht] at hP1
    have hK := va_K.moved hvm.symm hK1
    have hD := hD1.weaken (fun _ _ _ h => hFc _ h)
    have hP := hP1
    clear hP1 hK1 hD1 hFc
    generalize H1 = H at hP hS hz1 hk1 ht ⊢
    have hP : va_P D vwCl (mCl ca h0 ad u74) H := hP
    have hD : va_D A (mCl ca h0 ad u74) := hD
    obtain ⟨n37, hm37, hO37, hG37⟩ := hwu74
    replace hm37 : n37 ≤ 37 := by omega
    have hF37 := mFr_tr hF36 hG37
    clear hF36 hO36 hG37 ht hvm hz1 hk1
    refine lv_aload_n hx hb dX12_init_1429 rfl (lv_at hl 1 rfl) ?_
    refine lv_bipush hx hb dX12_init_1430 (v := 100) rfl ?_
    refine lv_bipush hx hb dX12_init_1432 (v := 101) rfl ?_
    refine lv_bipush hx hb dX12_init_1434 (v := 102) rfl ?_
    refine lv_iconst hx hb dX12_init_1436 (v := 0) rfl ?_
    refine lv_iconst hx hb dX12_init_1437 (v := 0) rfl ?_
    refine lv_iconst hx hb dX12_init_1438 (v := 0) rfl ?_
    refine lv_iconst hx hb dX12_init_1439 (v := 0) rfl ?_
    refine lv_iconst hx hb dX12_init_1440 (v := 0) rfl ?_
    have hFc := pl_free hD hS hA
    refine va_callv (va_runV (As := [.int (100), .int (101), .int (102), .int (0), .int (0), .int (0), .int (0), .int (0)]) (rest := []) ⟨hx, hb, hml, hown, hts⟩ (c_m_said l D ca h0 H.size ad u74 (100) (101) (102) (0) (0) (0) (0) (0) n37 (by omega) hO37) (cwV 8 hts gX12_init_X12_said rfl rfl rfl (by decide +kernel) ⟨Nat.le_of_ble_eq_true rfl, Nat.le_of_ble_eq_true rfl⟩) ⟨fun a U g mk q => by obtain ⟨q0, q1, qP, qK, qD⟩ := q; exact ⟨q0, q1, qP, va_K.moved (u := U) (U := U.calling g mk a) (Vm.Alike.refl U.vm) qK, qD⟩, va_recv hK hP (ci := 12) (q0 := 0) rfl rfl, fun U hU hW => ⟨rfl, by rw [hU], by rw [hU]; exact hP, va_K.moved hW.alike hK, hD.weaken (fun _ _ _ _ => trivial)⟩⟩ rfl rfl hl.1 rfl (lv_room (Nat.le_of_ble_eq_true rfl)) dX12_init_1441 ⟨hc9, hs9⟩) hS (fun q _ h => hFc q h) hFc (fun u76 t H1 locs ht hvm hwu76 hB hz1 hk1 hS => ?_)
    obtain ⟨hP1, hK1, hD1⟩ := hB
    rw [ht] at hP1
    have hK := va_K.moved hvm.symm hK1
    have hD := hD1.weaken (fun _ _ _ h => hFc _ h)
    have hP := hP1
    clear hP1 hK1 hD1 hFc
    generalize H1 = H at hP hS hz1 hk1 ht ⊢
    have hP : va_P D vwCl (mCl ca h0 ad u76) H := hP
    have hD : va_D A (mCl ca h0 ad u76) := hD
    obtain ⟨n38, hm38, hO38, hG38⟩ := hwu76
    replace hm38 : n38 ≤ 38 := by omega
    have hF38 := mFr_tr hF37 hG38
    clear hF37 hO37 hG38 ht hvm hz1 hk1
    refine lv_aload_n hx hb dX12_init_1444 rfl (lv_at hl 1 rfl) ?_
    refine lv_bipush hx hb dX12_init_1445 (v := 116) rfl ?_
    refine lv_bipush hx hb dX12_init_1447 (v := 104) rfl ?_
    refine lv_bipush hx hb dX12_init_1449 (v := 109) rfl ?_
    refine lv_iconst hx hb dX12_init_1451 (v := 0) rfl ?_
    refine lv_iconst hx hb dX12_init_1452 (v := 0) rfl ?_
    refine lv_iconst hx hb dX12_init_1453 (v := 0) rfl ?_
    refine lv_iconst hx hb dX12_init_1454 (v := 0) rfl ?_
    refine lv_iconst hx hb dX12_init_1455 (v := 0) rfl ?_
    have hFc := pl_free hD hS hA
    refine va_callv (va_runV (As := [.int (116), .int (104), .int (109), .int (0), .int (0), .int (0), .int (0), .int (0)]) (rest := []) ⟨hx, hb, hml, hown, hts⟩ (c_m_said l D ca h0 H.size ad u76 (116) (104) (109) (0) (0) (0) (0) (0) n38 (by omega) hO38) (cwV 8 hts gX12_init_X12_said rfl rfl rfl (by decide +kernel) ⟨Nat.le_of_ble_eq_true rfl, Nat.le_of_ble_eq_true rfl⟩) ⟨fun a U g mk q => by obtain ⟨q0, q1, qP, qK, qD⟩ := q; exact ⟨q0, q1, qP, va_K.moved (u := U) (U := U.calling g mk a) (Vm.Alike.refl U.vm) qK, qD⟩, va_recv hK hP (ci := 12) (q0 := 0) rfl rfl, fun U hU hW => ⟨rfl, by rw [hU], by rw [hU]; exact hP, va_K.moved hW.alike hK, hD.weaken (fun _ _ _ _ => trivial)⟩⟩ rfl rfl hl.1 rfl (lv_room (Nat.le_of_ble_eq_true rfl)) dX12_init_1456 ⟨hc9, hs9⟩) hS (fun q _ h => hFc q h) hFc (fun u78 t H1 locs ht hvm hwu78 hB hz1 hk1 hS => ?_)
    obtain ⟨hP1, hK1, hD1⟩ := hB
    rw [ht] at hP1
    have hK := va_K.moved hvm.symm hK1
    have hD := hD1.weaken (fun _ _ _ h => hFc _ h)
    have hP := hP1
    clear hP1 hK1 hD1 hFc
    generalize H1 = H at hP hS hz1 hk1 ht ⊢
    have hP : va_P D vwCl (mCl ca h0 ad u78) H := hP
    have hD : va_D A (mCl ca h0 ad u78) := hD
    obtain ⟨n39, hm39, hO39, hG39⟩ := hwu78
    replace hm39 : n39 ≤ 39 := by omega
    have hF39 := mFr_tr hF38 hG39
    clear hF38 hO38 hG39 ht hvm hz1 hk1
    refine lv_aload_n hx hb dX12_init_1459 rfl (lv_at hl 1 rfl) ?_
    refine lv_bipush hx hb dX12_init_1460 (v := 119) rfl ?_
    refine lv_bipush hx hb dX12_init_1462 (v := 101) rfl ?_
    refine lv_bipush hx hb dX12_init_1464 (v := 97) rfl ?_
    refine lv_bipush hx hb dX12_init_1466 (v := 107) rfl ?_
    refine lv_iconst hx hb dX12_init_1468 (v := 0) rfl ?_
    refine lv_iconst hx hb dX12_init_1469 (v := 0) rfl ?_
    refine lv_iconst hx hb dX12_init_1470 (v := 0) rfl ?_
    refine lv_iconst hx hb dX12_init_1471 (v := 0) rfl ?_
    have hFc := pl_free hD hS hA
    refine va_callv (va_runV (As := [.int (119), .int (101), .int (97), .int (107), .int (0), .int (0), .int (0), .int (0)]) (rest := []) ⟨hx, hb, hml, hown, hts⟩ (c_m_said l D ca h0 H.size ad u78 (119) (101) (97) (107) (0) (0) (0) (0) n39 (by omega) hO39) (cwV 8 hts gX12_init_X12_said rfl rfl rfl (by decide +kernel) ⟨Nat.le_of_ble_eq_true rfl, Nat.le_of_ble_eq_true rfl⟩) ⟨fun a U g mk q => by obtain ⟨q0, q1, qP, qK, qD⟩ := q; exact ⟨q0, q1, qP, va_K.moved (u := U) (U := U.calling g mk a) (Vm.Alike.refl U.vm) qK, qD⟩, va_recv hK hP (ci := 12) (q0 := 0) rfl rfl, fun U hU hW => ⟨rfl, by rw [hU], by rw [hU]; exact hP, va_K.moved hW.alike hK, hD.weaken (fun _ _ _ _ => trivial)⟩⟩ rfl rfl hl.1 rfl (lv_room (Nat.le_of_ble_eq_true rfl)) dX12_init_1472 ⟨hc9, hs9⟩) hS (fun q _ h => hFc q h) hFc (fun u80 t H1 locs ht hvm hwu80 hB hz1 hk1 hS => ?_)
    obtain ⟨hP1, hK1, hD1⟩ := hB
    rw [ht] at hP1
    have hK := va_K.moved hvm.symm hK1
    have hD := hD1.weaken (fun _ _ _ h => hFc _ h)
    have hP := hP1
    clear hP1 hK1 hD1 hFc
    generalize H1 = H at hP hS hz1 hk1 ht ⊢
    have hP : va_P D vwCl (mCl ca h0 ad u80) H := hP
    have hD : va_D A (mCl ca h0 ad u80) := hD
    obtain ⟨n40, hm40, hO40, hG40⟩ := hwu80
    replace hm40 : n40 ≤ 40 := by omega
    have hF40 := mFr_tr hF39 hG40
    clear hF39 hO39 hG40 ht hvm hz1 hk1
    refine lv_aload_n hx hb dX12_init_1475 rfl (lv_at hl 1 rfl) ?_
    refine lv_bipush hx hb dX12_init_1476 (v := 99) rfl ?_
    refine lv_bipush hx hb dX12_init_1478 (v := 117) rfl ?_
    refine lv_bipush hx hb dX12_init_1480 (v := 116) rfl ?_
    refine lv_iconst hx hb dX12_init_1482 (v := 0) rfl ?_
    refine lv_iconst hx hb dX12_init_1483 (v := 0) rfl ?_
    refine lv_iconst hx hb dX12_init_1484 (v := 0) rfl ?_
    refine lv_iconst hx hb dX12_init_1485 (v := 0) rfl ?_
    refine lv_iconst hx hb dX12_init_1486 (v := 0) rfl ?_
    have hFc := pl_free hD hS hA
    refine va_callv (va_runV (As := [.int (99), .int (117), .int (116), .int (0), .int (0), .int (0), .int (0), .int (0)]) (rest := []) ⟨hx, hb, hml, hown, hts⟩ (c_m_said l D ca h0 H.size ad u80 (99) (117) (116) (0) (0) (0) (0) (0) n40 (by omega) hO40) (cwV 8 hts gX12_init_X12_said rfl rfl rfl (by decide +kernel) ⟨Nat.le_of_ble_eq_true rfl, Nat.le_of_ble_eq_true rfl⟩) ⟨fun a U g mk q => by obtain ⟨q0, q1, qP, qK, qD⟩ := q; exact ⟨q0, q1, qP, va_K.moved (u := U) (U := U.calling g mk a) (Vm.Alike.refl U.vm) qK, qD⟩, va_recv hK hP (ci := 12) (q0 := 0) rfl rfl, fun U hU hW => ⟨rfl, by rw [hU], by rw [hU]; exact hP, va_K.moved hW.alike hK, hD.weaken (fun _ _ _ _ => trivial)⟩⟩ rfl rfl hl.1 rfl (lv_room (Nat.le_of_ble_eq_true rfl)) dX12_init_1487 ⟨hc9, hs9⟩) hS (fun q _ h => hFc q h) hFc (fun u82 t H1 locs ht hvm hwu82 hB hz1 hk1 hS => ?_)
    obtain ⟨hP1, hK1, hD1⟩ := hB
    rw [ht] at hP1
    have hK := va_K.moved hvm.symm hK1
    have hD := hD1.weaken (fun _ _ _ h => hFc _ h)
    have hP := hP1
    clear hP1 hK1 hD1 hFc
    generalize H1 = H at hP hS hz1 hk1 ht ⊢
    have hP : va_P D vwCl (mCl ca h0 ad u82) H := hP
    have hD : va_D A (mCl ca h0 ad u82) := hD
    obtain ⟨n41, hm41, hO41, hG41⟩ := hwu82
    replace hm41 : n41 ≤ 41 := by omega
    have hF41 := mFr_tr hF40 hG41
    clear hF40 hO40 hG41 ht hvm hz1 hk1
    refine lv_aload_n hx hb dX12_init_1490 rfl (lv_at hl 1 rfl) ?_
    refine lv_bipush hx hb dX12_init_1491 (v := 105) rfl ?_
    refine lv_bipush hx hb dX12_init_1493 (v := 110) rfl ?_
    refine lv_bipush hx hb dX12_init_1495 (v := 115) rfl ?_
    refine lv_bipush hx hb dX12_init_1497 (v := 116) rfl ?_
    refine lv_iconst hx hb dX12_init_1499 (v := 0) rfl ?_
    refine lv_iconst hx hb dX12_init_1500 (v := 0) rfl ?_
    refine lv_iconst hx hb dX12_init_1501 (v := 0) rfl ?_
    refine lv_iconst hx hb dX12_init_1502 (v := 0) rfl ?_
    have hFc := pl_free hD hS hA
    refine va_callv (va_runV (As := [.int (105), .int (110), .int (115), .int (116), .int (0), .int (0), .int (0), .int (0)]) (rest := []) ⟨hx, hb, hml, hown, hts⟩ (c_m_said l D ca h0 H.size ad u82 (105) (110) (115) (116) (0) (0) (0) (0) n41 (by omega) hO41) (cwV 8 hts gX12_init_X12_said rfl rfl rfl (by decide +kernel) ⟨Nat.le_of_ble_eq_true rfl, Nat.le_of_ble_eq_true rfl⟩) ⟨fun a U g mk q => by obtain ⟨q0, q1, qP, qK, qD⟩ := q; exact ⟨q0, q1, qP, va_K.moved (u := U) (U := U.calling g mk a) (Vm.Alike.refl U.vm) qK, qD⟩, va_recv hK hP (ci := 12) (q0 := 0) rfl rfl, fun U hU hW => ⟨rfl, by rw [hU], by rw [hU]; exact hP, va_K.moved hW.alike hK, hD.weaken (fun _ _ _ _ => trivial)⟩⟩ rfl rfl hl.1 rfl (lv_room (Nat.le_of_ble_eq_true rfl)) dX12_init_1503 ⟨hc9, hs9⟩) hS (fun q _ h => hFc q h) hFc (fun u84 t H1 locs ht hvm hwu84 hB hz1 hk1 hS => ?_)
    obtain ⟨hP1, hK1, hD1⟩ := hB
    rw [ht] at hP1
    have hK := va_K.moved hvm.symm hK1
    have hD := hD1.weaken (fun _ _ _ h => hFc _ h)
    have hP := hP1
    clear hP1 hK1 hD1 hFc
    generalize H1 = H at hP hS hz1 hk1 ht ⊢
    have hP : va_P D vwCl (mCl ca h0 ad u84) H := hP
    have hD : va_D A (mCl ca h0 ad u84) := hD
    obtain ⟨n42, hm42, hO42, hG42⟩ := hwu84
    replace hm42 : n42 ≤ 42 := by omega
    have hF42 := mFr_tr hF41 hG42
    clear hF41 hO41 hG42 ht hvm hz1 hk1
    refine lv_aload_n hx hb dX12_init_1506 rfl (lv_at hl 1 rfl) ?_
    refine lv_bipush hx hb dX12_init_1507 (v := 115) rfl ?_
    refine lv_bipush hx hb dX12_init_1509 (v := 119) rfl ?_
    refine lv_bipush hx hb dX12_init_1511 (v := 97) rfl ?_
    refine lv_bipush hx hb dX12_init_1513 (v := 112) rfl ?_
    refine lv_iconst hx hb dX12_init_1515 (v := 0) rfl ?_
    refine lv_iconst hx hb dX12_init_1516 (v := 0) rfl ?_
    refine lv_iconst hx hb dX12_init_1517 (v := 0) rfl ?_
    refine lv_iconst hx hb dX12_init_1518 (v := 0) rfl ?_
    have hFc := pl_free hD hS hA
    refine va_callv (va_runV (As := [.int (115), .int (119), .int (97), .int (112), .int (0), .int (0), .int (0), .int (0)]) (rest := []) ⟨hx, hb, hml, hown, hts⟩ (c_m_said l D ca h0 H.size ad u84 (115) (119) (97) (112) (0) (0) (0) (0) n42 (by omega) hO42) (cwV 8 hts gX12_init_X12_said rfl rfl rfl (by decide +kernel) ⟨Nat.le_of_ble_eq_true rfl, Nat.le_of_ble_eq_true rfl⟩) ⟨fun a U g mk q => by obtain ⟨q0, q1, qP, qK, qD⟩ := q; exact ⟨q0, q1, qP, va_K.moved (u := U) (U := U.calling g mk a) (Vm.Alike.refl U.vm) qK, qD⟩, va_recv hK hP (ci := 12) (q0 := 0) rfl rfl, fun U hU hW => ⟨rfl, by rw [hU], by rw [hU]; exact hP, va_K.moved hW.alike hK, hD.weaken (fun _ _ _ _ => trivial)⟩⟩ rfl rfl hl.1 rfl (lv_room (Nat.le_of_ble_eq_true rfl)) dX12_init_1519 ⟨hc9, hs9⟩) hS (fun q _ h => hFc q h) hFc (fun u86 t H1 locs ht hvm hwu86 hB hz1 hk1 hS => ?_)
    obtain ⟨hP1, hK1, hD1⟩ := hB
    rw [ht] at hP1
    have hK := va_K.moved hvm.symm hK1
    have hD := hD1.weaken (fun _ _ _ h => hFc _ h)
    have hP := hP1
    clear hP1 hK1 hD1 hFc
    generalize H1 = H at hP hS hz1 hk1 ht ⊢
    have hP : va_P D vwCl (mCl ca h0 ad u86) H := hP
    have hD : va_D A (mCl ca h0 ad u86) := hD
    obtain ⟨n43, hm43, hO43, hG43⟩ := hwu86
    replace hm43 : n43 ≤ 43 := by omega
    have hF43 := mFr_tr hF42 hG43
    clear hF42 hO42 hG43 ht hvm hz1 hk1
    refine lv_aload_n hx hb dX12_init_1522 rfl (lv_at hl 1 rfl) ?_
    refine lv_bipush hx hb dX12_init_1523 (v := 112) rfl ?_
    refine lv_bipush hx hb dX12_init_1525 (v := 117) rfl ?_
    refine lv_bipush hx hb dX12_init_1527 (v := 116) rfl ?_
    refine lv_iconst hx hb dX12_init_1529 (v := 0) rfl ?_
    refine lv_iconst hx hb dX12_init_1530 (v := 0) rfl ?_
    refine lv_iconst hx hb dX12_init_1531 (v := 0) rfl ?_
    refine lv_iconst hx hb dX12_init_1532 (v := 0) rfl ?_
    refine lv_iconst hx hb dX12_init_1533 (v := 0) rfl ?_
    have hFc := pl_free hD hS hA
    refine va_callv (va_runV (As := [.int (112), .int (117), .int (116), .int (0), .int (0), .int (0), .int (0), .int (0)]) (rest := []) ⟨hx, hb, hml, hown, hts⟩ (c_m_said l D ca h0 H.size ad u86 (112) (117) (116) (0) (0) (0) (0) (0) n43 (by omega) hO43) (cwV 8 hts gX12_init_X12_said rfl rfl rfl (by decide +kernel) ⟨Nat.le_of_ble_eq_true rfl, Nat.le_of_ble_eq_true rfl⟩) ⟨fun a U g mk q => by obtain ⟨q0, q1, qP, qK, qD⟩ := q; exact ⟨q0, q1, qP, va_K.moved (u := U) (U := U.calling g mk a) (Vm.Alike.refl U.vm) qK, qD⟩, va_recv hK hP (ci := 12) (q0 := 0) rfl rfl, fun U hU hW => ⟨rfl, by rw [hU], by rw [hU]; exact hP, va_K.moved hW.alike hK, hD.weaken (fun _ _ _ _ => trivial)⟩⟩ rfl rfl hl.1 rfl (lv_room (Nat.le_of_ble_eq_true rfl)) dX12_init_1534 ⟨hc9, hs9⟩) hS (fun q _ h => hFc q h) hFc (fun u88 t H1 locs ht hvm hwu88 hB hz1 hk1 hS => ?_)
    obtain ⟨hP1, hK1, hD1⟩ := hB
    rw [ht] at hP1
    have hK := va_K.moved hvm.symm hK1
    have hD := hD1.weaken (fun _ _ _ h => hFc _ h)
    have hP := hP1
    clear hP1 hK1 hD1 hFc
    generalize H1 = H at hP hS hz1 hk1 ht ⊢
    have hP : va_P D vwCl (mCl ca h0 ad u88) H := hP
    have hD : va_D A (mCl ca h0 ad u88) := hD
    obtain ⟨n44, hm44, hO44, hG44⟩ := hwu88
    replace hm44 : n44 ≤ 44 := by omega
    have hF44 := mFr_tr hF43 hG44
    clear hF43 hO43 hG44 ht hvm hz1 hk1
    exact kk u88 H locs ls ⟨n44, hm44, hO44, hF44⟩ hP hD hS (lv_sub hl [1] rfl)
  · have hj : j < 8192 := by
      rcases Nat.lt_or_ge j 8192 with h | h
      · exact h
      · exact absurd (nI_le h (by omega)) h1
    refine lv_aload_n hx hb dX12_init_820 rfl (lv_at hl 1 rfl) ?_
    refine va_get (D := D) (ci := 12) (v := .ref (ad 7)) (C := RX12) (T := TX12) (N := 149) hx hb hts hin hown hK hP 0 mH_0 rfl 7 (by decide) L_heads (fun _ h9 => h9) mF_7 dX12_init_821 ?_
    refine lv_iload_n hx hb dX12_init_824 rfl (lv_at hl 0 rfl) ?_
    refine lv_iconst hx hb dX12_init_825 (v := (-1)) rfl ?_
    refine va_iast hx hb hK hP hD hS 7 6 mG_7 rfl (vp_in_nI hj (by decide)) dX12_init_826 (fun H locs hP hD hS => ?_)
    rw [mSA_7] at hP hD
    refine lv_iinc (v := nI j + 1) hx hb dX12_init_827 hl (k := 0) rfl rfl (by decide) rfl (fun ls hl => ?_)
    have hl : lv_has ls 2 [(1, .int (nI j + 1)), (0, .ref (h0))] := hl
    refine lv_goto hx hb dX12_init_830 (tgt := 813) rfl ?_
    refine ih (mA w 7 (nI j).toNatClampNeg ((-1)), j + 1) H locs ls ⟨by show j + 1 ≤ 8192; omega, hI2, ?_, fun g h1 => (mA_n w _ _ h1).trans (hI4 g h1), hI5⟩ (by show 8192 - (j + 1) < 8192 - j; omega) hP hD hS (by rw [nI_1] at hl; exact hl)
    intro h hh
    show (mA w 7 (nI j).toNatClampNeg (-1)).2.1 7 h = -1
    rw [mA_s, nI_clamp (by omega)]
    by_cases e : h = j
    · rw [e, pk_us]
    · rw [pk_un e]; exact hI3 h (by have : h < j + 1 := hh; omega)
