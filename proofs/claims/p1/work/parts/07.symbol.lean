/-- the reference's objects while it knows nothing but n symbols: their chains end -/
def mOk (n : Nat) (u : mST) : Prop := u.1 8 = nI n ∧ u.1 11 = nI n ∧ (∀ h : Nat, h < 8192 → u.2.1 7 h = -1 ∨ ∃ i : Nat, i < n ∧ u.2.1 7 h = nI i) ∧ (∀ j : Nat, j < n → u.2.1 0 j = -2 ∧ (∃ i : Nat, i < n ∧ u.2.1 1 j = nI i) ∧ (u.2.1 2 j = -1 ∨ ∃ i : Nat, i < j ∧ u.2.1 2 j = nI i))
def mTouch : List Nat := [0, 1, 2, 3, 4, 7, 9, 10, 17]
/-- what the making of a symbol leaves as it was -/
def mFr (u v : mST) : Prop := (∀ k : Nat, k ≠ 8 → k ≠ 11 → k ≠ 18 → v.1 k = u.1 k) ∧ (∀ g : Nat, g ∉ mTouch → v.2.1 g = u.2.1 g) ∧ v.2.2 = u.2.2
theorem mFr_rf (u : mST) : mFr u u := ⟨fun _ _ _ _ => rfl, fun _ _ => rfl, rfl⟩
theorem mFr_tr {u v w : mST} (h1 : mFr u v) (h2 : mFr v w) : mFr u w := ⟨fun k a b c => (h2.1 k a b c).trans (h1.1 k a b c), fun g a => (h2.2.1 g a).trans (h1.2.1 g a), h2.2.2.trans h1.2.2⟩
theorem mOk_add {n jh : Nat} {u w : mST} (hn : n ≤ 1000) (hu : mOk n u) (hw1 : w.1 = u.1) (hw2 : ∀ g : Nat, g ≠ 9 → g ≠ 10 → w.2.1 g = u.2.1 g) (hj : jh < 8192) : mOk (n + 1) (m_added (mI w 11 (w.1 11 + 1)) (-2) (w.1 11 + 1 - 1) (nI jh)) := by
  obtain ⟨h1, h2, h3, h4⟩ := hu
  have e1 : w.1 8 = nI n := by rw [hw1]; exact h1
  have e2 : w.1 11 = nI n := by rw [hw1]; exact h2
  have en : (w.1 8).toNatClampNeg = n := by rw [e1, nI_clamp (by omega)]
  have ej : (nI jh).toNatClampNeg = jh := nI_clamp (by omega)
  refine ⟨?_, ?_, ?_, ?_⟩
  · show w.1 8 + 1 = nI (n + 1)
    rw [e1, nI_1]
  · show w.1 11 + 1 = nI (n + 1)
    rw [e2, nI_1]
  · intro h hh
    show upd (w.2.1 7) (nI jh).toNatClampNeg (w.1 8) h = -1 ∨ ∃ i : Nat, i < n + 1 ∧ upd (w.2.1 7) (nI jh).toNatClampNeg (w.1 8) h = nI i
    by_cases e : h = (nI jh).toNatClampNeg
    · exact Or.inr ⟨n, by omega, by rw [e, pk_us]; exact e1⟩
    · rw [pk_un e, hw2 7 (by decide) (by decide)]
      rcases h3 h hh with q | ⟨i, hi, q⟩
      · exact Or.inl q
      · exact Or.inr ⟨i, by omega, q⟩
  · intro j hj2
    refine ⟨?_, ?_, ?_⟩
    · show upd (w.2.1 0) (w.1 8).toNatClampNeg (-2) j = -2
      by_cases e : j = (w.1 8).toNatClampNeg
      · rw [e, pk_us]
      · rw [pk_un e, hw2 0 (by decide) (by decide)]
        exact (h4 j (by omega)).1
    · show ∃ i : Nat, i < n + 1 ∧ upd (w.2.1 1) (w.1 8).toNatClampNeg (w.1 11 + 1 - 1) j = nI i
      by_cases e : j = (w.1 8).toNatClampNeg
      · exact ⟨n, by omega, by rw [e, pk_us, e2, nI_1, nI_pred]⟩
      · rw [pk_un e, hw2 1 (by decide) (by decide)]
        obtain ⟨i, hi, q⟩ := (h4 j (by omega)).2.1
        exact ⟨i, by omega, q⟩
    · show upd (w.2.1 2) (w.1 8).toNatClampNeg (w.2.1 7 (nI jh).toNatClampNeg) j = -1 ∨ ∃ i : Nat, i < j ∧ upd (w.2.1 2) (w.1 8).toNatClampNeg (w.2.1 7 (nI jh).toNatClampNeg) j = nI i
      by_cases e : j = (w.1 8).toNatClampNeg
      · rw [e, pk_us, en, ej, hw2 7 (by decide) (by decide)]
        exact h3 jh hj
      · rw [pk_un e, hw2 2 (by decide) (by decide)]
        exact (h4 j (by omega)).2.2
theorem mFr_add {a b h : Int32} {u w : mST} {x : Int32} (hw1 : w.1 = u.1) (hw2 : ∀ g : Nat, g ≠ 9 → g ≠ 10 → w.2.1 g = u.2.1 g) (hw3 : w.2.2 = u.2.2) : mFr u (m_added (mI w 11 x) a b h) := by
  refine ⟨?_, ?_, hw3⟩
  · intro k k1 k2 k3
    rw [← hw1]
    exact (if_neg k1).trans (if_neg k2)
  · intro g hg
    simp only [mTouch, List.mem_cons, List.not_mem_nil, or_false, not_or] at hg
    obtain ⟨g1, g2, g3, g4, g5, g6, g7, g8, g9⟩ := hg
    rw [← hw2 g g7 g8]
    unfold m_added
    rw [mI_r, mA_n _ _ _ g6, mA_n _ _ _ g5, mA_n _ _ _ g4, mA_n _ _ _ g3, mA_n _ _ _ g2, mA_n _ _ _ g1, mI_r]

set_option maxHeartbeats 4000000 in
set_option maxRecDepth 100000 in
/-- symbol() -/
theorem c_m_symbol (l : Launch) (D : va_G) (ca : Nat → ClassId) (h0 sz : Nat) (ad : Nat → Nat) (u : mST)  (n N : Nat) (hn : n ≤ 1000) (hOk : mOk n u) (hwN : u.1 18 = nI N) (hN : N ≤ 12) : Met l yX12_symbol wsX12_symbol ({ frames := 1, cells := 0, slots := 0, locals := 25 }) (va_Pc [.ref (h0)] (fun U => U.heap.size = sz ∧ mWd D ca (fun _ => True) h0 ad u U)) (va_Qi (fun (r : Int32) (v : mST) => ∃ n2 : Nat, n2 ≤ n + 1 ∧ mOk n2 v ∧ mFr u v ∧ v.1 18 = u.1 18) (mWd D ca (va_A (mCl ca h0 ad u) sz) h0 ad) (va_A (mCl ca h0 ad u) sz)) 0 0 (va_A (mCl ca h0 ad u) sz) := by
  refine Met.ofW (cc := cX12_symbol) (maxL := 3) (ret := (some .int)) (by decide) rfl ?_
  intro p e s m args below meth c s₁ B hml hv
  obtain ⟨rfl, hsz, hP, hK, hD0⟩ := hv
  have hx := B.exec
  have hb := B.bytes
  have hr := B.returns
  have hts := atoms_spec (ws := wsX12_symbol) B.pre
  have hown : s.vm.findClass RX12 = some m.cls := findClass_of_methodNamed B.named
  have hlocks := B.notSynchronized
  subst hsz
  have hD := hD0.self (sz := s.heap.size)
  generalize hAe : va_A (mCl ca h0 ad u) s.heap.size = A at hD ⊢
  have hA : ∀ q : Nat, s.heap.size ≤ q → A q := fun q h => by rw [← hAe]; exact Or.inr h
  have hS : va_S A s.heap s.heap [] := va_S.rf
  have L_wordSize := hts (.fieldLink RX12 309 "ProofHouseModel" "wordSize" "I") (by decide +kernel)
  have L_heads := hts (.fieldLink RX12 31 "ProofHouseModel" "heads" "[I") (by decide +kernel)
  have L_left := hts (.fieldLink RX12 8 "ProofHouseModel" "left" "[I") (by decide +kernel)
  have L_right := hts (.fieldLink RX12 14 "ProofHouseModel" "right" "[I") (by decide +kernel)
  have L_next := hts (.fieldLink RX12 17 "ProofHouseModel" "next" "[I") (by decide +kernel)
  have L_lengths := hts (.fieldLink RX12 38 "ProofHouseModel" "lengths" "[I") (by decide +kernel)
  have L_symbols := hts (.fieldLink RX12 346 "ProofHouseModel" "symbols" "I") (by decide +kernel)
  have L_names := hts (.fieldLink RX12 35 "ProofHouseModel" "names" "[I") (by decide +kernel)
  have L_word := hts (.fieldLink RX12 50 "ProofHouseModel" "word" "[I") (by decide +kernel)
  have hin : ∀ w ∈ wsX120, w ∈ wsX12_symbol := fun w h => List.mem_cons_of_mem _ (List.mem_append_right _ h)
  have hl := lv_entry ([.ref (h0)]) (n := 3) (Nat.le_of_ble_eq_true rfl)
  rw [lg_entry_eq]
  generalize (lg_sl ([.ref (h0)]) ++ List.replicate (3 - (lg_sl ([.ref (h0)])).length) Slot.unset).toArray = ls at hl ⊢
  have hl : lv_has ls 3 [(0, .ref (h0))] := hl
  refine lv_aload_n hx hb dX12_symbol_0 rfl (lv_at hl 0 rfl) ?_
  refine lv_iconst hx hb dX12_symbol_1 (v := 0) rfl ?_
  refine lv_aload_n hx hb dX12_symbol_2 rfl (lv_at hl 0 rfl) ?_
  refine va_get (D := D) (ci := 12) (v := .int (u.1 18)) (C := RX12) (T := TX12) (N := 149) hx hb hts hin hown hK hP 0 mH_0 rfl 18 (by decide) L_wordSize (fun _ h9 => h9) mF_18 dX12_symbol_3 ?_
  refine lv_iconst hx hb dX12_symbol_6 (v := 1) rfl ?_
  have hFc := pl_free hD hS hA
  refine va_calli (va_runV (As := [.int (0), .int (u.1 18), .int (1)]) (rest := []) ⟨hx, hb, hml, hown, hts⟩ (c_m_spelled l D ca h0 s.heap.size ad u 0 (u.1 18) N hwN hN) (cwV 3 hts gX12_symbol_X12_spelled rfl rfl rfl (by decide +kernel) ⟨Nat.le_of_ble_eq_true rfl, Nat.le_of_ble_eq_true rfl⟩) ⟨fun a U g mk q => by obtain ⟨q0, q1, qP, qK, qD⟩ := q; exact ⟨q0, q1, qP, va_K.moved (u := U) (U := U.calling g mk a) (Vm.Alike.refl U.vm) qK, qD⟩, va_recv hK hP (ci := 12) (q0 := 0) rfl rfl, fun U hU hW => ⟨rfl, by rw [hU], by rw [hU]; exact hP, va_K.moved hW.alike hK, hD.weaken (fun _ _ _ _ => trivial)⟩⟩ rfl rfl hl.1 rfl (lv_room (Nat.le_of_ble_eq_true rfl)) dX12_symbol_7 ⟨(Nat.zero_le _), (Nat.zero_le _)⟩) hS (fun q _ h => hFc q h) hFc (fun r2 u1 t H1 locs ht hvm hwu1 hB hz1 hk1 hS => ?_)
  obtain ⟨hP1, hK1, hD1⟩ := hB
  rw [ht] at hP1
  have hK := va_K.moved hvm.symm hK1
  have hD := hD1.weaken (fun _ _ _ h => hFc _ h)
  have hP := hP1
  clear hP1 hK1 hD1 hFc
  generalize H1 = H at hP hS hz1 hk1 ht ⊢
  have hP : va_P D vwCl (mCl ca h0 ad u1) H := hP
  have hD : va_D A (mCl ca h0 ad u1) := hD
  obtain ⟨he1, j1, hj1, hr1⟩ := hwu1
  rw [he1] at hP hD
  subst hr1
  refine lv_istore_n hx hb dX12_symbol_10 rfl hl (by decide) rfl (fun ls hl => ?_)
  have hl : lv_has ls 3 [(1, .int (nI j1)), (0, .ref (h0))] := hl
  refine lv_aload_n hx hb dX12_symbol_11 rfl (lv_at hl 1 rfl) ?_
  refine va_get (D := D) (ci := 12) (v := .ref (ad 7)) (C := RX12) (T := TX12) (N := 149) hx hb hts hin hown hK hP 0 mH_0 rfl 7 (by decide) L_heads (fun _ h9 => h9) mF_7 dX12_symbol_12 ?_
  refine lv_iload_n hx hb dX12_symbol_15 rfl (lv_at hl 0 rfl) ?_
  refine va_iald hx hb hK hP 7 6 mG_7 rfl (vp_in_nI hj1 (by decide)) dX12_symbol_16 ?_
  refine lv_topi (fun v3 ev3 => ?_)
  have ev3 : v3 = (u.2.1 7) (nI j1).toNatClampNeg := ev3
  refine lv_istore_n hx hb dX12_symbol_17 rfl hl (by decide) rfl (fun ls hl => ?_)
  have hl : lv_has ls 3 [(2, .int (v3)), (1, .int (nI j1)), (0, .ref (h0))] := hl
  have hx0 : v3 = -1 ∨ ∃ i : Nat, i < n ∧ v3 = nI i := by rw [ev3, nI_clamp (by omega)]; exact hOk.2.2.1 j1 hj1
  refine w_loopS (nL := 3) (sta := fun _ : Int32 => u) (lst := fun q : Int32 => [(2, .int q), (1, .int (nI j1)), (0, .ref h0)]) (μ := fun q => (q + 1).toNatClampNeg) (I := fun q => q = -1 ∨ ∃ i : Nat, i < n ∧ q = nI i) ?_ v3 ls hx0 hP hD hS hl
  intro q H locs ls hI hP hD hS hl ih
  have hl : lv_has ls 3 [(2, .int (q)), (1, .int (nI j1)), (0, .ref (h0))] := hl
  refine lv_iload_n hx hb dX12_symbol_18 rfl (lv_at hl 0 rfl) ?_
  refine lv_iconst hx hb dX12_symbol_19 (v := (-1)) rfl ?_
  refine lv_icmp_eq hx hb dX12_symbol_20 (tgt := 59) rfl (fun h4 => ?_) (fun h4 => ?_)
  · refine lv_aload_n hx hb dX12_symbol_59 rfl (lv_at hl 2 rfl) ?_
    refine va_get (D := D) (ci := 12) (v := .ref (ad 10)) (C := RX12) (T := TX12) (N := 149) hx hb hts hin hown hK hP 0 mH_0 rfl 10 (by decide) L_lengths (fun _ h9 => h9) mF_10 dX12_symbol_60 ?_
    refine lv_aload_n hx hb dX12_symbol_63 rfl (lv_at hl 2 rfl) ?_
    refine va_get (D := D) (ci := 12) (v := .int (u.1 11)) (C := RX12) (T := TX12) (N := 149) hx hb hts hin hown hK hP 0 mH_0 rfl 11 (by decide) L_symbols (fun _ h9 => h9) mF_11 dX12_symbol_64 ?_
    refine lv_aload_n hx hb dX12_symbol_67 rfl (lv_at hl 2 rfl) ?_
    refine va_get (D := D) (ci := 12) (v := .int (u.1 18)) (C := RX12) (T := TX12) (N := 149) hx hb hts hin hown hK hP 0 mH_0 rfl 18 (by decide) L_wordSize (fun _ h9 => h9) mF_18 dX12_symbol_68 ?_
    refine va_iast hx hb hK hP hD hS 9 8 mG_10 rfl (by rw [hOk.2.1]; exact vp_in_nI (by omega) (by decide)) dX12_symbol_71 (fun H locs hP hD hS => ?_)
    rw [mSA_10] at hP hD
    refine lv_iconst hx hb dX12_symbol_72 (v := 0) rfl ?_
    refine lv_istore_n hx hb dX12_symbol_73 rfl hl (by decide) rfl (fun ls hl => ?_)
    have hl : lv_has ls 3 [(2, .int (0)), (1, .int (nI j1)), (0, .ref (h0))] := hl
    refine w_loopS (nL := 3) (sta := fun q : mST × Nat => q.1) (lst := fun q : mST × Nat => [(2, .int (nI q.2)), (1, .int (nI j1)), (0, .ref h0)]) (μ := fun q => N - q.2) (I := fun q => q.2 ≤ N ∧ q.1.1 = u.1 ∧ (∀ g : Nat, g ≠ 9 → g ≠ 10 → q.1.2.1 g = u.2.1 g) ∧ q.1.2.2 = u.2.2) ?_ (mA u 10 (u.1 11).toNatClampNeg (u.1 18), 0) ls ⟨Nat.zero_le _, rfl, fun g h1 h2 => if_neg h2, rfl⟩ hP hD hS hl
    intro q H locs ls hI hP hD hS hl ih
    obtain ⟨w, j⟩ := q
    obtain ⟨hI1, hI2, hI3, hI4⟩ := hI
    dsimp only at hI1 hI2 hI3 hI4 hP hD
    have hwN2 : w.1 18 = nI N := by rw [hI2]; exact hwN
    have hsy : w.1 11 = nI n := by rw [hI2]; exact hOk.2.1
    have hl : lv_has ls 3 [(2, .int (nI j)), (1, .int (nI j1)), (0, .ref (h0))] := hl
    refine lv_iload_n hx hb dX12_symbol_74 rfl (lv_at hl 0 rfl) ?_
    refine lv_aload_n hx hb dX12_symbol_75 rfl (lv_at hl 2 rfl) ?_
    refine va_get (D := D) (ci := 12) (v := .int (w.1 18)) (C := RX12) (T := TX12) (N := 149) hx hb hts hin hown hK hP 0 mH_0 rfl 18 (by decide) L_wordSize (fun _ h9 => h9) mF_18 dX12_symbol_76 ?_
    refine lv_icmp_ge hx hb dX12_symbol_79 (tgt := 108) rfl (fun h5 => ?_) (fun h5 => ?_)
    · refine lv_aload_n hx hb dX12_symbol_108 rfl (lv_at hl 2 rfl) ?_
      refine lv_dup hx hb dX12_symbol_109 rfl ?_
      refine va_get (D := D) (ci := 12) (v := .int (w.1 11)) (C := RX12) (T := TX12) (N := 149) hx hb hts hin hown hK hP 0 mH_0 rfl 11 (by decide) L_symbols (fun _ h9 => h9) mF_11 dX12_symbol_110 ?_
      refine lv_iconst hx hb dX12_symbol_113 (v := 1) rfl ?_
      refine lv_iadd hx hb dX12_symbol_114 ?_
      refine va_put (D := D) (ci := 12) (v := .int ((w.1 11) + 1)) (ty := .int) (C := RX12) (T := TX12) (N := 149) hx hb hts hin tyX12 tyX12_ok nmX12 hown hK hP hD hS 0 mH_0 rfl 11 (by decide) L_symbols (fun _ h9 => h9) rfl (tyX12_ok 11 (by decide)) rfl rfl (Nat.le_of_ble_eq_true rfl) dX12_symbol_115 (fun H locs hP hD hS => ?_)
      rw [mSI_11] at hP hD
      refine lv_aload_n hx hb dX12_symbol_118 rfl (lv_at hl 2 rfl) ?_
      refine lv_bipush hx hb dX12_symbol_119 (v := (-2)) rfl ?_
      refine lv_aload_n hx hb dX12_symbol_121 rfl (lv_at hl 2 rfl) ?_
      refine va_get (D := D) (ci := 12) (v := .int ((w.1 11) + 1)) (C := RX12) (T := TX12) (N := 149) hx hb hts hin hown hK hP 0 mH_0 rfl 11 (by decide) L_symbols (fun _ h9 => h9) mF_11 dX12_symbol_122 ?_
      refine lv_iconst hx hb dX12_symbol_125 (v := 1) rfl ?_
      refine lv_isub hx hb dX12_symbol_126 ?_
      refine lv_iload_n hx hb dX12_symbol_127 rfl (lv_at hl 1 rfl) ?_
      have hFc := pl_free hD hS hA
      refine va_calli (va_runV (As := [.int ((-2)), .int (((w.1 11) + 1) - 1), .int (nI j1)]) (rest := []) ⟨hx, hb, hml, hown, hts⟩ (c_m_added l D ca h0 H.size ad (mI w 11 ((w.1 11) + 1)) (-2) (w.1 11 + 1 - 1) (nI j1) (by show vp_in (w.1 8) 452000; rw [hI2, hOk.1]; exact vp_in_nI (by omega) (by decide)) (vp_in_nI hj1 (by decide)) (fun h => absurd h (by decide))) (cwV 3 hts gX12_symbol_X12_added rfl rfl rfl (by decide +kernel) ⟨Nat.le_of_ble_eq_true rfl, Nat.le_of_ble_eq_true rfl⟩) ⟨fun a U g mk q => by obtain ⟨q0, q1, qP, qK, qD⟩ := q; exact ⟨q0, q1, qP, va_K.moved (u := U) (U := U.calling g mk a) (Vm.Alike.refl U.vm) qK, qD⟩, va_recv hK hP (ci := 12) (q0 := 0) rfl rfl, fun U hU hW => ⟨rfl, by rw [hU], by rw [hU]; exact hP, va_K.moved hW.alike hK, hD.weaken (fun _ _ _ _ => trivial)⟩⟩ rfl rfl hl.1 rfl (lv_room (Nat.le_of_ble_eq_true rfl)) dX12_symbol_128 ⟨(Nat.zero_le _), (Nat.zero_le _)⟩) hS (fun q _ h => hFc q h) hFc (fun r7 u6 t H1 locs ht hvm hwu6 hB hz1 hk1 hS => ?_)
      obtain ⟨hP1, hK1, hD1⟩ := hB
      rw [ht] at hP1
      have hK := va_K.moved hvm.symm hK1
      have hD := hD1.weaken (fun _ _ _ h => hFc _ h)
      have hP := hP1
      clear hP1 hK1 hD1 hFc
      generalize H1 = H at hP hS hz1 hk1 ht ⊢
      have hP : va_P D vwCl (mCl ca h0 ad u6) H := hP
      have hD : va_D A (mCl ca h0 ad u6) := hD
      exact W.iret (v := r7) hx hb hr (fun t ht hW => ⟨⟨r7, u6, rfl, (by obtain ⟨he, -⟩ := hwu6; rw [he]; exact ⟨n + 1, Nat.le_refl _, mOk_add hn hOk hI2 hI3 hj1, mFr_add hI2 hI3 hI4, congrFun hI2 18⟩), by rw [ht]; exact hP, va_K.moved hW.alike hK, hD⟩, hS.F ht⟩) hS.2.2 dX12_symbol_131
    · have hj : j < N := by
        rcases Nat.lt_or_ge j N with h | h
        · exact h
        · exact absurd (by rw [hwN2]; exact nI_le h (by omega)) h5
      refine lv_aload_n hx hb dX12_symbol_82 rfl (lv_at hl 2 rfl) ?_
      refine va_get (D := D) (ci := 12) (v := .ref (ad 9)) (C := RX12) (T := TX12) (N := 149) hx hb hts hin hown hK hP 0 mH_0 rfl 9 (by decide) L_names (fun _ h9 => h9) mF_9 dX12_symbol_83 ?_
      refine lv_bipush hx hb dX12_symbol_86 (v := 12) rfl ?_
      refine lv_aload_n hx hb dX12_symbol_88 rfl (lv_at hl 2 rfl) ?_
      refine va_get (D := D) (ci := 12) (v := .int (w.1 11)) (C := RX12) (T := TX12) (N := 149) hx hb hts hin hown hK hP 0 mH_0 rfl 11 (by decide) L_symbols (fun _ h9 => h9) mF_11 dX12_symbol_89 ?_
      refine lv_imul hx hb dX12_symbol_92 ?_
      refine lv_iload_n hx hb dX12_symbol_93 rfl (lv_at hl 0 rfl) ?_
      refine lv_iadd hx hb dX12_symbol_94 ?_
      refine lv_aload_n hx hb dX12_symbol_95 rfl (lv_at hl 2 rfl) ?_
      refine va_get (D := D) (ci := 12) (v := .ref (ad 17)) (C := RX12) (T := TX12) (N := 149) hx hb hts hin hown hK hP 0 mH_0 rfl 17 (by decide) L_word (fun _ h9 => h9) mF_17 dX12_symbol_96 ?_
      refine lv_iload_n hx hb dX12_symbol_99 rfl (lv_at hl 0 rfl) ?_
      refine va_iald hx hb hK hP 13 12 mG_17 rfl (vp_in_nI (by omega) (by decide)) dX12_symbol_100 ?_
      refine lv_topi (fun v8 ev8 => ?_)
      have ev8 : v8 = (w.2.1 17) (nI j).toNatClampNeg := ev8
      refine va_iast hx hb hK hP hD hS 8 7 mG_9 rfl (by rw [hsy, show (12 : Int32) = nI 12 from rfl, pk_mul, nI_add]; exact vp_in_nI (by omega) (by decide)) dX12_symbol_101 (fun H locs hP hD hS => ?_)
      rw [mSA_9] at hP hD
      refine lv_iinc (v := nI j + 1) hx hb dX12_symbol_102 hl (k := 0) rfl rfl (by decide) rfl (fun ls hl => ?_)
      have hl : lv_has ls 3 [(2, .int (nI j + 1)), (1, .int (nI j1)), (0, .ref (h0))] := hl
      refine lv_goto hx hb dX12_symbol_105 (tgt := 74) rfl ?_
      exact ih (mA w 9 ((12 * (w.1 11)) + (nI j)).toNatClampNeg (v8), j + 1) H locs ls ⟨by show j + 1 ≤ N; omega, hI2, fun g h1 h2 => (mA_n w _ _ h1).trans (hI3 g h1 h2), hI4⟩ (by show N - (j + 1) < N - j; omega) hP hD hS (by rw [nI_1] at hl; exact hl)
  · obtain ⟨i, hi, hq⟩ : ∃ i : Nat, i < n ∧ q = nI i := hI.elim (fun h => absurd h h4) id
    subst hq
    refine lv_aload_n hx hb dX12_symbol_23 rfl (lv_at hl 2 rfl) ?_
    refine va_get (D := D) (ci := 12) (v := .ref (ad 0)) (C := RX12) (T := TX12) (N := 149) hx hb hts hin hown hK hP 0 mH_0 rfl 0 (by decide) L_left (fun _ h9 => h9) mF_0 dX12_symbol_24 ?_
    refine lv_iload_n hx hb dX12_symbol_27 rfl (lv_at hl 0 rfl) ?_
    refine va_iald hx hb hK hP 1 0 mG_0 rfl (vp_in_nI (by omega) (by decide)) dX12_symbol_28 ?_
    refine lv_topi (fun v9 ev9 => ?_)
    have ev9 : v9 = (u.2.1 0) (nI i).toNatClampNeg := ev9
    refine lv_bipush hx hb dX12_symbol_29 (v := (-2)) rfl ?_
    refine lv_icmp_ne hx hb dX12_symbol_31 (tgt := 49) rfl (fun h10 => ?_) (fun h10 => ?_)
    · refine lv_aload_n hx hb dX12_symbol_49 rfl (lv_at hl 2 rfl) ?_
      refine va_get (D := D) (ci := 12) (v := .ref (ad 2)) (C := RX12) (T := TX12) (N := 149) hx hb hts hin hown hK hP 0 mH_0 rfl 2 (by decide) L_next (fun _ h9 => h9) mF_2 dX12_symbol_50 ?_
      refine lv_iload_n hx hb dX12_symbol_53 rfl (lv_at hl 0 rfl) ?_
      refine va_iald hx hb hK hP 3 2 mG_2 rfl (vp_in_nI (by omega) (by decide)) dX12_symbol_54 ?_
      refine lv_topi (fun v11 ev11 => ?_)
      have ev11 : v11 = (u.2.1 2) (nI i).toNatClampNeg := ev11
      refine lv_istore_n hx hb dX12_symbol_55 rfl hl (by decide) rfl (fun ls hl => ?_)
      have hl : lv_has ls 3 [(2, .int (v11)), (1, .int (nI j1)), (0, .ref (h0))] := hl
      refine lv_goto hx hb dX12_symbol_56 (tgt := 18) rfl ?_
      have hz : v11 = -1 ∨ ∃ i2 : Nat, i2 < i ∧ v11 = nI i2 := by rw [ev11, nI_clamp (by omega)]; exact (hOk.2.2.2 i hi).2.2
      refine ih v11 H locs ls (hz.elim Or.inl (fun ⟨i2, h2, e2⟩ => Or.inr ⟨i2, by omega, e2⟩)) ?_ hP hD hS hl
      show (v11 + 1).toNatClampNeg < (nI i + 1).toNatClampNeg
      rw [nI_1, nI_clamp (by omega)]
      rcases hz with h | ⟨i2, h2, h⟩
      · rw [h]; exact Nat.succ_pos i
      · rw [h, nI_1, nI_clamp (by omega)]; omega
    · refine lv_aload_n hx hb dX12_symbol_34 rfl (lv_at hl 2 rfl) ?_
      refine lv_aload_n hx hb dX12_symbol_35 rfl (lv_at hl 2 rfl) ?_
      refine va_get (D := D) (ci := 12) (v := .ref (ad 1)) (C := RX12) (T := TX12) (N := 149) hx hb hts hin hown hK hP 0 mH_0 rfl 1 (by decide) L_right (fun _ h9 => h9) mF_1 dX12_symbol_36 ?_
      refine lv_iload_n hx hb dX12_symbol_39 rfl (lv_at hl 0 rfl) ?_
      refine va_iald hx hb hK hP 2 1 mG_1 rfl (vp_in_nI (by omega) (by decide)) dX12_symbol_40 ?_
      refine lv_topi (fun v12 ev12 => ?_)
      have ev12 : v12 = (u.2.1 1) (nI i).toNatClampNeg := ev12
      obtain ⟨S, hS1, hS2⟩ := (hOk.2.2.2 i hi).2.1
      have haS : v12 = nI S := by rw [ev12, nI_clamp (by omega)]; exact hS2
      have hFc := pl_free hD hS hA
      refine va_calli (va_runV (As := [.int (v12)]) (rest := []) ⟨hx, hb, hml, hown, hts⟩ (c_m_isWord l D ca h0 H.size ad u v12 S N haS (by omega) hwN hN) (cwV 1 hts gX12_symbol_X12_isWord rfl rfl rfl (by decide +kernel) ⟨Nat.le_of_ble_eq_true rfl, Nat.le_of_ble_eq_true rfl⟩) ⟨fun a U g mk q => by obtain ⟨q0, q1, qP, qK, qD⟩ := q; exact ⟨q0, q1, qP, va_K.moved (u := U) (U := U.calling g mk a) (Vm.Alike.refl U.vm) qK, qD⟩, va_recv hK hP (ci := 12) (q0 := 0) rfl rfl, fun U hU hW => ⟨rfl, by rw [hU], by rw [hU]; exact hP, va_K.moved hW.alike hK, hD.weaken (fun _ _ _ _ => trivial)⟩⟩ rfl rfl hl.1 rfl (lv_room (Nat.le_of_ble_eq_true rfl)) dX12_symbol_41 ⟨(Nat.zero_le _), (Nat.zero_le _)⟩) hS (fun q _ h => hFc q h) hFc (fun r14 u13 t H1 locs ht hvm hwu13 hB hz1 hk1 hS => ?_)
      obtain ⟨hP1, hK1, hD1⟩ := hB
      rw [ht] at hP1
      have hK := va_K.moved hvm.symm hK1
      have hD := hD1.weaken (fun _ _ _ h => hFc _ h)
      have hP := hP1
      clear hP1 hK1 hD1 hFc
      generalize H1 = H at hP hS hz1 hk1 ht ⊢
      have hP : va_P D vwCl (mCl ca h0 ad u13) H := hP
      have hD : va_D A (mCl ca h0 ad u13) := hD
      obtain ⟨he2, hr2⟩ := hwu13
      rw [he2] at hP hD
      refine lv_if_eq hx hb dX12_symbol_44 (tgt := 49) rfl (fun h15 => ?_) (fun h15 => ?_)
      · refine lv_aload_n hx hb dX12_symbol_49 rfl (lv_at hl 2 rfl) ?_
        refine va_get (D := D) (ci := 12) (v := .ref (ad 2)) (C := RX12) (T := TX12) (N := 149) hx hb hts hin hown hK hP 0 mH_0 rfl 2 (by decide) L_next (fun _ h9 => h9) mF_2 dX12_symbol_50 ?_
        refine lv_iload_n hx hb dX12_symbol_53 rfl (lv_at hl 0 rfl) ?_
        refine va_iald hx hb hK hP 3 2 mG_2 rfl (vp_in_nI (by omega) (by decide)) dX12_symbol_54 ?_
        refine lv_topi (fun v16 ev16 => ?_)
        have ev16 : v16 = (u.2.1 2) (nI i).toNatClampNeg := ev16
        refine lv_istore_n hx hb dX12_symbol_55 rfl hl (by decide) rfl (fun ls hl => ?_)
        have hl : lv_has ls 3 [(2, .int (v16)), (1, .int (nI j1)), (0, .ref (h0))] := hl
        refine lv_goto hx hb dX12_symbol_56 (tgt := 18) rfl ?_
        have hz : v16 = -1 ∨ ∃ i2 : Nat, i2 < i ∧ v16 = nI i2 := by rw [ev16, nI_clamp (by omega)]; exact (hOk.2.2.2 i hi).2.2
        refine ih v16 H locs ls (hz.elim Or.inl (fun ⟨i2, h2, e2⟩ => Or.inr ⟨i2, by omega, e2⟩)) ?_ hP hD hS hl
        show (v16 + 1).toNatClampNeg < (nI i + 1).toNatClampNeg
        rw [nI_1, nI_clamp (by omega)]
        rcases hz with h | ⟨i2, h2, h⟩
        · rw [h]; exact Nat.succ_pos i
        · rw [h, nI_1, nI_clamp (by omega)]; omega
      · refine lv_iload_n hx hb dX12_symbol_47 rfl (lv_at hl 0 rfl) ?_
        exact W.iret (v := nI i) hx hb hr (fun t ht hW => ⟨⟨nI i, u, rfl, ⟨n, Nat.le_succ n, hOk, mFr_rf u, rfl⟩, by rw [ht]; exact hP, va_K.moved hW.alike hK, hD⟩, hS.F ht⟩) hS.2.2 dX12_symbol_48
