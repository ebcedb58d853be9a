set_option maxHeartbeats 4000000 in
set_option maxRecDepth 100000 in
/-- isWord(s) -/
theorem c_m_isWord (l : Launch) (D : va_G) (ca : Nat → ClassId) (h0 sz : Nat) (ad : Nat → Nat) (u : mST) (a : Int32) (S N : Nat) (haS : a = nI S) (hS9 : S < 21000) (hwN : u.1 18 = nI N) (hN : N ≤ 12) : Met l yX12_isWord wsX12_isWord pR_0 (va_Pc [.ref (h0), .int (a)] (fun U => U.heap.size = sz ∧ mWd D ca (fun _ => True) h0 ad u U)) (va_Qi (fun (r : Int32) (v : mST) => v = u ∧ (r = 0 ∨ r = 1)) (mWd D ca (va_A (mCl ca h0 ad u) sz) h0 ad) (va_A (mCl ca h0 ad u) sz)) 0 0 (va_A (mCl ca h0 ad u) sz) := by
  refine Met.ofW (cc := cX12_isWord) (maxL := 4) (ret := (some .boolean)) (by decide) rfl ?_
  intro p e s m args below meth c s₁ B hml hv
  obtain ⟨rfl, hsz, hP, hK, hD0⟩ := hv
  have hx := B.exec
  have hb := B.bytes
  have hr := B.returns
  have hts := atoms_spec (ws := wsX12_isWord) B.pre
  have hown : s.vm.findClass RX12 = some m.cls := findClass_of_methodNamed B.named
  have hlocks := B.notSynchronized
  subst hsz
  have hD := hD0.self (sz := s.heap.size)
  generalize hAe : va_A (mCl ca h0 ad u) s.heap.size = A at hD ⊢
  have hA : ∀ q : Nat, s.heap.size ≤ q → A q := fun q h => by rw [← hAe]; exact Or.inr h
  have hS : va_S A s.heap s.heap [] := va_S.rf
  have L_lengths := hts (.fieldLink RX12 38 "ProofHouseModel" "lengths" "[I") (by decide +kernel)
  have L_wordSize := hts (.fieldLink RX12 309 "ProofHouseModel" "wordSize" "I") (by decide +kernel)
  have L_names := hts (.fieldLink RX12 35 "ProofHouseModel" "names" "[I") (by decide +kernel)
  have L_word := hts (.fieldLink RX12 50 "ProofHouseModel" "word" "[I") (by decide +kernel)
  have hin : ∀ w ∈ wsX120, w ∈ wsX12_isWord := fun w h => List.mem_cons_of_mem _ (List.mem_append_right _ h)
  have hl := lv_entry ([.ref (h0), .int (a)]) (n := 4) (Nat.le_of_ble_eq_true rfl)
  rw [lg_entry_eq]
  generalize (lg_sl ([.ref (h0), .int (a)]) ++ List.replicate (4 - (lg_sl ([.ref (h0), .int (a)])).length) Slot.unset).toArray = ls at hl ⊢
  have hl : lv_has ls 4 [(0, .ref (h0)), (1, .int (a))] := hl
  refine lv_aload_n hx hb dX12_isWord_0 rfl (lv_at hl 0 rfl) ?_
  refine va_get (D := D) (ci := 12) (v := .ref (ad 10)) (C := RX12) (T := TX12) (N := 149) hx hb hts hin hown hK hP 0 mH_0 rfl 10 (by decide) L_lengths (fun _ h9 => h9) mF_10 dX12_isWord_1 ?_
  refine lv_iload_n hx hb dX12_isWord_4 rfl (lv_at hl 1 rfl) ?_
  refine va_iald hx hb hK hP 9 8 mG_10 rfl (by rw [haS]; exact vp_in_nI hS9 (by decide)) dX12_isWord_5 ?_
  refine lv_topi (fun v1 ev1 => ?_)
  have ev1 : v1 = (u.2.1 10) (a).toNatClampNeg := ev1
  refine lv_aload_n hx hb dX12_isWord_6 rfl (lv_at hl 0 rfl) ?_
  refine va_get (D := D) (ci := 12) (v := .int (u.1 18)) (C := RX12) (T := TX12) (N := 149) hx hb hts hin hown hK hP 0 mH_0 rfl 18 (by decide) L_wordSize (fun _ h9 => h9) mF_18 dX12_isWord_7 ?_
  refine lv_icmp_ne hx hb dX12_isWord_10 (tgt := 17) rfl (fun h2 => ?_) (fun h2 => ?_)
  · refine lv_iconst hx hb dX12_isWord_17 (v := 0) rfl ?_
    refine lv_istore_n hx hb dX12_isWord_18 rfl hl (by decide) rfl (fun ls hl => ?_)
    have hl : lv_has ls 4 [(2, .int (0)), (0, .ref (h0)), (1, .int (a))] := hl
    refine lv_iconst hx hb dX12_isWord_19 (v := 0) rfl ?_
    refine lv_istore_n hx hb dX12_isWord_20 rfl hl (by decide) rfl (fun ls hl => ?_)
    have hl : lv_has ls 4 [(3, .int (0)), (2, .int (0)), (0, .ref (h0)), (1, .int (a))] := hl
    refine w_loop (nL := 4) (lst := fun q : Int32 × Nat => [(3, .int (nI q.2)), (2, .int q.1), (0, .ref h0), (1, .int a)]) (μ := fun q => N - q.2) (I := fun q => q.2 ≤ N ∧ (q.1 = 0 ∨ q.1 = 1)) ?_ (0, 0) ls ⟨Nat.zero_le _, by first | exact Or.inl rfl | exact Or.inr rfl⟩ hl
    intro q ls hI hl ih
    obtain ⟨x2, j⟩ := q
    obtain ⟨hI1, hI2⟩ := hI
    dsimp only at hI1 hI2
    have hl : lv_has ls 4 [(3, .int (nI j)), (2, .int (x2)), (0, .ref (h0)), (1, .int (a))] := hl
    refine lv_iload_n hx hb dX12_isWord_21 rfl (lv_at hl 0 rfl) ?_
    refine lv_aload_n hx hb dX12_isWord_22 rfl (lv_at hl 2 rfl) ?_
    refine va_get (D := D) (ci := 12) (v := .int (u.1 18)) (C := RX12) (T := TX12) (N := 149) hx hb hts hin hown hK hP 0 mH_0 rfl 18 (by decide) L_wordSize (fun _ h9 => h9) mF_18 dX12_isWord_23 ?_
    refine lv_icmp_ge hx hb dX12_isWord_26 (tgt := 65) rfl (fun h3 => ?_) (fun h3 => ?_)
    · refine lv_iload_n hx hb dX12_isWord_65 rfl (lv_at hl 1 rfl) ?_
      exact W.zret (v := x2) hx hb hr (by rcases hI2 with h | h <;> rw [h] <;> rfl) (fun t ht hW => ⟨⟨x2, u, rfl, ⟨rfl, hI2⟩, by rw [ht]; exact hP, va_K.moved hW.alike hK, hD⟩, hS.F ht⟩) hS.2.2 dX12_isWord_66
    · have hj : j < N := by
        rcases Nat.lt_or_ge j N with h | h
        · exact h
        · exact absurd (by rw [hwN]; exact nI_le h (by omega)) h3
      refine lv_iload_n hx hb dX12_isWord_29 rfl (lv_at hl 1 rfl) ?_
      refine lv_if_eq hx hb dX12_isWord_30 (tgt := 65) rfl (fun h4 => ?_) (fun h4 => ?_)
      · refine lv_iload_n hx hb dX12_isWord_65 rfl (lv_at hl 1 rfl) ?_
        exact W.zret (v := x2) hx hb hr (by rcases hI2 with h | h <;> rw [h] <;> rfl) (fun t ht hW => ⟨⟨x2, u, rfl, ⟨rfl, hI2⟩, by rw [ht]; exact hP, va_K.moved hW.alike hK, hD⟩, hS.F ht⟩) hS.2.2 dX12_isWord_66
      · refine lv_aload_n hx hb dX12_isWord_33 rfl (lv_at hl 2 rfl) ?_
        refine va_get (D := D) (ci := 12) (v := .ref (ad 9)) (C := RX12) (T := TX12) (N := 149) hx hb hts hin hown hK hP 0 mH_0 rfl 9 (by decide) L_names (fun _ h9 => h9) mF_9 dX12_isWord_34 ?_
        refine lv_bipush hx hb dX12_isWord_37 (v := 12) rfl ?_
        refine lv_iload_n hx hb dX12_isWord_39 rfl (lv_at hl 3 rfl) ?_
        refine lv_imul hx hb dX12_isWord_40 ?_
        refine lv_iload_n hx hb dX12_isWord_41 rfl (lv_at hl 0 rfl) ?_
        refine lv_iadd hx hb dX12_isWord_42 ?_
        refine va_iald hx hb hK hP 8 7 mG_9 rfl (by rw [haS, show (12 : Int32) = nI 12 from rfl, pk_mul, nI_add]; exact vp_in_nI (by omega) (by decide)) dX12_isWord_43 ?_
        refine lv_topi (fun v5 ev5 => ?_)
        have ev5 : v5 = (u.2.1 9) ((12 * a) + (nI j)).toNatClampNeg := ev5
        refine lv_aload_n hx hb dX12_isWord_44 rfl (lv_at hl 2 rfl) ?_
        refine va_get (D := D) (ci := 12) (v := .ref (ad 17)) (C := RX12) (T := TX12) (N := 149) hx hb hts hin hown hK hP 0 mH_0 rfl 17 (by decide) L_word (fun _ h9 => h9) mF_17 dX12_isWord_45 ?_
        refine lv_iload_n hx hb dX12_isWord_48 rfl (lv_at hl 0 rfl) ?_
        refine va_iald hx hb hK hP 13 12 mG_17 rfl (vp_in_nI (by omega) (by decide)) dX12_isWord_49 ?_
        refine lv_topi (fun v6 ev6 => ?_)
        have ev6 : v6 = (u.2.1 17) (nI j).toNatClampNeg := ev6
        refine lv_icmp_ne hx hb dX12_isWord_50 (tgt := 57) rfl (fun h7 => ?_) (fun h7 => ?_)
        · refine lv_iconst hx hb dX12_isWord_57 (v := 0) rfl ?_
          refine lv_istore_n hx hb dX12_isWord_58 rfl hl (by decide) rfl (fun ls hl => ?_)
          have hl : lv_has ls 4 [(2, .int (0)), (3, .int (nI j)), (0, .ref (h0)), (1, .int (a))] := hl
          refine lv_iinc (v := nI j + 1) hx hb dX12_isWord_59 hl (k := 1) rfl rfl (by decide) rfl (fun ls hl => ?_)
          have hl : lv_has ls 4 [(3, .int (nI j + 1)), (2, .int (0)), (0, .ref (h0)), (1, .int (a))] := hl
          refine lv_goto hx hb dX12_isWord_62 (tgt := 21) rfl ?_
          exact ih (0, j + 1) ls ⟨by show j + 1 ≤ N; omega, by first | exact Or.inl rfl | exact Or.inr rfl⟩ (by show N - (j + 1) < N - j; omega) (by rw [nI_1] at hl; exact hl)
        · refine lv_iconst hx hb dX12_isWord_53 (v := 1) rfl ?_
          refine lv_goto hx hb dX12_isWord_54 (tgt := 58) rfl ?_
          refine lv_istore_n hx hb dX12_isWord_58 rfl hl (by decide) rfl (fun ls hl => ?_)
          have hl : lv_has ls 4 [(2, .int (1)), (3, .int (nI j)), (0, .ref (h0)), (1, .int (a))] := hl
          refine lv_iinc (v := nI j + 1) hx hb dX12_isWord_59 hl (k := 1) rfl rfl (by decide) rfl (fun ls hl => ?_)
          have hl : lv_has ls 4 [(3, .int (nI j + 1)), (2, .int (1)), (0, .ref (h0)), (1, .int (a))] := hl
          refine lv_goto hx hb dX12_isWord_62 (tgt := 21) rfl ?_
          exact ih (1, j + 1) ls ⟨by show j + 1 ≤ N; omega, by first | exact Or.inl rfl | exact Or.inr rfl⟩ (by show N - (j + 1) < N - j; omega) (by rw [nI_1] at hl; exact hl)
  · refine lv_iconst hx hb dX12_isWord_13 (v := 1) rfl ?_
    refine lv_goto hx hb dX12_isWord_14 (tgt := 18) rfl ?_
    refine lv_istore_n hx hb dX12_isWord_18 rfl hl (by decide) rfl (fun ls hl => ?_)
    have hl : lv_has ls 4 [(2, .int (1)), (0, .ref (h0)), (1, .int (a))] := hl
    refine lv_iconst hx hb dX12_isWord_19 (v := 0) rfl ?_
    refine lv_istore_n hx hb dX12_isWord_20 rfl hl (by decide) rfl (fun ls hl => ?_)
    have hl : lv_has ls 4 [(3, .int (0)), (2, .int (1)), (0, .ref (h0)), (1, .int (a))] := hl
    refine w_loop (nL := 4) (lst := fun q : Int32 × Nat => [(3, .int (nI q.2)), (2, .int q.1), (0, .ref h0), (1, .int a)]) (μ := fun q => N - q.2) (I := fun q => q.2 ≤ N ∧ (q.1 = 0 ∨ q.1 = 1)) ?_ (1, 0) ls ⟨Nat.zero_le _, by first | exact Or.inl rfl | exact Or.inr rfl⟩ hl
    intro q ls hI hl ih
    obtain ⟨x2, j⟩ := q
    obtain ⟨hI1, hI2⟩ := hI
    dsimp only at hI1 hI2
    have hl : lv_has ls 4 [(3, .int (nI j)), (2, .int (x2)), (0, .ref (h0)), (1, .int (a))] := hl
    refine lv_iload_n hx hb dX12_isWord_21 rfl (lv_at hl 0 rfl) ?_
    refine lv_aload_n hx hb dX12_isWord_22 rfl (lv_at hl 2 rfl) ?_
    refine va_get (D := D) (ci := 12) (v := .int (u.1 18)) (C := RX12) (T := TX12) (N := 149) hx hb hts hin hown hK hP 0 mH_0 rfl 18 (by decide) L_wordSize (fun _ h9 => h9) mF_18 dX12_isWord_23 ?_
    refine lv_icmp_ge hx hb dX12_isWord_26 (tgt := 65) rfl (fun h8 => ?_) (fun h8 => ?_)
    · refine lv_iload_n hx hb dX12_isWord_65 rfl (lv_at hl 1 rfl) ?_
      exact W.zret (v := x2) hx hb hr (by rcases hI2 with h | h <;> rw [h] <;> rfl) (fun t ht hW => ⟨⟨x2, u, rfl, ⟨rfl, hI2⟩, by rw [ht]; exact hP, va_K.moved hW.alike hK, hD⟩, hS.F ht⟩) hS.2.2 dX12_isWord_66
    · have hj : j < N := by
        rcases Nat.lt_or_ge j N with h | h
        · exact h
        · exact absurd (by rw [hwN]; exact nI_le h (by omega)) h8
      refine lv_iload_n hx hb dX12_isWord_29 rfl (lv_at hl 1 rfl) ?_
      refine lv_if_eq hx hb dX12_isWord_30 (tgt := 65) rfl (fun h9 => ?_) (fun h9 => ?_)
      · refine lv_iload_n hx hb dX12_isWord_65 rfl (lv_at hl 1 rfl) ?_
        exact W.zret (v := x2) hx hb hr (by rcases hI2 with h | h <;> rw [h] <;> rfl) (fun t ht hW => ⟨⟨x2, u, rfl, ⟨rfl, hI2⟩, by rw [ht]; exact hP, va_K.moved hW.alike hK, hD⟩, hS.F ht⟩) hS.2.2 dX12_isWord_66
      · refine lv_aload_n hx hb dX12_isWord_33 rfl (lv_at hl 2 rfl) ?_
        refine va_get (D := D) (ci := 12) (v := .ref (ad 9)) (C := RX12) (T := TX12) (N := 149) hx hb hts hin hown hK hP 0 mH_0 rfl 9 (by decide) L_names (fun _ h9 => h9) mF_9 dX12_isWord_34 ?_
        refine lv_bipush hx hb dX12_isWord_37 (v := 12) rfl ?_
        refine lv_iload_n hx hb dX12_isWord_39 rfl (lv_at hl 3 rfl) ?_
        refine lv_imul hx hb dX12_isWord_40 ?_
        refine lv_iload_n hx hb dX12_isWord_41 rfl (lv_at hl 0 rfl) ?_
        refine lv_iadd hx hb dX12_isWord_42 ?_
        refine va_iald hx hb hK hP 8 7 mG_9 rfl (by rw [haS, show (12 : Int32) = nI 12 from rfl, pk_mul, nI_add]; exact vp_in_nI (by omega) (by decide)) dX12_isWord_43 ?_
        refine lv_topi (fun v10 ev10 => ?_)
        have ev10 : v10 = (u.2.1 9) ((12 * a) + (nI j)).toNatClampNeg := ev10
        refine lv_aload_n hx hb dX12_isWord_44 rfl (lv_at hl 2 rfl) ?_
        refine va_get (D := D) (ci := 12) (v := .ref (ad 17)) (C := RX12) (T := TX12) (N := 149) hx hb hts hin hown hK hP 0 mH_0 rfl 17 (by decide) L_word (fun _ h9 => h9) mF_17 dX12_isWord_45 ?_
        refine lv_iload_n hx hb dX12_isWord_48 rfl (lv_at hl 0 rfl) ?_
        refine va_iald hx hb hK hP 13 12 mG_17 rfl (vp_in_nI (by omega) (by decide)) dX12_isWord_49 ?_
        refine lv_topi (fun v11 ev11 => ?_)
        have ev11 : v11 = (u.2.1 17) (nI j).toNatClampNeg := ev11
        refine lv_icmp_ne hx hb dX12_isWord_50 (tgt := 57) rfl (fun h12 => ?_) (fun h12 => ?_)
        · refine lv_iconst hx hb dX12_isWord_57 (v := 0) rfl ?_
          refine lv_istore_n hx hb dX12_isWord_58 rfl hl (by decide) rfl (fun ls hl => ?_)
          have hl : lv_has ls 4 [(2, .int (0)), (3, .int (nI j)), (0, .ref (h0)), (1, .int (a))] := hl
          refine lv_iinc (v := nI j + 1) hx hb dX12_isWord_59 hl (k := 1) rfl rfl (by decide) rfl (fun ls hl => ?_)
          have hl : lv_has ls 4 [(3, .int (nI j + 1)), (2, .int (0)), (0, .ref (h0)), (1, .int (a))] := hl
          refine lv_goto hx hb dX12_isWord_62 (tgt := 21) rfl ?_
          exact ih (0, j + 1) ls ⟨by show j + 1 ≤ N; omega, by first | exact Or.inl rfl | exact Or.inr rfl⟩ (by show N - (j + 1) < N - j; omega) (by rw [nI_1] at hl; exact hl)
        · refine lv_iconst hx hb dX12_isWord_53 (v := 1) rfl ?_
          refine lv_goto hx hb dX12_isWord_54 (tgt := 58) rfl ?_
          refine lv_istore_n hx hb dX12_isWord_58 rfl hl (by decide) rfl (fun ls hl => ?_)
          have hl : lv_has ls 4 [(2, .int (1)), (3, .int (nI j)), (0, .ref (h0)), (1, .int (a))] := hl
          refine lv_iinc (v := nI j + 1) hx hb dX12_isWord_59 hl (k := 1) rfl rfl (by decide) rfl (fun ls hl => ?_)
          have hl : lv_has ls 4 [(3, .int (nI j + 1)), (2, .int (1)), (0, .ref (h0)), (1, .int (a))] := hl
          refine lv_goto hx hb dX12_isWord_62 (tgt := 21) rfl ?_
          exact ih (1, j + 1) ls ⟨by show j + 1 ≤ N; omega, by first | exact Or.inl rfl | exact Or.inr rfl⟩ (by show N - (j + 1) < N - j; omega) (by rw [nI_1] at hl; exact hl)
