def wsX12_bad : List Cond := .code yX12_bad cX12_bad 3 none :: ([.fieldLink RX12 377 "ProofHouseModel" "readFault" "I", .fieldLink RX12 59 "ProofHouseModel" "readPlace" "I"] ++ wsX120)
def wsX12_allRulesIn : List Cond := .code yX12_allRulesIn cX12_allRulesIn 2 none :: ([.fieldLink RX12 127 "ProofHouseModel" "ruleOut" "[Z"] ++ wsX120)
def wsX12_end : List Cond := .code yX12_end cX12_end 3 (some .int) :: ([.fieldLink RX12 374 "ProofHouseModel" "textSize" "I", .fieldLink RX12 44 "ProofHouseModel" "text" "[I", .fieldLink RX12 41 "ProofHouseModel" "waiting" "[I"] ++ wsX120)
theorem dX12_bad_0 : decode cX12_bad 0 = .ok (.aload_n 0, 1) := by decide +kernel
theorem dX12_bad_1 : decode cX12_bad 1 = .ok (.getfield 377, 3) := by decide +kernel
theorem dX12_bad_4 : decode cX12_bad 4 = .ok (.ifCond .eq 4, 3) := by decide +kernel
theorem dX12_bad_7 : decode cX12_bad 7 = .ok (.return_, 1) := by decide +kernel
theorem dX12_bad_8 : decode cX12_bad 8 = .ok (.aload_n 0, 1) := by decide +kernel
theorem dX12_bad_9 : decode cX12_bad 9 = .ok (.iload_n 1, 1) := by decide +kernel
theorem dX12_bad_10 : decode cX12_bad 10 = .ok (.putfield 377, 3) := by decide +kernel
theorem dX12_bad_13 : decode cX12_bad 13 = .ok (.aload_n 0, 1) := by decide +kernel
theorem dX12_bad_14 : decode cX12_bad 14 = .ok (.iload_n 2, 1) := by decide +kernel
theorem dX12_bad_15 : decode cX12_bad 15 = .ok (.putfield 59, 3) := by decide +kernel
theorem dX12_bad_18 : decode cX12_bad 18 = .ok (.return_, 1) := by decide +kernel
theorem dX12_allRulesIn_0 : decode cX12_allRulesIn 0 = .ok (.iconst 0, 1) := by decide +kernel
theorem dX12_allRulesIn_1 : decode cX12_allRulesIn 1 = .ok (.istore_n 1, 1) := by decide +kernel
theorem dX12_allRulesIn_2 : decode cX12_allRulesIn 2 = .ok (.iload_n 1, 1) := by decide +kernel
theorem dX12_allRulesIn_3 : decode cX12_allRulesIn 3 = .ok (.bipush 60, 2) := by decide +kernel
theorem dX12_allRulesIn_5 : decode cX12_allRulesIn 5 = .ok (.if_icmp .ge 16, 3) := by decide +kernel
theorem dX12_allRulesIn_8 : decode cX12_allRulesIn 8 = .ok (.aload_n 0, 1) := by decide +kernel
theorem dX12_allRulesIn_9 : decode cX12_allRulesIn 9 = .ok (.getfield 127, 3) := by decide +kernel
theorem dX12_allRulesIn_12 : decode cX12_allRulesIn 12 = .ok (.iload_n 1, 1) := by decide +kernel
theorem dX12_allRulesIn_13 : decode cX12_allRulesIn 13 = .ok (.iconst 0, 1) := by decide +kernel
theorem dX12_allRulesIn_14 : decode cX12_allRulesIn 14 = .ok (.bastore, 1) := by decide +kernel
theorem dX12_allRulesIn_15 : decode cX12_allRulesIn 15 = .ok (.iinc 1 1, 3) := by decide +kernel
theorem dX12_allRulesIn_18 : decode cX12_allRulesIn 18 = .ok (.goto (-16), 3) := by decide +kernel
theorem dX12_allRulesIn_21 : decode cX12_allRulesIn 21 = .ok (.return_, 1) := by decide +kernel
theorem dX12_end_0 : decode cX12_end 0 = .ok (.iload_n 1, 1) := by decide +kernel
theorem dX12_end_1 : decode cX12_end 1 = .ok (.ifCond .lt 21, 3) := by decide +kernel
theorem dX12_end_4 : decode cX12_end 4 = .ok (.iload_n 1, 1) := by decide +kernel
theorem dX12_end_5 : decode cX12_end 5 = .ok (.bipush 20, 2) := by decide +kernel
theorem dX12_end_7 : decode cX12_end 7 = .ok (.if_icmp .gt 15, 3) := by decide +kernel
theorem dX12_end_10 : decode cX12_end 10 = .ok (.aload_n 0, 1) := by decide +kernel
theorem dX12_end_11 : decode cX12_end 11 = .ok (.getfield 374, 3) := by decide +kernel
theorem dX12_end_14 : decode cX12_end 14 = .ok (.iload_n 1, 1) := by decide +kernel
theorem dX12_end_15 : decode cX12_end 15 = .ok (.iadd, 1) := by decide +kernel
theorem dX12_end_16 : decode cX12_end 16 = .ok (.sipush 3000, 3) := by decide +kernel
theorem dX12_end_19 : decode cX12_end 19 = .ok (.if_icmp .le 5, 3) := by decide +kernel
theorem dX12_end_22 : decode cX12_end 22 = .ok (.iconst (-1), 1) := by decide +kernel
theorem dX12_end_23 : decode cX12_end 23 = .ok (.ireturn, 1) := by decide +kernel
theorem dX12_end_24 : decode cX12_end 24 = .ok (.iconst 0, 1) := by decide +kernel
theorem dX12_end_25 : decode cX12_end 25 = .ok (.istore_n 2, 1) := by decide +kernel
theorem dX12_end_26 : decode cX12_end 26 = .ok (.iload_n 2, 1) := by decide +kernel
theorem dX12_end_27 : decode cX12_end 27 = .ok (.iload_n 1, 1) := by decide +kernel
theorem dX12_end_28 : decode cX12_end 28 = .ok (.if_icmp .ge 26, 3) := by decide +kernel
theorem dX12_end_31 : decode cX12_end 31 = .ok (.aload_n 0, 1) := by decide +kernel
theorem dX12_end_32 : decode cX12_end 32 = .ok (.getfield 44, 3) := by decide +kernel
theorem dX12_end_35 : decode cX12_end 35 = .ok (.aload_n 0, 1) := by decide +kernel
theorem dX12_end_36 : decode cX12_end 36 = .ok (.getfield 374, 3) := by decide +kernel
theorem dX12_end_39 : decode cX12_end 39 = .ok (.iload_n 2, 1) := by decide +kernel
theorem dX12_end_40 : decode cX12_end 40 = .ok (.iadd, 1) := by decide +kernel
theorem dX12_end_41 : decode cX12_end 41 = .ok (.aload_n 0, 1) := by decide +kernel
theorem dX12_end_42 : decode cX12_end 42 = .ok (.getfield 41, 3) := by decide +kernel
theorem dX12_end_45 : decode cX12_end 45 = .ok (.iload_n 2, 1) := by decide +kernel
theorem dX12_end_46 : decode cX12_end 46 = .ok (.iaload, 1) := by decide +kernel
theorem dX12_end_47 : decode cX12_end 47 = .ok (.iastore, 1) := by decide +kernel
theorem dX12_end_48 : decode cX12_end 48 = .ok (.iinc 2 1, 3) := by decide +kernel
theorem dX12_end_51 : decode cX12_end 51 = .ok (.goto (-25), 3) := by decide +kernel
theorem dX12_end_54 : decode cX12_end 54 = .ok (.aload_n 0, 1) := by decide +kernel
theorem dX12_end_55 : decode cX12_end 55 = .ok (.dup, 1) := by decide +kernel
theorem dX12_end_56 : decode cX12_end 56 = .ok (.getfield 374, 3) := by decide +kernel
theorem dX12_end_59 : decode cX12_end 59 = .ok (.iload_n 1, 1) := by decide +kernel
theorem dX12_end_60 : decode cX12_end 60 = .ok (.iadd, 1) := by decide +kernel
theorem dX12_end_61 : decode cX12_end 61 = .ok (.putfield 374, 3) := by decide +kernel
theorem dX12_end_64 : decode cX12_end 64 = .ok (.iconst 0, 1) := by decide +kernel
theorem dX12_end_65 : decode cX12_end 65 = .ok (.istore_n 2, 1) := by decide +kernel
theorem dX12_end_66 : decode cX12_end 66 = .ok (.iload_n 2, 1) := by decide +kernel
theorem dX12_end_67 : decode cX12_end 67 = .ok (.bipush 20, 2) := by decide +kernel
theorem dX12_end_69 : decode cX12_end 69 = .ok (.if_icmp .ge 16, 3) := by decide +kernel
theorem dX12_end_72 : decode cX12_end 72 = .ok (.aload_n 0, 1) := by decide +kernel
theorem dX12_end_73 : decode cX12_end 73 = .ok (.getfield 41, 3) := by decide +kernel
theorem dX12_end_76 : decode cX12_end 76 = .ok (.iload_n 2, 1) := by decide +kernel
theorem dX12_end_77 : decode cX12_end 77 = .ok (.iconst 0, 1) := by decide +kernel
theorem dX12_end_78 : decode cX12_end 78 = .ok (.iastore, 1) := by decide +kernel
theorem dX12_end_79 : decode cX12_end 79 = .ok (.iinc 2 1, 3) := by decide +kernel
theorem dX12_end_82 : decode cX12_end 82 = .ok (.goto (-16), 3) := by decide +kernel
theorem dX12_end_85 : decode cX12_end 85 = .ok (.aload_n 0, 1) := by decide +kernel
theorem dX12_end_86 : decode cX12_end 86 = .ok (.getfield 374, 3) := by decide +kernel
theorem dX12_end_89 : decode cX12_end 89 = .ok (.ireturn, 1) := by decide +kernel

set_option maxHeartbeats 4000000 in
set_option maxRecDepth 100000 in
/-- allRulesIn() -/
theorem c_m_allRulesIn (l : Launch) (D : va_G) (ca : Nat → ClassId) (h0 sz : Nat) (ad : Nat → Nat) (u : mST)    : Met l yX12_allRulesIn wsX12_allRulesIn pR_0 (va_Pc [.ref (h0)] (fun U => U.heap.size = sz ∧ mWd D ca (fun _ => True) h0 ad u U)) (va_Qv (fun v : mST => v.1 = u.1 ∧ (∀ h : Nat, h < 60 → v.2.1 53 h = 0) ∧ (∀ g : Nat, g ≠ 53 → v.2.1 g = u.2.1 g) ∧ v.2.2 = u.2.2) (mWd D ca (va_A (mCl ca h0 ad u) sz) h0 ad) (va_A (mCl ca h0 ad u) sz)) 0 0 (va_A (mCl ca h0 ad u) sz) := by
  refine Met.ofW (cc := cX12_allRulesIn) (maxL := 2) (ret := none) (by decide) rfl ?_
  intro p e s m args below meth c s₁ B hml hv
  obtain ⟨rfl, hsz, hP, hK, hD0⟩ := hv
  have hx := B.exec
  have hb := B.bytes
  have hr := B.returns
  have hts := atoms_spec (ws := wsX12_allRulesIn) B.pre
  have hown : s.vm.findClass RX12 = some m.cls := findClass_of_methodNamed B.named
  have hlocks := B.notSynchronized
  subst hsz
  have hD := hD0.self (sz := s.heap.size)
  generalize hAe : va_A (mCl ca h0 ad u) s.heap.size = A at hD ⊢
  have hA : ∀ q : Nat, s.heap.size ≤ q → A q := fun q h => by rw [← hAe]; exact Or.inr h
  have hS : va_S A s.heap s.heap [] := va_S.rf
  have L_ruleOut := hts (.fieldLink RX12 127 "ProofHouseModel" "ruleOut" "[Z") (by decide +kernel)
  have hin : ∀ w ∈ wsX120, w ∈ wsX12_allRulesIn := fun w h => List.mem_cons_of_mem _ (List.mem_append_right _ h)
  have hl := lv_entry ([.ref (h0)]) (n := 2) (Nat.le_of_ble_eq_true rfl)
  rw [lg_entry_eq]
  generalize (lg_sl ([.ref (h0)]) ++ List.replicate (2 - (lg_sl ([.ref (h0)])).length) Slot.unset).toArray = ls at hl ⊢
  have hl : lv_has ls 2 [(0, .ref (h0))] := hl
  refine lv_iconst hx hb dX12_allRulesIn_0 (v := 0) rfl ?_
  refine lv_istore_n hx hb dX12_allRulesIn_1 rfl hl (by decide) rfl (fun ls hl => ?_)
  have hl : lv_has ls 2 [(1, .int (0)), (0, .ref (h0))] := hl
  refine w_loopS (nL := 2) (sta := fun q : mST × Nat => q.1) (lst := fun q : mST × Nat => [(1, .int (nI q.2)), (0, .ref h0)]) (μ := fun q => 60 - q.2) (I := fun q => q.2 ≤ 60 ∧ q.1.1 = u.1 ∧ (∀ h : Nat, h < q.2 → q.1.2.1 53 h = 0) ∧ (∀ g : Nat, g ≠ 53 → q.1.2.1 g = u.2.1 g) ∧ q.1.2.2 = u.2.2) ?_ (u, 0) ls ⟨Nat.zero_le _, rfl, fun h hh => absurd hh (Nat.not_lt_zero _), fun _ _ => rfl, rfl⟩ hP hD hS hl
  clear hP hD hS hl
  intro q H locs ls hI hP hD hS hl ih
  obtain ⟨w, j⟩ := q
  obtain ⟨hI1, hI2, hI3, hI4, hI5⟩ := hI
  dsimp only at hI1 hI2 hI3 hI4 hI5 hP hD
  have hl : lv_has ls 2 [(1, .int (nI j)), (0, .ref (h0))] := hl
  refine lv_iload_n hx hb dX12_allRulesIn_2 rfl (lv_at hl 0 rfl) ?_
  refine lv_bipush hx hb dX12_allRulesIn_3 (v := 60) rfl ?_
  refine lv_icmp_ge hx hb dX12_allRulesIn_5 (tgt := 21) rfl (fun h1 => ?_) (fun h1 => ?_)
  · have hj : j = 60 := by
      rcases Nat.lt_or_ge j 60 with h | h
      · exact absurd h1 (nI_ge h (by decide))
      · omega
    subst hj
    exact W.vret hx hb hr (fun t ht hW => ⟨⟨w, rfl, ⟨hI2, hI3, hI4, hI5⟩, by rw [ht]; exact hP, va_K.moved hW.alike hK, hD⟩, hS.F ht⟩) hS.2.2 dX12_allRulesIn_21
  · have hj : j < 60 := by
      rcases Nat.lt_or_ge j 60 with h | h
      · exact h
      · exact absurd (nI_le h (by omega)) h1
    refine lv_aload_n hx hb dX12_allRulesIn_8 rfl (lv_at hl 1 rfl) ?_
    refine va_get (D := D) (ci := 12) (v := .ref (ad 53)) (C := RX12) (T := TX12) (N := 149) hx hb hts hin hown hK hP 0 mH_0 rfl 53 (by decide) L_ruleOut (fun _ h9 => h9) mF_53 dX12_allRulesIn_9 ?_
    refine lv_iload_n hx hb dX12_allRulesIn_12 rfl (lv_at hl 0 rfl) ?_
    refine lv_iconst hx hb dX12_allRulesIn_13 (v := 0) rfl ?_
    refine va_zast hx hb hK hP hD hS 37 36 mG_53 rfl (vp_in_nI hj (by decide)) dX12_allRulesIn_14 (fun H locs hP hD hS => ?_)
    rw [mSA_53] at hP hD
    refine lv_iinc (v := nI j + 1) hx hb dX12_allRulesIn_15 hl (k := 0) rfl rfl (by decide) rfl (fun ls hl => ?_)
    have hl : lv_has ls 2 [(1, .int (nI j + 1)), (0, .ref (h0))] := hl
    refine lv_goto hx hb dX12_allRulesIn_18 (tgt := 2) rfl ?_
    refine ih (mA w 53 (nI j).toNatClampNeg (vp_nar .boolean (0)), j + 1) H locs ls ⟨by show j + 1 ≤ 60; omega, hI2, ?_, fun g h1 => (mA_n w _ _ h1).trans (hI4 g h1), hI5⟩ (by show 60 - (j + 1) < 60 - j; omega) hP hD hS (by rw [nI_1] at hl; exact hl)
    intro h hh
    show (mA w 53 (nI j).toNatClampNeg (vp_nar .boolean 0)).2.1 53 h = 0
    rw [mA_s, nI_clamp (by omega)]
    by_cases e : h = j
    · rw [e, pk_us]; rfl
    · rw [pk_un e]; exact hI3 h (by have : h < j + 1 := hh; omega)

set_option maxHeartbeats 4000000 in
set_option maxRecDepth 100000 in
/-- bad(fault, where) -/
theorem c_m_bad (l : Launch) (D : va_G) (ca : Nat → ClassId) (h0 sz : Nat) (ad : Nat → Nat) (u : mST) (a : Int32) (b : Int32)   : Met l yX12_bad wsX12_bad pR_0 (va_Pc [.ref (h0), .int (a), .int (b)] (fun U => U.heap.size = sz ∧ mWd D ca (fun _ => True) h0 ad u U)) (va_Qv (fun v : mST => v = if u.1 24 = 0 then mI (mI u 24 a) 25 b else u) (mWd D ca (va_A (mCl ca h0 ad u) sz) h0 ad) (va_A (mCl ca h0 ad u) sz)) 0 0 (va_A (mCl ca h0 ad u) sz) := by
  refine Met.ofW (cc := cX12_bad) (maxL := 3) (ret := none) (by decide) rfl ?_
  intro p e s m args below meth c s₁ B hml hv
  obtain ⟨rfl, hsz, hP, hK, hD0⟩ := hv
  have hx := B.exec
  have hb := B.bytes
  have hr := B.returns
  have hts := atoms_spec (ws := wsX12_bad) B.pre
  have hown : s.vm.findClass RX12 = some m.cls := findClass_of_methodNamed B.named
  have hlocks := B.notSynchronized
  subst hsz
  have hD := hD0.self (sz := s.heap.size)
  generalize hAe : va_A (mCl ca h0 ad u) s.heap.size = A at hD ⊢
  have hA : ∀ q : Nat, s.heap.size ≤ q → A q := fun q h => by rw [← hAe]; exact Or.inr h
  have hS : va_S A s.heap s.heap [] := va_S.rf
  have L_readFault := hts (.fieldLink RX12 377 "ProofHouseModel" "readFault" "I") (by decide +kernel)
  have L_readPlace := hts (.fieldLink RX12 59 "ProofHouseModel" "readPlace" "I") (by decide +kernel)
  have hin : ∀ w ∈ wsX120, w ∈ wsX12_bad := fun w h => List.mem_cons_of_mem _ (List.mem_append_right _ h)
  have hl := lv_entry ([.ref (h0), .int (a), .int (b)]) (n := 3) (Nat.le_of_ble_eq_true rfl)
  rw [lg_entry_eq]
  generalize (lg_sl ([.ref (h0), .int (a), .int (b)]) ++ List.replicate (3 - (lg_sl ([.ref (h0), .int (a), .int (b)])).length) Slot.unset).toArray = ls at hl ⊢
  have hl : lv_has ls 3 [(0, .ref (h0)), (1, .int (a)), (2, .int (b))] := hl
  refine lv_aload_n hx hb dX12_bad_0 rfl (lv_at hl 0 rfl) ?_
  refine va_get (D := D) (ci := 12) (v := .int (u.1 24)) (C := RX12) (T := TX12) (N := 149) hx hb hts hin hown hK hP 0 mH_0 rfl 24 (by decide) L_readFault (fun _ h9 => h9) mF_24 dX12_bad_1 ?_
  refine lv_if_eq hx hb dX12_bad_4 (tgt := 8) rfl (fun h1 => ?_) (fun h1 => ?_)
  · refine lv_aload_n hx hb dX12_bad_8 rfl (lv_at hl 0 rfl) ?_
    refine lv_iload_n hx hb dX12_bad_9 rfl (lv_at hl 1 rfl) ?_
    refine va_put (D := D) (ci := 12) (v := .int (a)) (ty := .int) (C := RX12) (T := TX12) (N := 149) hx hb hts hin tyX12 tyX12_ok nmX12 hown hK hP hD hS 0 mH_0 rfl 24 (by decide) L_readFault (fun _ h9 => h9) rfl (tyX12_ok 24 (by decide)) rfl rfl (Nat.le_of_ble_eq_true rfl) dX12_bad_10 (fun H locs hP hD hS => ?_)
    rw [mSI_24] at hP hD
    refine lv_aload_n hx hb dX12_bad_13 rfl (lv_at hl 0 rfl) ?_
    refine lv_iload_n hx hb dX12_bad_14 rfl (lv_at hl 2 rfl) ?_
    refine va_put (D := D) (ci := 12) (v := .int (b)) (ty := .int) (C := RX12) (T := TX12) (N := 149) hx hb hts hin tyX12 tyX12_ok nmX12 hown hK hP hD hS 0 mH_0 rfl 25 (by decide) L_readPlace (fun _ h9 => h9) rfl (tyX12_ok 25 (by decide)) rfl rfl (Nat.le_of_ble_eq_true rfl) dX12_bad_15 (fun H locs hP hD hS => ?_)
    rw [mSI_25] at hP hD
    exact W.vret hx hb hr (fun t ht hW => ⟨⟨mI (mI u 24 (a)) 25 (b), rfl, (if_pos h1).symm, by rw [ht]; exact hP, va_K.moved hW.alike hK, hD⟩, hS.F ht⟩) hS.2.2 dX12_bad_18
  · exact W.vret hx hb hr (fun t ht hW => ⟨⟨u, rfl, (if_neg h1).symm, by rw [ht]; exact hP, va_K.moved hW.alike hK, hD⟩, hS.F ht⟩) hS.2.2 dX12_bad_7

/-- what end(K) makes of T characters -/
def mEnd (T K : Nat) (u v : mST) : Prop := v.1 = va_up u.1 14 (nI (T + K)) ∧ v.2.2 = u.2.2 ∧ (∀ g : Nat, g ≠ 13 → g ≠ 12 → v.2.1 g = u.2.1 g) ∧ (∀ i : Nat, v.2.1 13 i = if T ≤ i ∧ i < T + K then u.2.1 12 (i - T) else u.2.1 13 i) ∧ (∀ i : Nat, i < 20 → v.2.1 12 i = 0)

set_option maxHeartbeats 4000000 in
set_option maxRecDepth 100000 in
/-- end(n) -/
theorem c_m_end (l : Launch) (D : va_G) (ca : Nat → ClassId) (h0 sz : Nat) (ad : Nat → Nat) (u : mST) (a : Int32) (T : Nat) (hT : u.1 14 = nI T) (hT9 : T ≤ 3000) : Met l yX12_end wsX12_end pR_0 (va_Pc [.ref (h0), .int (a)] (fun U => U.heap.size = sz ∧ mWd D ca (fun _ => True) h0 ad u U)) (va_Qi (fun (r : Int32) (v : mST) => ((a < 0 ∨ 20 < a ∨ 3000 < u.1 14 + a) ∧ r = -1 ∧ v = u) ∨ ∃ K : Nat, a = nI K ∧ K ≤ 20 ∧ T + K ≤ 3000 ∧ r = nI (T + K) ∧ mEnd T K u v) (mWd D ca (va_A (mCl ca h0 ad u) sz) h0 ad) (va_A (mCl ca h0 ad u) sz)) 0 0 (va_A (mCl ca h0 ad u) sz) := by
  refine Met.ofW (cc := cX12_end) (maxL := 3) (ret := (some .int)) (by decide) rfl ?_
  intro p e s m args below meth c s₁ B hml hv
  obtain ⟨rfl, hsz, hP, hK, hD0⟩ := hv
  have hx := B.exec
  have hb := B.bytes
  have hr := B.returns
  have hts := atoms_spec (ws := wsX12_end) B.pre
  have hown : s.vm.findClass RX12 = some m.cls := findClass_of_methodNamed B.named
  have hlocks := B.notSynchronized
  subst hsz
  have hD := hD0.self (sz := s.heap.size)
  generalize hAe : va_A (mCl ca h0 ad u) s.heap.size = A at hD ⊢
  have hA : ∀ q : Nat, s.heap.size ≤ q → A q := fun q h => by rw [← hAe]; exact Or.inr h
  have hS : va_S A s.heap s.heap [] := va_S.rf
  have L_textSize := hts (.fieldLink RX12 374 "ProofHouseModel" "textSize" "I") (by decide +kernel)
  have L_text := hts (.fieldLink RX12 44 "ProofHouseModel" "text" "[I") (by decide +kernel)
  have L_waiting := hts (.fieldLink RX12 41 "ProofHouseModel" "waiting" "[I") (by decide +kernel)
  have hin : ∀ w ∈ wsX120, w ∈ wsX12_end := fun w h => List.mem_cons_of_mem _ (List.mem_append_right _ h)
  have hl := lv_entry ([.ref (h0), .int (a)]) (n := 3) (Nat.le_of_ble_eq_true rfl)
  rw [lg_entry_eq]
  generalize (lg_sl ([.ref (h0), .int (a)]) ++ List.replicate (3 - (lg_sl ([.ref (h0), .int (a)])).length) Slot.unset).toArray = ls at hl ⊢
  have hl : lv_has ls 3 [(0, .ref (h0)), (1, .int (a))] := hl
  refine lv_iload_n hx hb dX12_end_0 rfl (lv_at hl 1 rfl) ?_
  refine lv_if_lt hx hb dX12_end_1 (tgt := 22) rfl (fun h1 => ?_) (fun h1 => ?_)
  · refine lv_iconst hx hb dX12_end_22 (v := (-1)) rfl ?_
    exact W.iret (v := (-1)) hx hb hr (fun t ht hW => ⟨⟨(-1), u, rfl, (Or.inl ⟨by first | exact Or.inl h1 | exact Or.inr (Or.inl h2) | exact Or.inr (Or.inr (Int32.not_le.mp h3)), rfl, rfl⟩), by rw [ht]; exact hP, va_K.moved hW.alike hK, hD⟩, hS.F ht⟩) hS.2.2 dX12_end_23
  · refine lv_iload_n hx hb dX12_end_4 rfl (lv_at hl 1 rfl) ?_
    refine lv_bipush hx hb dX12_end_5 (v := 20) rfl ?_
    refine lv_icmp_gt hx hb dX12_end_7 (tgt := 22) rfl (fun h2 => ?_) (fun h2 => ?_)
    · refine lv_iconst hx hb dX12_end_22 (v := (-1)) rfl ?_
      exact W.iret (v := (-1)) hx hb hr (fun t ht hW => ⟨⟨(-1), u, rfl, (Or.inl ⟨by first | exact Or.inl h1 | exact Or.inr (Or.inl h2) | exact Or.inr (Or.inr (Int32.not_le.mp h3)), rfl, rfl⟩), by rw [ht]; exact hP, va_K.moved hW.alike hK, hD⟩, hS.F ht⟩) hS.2.2 dX12_end_23
    · refine lv_aload_n hx hb dX12_end_10 rfl (lv_at hl 0 rfl) ?_
      refine va_get (D := D) (ci := 12) (v := .int (u.1 14)) (C := RX12) (T := TX12) (N := 149) hx hb hts hin hown hK hP 0 mH_0 rfl 14 (by decide) L_textSize (fun _ h9 => h9) mF_14 dX12_end_11 ?_
      refine lv_iload_n hx hb dX12_end_14 rfl (lv_at hl 1 rfl) ?_
      refine lv_iadd hx hb dX12_end_15 ?_
      refine lv_sipush hx hb dX12_end_16 (v := 3000) rfl ?_
      refine lv_icmp_le hx hb dX12_end_19 (tgt := 24) rfl (fun h3 => ?_) (fun h3 => ?_)
      · refine lv_iconst hx hb dX12_end_24 (v := 0) rfl ?_
        refine lv_istore_n hx hb dX12_end_25 rfl hl (by decide) rfl (fun ls hl => ?_)
        have hl : lv_has ls 3 [(2, .int (0)), (0, .ref (h0)), (1, .int (a))] := hl
        obtain ⟨K, hK1, hK2⟩ : ∃ K : Nat, K ≤ 20 ∧ a = nI K := nI_of2 (M := 20) (n := 20) (by decide) h1 (Int32.not_lt.mp h2)
        subst hK2
        have hTK : T + K ≤ 3000 := by
          have h := h3
          rw [hT, nI_add] at h
          exact (nI_leI (by omega) (by decide : (3000 : Nat) < 2 ^ 31)).mp h
        refine w_loopS (nL := 3) (sta := fun q : mST × Nat => q.1) (lst := fun q : mST × Nat => [(2, .int (nI q.2)), (0, .ref h0), (1, .int (nI K))]) (μ := fun q => K - q.2) (I := fun q => q.2 ≤ K ∧ q.1.1 = u.1 ∧ q.1.2.2 = u.2.2 ∧ (∀ g : Nat, g ≠ 13 → q.1.2.1 g = u.2.1 g) ∧ (∀ i : Nat, q.1.2.1 13 i = if T ≤ i ∧ i < T + q.2 then u.2.1 12 (i - T) else u.2.1 13 i)) ?_ (u, 0) ls ⟨Nat.zero_le _, rfl, rfl, fun _ _ => rfl, fun i => (if_neg (by omega)).symm⟩ hP hD hS hl
        clear hP hD hS hl
        intro q H locs ls hI hP hD hS hl ih
        obtain ⟨w, j⟩ := q
        obtain ⟨hI1, hI2, hI3, hI4, hI5⟩ := hI
        dsimp only at hI1 hI2 hI3 hI4 hI5 hP hD
        have hT2 : w.1 14 = nI T := by rw [hI2]; exact hT
        have hl : lv_has ls 3 [(2, .int (nI j)), (0, .ref (h0)), (1, .int (nI K))] := hl
        refine lv_iload_n hx hb dX12_end_26 rfl (lv_at hl 0 rfl) ?_
        refine lv_iload_n hx hb dX12_end_27 rfl (lv_at hl 2 rfl) ?_
        refine lv_icmp_ge hx hb dX12_end_28 (tgt := 54) rfl (fun h4 => ?_) (fun h4 => ?_)
        · have hj : j = K := by
            rcases Nat.lt_or_ge j K with h | h
            · exact absurd h4 (nI_ge h (by omega))
            · omega
          subst hj
          have hl : lv_has ls 3 [(2, .int (nI j)), (0, .ref (h0)), (1, .int (nI j))] := hl
          refine lv_aload_n hx hb dX12_end_54 rfl (lv_at hl 1 rfl) ?_
          refine lv_dup hx hb dX12_end_55 rfl ?_
          refine va_get (D := D) (ci := 12) (v := .int (w.1 14)) (C := RX12) (T := TX12) (N := 149) hx hb hts hin hown hK hP 0 mH_0 rfl 14 (by decide) L_textSize (fun _ h9 => h9) mF_14 dX12_end_56 ?_
          refine lv_iload_n hx hb dX12_end_59 rfl (lv_at hl 2 rfl) ?_
          refine lv_iadd hx hb dX12_end_60 ?_
          refine va_put (D := D) (ci := 12) (v := .int ((w.1 14) + (nI j))) (ty := .int) (C := RX12) (T := TX12) (N := 149) hx hb hts hin tyX12 tyX12_ok nmX12 hown hK hP hD hS 0 mH_0 rfl 14 (by decide) L_textSize (fun _ h9 => h9) rfl (tyX12_ok 14 (by decide)) rfl rfl (Nat.le_of_ble_eq_true rfl) dX12_end_61 (fun H locs hP hD hS => ?_)
          rw [mSI_14] at hP hD
          refine lv_iconst hx hb dX12_end_64 (v := 0) rfl ?_
          refine lv_istore_n hx hb dX12_end_65 rfl hl (by decide) rfl (fun ls hl => ?_)
          have hl : lv_has ls 3 [(2, .int (0)), (0, .ref (h0)), (1, .int (nI j))] := hl
          refine w_loopS (nL := 3) (sta := fun q : mST × Nat => q.1) (lst := fun q : mST × Nat => [(2, .int (nI q.2)), (0, .ref h0), (1, .int (nI j))]) (μ := fun q => 20 - q.2) (I := fun q => q.2 ≤ 20 ∧ q.1.1 = (mI w 14 ((w.1 14) + (nI j))).1 ∧ q.1.2.2 = u.2.2 ∧ (∀ g : Nat, g ≠ 12 → q.1.2.1 g = w.2.1 g) ∧ (∀ i : Nat, i < q.2 → q.1.2.1 12 i = 0)) ?_ (mI w 14 ((w.1 14) + (nI j)), 0) ls ⟨Nat.zero_le _, rfl, hI3, fun _ _ => rfl, fun h hh => absurd hh (Nat.not_lt_zero _)⟩ hP hD hS hl
          clear hP hD hS hl ih
          intro q H locs ls hJ hP hD hS hl ih
          obtain ⟨x, i⟩ := q
          obtain ⟨hJ1, hJ2, hJ3, hJ4, hJ5⟩ := hJ
          dsimp only at hJ1 hJ2 hJ3 hJ4 hJ5 hP hD
          have hl : lv_has ls 3 [(2, .int (nI i)), (0, .ref (h0)), (1, .int (nI j))] := hl
          refine lv_iload_n hx hb dX12_end_66 rfl (lv_at hl 0 rfl) ?_
          refine lv_bipush hx hb dX12_end_67 (v := 20) rfl ?_
          refine lv_icmp_ge hx hb dX12_end_69 (tgt := 85) rfl (fun h5 => ?_) (fun h5 => ?_)
          · have hi : i = 20 := by
              rcases Nat.lt_or_ge i 20 with h | h
              · exact absurd h5 (nI_ge h (by decide))
              · omega
            subst hi
            have hx1 : x.1 = va_up u.1 14 (nI (T + j)) := by rw [hJ2]; show va_up w.1 14 (w.1 14 + nI j) = _; rw [hT2, nI_add, hI2]
            have hx2 : x.1 14 = nI (T + j) := by rw [hx1]; rfl
            refine lv_aload_n hx hb dX12_end_85 rfl (lv_at hl 1 rfl) ?_
            refine va_get (D := D) (ci := 12) (v := .int (x.1 14)) (C := RX12) (T := TX12) (N := 149) hx hb hts hin hown hK hP 0 mH_0 rfl 14 (by decide) L_textSize (fun _ h9 => h9) mF_14 dX12_end_86 ?_
            exact W.iret (v := x.1 14) hx hb hr (fun t ht hW => ⟨⟨x.1 14, x, rfl, (Or.inr ⟨j, rfl, hK1, hTK, hx2, hx1, hJ3, fun g h1 h2 => (hJ4 g h2).trans (hI4 g h1), fun i => (congrFun (hJ4 13 (by decide)) i).trans (hI5 i), hJ5⟩), by rw [ht]; exact hP, va_K.moved hW.alike hK, hD⟩, hS.F ht⟩) hS.2.2 dX12_end_89
          · have hi : i < 20 := by
              rcases Nat.lt_or_ge i 20 with h | h
              · exact h
              · exact absurd (nI_le h (by omega)) h5
            refine lv_aload_n hx hb dX12_end_72 rfl (lv_at hl 1 rfl) ?_
            refine va_get (D := D) (ci := 12) (v := .ref (ad 12)) (C := RX12) (T := TX12) (N := 149) hx hb hts hin hown hK hP 0 mH_0 rfl 12 (by decide) L_waiting (fun _ h9 => h9) mF_12 dX12_end_73 ?_
            refine lv_iload_n hx hb dX12_end_76 rfl (lv_at hl 0 rfl) ?_
            refine lv_iconst hx hb dX12_end_77 (v := 0) rfl ?_
            refine va_iast hx hb hK hP hD hS 10 9 mG_12 rfl (vp_in_nI hi (by decide)) dX12_end_78 (fun H locs hP hD hS => ?_)
            rw [mSA_12] at hP hD
            refine lv_iinc (v := nI i + 1) hx hb dX12_end_79 hl (k := 0) rfl rfl (by decide) rfl (fun ls hl => ?_)
            have hl : lv_has ls 3 [(2, .int (nI i + 1)), (0, .ref (h0)), (1, .int (nI j))] := hl
            refine lv_goto hx hb dX12_end_82 (tgt := 66) rfl ?_
            refine ih (mA x 12 (nI i).toNatClampNeg (0), i + 1) H locs ls ⟨by show i + 1 ≤ 20; omega, hJ2, hJ3, fun g h1 => (mA_n x _ _ h1).trans (hJ4 g h1), ?_⟩ (by show 20 - (i + 1) < 20 - i; omega) hP hD hS (by rw [nI_1] at hl; exact hl)
            intro h hh
            show (mA x 12 (nI i).toNatClampNeg (0)).2.1 12 h = 0
            rw [mA_s, nI_clamp (by omega)]
            by_cases e : h = i
            · rw [e, pk_us]
            · rw [pk_un e]; exact hJ5 h (by have : h < i + 1 := hh; omega)
        · have hj : j < K := by
            rcases Nat.lt_or_ge j K with h | h
            · exact h
            · exact absurd (nI_le h (by omega)) h4
          refine lv_aload_n hx hb dX12_end_31 rfl (lv_at hl 1 rfl) ?_
          refine va_get (D := D) (ci := 12) (v := .ref (ad 13)) (C := RX12) (T := TX12) (N := 149) hx hb hts hin hown hK hP 0 mH_0 rfl 13 (by decide) L_text (fun _ h9 => h9) mF_13 dX12_end_32 ?_
          refine lv_aload_n hx hb dX12_end_35 rfl (lv_at hl 1 rfl) ?_
          refine va_get (D := D) (ci := 12) (v := .int (w.1 14)) (C := RX12) (T := TX12) (N := 149) hx hb hts hin hown hK hP 0 mH_0 rfl 14 (by decide) L_textSize (fun _ h9 => h9) mF_14 dX12_end_36 ?_
          refine lv_iload_n hx hb dX12_end_39 rfl (lv_at hl 0 rfl) ?_
          refine lv_iadd hx hb dX12_end_40 ?_
          refine lv_aload_n hx hb dX12_end_41 rfl (lv_at hl 1 rfl) ?_
          refine va_get (D := D) (ci := 12) (v := .ref (ad 12)) (C := RX12) (T := TX12) (N := 149) hx hb hts hin hown hK hP 0 mH_0 rfl 12 (by decide) L_waiting (fun _ h9 => h9) mF_12 dX12_end_42 ?_
          refine lv_iload_n hx hb dX12_end_45 rfl (lv_at hl 0 rfl) ?_
          refine va_iald hx hb hK hP 10 9 mG_12 rfl (vp_in_nI (by omega) (by decide)) dX12_end_46 ?_
          refine lv_topi (fun v6 ev6 => ?_)
          have ev6 : v6 = (w.2.1 12) (nI j).toNatClampNeg := ev6
          refine va_iast hx hb hK hP hD hS 11 10 mG_13 rfl (by rw [hT2, nI_add]; exact vp_in_nI (by omega) (by decide)) dX12_end_47 (fun H locs hP hD hS => ?_)
          rw [mSA_13] at hP hD
          refine lv_iinc (v := nI j + 1) hx hb dX12_end_48 hl (k := 0) rfl rfl (by decide) rfl (fun ls hl => ?_)
          have hl : lv_has ls 3 [(2, .int (nI j + 1)), (0, .ref (h0)), (1, .int (nI K))] := hl
          refine lv_goto hx hb dX12_end_51 (tgt := 26) rfl ?_
          refine ih (mA w 13 ((w.1 14) + (nI j)).toNatClampNeg (v6), j + 1) H locs ls ⟨by show j + 1 ≤ K; omega, hI2, hI3, fun g h1 => (mA_n w _ _ h1).trans (hI4 g h1), ?_⟩ (by show K - (j + 1) < K - j; omega) hP hD hS (by rw [nI_1] at hl; exact hl)
          intro i
          show (mA w 13 ((w.1 14) + (nI j)).toNatClampNeg (v6)).2.1 13 i = if T ≤ i ∧ i < T + (j + 1) then u.2.1 12 (i - T) else u.2.1 13 i
          rw [mA_s, hT2, nI_add, nI_clamp (by omega)]
          by_cases e : i = T + j
          · rw [e, pk_us, if_pos (by omega), ev6, nI_clamp (by omega), hI4 12 (by decide), Nat.add_sub_cancel_left]
          · rw [pk_un e, hI5 i]
            by_cases h : T ≤ i ∧ i < T + j
            · rw [if_pos h, if_pos (by omega)]
            · rw [if_neg h, if_neg (by omega)]
      · refine lv_iconst hx hb dX12_end_22 (v := (-1)) rfl ?_
        exact W.iret (v := (-1)) hx hb hr (fun t ht hW => ⟨⟨(-1), u, rfl, (Or.inl ⟨by first | exact Or.inl h1 | exact Or.inr (Or.inl h2) | exact Or.inr (Or.inr (Int32.not_le.mp h3)), rfl, rfl⟩), by rw [ht]; exact hP, va_K.moved hW.alike hK, hD⟩, hS.F ht⟩) hS.2.2 dX12_end_23
