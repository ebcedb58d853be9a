def wsX12_fuel : List Cond := .code yX12_fuel cX12_fuel 3 (some .int) :: ([.fieldLink RX12 139 "ProofHouseModel" "fuel" "I"] ++ wsX120)
def wsX12_fault : List Cond := .code yX12_fault cX12_fault 2 (some .int) :: ([.fieldLink RX12 377 "ProofHouseModel" "readFault" "I", .fieldLink RX12 59 "ProofHouseModel" "readPlace" "I", .fieldLink RX12 480 "ProofHouseModel" "work" "I"] ++ wsX120)
def wsX12_steps : List Cond := .code yX12_steps cX12_steps 1 (some .int) :: ([.fieldLink RX12 561 "ProofHouseModel" "steps" "I"] ++ wsX120)
def wsX12_size : List Cond := .code yX12_size cX12_size 1 (some .int) :: ([.fieldLink RX12 441 "ProofHouseModel" "outSize" "I"] ++ wsX120)
def wsX12_letter : List Cond := .code yX12_letter cX12_letter 2 (some .int) :: ([.fieldLink RX12 441 "ProofHouseModel" "outSize" "I", .fieldLink RX12 47 "ProofHouseModel" "out" "[I"] ++ wsX120)
def wsX12_taken : List Cond := .code yX12_taken cX12_taken 2 (some .int) :: ([.fieldLink RX12 845 "ProofHouseModel" "taken" "I", .fieldLink RX12 130 "ProofHouseModel" "takenSort" "[I"] ++ wsX120)
def wsX12_recheck : List Cond := .code yX12_recheck cX12_recheck 1 (some .boolean) :: ([.fieldLink RX12 779 "ProofHouseModel" "proved" "Z"] ++ wsX120)
theorem dX12_fuel_0 : decode cX12_fuel 0 = .ok (.iload_n 1, 1) := by decide +kernel
theorem dX12_fuel_1 : decode cX12_fuel 1 = .ok (.iconst 1, 1) := by decide +kernel
theorem dX12_fuel_2 : decode cX12_fuel 2 = .ok (.if_icmp .lt 10, 3) := by decide +kernel
theorem dX12_fuel_5 : decode cX12_fuel 5 = .ok (.iload_n 1, 1) := by decide +kernel
theorem dX12_fuel_6 : decode cX12_fuel 6 = .ok (.sipush 1000, 3) := by decide +kernel
theorem dX12_fuel_9 : decode cX12_fuel 9 = .ok (.if_icmp .le 5, 3) := by decide +kernel
theorem dX12_fuel_12 : decode cX12_fuel 12 = .ok (.iconst (-1), 1) := by decide +kernel
theorem dX12_fuel_13 : decode cX12_fuel 13 = .ok (.ireturn, 1) := by decide +kernel
theorem dX12_fuel_14 : decode cX12_fuel 14 = .ok (.aload_n 0, 1) := by decide +kernel
theorem dX12_fuel_15 : decode cX12_fuel 15 = .ok (.getfield 139, 3) := by decide +kernel
theorem dX12_fuel_18 : decode cX12_fuel 18 = .ok (.istore_n 2, 1) := by decide +kernel
theorem dX12_fuel_19 : decode cX12_fuel 19 = .ok (.aload_n 0, 1) := by decide +kernel
theorem dX12_fuel_20 : decode cX12_fuel 20 = .ok (.iload_n 1, 1) := by decide +kernel
theorem dX12_fuel_21 : decode cX12_fuel 21 = .ok (.putfield 139, 3) := by decide +kernel
theorem dX12_fuel_24 : decode cX12_fuel 24 = .ok (.iload_n 2, 1) := by decide +kernel
theorem dX12_fuel_25 : decode cX12_fuel 25 = .ok (.ireturn, 1) := by decide +kernel
theorem dX12_fault_0 : decode cX12_fault 0 = .ok (.iload_n 1, 1) := by decide +kernel
theorem dX12_fault_1 : decode cX12_fault 1 = .ok (.ifCond .ne 10, 3) := by decide +kernel
theorem dX12_fault_4 : decode cX12_fault 4 = .ok (.aload_n 0, 1) := by decide +kernel
theorem dX12_fault_5 : decode cX12_fault 5 = .ok (.getfield 377, 3) := by decide +kernel
theorem dX12_fault_8 : decode cX12_fault 8 = .ok (.goto 28, 3) := by decide +kernel
theorem dX12_fault_11 : decode cX12_fault 11 = .ok (.iload_n 1, 1) := by decide +kernel
theorem dX12_fault_12 : decode cX12_fault 12 = .ok (.iconst 1, 1) := by decide +kernel
theorem dX12_fault_13 : decode cX12_fault 13 = .ok (.if_icmp .ne 10, 3) := by decide +kernel
theorem dX12_fault_16 : decode cX12_fault 16 = .ok (.aload_n 0, 1) := by decide +kernel
theorem dX12_fault_17 : decode cX12_fault 17 = .ok (.getfield 59, 3) := by decide +kernel
theorem dX12_fault_20 : decode cX12_fault 20 = .ok (.goto 16, 3) := by decide +kernel
theorem dX12_fault_23 : decode cX12_fault 23 = .ok (.iload_n 1, 1) := by decide +kernel
theorem dX12_fault_24 : decode cX12_fault 24 = .ok (.iconst 2, 1) := by decide +kernel
theorem dX12_fault_25 : decode cX12_fault 25 = .ok (.if_icmp .ne 10, 3) := by decide +kernel
theorem dX12_fault_28 : decode cX12_fault 28 = .ok (.aload_n 0, 1) := by decide +kernel
theorem dX12_fault_29 : decode cX12_fault 29 = .ok (.getfield 480, 3) := by decide +kernel
theorem dX12_fault_32 : decode cX12_fault 32 = .ok (.goto 4, 3) := by decide +kernel
theorem dX12_fault_35 : decode cX12_fault 35 = .ok (.iconst (-1), 1) := by decide +kernel
theorem dX12_fault_36 : decode cX12_fault 36 = .ok (.ireturn, 1) := by decide +kernel
theorem dX12_steps_0 : decode cX12_steps 0 = .ok (.aload_n 0, 1) := by decide +kernel
theorem dX12_steps_1 : decode cX12_steps 1 = .ok (.getfield 561, 3) := by decide +kernel
theorem dX12_steps_4 : decode cX12_steps 4 = .ok (.ireturn, 1) := by decide +kernel
theorem dX12_size_0 : decode cX12_size 0 = .ok (.aload_n 0, 1) := by decide +kernel
theorem dX12_size_1 : decode cX12_size 1 = .ok (.getfield 441, 3) := by decide +kernel
theorem dX12_size_4 : decode cX12_size 4 = .ok (.ireturn, 1) := by decide +kernel
theorem dX12_letter_0 : decode cX12_letter 0 = .ok (.iload_n 1, 1) := by decide +kernel
theorem dX12_letter_1 : decode cX12_letter 1 = .ok (.ifCond .lt 20, 3) := by decide +kernel
theorem dX12_letter_4 : decode cX12_letter 4 = .ok (.iload_n 1, 1) := by decide +kernel
theorem dX12_letter_5 : decode cX12_letter 5 = .ok (.aload_n 0, 1) := by decide +kernel
theorem dX12_letter_6 : decode cX12_letter 6 = .ok (.getfield 441, 3) := by decide +kernel
theorem dX12_letter_9 : decode cX12_letter 9 = .ok (.if_icmp .ge 12, 3) := by decide +kernel
theorem dX12_letter_12 : decode cX12_letter 12 = .ok (.aload_n 0, 1) := by decide +kernel
theorem dX12_letter_13 : decode cX12_letter 13 = .ok (.getfield 47, 3) := by decide +kernel
theorem dX12_letter_16 : decode cX12_letter 16 = .ok (.iload_n 1, 1) := by decide +kernel
theorem dX12_letter_17 : decode cX12_letter 17 = .ok (.iaload, 1) := by decide +kernel
theorem dX12_letter_18 : decode cX12_letter 18 = .ok (.goto 4, 3) := by decide +kernel
theorem dX12_letter_21 : decode cX12_letter 21 = .ok (.iconst (-1), 1) := by decide +kernel
theorem dX12_letter_22 : decode cX12_letter 22 = .ok (.ireturn, 1) := by decide +kernel
theorem dX12_taken_0 : decode cX12_taken 0 = .ok (.iload_n 1, 1) := by decide +kernel
theorem dX12_taken_1 : decode cX12_taken 1 = .ok (.ifCond .lt 20, 3) := by decide +kernel
theorem dX12_taken_4 : decode cX12_taken 4 = .ok (.iload_n 1, 1) := by decide +kernel
theorem dX12_taken_5 : decode cX12_taken 5 = .ok (.aload_n 0, 1) := by decide +kernel
theorem dX12_taken_6 : decode cX12_taken 6 = .ok (.getfield 845, 3) := by decide +kernel
theorem dX12_taken_9 : decode cX12_taken 9 = .ok (.if_icmp .ge 12, 3) := by decide +kernel
theorem dX12_taken_12 : decode cX12_taken 12 = .ok (.aload_n 0, 1) := by decide +kernel
theorem dX12_taken_13 : decode cX12_taken 13 = .ok (.getfield 130, 3) := by decide +kernel
theorem dX12_taken_16 : decode cX12_taken 16 = .ok (.iload_n 1, 1) := by decide +kernel
theorem dX12_taken_17 : decode cX12_taken 17 = .ok (.iaload, 1) := by decide +kernel
theorem dX12_taken_18 : decode cX12_taken 18 = .ok (.goto 4, 3) := by decide +kernel
theorem dX12_taken_21 : decode cX12_taken 21 = .ok (.iconst 0, 1) := by decide +kernel
theorem dX12_taken_22 : decode cX12_taken 22 = .ok (.ireturn, 1) := by decide +kernel
theorem dX12_recheck_0 : decode cX12_recheck 0 = .ok (.aload_n 0, 1) := by decide +kernel
theorem dX12_recheck_1 : decode cX12_recheck 1 = .ok (.getfield 779, 3) := by decide +kernel
theorem dX12_recheck_4 : decode cX12_recheck 4 = .ok (.ireturn, 1) := by decide +kernel

set_option maxHeartbeats 4000000 in
set_option maxRecDepth 100000 in
/-- steps() -/
theorem c_m_steps (l : Launch) (D : va_G) (ca : Nat → ClassId) (h0 sz : Nat) (ad : Nat → Nat) (u : mST)    : Met l yX12_steps wsX12_steps pR_0 (va_Pc [.ref (h0)] (fun U => U.heap.size = sz ∧ mWd D ca (fun _ => True) h0 ad u U)) (va_Qi (fun (r : Int32) (v : mST) => v = u ∧ r = u.1 60) (mWd D ca (va_A (mCl ca h0 ad u) sz) h0 ad) (va_A (mCl ca h0 ad u) sz)) 0 0 (va_A (mCl ca h0 ad u) sz) := by
  refine Met.ofW (cc := cX12_steps) (maxL := 1) (ret := (some .int)) (by decide) rfl ?_
  intro p e s m args below meth c s₁ B hml hv
  obtain ⟨rfl, hsz, hP, hK, hD0⟩ := hv
  have hx := B.exec
  have hb := B.bytes
  have hr := B.returns
  have hts := atoms_spec (ws := wsX12_steps) B.pre
  have hown : s.vm.findClass RX12 = some m.cls := findClass_of_methodNamed B.named
  have hlocks := B.notSynchronized
  subst hsz
  have hD := hD0.self (sz := s.heap.size)
  generalize hAe : va_A (mCl ca h0 ad u) s.heap.size = A at hD ⊢
  have hA : ∀ q : Nat, s.heap.size ≤ q → A q := fun q h => by rw [← hAe]; exact Or.inr h
  have hS : va_S A s.heap s.heap [] := va_S.rf
  have L_steps := hts (.fieldLink RX12 561 "ProofHouseModel" "steps" "I") (by decide +kernel)
  have hin : ∀ w ∈ wsX120, w ∈ wsX12_steps := fun w h => List.mem_cons_of_mem _ (List.mem_append_right _ h)
  have hl := lv_entry ([.ref (h0)]) (n := 1) (Nat.le_of_ble_eq_true rfl)
  rw [lg_entry_eq]
  generalize (lg_sl ([.ref (h0)]) ++ List.replicate (1 - (lg_sl ([.ref (h0)])).length) Slot.unset).toArray = ls at hl ⊢
  have hl : lv_has ls 1 [(0, .ref (h0))] := hl
  refine lv_aload_n hx hb dX12_steps_0 rfl (lv_at hl 0 rfl) ?_
  refine va_get (D := D) (ci := 12) (v := .int (u.1 60)) (C := RX12) (T := TX12) (N := 149) hx hb hts hin hown hK hP 0 mH_0 rfl 60 (by decide) L_steps (fun _ h9 => h9) mF_60 dX12_steps_1 ?_
  exact W.iret (v := u.1 60) hx hb hr (fun t ht hW => ⟨⟨u.1 60, u, rfl, ⟨rfl, rfl⟩, by rw [ht]; exact hP, va_K.moved hW.alike hK, hD⟩, hS.F ht⟩) hS.2.2 dX12_steps_4

set_option maxHeartbeats 4000000 in
set_option maxRecDepth 100000 in
/-- size() -/
theorem c_m_size (l : Launch) (D : va_G) (ca : Nat → ClassId) (h0 sz : Nat) (ad : Nat → Nat) (u : mST)    : Met l yX12_size wsX12_size pR_0 (va_Pc [.ref (h0)] (fun U => U.heap.size = sz ∧ mWd D ca (fun _ => True) h0 ad u U)) (va_Qi (fun (r : Int32) (v : mST) => v = u ∧ r = u.1 16) (mWd D ca (va_A (mCl ca h0 ad u) sz) h0 ad) (va_A (mCl ca h0 ad u) sz)) 0 0 (va_A (mCl ca h0 ad u) sz) := by
  refine Met.ofW (cc := cX12_size) (maxL := 1) (ret := (some .int)) (by decide) rfl ?_
  intro p e s m args below meth c s₁ B hml hv
  obtain ⟨rfl, hsz, hP, hK, hD0⟩ := hv
  have hx := B.exec
  have hb := B.bytes
  have hr := B.returns
  have hts := atoms_spec (ws := wsX12_size) B.pre
  have hown : s.vm.findClass RX12 = some m.cls := findClass_of_methodNamed B.named
  have hlocks := B.notSynchronized
  subst hsz
  have hD := hD0.self (sz := s.heap.size)
  generalize hAe : va_A (mCl ca h0 ad u) s.heap.size = A at hD ⊢
  have hA : ∀ q : Nat, s.heap.size ≤ q → A q := fun q h => by rw [← hAe]; exact Or.inr h
  have hS : va_S A s.heap s.heap [] := va_S.rf
  have L_outSize := hts (.fieldLink RX12 441 "ProofHouseModel" "outSize" "I") (by decide +kernel)
  have hin : ∀ w ∈ wsX120, w ∈ wsX12_size := fun w h => List.mem_cons_of_mem _ (List.mem_append_right _ h)
  have hl := lv_entry ([.ref (h0)]) (n := 1) (Nat.le_of_ble_eq_true rfl)
  rw [lg_entry_eq]
  generalize (lg_sl ([.ref (h0)]) ++ List.replicate (1 - (lg_sl ([.ref (h0)])).length) Slot.unset).toArray = ls at hl ⊢
  have hl : lv_has ls 1 [(0, .ref (h0))] := hl
  refine lv_aload_n hx hb dX12_size_0 rfl (lv_at hl 0 rfl) ?_
  refine va_get (D := D) (ci := 12) (v := .int (u.1 16)) (C := RX12) (T := TX12) (N := 149) hx hb hts hin hown hK hP 0 mH_0 rfl 16 (by decide) L_outSize (fun _ h9 => h9) mF_16 dX12_size_1 ?_
  exact W.iret (v := u.1 16) hx hb hr (fun t ht hW => ⟨⟨u.1 16, u, rfl, ⟨rfl, rfl⟩, by rw [ht]; exact hP, va_K.moved hW.alike hK, hD⟩, hS.F ht⟩) hS.2.2 dX12_size_4

set_option maxHeartbeats 4000000 in
set_option maxRecDepth 100000 in
/-- recheck() -/
theorem c_m_recheck (l : Launch) (D : va_G) (ca : Nat → ClassId) (h0 sz : Nat) (ad : Nat → Nat) (u : mST)   (hp : u.1 62 = 0 ∨ u.1 62 = 1) : Met l yX12_recheck wsX12_recheck pR_0 (va_Pc [.ref (h0)] (fun U => U.heap.size = sz ∧ mWd D ca (fun _ => True) h0 ad u U)) (va_Qi (fun (r : Int32) (v : mST) => v = u ∧ r = u.1 62) (mWd D ca (va_A (mCl ca h0 ad u) sz) h0 ad) (va_A (mCl ca h0 ad u) sz)) 0 0 (va_A (mCl ca h0 ad u) sz) := by
  refine Met.ofW (cc := cX12_recheck) (maxL := 1) (ret := (some .boolean)) (by decide) rfl ?_
  intro p e s m args below meth c s₁ B hml hv
  obtain ⟨rfl, hsz, hP, hK, hD0⟩ := hv
  have hx := B.exec
  have hb := B.bytes
  have hr := B.returns
  have hts := atoms_spec (ws := wsX12_recheck) B.pre
  have hown : s.vm.findClass RX12 = some m.cls := findClass_of_methodNamed B.named
  have hlocks := B.notSynchronized
  subst hsz
  have hD := hD0.self (sz := s.heap.size)
  generalize hAe : va_A (mCl ca h0 ad u) s.heap.size = A at hD ⊢
  have hA : ∀ q : Nat, s.heap.size ≤ q → A q := fun q h => by rw [← hAe]; exact Or.inr h
  have hS : va_S A s.heap s.heap [] := va_S.rf
  have L_proved := hts (.fieldLink RX12 779 "ProofHouseModel" "proved" "Z") (by decide +kernel)
  have hin : ∀ w ∈ wsX120, w ∈ wsX12_recheck := fun w h => List.mem_cons_of_mem _ (List.mem_append_right _ h)
  have hl := lv_entry ([.ref (h0)]) (n := 1) (Nat.le_of_ble_eq_true rfl)
  rw [lg_entry_eq]
  generalize (lg_sl ([.ref (h0)]) ++ List.replicate (1 - (lg_sl ([.ref (h0)])).length) Slot.unset).toArray = ls at hl ⊢
  have hl : lv_has ls 1 [(0, .ref (h0))] := hl
  refine lv_aload_n hx hb dX12_recheck_0 rfl (lv_at hl 0 rfl) ?_
  refine va_get (D := D) (ci := 12) (v := .int (u.1 62)) (C := RX12) (T := TX12) (N := 149) hx hb hts hin hown hK hP 0 mH_0 rfl 62 (by decide) L_proved (fun _ h9 => h9) mF_62 dX12_recheck_1 ?_
  exact W.zret (v := u.1 62) hx hb hr (by rcases hp with h | h <;> rw [h] <;> rfl) (fun t ht hW => ⟨⟨u.1 62, u, rfl, ⟨rfl, rfl⟩, by rw [ht]; exact hP, va_K.moved hW.alike hK, hD⟩, hS.F ht⟩) hS.2.2 dX12_recheck_4

set_option maxHeartbeats 4000000 in
set_option maxRecDepth 100000 in
/-- fault(what) -/
theorem c_m_fault (l : Launch) (D : va_G) (ca : Nat → ClassId) (h0 sz : Nat) (ad : Nat → Nat) (u : mST) (a : Int32)   : Met l yX12_fault wsX12_fault pR_0 (va_Pc [.ref (h0), .int (a)] (fun U => U.heap.size = sz ∧ mWd D ca (fun _ => True) h0 ad u U)) (va_Qi (fun (r : Int32) (v : mST) => v = u ∧ r = if a = 0 then u.1 24 else if a = 1 then u.1 25 else if a = 2 then u.1 61 else -1) (mWd D ca (va_A (mCl ca h0 ad u) sz) h0 ad) (va_A (mCl ca h0 ad u) sz)) 0 0 (va_A (mCl ca h0 ad u) sz) := by
  refine Met.ofW (cc := cX12_fault) (maxL := 2) (ret := (some .int)) (by decide) rfl ?_
  intro p e s m args below meth c s₁ B hml hv
  obtain ⟨rfl, hsz, hP, hK, hD0⟩ := hv
  have hx := B.exec
  have hb := B.bytes
  have hr := B.returns
  have hts := atoms_spec (ws := wsX12_fault) B.pre
  have hown : s.vm.findClass RX12 = some m.cls := findClass_of_methodNamed B.named
  have hlocks := B.notSynchronized
  subst hsz
  have hD := hD0.self (sz := s.heap.size)
  generalize hAe : va_A (mCl ca h0 ad u) s.heap.size = A at hD ⊢
  have hA : ∀ q : Nat, s.heap.size ≤ q → A q := fun q h => by rw [← hAe]; exact Or.inr h
  have hS : va_S A s.heap s.heap [] := va_S.rf
  have L_readFault := hts (.fieldLink RX12 377 "ProofHouseModel" "readFault" "I") (by decide +kernel)
  have L_readPlace := hts (.fieldLink RX12 59 "ProofHouseModel" "readPlace" "I") (by decide +kernel)
  have L_work := hts (.fieldLink RX12 480 "ProofHouseModel" "work" "I") (by decide +kernel)
  have hin : ∀ w ∈ wsX120, w ∈ wsX12_fault := fun w h => List.mem_cons_of_mem _ (List.mem_append_right _ h)
  have hl := lv_entry ([.ref (h0), .int (a)]) (n := 2) (Nat.le_of_ble_eq_true rfl)
  rw [lg_entry_eq]
  generalize (lg_sl ([.ref (h0), .int (a)]) ++ List.replicate (2 - (lg_sl ([.ref (h0), .int (a)])).length) Slot.unset).toArray = ls at hl ⊢
  have hl : lv_has ls 2 [(0, .ref (h0)), (1, .int (a))] := hl
  refine lv_iload_n hx hb dX12_fault_0 rfl (lv_at hl 1 rfl) ?_
  refine lv_if_ne hx hb dX12_fault_1 (tgt := 11) rfl (fun h1 => ?_) (fun h1 => ?_)
  · refine lv_iload_n hx hb dX12_fault_11 rfl (lv_at hl 1 rfl) ?_
    refine lv_iconst hx hb dX12_fault_12 (v := 1) rfl ?_
    refine lv_icmp_ne hx hb dX12_fault_13 (tgt := 23) rfl (fun h2 => ?_) (fun h2 => ?_)
    · refine lv_iload_n hx hb dX12_fault_23 rfl (lv_at hl 1 rfl) ?_
      refine lv_iconst hx hb dX12_fault_24 (v := 2) rfl ?_
      refine lv_icmp_ne hx hb dX12_fault_25 (tgt := 35) rfl (fun h3 => ?_) (fun h3 => ?_)
      · refine lv_iconst hx hb dX12_fault_35 (v := (-1)) rfl ?_
        exact W.iret (v := (-1)) hx hb hr (fun t ht hW => ⟨⟨(-1), u, rfl, (by refine ⟨rfl, ?_⟩; first | (rw [if_pos h1]; done) | (rw [if_neg h1, if_pos h2]; done) | (rw [if_neg h1, if_neg h2, if_pos h3]; done) | (rw [if_neg h1, if_neg h2, if_neg h3]; done)), by rw [ht]; exact hP, va_K.moved hW.alike hK, hD⟩, hS.F ht⟩) hS.2.2 dX12_fault_36
      · refine lv_aload_n hx hb dX12_fault_28 rfl (lv_at hl 0 rfl) ?_
        refine va_get (D := D) (ci := 12) (v := .int (u.1 61)) (C := RX12) (T := TX12) (N := 149) hx hb hts hin hown hK hP 0 mH_0 rfl 61 (by decide) L_work (fun _ h9 => h9) mF_61 dX12_fault_29 ?_
        refine lv_goto hx hb dX12_fault_32 (tgt := 36) rfl ?_
        exact W.iret (v := u.1 61) hx hb hr (fun t ht hW => ⟨⟨u.1 61, u, rfl, (by refine ⟨rfl, ?_⟩; first | (rw [if_pos h1]; done) | (rw [if_neg h1, if_pos h2]; done) | (rw [if_neg h1, if_neg h2, if_pos h3]; done) | (rw [if_neg h1, if_neg h2, if_neg h3]; done)), by rw [ht]; exact hP, va_K.moved hW.alike hK, hD⟩, hS.F ht⟩) hS.2.2 dX12_fault_36
    · refine lv_aload_n hx hb dX12_fault_16 rfl (lv_at hl 0 rfl) ?_
      refine va_get (D := D) (ci := 12) (v := .int (u.1 25)) (C := RX12) (T := TX12) (N := 149) hx hb hts hin hown hK hP 0 mH_0 rfl 25 (by decide) L_readPlace (fun _ h9 => h9) mF_25 dX12_fault_17 ?_
      refine lv_goto hx hb dX12_fault_20 (tgt := 36) rfl ?_
      exact W.iret (v := u.1 25) hx hb hr (fun t ht hW => ⟨⟨u.1 25, u, rfl, (by refine ⟨rfl, ?_⟩; first | (rw [if_pos h1]; done) | (rw [if_neg h1, if_pos h2]; done) | (rw [if_neg h1, if_neg h2, if_pos h3]; done) | (rw [if_neg h1, if_neg h2, if_neg h3]; done)), by rw [ht]; exact hP, va_K.moved hW.alike hK, hD⟩, hS.F ht⟩) hS.2.2 dX12_fault_36
  · refine lv_aload_n hx hb dX12_fault_4 rfl (lv_at hl 0 rfl) ?_
    refine va_get (D := D) (ci := 12) (v := .int (u.1 24)) (C := RX12) (T := TX12) (N := 149) hx hb hts hin hown hK hP 0 mH_0 rfl 24 (by decide) L_readFault (fun _ h9 => h9) mF_24 dX12_fault_5 ?_
    refine lv_goto hx hb dX12_fault_8 (tgt := 36) rfl ?_
    exact W.iret (v := u.1 24) hx hb hr (fun t ht hW => ⟨⟨u.1 24, u, rfl, (by refine ⟨rfl, ?_⟩; first | (rw [if_pos h1]; done) | (rw [if_neg h1, if_pos h2]; done) | (rw [if_neg h1, if_neg h2, if_pos h3]; done) | (rw [if_neg h1, if_neg h2, if_neg h3]; done)), by rw [ht]; exact hP, va_K.moved hW.alike hK, hD⟩, hS.F ht⟩) hS.2.2 dX12_fault_36

set_option maxHeartbeats 4000000 in
set_option maxRecDepth 100000 in
/-- fuel(n) -/
theorem c_m_fuel (l : Launch) (D : va_G) (ca : Nat → ClassId) (h0 sz : Nat) (ad : Nat → Nat) (u : mST) (a : Int32)   : Met l yX12_fuel wsX12_fuel pR_0 (va_Pc [.ref (h0), .int (a)] (fun U => U.heap.size = sz ∧ mWd D ca (fun _ => True) h0 ad u U)) (va_Qi (fun (r : Int32) (v : mST) => if a < 1 ∨ 1000 < a then r = -1 ∧ v = u else r = u.1 59 ∧ v = mI u 59 a) (mWd D ca (va_A (mCl ca h0 ad u) sz) h0 ad) (va_A (mCl ca h0 ad u) sz)) 0 0 (va_A (mCl ca h0 ad u) sz) := by
  refine Met.ofW (cc := cX12_fuel) (maxL := 3) (ret := (some .int)) (by decide) rfl ?_
  intro p e s m args below meth c s₁ B hml hv
  obtain ⟨rfl, hsz, hP, hK, hD0⟩ := hv
  have hx := B.exec
  have hb := B.bytes
  have hr := B.returns
  have hts := atoms_spec (ws := wsX12_fuel) B.pre
  have hown : s.vm.findClass RX12 = some m.cls := findClass_of_methodNamed B.named
  have hlocks := B.notSynchronized
  subst hsz
  have hD := hD0.self (sz := s.heap.size)
  generalize hAe : va_A (mCl ca h0 ad u) s.heap.size = A at hD ⊢
  have hA : ∀ q : Nat, s.heap.size ≤ q → A q := fun q h => by rw [← hAe]; exact Or.inr h
  have hS : va_S A s.heap s.heap [] := va_S.rf
  have L_fuel := hts (.fieldLink RX12 139 "ProofHouseModel" "fuel" "I") (by decide +kernel)
  have hin : ∀ w ∈ wsX120, w ∈ wsX12_fuel := fun w h => List.mem_cons_of_mem _ (List.mem_append_right _ h)
  have hl := lv_entry ([.ref (h0), .int (a)]) (n := 3) (Nat.le_of_ble_eq_true rfl)
  rw [lg_entry_eq]
  generalize (lg_sl ([.ref (h0), .int (a)]) ++ List.replicate (3 - (lg_sl ([.ref (h0), .int (a)])).length) Slot.unset).toArray = ls at hl ⊢
  have hl : lv_has ls 3 [(0, .ref (h0)), (1, .int (a))] := hl
  refine lv_iload_n hx hb dX12_fuel_0 rfl (lv_at hl 1 rfl) ?_
  refine lv_iconst hx hb dX12_fuel_1 (v := 1) rfl ?_
  refine lv_icmp_lt hx hb dX12_fuel_2 (tgt := 12) rfl (fun h1 => ?_) (fun h1 => ?_)
  · refine lv_iconst hx hb dX12_fuel_12 (v := (-1)) rfl ?_
    exact W.iret (v := (-1)) hx hb hr (fun t ht hW => ⟨⟨(-1), u, rfl, (by first | exact (Eq.mpr (if_pos (Or.inl h1)) ⟨rfl, rfl⟩) | exact (Eq.mpr (if_pos (Or.inr (Int32.not_le.mp h2))) ⟨rfl, rfl⟩)), by rw [ht]; exact hP, va_K.moved hW.alike hK, hD⟩, hS.F ht⟩) hS.2.2 dX12_fuel_13
  · refine lv_iload_n hx hb dX12_fuel_5 rfl (lv_at hl 1 rfl) ?_
    refine lv_sipush hx hb dX12_fuel_6 (v := 1000) rfl ?_
    refine lv_icmp_le hx hb dX12_fuel_9 (tgt := 14) rfl (fun h2 => ?_) (fun h2 => ?_)
    · refine lv_aload_n hx hb dX12_fuel_14 rfl (lv_at hl 0 rfl) ?_
      refine va_get (D := D) (ci := 12) (v := .int (u.1 59)) (C := RX12) (T := TX12) (N := 149) hx hb hts hin hown hK hP 0 mH_0 rfl 59 (by decide) L_fuel (fun _ h9 => h9) mF_59 dX12_fuel_15 ?_
      refine lv_istore_n hx hb dX12_fuel_18 rfl hl (by decide) rfl (fun ls hl => ?_)
      have hl : lv_has ls 3 [(2, .int (u.1 59)), (0, .ref (h0)), (1, .int (a))] := hl
      refine lv_aload_n hx hb dX12_fuel_19 rfl (lv_at hl 1 rfl) ?_
      refine lv_iload_n hx hb dX12_fuel_20 rfl (lv_at hl 2 rfl) ?_
      refine va_put (D := D) (ci := 12) (v := .int (a)) (ty := .int) (C := RX12) (T := TX12) (N := 149) hx hb hts hin tyX12 tyX12_ok nmX12 hown hK hP hD hS 0 mH_0 rfl 59 (by decide) L_fuel (fun _ h9 => h9) rfl (tyX12_ok 59 (by decide)) rfl rfl (Nat.le_of_ble_eq_true rfl) dX12_fuel_21 (fun H locs hP hD hS => ?_)
      rw [mSI_59] at hP hD
      refine lv_iload_n hx hb dX12_fuel_24 rfl (lv_at hl 0 rfl) ?_
      exact W.iret (v := u.1 59) hx hb hr (fun t ht hW => ⟨⟨u.1 59, mI u 59 (a), rfl, (Eq.mpr (if_neg (fun h => h.elim h1 (fun h => absurd h2 (Int32.not_le.mpr h)))) ⟨rfl, rfl⟩), by rw [ht]; exact hP, va_K.moved hW.alike hK, hD⟩, hS.F ht⟩) hS.2.2 dX12_fuel_25
    · refine lv_iconst hx hb dX12_fuel_12 (v := (-1)) rfl ?_
      exact W.iret (v := (-1)) hx hb hr (fun t ht hW => ⟨⟨(-1), u, rfl, (by first | exact (Eq.mpr (if_pos (Or.inl h1)) ⟨rfl, rfl⟩) | exact (Eq.mpr (if_pos (Or.inr (Int32.not_le.mp h2))) ⟨rfl, rfl⟩)), by rw [ht]; exact hP, va_K.moved hW.alike hK, hD⟩, hS.F ht⟩) hS.2.2 dX12_fuel_13

set_option maxHeartbeats 4000000 in
set_option maxRecDepth 100000 in
/-- letter(k) -/
theorem c_m_letter (l : Launch) (D : va_G) (ca : Nat → ClassId) (h0 sz : Nat) (ad : Nat → Nat) (u : mST) (a : Int32) (N : Nat) (hN : u.1 16 = nI N) (hN2 : N ≤ 2000) : Met l yX12_letter wsX12_letter pR_0 (va_Pc [.ref (h0), .int (a)] (fun U => U.heap.size = sz ∧ mWd D ca (fun _ => True) h0 ad u U)) (va_Qi (fun (r : Int32) (v : mST) => v = u ∧ r = if 0 ≤ a ∧ a < u.1 16 then u.2.1 15 a.toNatClampNeg else -1) (mWd D ca (va_A (mCl ca h0 ad u) sz) h0 ad) (va_A (mCl ca h0 ad u) sz)) 0 0 (va_A (mCl ca h0 ad u) sz) := by
  refine Met.ofW (cc := cX12_letter) (maxL := 2) (ret := (some .int)) (by decide) rfl ?_
  intro p e s m args below meth c s₁ B hml hv
  obtain ⟨rfl, hsz, hP, hK, hD0⟩ := hv
  have hx := B.exec
  have hb := B.bytes
  have hr := B.returns
  have hts := atoms_spec (ws := wsX12_letter) B.pre
  have hown : s.vm.findClass RX12 = some m.cls := findClass_of_methodNamed B.named
  have hlocks := B.notSynchronized
  subst hsz
  have hD := hD0.self (sz := s.heap.size)
  generalize hAe : va_A (mCl ca h0 ad u) s.heap.size = A at hD ⊢
  have hA : ∀ q : Nat, s.heap.size ≤ q → A q := fun q h => by rw [← hAe]; exact Or.inr h
  have hS : va_S A s.heap s.heap [] := va_S.rf
  have L_outSize := hts (.fieldLink RX12 441 "ProofHouseModel" "outSize" "I") (by decide +kernel)
  have L_out := hts (.fieldLink RX12 47 "ProofHouseModel" "out" "[I") (by decide +kernel)
  have hin : ∀ w ∈ wsX120, w ∈ wsX12_letter := fun w h => List.mem_cons_of_mem _ (List.mem_append_right _ h)
  have hl := lv_entry ([.ref (h0), .int (a)]) (n := 2) (Nat.le_of_ble_eq_true rfl)
  rw [lg_entry_eq]
  generalize (lg_sl ([.ref (h0), .int (a)]) ++ List.replicate (2 - (lg_sl ([.ref (h0), .int (a)])).length) Slot.unset).toArray = ls at hl ⊢
  have hl : lv_has ls 2 [(0, .ref (h0)), (1, .int (a))] := hl
  refine lv_iload_n hx hb dX12_letter_0 rfl (lv_at hl 1 rfl) ?_
  refine lv_if_lt hx hb dX12_letter_1 (tgt := 21) rfl (fun h1 => ?_) (fun h1 => ?_)
  · refine lv_iconst hx hb dX12_letter_21 (v := (-1)) rfl ?_
    exact W.iret (v := (-1)) hx hb hr (fun t ht hW => ⟨⟨(-1), u, rfl, (by refine ⟨rfl, ?_⟩; first | (rw [if_neg (fun h => absurd h1 (Int32.not_lt.mpr h.1))]; done) | (rw [if_neg (fun h => absurd h2 (Int32.not_le.mpr h.2))]; done) | (rw [if_pos ⟨Int32.not_lt.mp h1, Int32.not_le.mp h2⟩, ev3]; done)), by rw [ht]; exact hP, va_K.moved hW.alike hK, hD⟩, hS.F ht⟩) hS.2.2 dX12_letter_22
  · refine lv_iload_n hx hb dX12_letter_4 rfl (lv_at hl 1 rfl) ?_
    refine lv_aload_n hx hb dX12_letter_5 rfl (lv_at hl 0 rfl) ?_
    refine va_get (D := D) (ci := 12) (v := .int (u.1 16)) (C := RX12) (T := TX12) (N := 149) hx hb hts hin hown hK hP 0 mH_0 rfl 16 (by decide) L_outSize (fun _ h9 => h9) mF_16 dX12_letter_6 ?_
    refine lv_icmp_ge hx hb dX12_letter_9 (tgt := 21) rfl (fun h2 => ?_) (fun h2 => ?_)
    · refine lv_iconst hx hb dX12_letter_21 (v := (-1)) rfl ?_
      exact W.iret (v := (-1)) hx hb hr (fun t ht hW => ⟨⟨(-1), u, rfl, (by refine ⟨rfl, ?_⟩; first | (rw [if_neg (fun h => absurd h1 (Int32.not_lt.mpr h.1))]; done) | (rw [if_neg (fun h => absurd h2 (Int32.not_le.mpr h.2))]; done) | (rw [if_pos ⟨Int32.not_lt.mp h1, Int32.not_le.mp h2⟩, ev3]; done)), by rw [ht]; exact hP, va_K.moved hW.alike hK, hD⟩, hS.F ht⟩) hS.2.2 dX12_letter_22
    · refine lv_aload_n hx hb dX12_letter_12 rfl (lv_at hl 0 rfl) ?_
      refine va_get (D := D) (ci := 12) (v := .ref (ad 15)) (C := RX12) (T := TX12) (N := 149) hx hb hts hin hown hK hP 0 mH_0 rfl 15 (by decide) L_out (fun _ h9 => h9) mF_15 dX12_letter_13 ?_
      refine lv_iload_n hx hb dX12_letter_16 rfl (lv_at hl 1 rfl) ?_
      refine va_iald hx hb hK hP 12 11 mG_15 rfl (by rw [hN] at h2; exact ((pk_ix a (n := N) (by omega)).elim (fun h => absurd h h1) (fun h => h.elim (fun h => absurd h h2) (fun ⟨j, hj, e⟩ => e ▸ vp_in_nI (by omega) (by decide))))) dX12_letter_17 ?_
      refine lv_topi (fun v3 ev3 => ?_)
      have ev3 : v3 = (u.2.1 15) (a).toNatClampNeg := ev3
      refine lv_goto hx hb dX12_letter_18 (tgt := 22) rfl ?_
      exact W.iret (v := v3) hx hb hr (fun t ht hW => ⟨⟨v3, u, rfl, (by refine ⟨rfl, ?_⟩; first | (rw [if_neg (fun h => absurd h1 (Int32.not_lt.mpr h.1))]; done) | (rw [if_neg (fun h => absurd h2 (Int32.not_le.mpr h.2))]; done) | (rw [if_pos ⟨Int32.not_lt.mp h1, Int32.not_le.mp h2⟩, ev3]; done)), by rw [ht]; exact hP, va_K.moved hW.alike hK, hD⟩, hS.F ht⟩) hS.2.2 dX12_letter_22

set_option maxHeartbeats 4000000 in
set_option maxRecDepth 100000 in
/-- taken(k) -/
theorem c_m_taken (l : Launch) (D : va_G) (ca : Nat → ClassId) (h0 sz : Nat) (ad : Nat → Nat) (u : mST) (a : Int32) (N : Nat) (hN : u.1 54 = nI N) (hN2 : N ≤ 100) : Met l yX12_taken wsX12_taken pR_0 (va_Pc [.ref (h0), .int (a)] (fun U => U.heap.size = sz ∧ mWd D ca (fun _ => True) h0 ad u U)) (va_Qi (fun (r : Int32) (v : mST) => v = u ∧ r = if 0 ≤ a ∧ a < u.1 54 then u.2.1 55 a.toNatClampNeg else 0) (mWd D ca (va_A (mCl ca h0 ad u) sz) h0 ad) (va_A (mCl ca h0 ad u) sz)) 0 0 (va_A (mCl ca h0 ad u) sz) := by
  refine Met.ofW (cc := cX12_taken) (maxL := 2) (ret := (some .int)) (by decide) rfl ?_
  intro p e s m args below meth c s₁ B hml hv
  obtain ⟨rfl, hsz, hP, hK, hD0⟩ := hv
  have hx := B.exec
  have hb := B.bytes
  have hr := B.returns
  have hts := atoms_spec (ws := wsX12_taken) B.pre
  have hown : s.vm.findClass RX12 = some m.cls := findClass_of_methodNamed B.named
  have hlocks := B.notSynchronized
  subst hsz
  have hD := hD0.self (sz := s.heap.size)
  generalize hAe : va_A (mCl ca h0 ad u) s.heap.size = A at hD ⊢
  have hA : ∀ q : Nat, s.heap.size ≤ q → A q := fun q h => by rw [← hAe]; exact Or.inr h
  have hS : va_S A s.heap s.heap [] := va_S.rf
  have L_taken := hts (.fieldLink RX12 845 "ProofHouseModel" "taken" "I") (by decide +kernel)
  have L_takenSort := hts (.fieldLink RX12 130 "ProofHouseModel" "takenSort" "[I") (by decide +kernel)
  have hin : ∀ w ∈ wsX120, w ∈ wsX12_taken := fun w h => List.mem_cons_of_mem _ (List.mem_append_right _ h)
  have hl := lv_entry ([.ref (h0), .int (a)]) (n := 2) (Nat.le_of_ble_eq_true rfl)
  rw [lg_entry_eq]
  generalize (lg_sl ([.ref (h0), .int (a)]) ++ List.replicate (2 - (lg_sl ([.ref (h0), .int (a)])).length) Slot.unset).toArray = ls at hl ⊢
  have hl : lv_has ls 2 [(0, .ref (h0)), (1, .int (a))] := hl
  refine lv_iload_n hx hb dX12_taken_0 rfl (lv_at hl 1 rfl) ?_
  refine lv_if_lt hx hb dX12_taken_1 (tgt := 21) rfl (fun h1 => ?_) (fun h1 => ?_)
  · refine lv_iconst hx hb dX12_taken_21 (v := 0) rfl ?_
    exact W.iret (v := 0) hx hb hr (fun t ht hW => ⟨⟨0, u, rfl, (by refine ⟨rfl, ?_⟩; first | (rw [if_neg (fun h => absurd h1 (Int32.not_lt.mpr h.1))]; done) | (rw [if_neg (fun h => absurd h2 (Int32.not_le.mpr h.2))]; done) | (rw [if_pos ⟨Int32.not_lt.mp h1, Int32.not_le.mp h2⟩, ev3]; done)), by rw [ht]; exact hP, va_K.moved hW.alike hK, hD⟩, hS.F ht⟩) hS.2.2 dX12_taken_22
  · refine lv_iload_n hx hb dX12_taken_4 rfl (lv_at hl 1 rfl) ?_
    refine lv_aload_n hx hb dX12_taken_5 rfl (lv_at hl 0 rfl) ?_
    refine va_get (D := D) (ci := 12) (v := .int (u.1 54)) (C := RX12) (T := TX12) (N := 149) hx hb hts hin hown hK hP 0 mH_0 rfl 54 (by decide) L_taken (fun _ h9 => h9) mF_54 dX12_taken_6 ?_
    refine lv_icmp_ge hx hb dX12_taken_9 (tgt := 21) rfl (fun h2 => ?_) (fun h2 => ?_)
    · refine lv_iconst hx hb dX12_taken_21 (v := 0) rfl ?_
      exact W.iret (v := 0) hx hb hr (fun t ht hW => ⟨⟨0, u, rfl, (by refine ⟨rfl, ?_⟩; first | (rw [if_neg (fun h => absurd h1 (Int32.not_lt.mpr h.1))]; done) | (rw [if_neg (fun h => absurd h2 (Int32.not_le.mpr h.2))]; done) | (rw [if_pos ⟨Int32.not_lt.mp h1, Int32.not_le.mp h2⟩, ev3]; done)), by rw [ht]; exact hP, va_K.moved hW.alike hK, hD⟩, hS.F ht⟩) hS.2.2 dX12_taken_22
    · refine lv_aload_n hx hb dX12_taken_12 rfl (lv_at hl 0 rfl) ?_
      refine va_get (D := D) (ci := 12) (v := .ref (ad 55)) (C := RX12) (T := TX12) (N := 149) hx hb hts hin hown hK hP 0 mH_0 rfl 55 (by decide) L_takenSort (fun _ h9 => h9) mF_55 dX12_taken_13 ?_
      refine lv_iload_n hx hb dX12_taken_16 rfl (lv_at hl 1 rfl) ?_
      refine va_iald hx hb hK hP 38 37 mG_55 rfl (by rw [hN] at h2; exact ((pk_ix a (n := N) (by omega)).elim (fun h => absurd h h1) (fun h => h.elim (fun h => absurd h h2) (fun ⟨j, hj, e⟩ => e ▸ vp_in_nI (by omega) (by decide))))) dX12_taken_17 ?_
      refine lv_topi (fun v3 ev3 => ?_)
      have ev3 : v3 = (u.2.1 55) (a).toNatClampNeg := ev3
      refine lv_goto hx hb dX12_taken_18 (tgt := 22) rfl ?_
      exact W.iret (v := v3) hx hb hr (fun t ht hW => ⟨⟨v3, u, rfl, (by refine ⟨rfl, ?_⟩; first | (rw [if_neg (fun h => absurd h1 (Int32.not_lt.mpr h.1))]; done) | (rw [if_neg (fun h => absurd h2 (Int32.not_le.mpr h.2))]; done) | (rw [if_pos ⟨Int32.not_lt.mp h1, Int32.not_le.mp h2⟩, ev3]; done)), by rw [ht]; exact hP, va_K.moved hW.alike hK, hD⟩, hS.F ht⟩) hS.2.2 dX12_taken_22
