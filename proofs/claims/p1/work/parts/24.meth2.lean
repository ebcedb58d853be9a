set_option maxHeartbeats 4000000 in
set_option maxRecDepth 100000 in
/-- letter -/
theorem h_letter (l : Launch) (D : va_G) (h0 sz : Nat) (a : Nat → Nat) (ca : Nat → ClassId) (n : Nat) (x : Int32)  : Met l yX11_letter wsX11_letter ({ frames := 0, cells := 0, slots := 0, locals := 0 }) (va_Pc [.ref (h0), .int (x)] (fun U => U.heap.size = sz ∧ va_P D vwCl (hHW h0 a ca n) U.heap ∧ va_K D vwCl (hHT ca) U ∧ va_D (fun _ => True) (hHW h0 a ca n) ∧ hM U)) (va_Qi (fun (r : Int32) (_ : Unit) => r = -1) (fun _ _ => True) (va_A (hHW h0 a ca n) sz)) 0 0 (va_A (hHW h0 a ca n) sz) := by
  refine Met.ofW (cc := cX11_letter) (maxL := 2) (ret := (some .int)) (by decide) rfl ?_
  intro p e s m args below meth c s₁ B hml hv
  obtain ⟨rfl, hsz, hP, hK, hD0, hE⟩ := hv
  have hx := B.exec
  have hb := B.bytes
  have hr := B.returns
  have hts := atoms_spec (ws := wsX11_letter) B.pre
  have hown : s.vm.findClass RX11 = some m.cls := findClass_of_methodNamed B.named
  have hnm : meth.name = "letter" := (name_of_methodNamed B.named B.method).1
  subst hsz
  have hD := hD0.self (sz := s.heap.size)
  generalize hAe : va_A (hHW h0 a ca n) s.heap.size = A at hD ⊢
  have hA : ∀ q : Nat, s.heap.size ≤ q → A q := fun q h => by rw [← hAe]; exact Or.inr h
  have hS : va_S A s.heap s.heap [] := va_S.rf
  have hl := lv_entry ([.ref (h0), .int (x)]) (n := 2) (Nat.le_of_ble_eq_true rfl)
  rw [lg_entry_eq]
  generalize (lg_sl ([.ref (h0), .int (x)]) ++ List.replicate (2 - (lg_sl ([.ref (h0), .int (x)])).length) Slot.unset).toArray = ls at hl ⊢
  have hl : lv_has ls 2 [(0, .ref (h0)), (1, .int (x))] := hl
  have hP : va_P D vwCl [(h0, .inr (11, [.ref (a 0), .ref (a 1), .ref (a 3), .ref (a 5), .ref (a 9), .ref (a 10), .ref (a 11), .ref (a 12), .ref (a 6), .ref (a 13), .ref (a 7), .int (0), .ref (a 8), .int (1000), .int ((-1)), .int ((-1)), .int ((-1)), .int (0), .int (0), .int (0), .int (0)])), (a 0, .inr (7, [.ref (a 14), .ref (a 15), .ref (a 16), .ref (a 17), .ref (a 18), .int (nI n), .int (0), .int (0), .int (0)])), (a 1, .inr (0, [.ref (a 19), .ref (a 20), .ref (a 21), .ref (a 22), .ref (a 23), .int (0), .ref (a 24), .ref (a 25), .ref (a 26), .ref (a 27), .ref (a 28), .ref (a 29), .ref (a 30), .ref (a 31), .ref (a 32), .ref (a 2), .int (0), .ref (a 33), .ref (a 34), .int (0), .int (nI n)])), (a 2, .inl (ca 0, 60, .inl (fun _ => 0))), (a 3, .inr (5, [.ref (a 0), .ref (a 4), .ref (a 35), .ref (a 36), .ref (a 37), .int (0), .int (0), .int (0), .int (0), .int (0), .int ((-1))])), (a 4, .inl (ca 1, 41, .inl (fun _ => 0))), (a 5, .inr (9, [.ref (a 0), .ref (a 38), .ref (a 39), .int (0)])), (a 6, .inr (4, [.ref (a 0), .ref (a 9), .ref (a 11), .ref (a 40), .int (0), .ref (a 41), .int (0), .ref (a 42), .int (0), .ref (a 43), .int (0)])), (a 7, .inl (ca 2, 3000, .inl (fun _ => 0))), (a 8, .inl (ca 3, 5, .inl (fun _ => 0)))] s.heap := hP
  have hD : va_D A [(h0, .inr (11, [.ref (a 0), .ref (a 1), .ref (a 3), .ref (a 5), .ref (a 9), .ref (a 10), .ref (a 11), .ref (a 12), .ref (a 6), .ref (a 13), .ref (a 7), .int (0), .ref (a 8), .int (1000), .int ((-1)), .int ((-1)), .int ((-1)), .int (0), .int (0), .int (0), .int (0)])), (a 0, .inr (7, [.ref (a 14), .ref (a 15), .ref (a 16), .ref (a 17), .ref (a 18), .int (nI n), .int (0), .int (0), .int (0)])), (a 1, .inr (0, [.ref (a 19), .ref (a 20), .ref (a 21), .ref (a 22), .ref (a 23), .int (0), .ref (a 24), .ref (a 25), .ref (a 26), .ref (a 27), .ref (a 28), .ref (a 29), .ref (a 30), .ref (a 31), .ref (a 32), .ref (a 2), .int (0), .ref (a 33), .ref (a 34), .int (0), .int (nI n)])), (a 2, .inl (ca 0, 60, .inl (fun _ => 0))), (a 3, .inr (5, [.ref (a 0), .ref (a 4), .ref (a 35), .ref (a 36), .ref (a 37), .int (0), .int (0), .int (0), .int (0), .int (0), .int ((-1))])), (a 4, .inl (ca 1, 41, .inl (fun _ => 0))), (a 5, .inr (9, [.ref (a 0), .ref (a 38), .ref (a 39), .int (0)])), (a 6, .inr (4, [.ref (a 0), .ref (a 9), .ref (a 11), .ref (a 40), .int (0), .ref (a 41), .int (0), .ref (a 42), .int (0), .ref (a 43), .int (0)])), (a 7, .inl (ca 2, 3000, .inl (fun _ => 0))), (a 8, .inl (ca 3, 5, .inl (fun _ => 0)))] := hD
  have hK : va_K D vwCl [(ca 0, .boolean), (ca 1, .int), (ca 2, .char), (ca 3, .int)] s := hK
  refine lv_iload_n hx hb dX11_letter_0 rfl (lv_at hl 1 rfl) ?_
  refine lv_if_lt hx hb dX11_letter_1 (tgt := 27) rfl (fun h1 => ?_) (fun h1 => ?_)
  · refine lv_iconst hx hb dX11_letter_27 (v := (-1)) rfl ?_
    exact W.iret (v := (-1)) hx hb hr (fun t ht hW => ⟨⟨(-1), (), rfl, rfl, trivial⟩, hS.F ht⟩) hS.2.2 dX11_letter_28
  · refine lv_iload_n hx hb dX11_letter_4 rfl (lv_at hl 1 rfl) ?_
    refine lv_aload_n hx hb dX11_letter_5 rfl (lv_at hl 0 rfl) ?_
    refine va_get (D := D) (ci := 11) (v := .ref (a 5)) (C := RX11) (T := TX11) (N := 21) hx hb hts (fun w h => List.mem_cons_of_mem _ (List.mem_append_left _ (List.mem_append_right _ h))) hown hK hP 0 rfl rfl 3 (by decide) (hts (.fieldLink RX11 45 "ProofHouse" "out" "LProofHouse$Scribe;") (List.mem_of_getElem? (i := 1) rfl)) (fun _ h9 => h9) rfl dX11_letter_6 ?_
    refine va_getN (D := D) (ci := 9) (v := .int (0)) (C := RX9) (T := TX9) (N := 4) hx hb hts (fun w h => List.mem_cons_of_mem _ (List.mem_append_right _ h)) hown hK hP 6 rfl rfl 3 (by decide) (va_Nw.use rfl hE.2.2.2.2.2.1) (fun _ h9 => h9) rfl dX11_letter_9 ?_
    refine lv_icmp_ge hx hb dX11_letter_12 (tgt := 27) rfl (fun h2 => ?_) (fun h2 => ?_)
    · refine lv_iconst hx hb dX11_letter_27 (v := (-1)) rfl ?_
      exact W.iret (v := (-1)) hx hb hr (fun t ht hW => ⟨⟨(-1), (), rfl, rfl, trivial⟩, hS.F ht⟩) hS.2.2 dX11_letter_28
    · exact absurd (Int32.not_lt.mp h1) h2

set_option maxHeartbeats 4000000 in
set_option maxRecDepth 100000 in
/-- taken -/
theorem h_taken (l : Launch) (D : va_G) (h0 sz : Nat) (a : Nat → Nat) (ca : Nat → ClassId) (n : Nat) (x : Int32)  : Met l yX11_taken wsX11_taken ({ frames := 0, cells := 0, slots := 0, locals := 0 }) (va_Pc [.ref (h0), .int (x)] (fun U => U.heap.size = sz ∧ va_P D vwCl (hHW h0 a ca n) U.heap ∧ va_K D vwCl (hHT ca) U ∧ va_D (fun _ => True) (hHW h0 a ca n) ∧ hM U)) (va_Qi (fun (r : Int32) (_ : Unit) => r = 0) (fun _ _ => True) (va_A (hHW h0 a ca n) sz)) 0 0 (va_A (hHW h0 a ca n) sz) := by
  refine Met.ofW (cc := cX11_taken) (maxL := 2) (ret := (some .int)) (by decide) rfl ?_
  intro p e s m args below meth c s₁ B hml hv
  obtain ⟨rfl, hsz, hP, hK, hD0, hE⟩ := hv
  have hx := B.exec
  have hb := B.bytes
  have hr := B.returns
  have hts := atoms_spec (ws := wsX11_taken) B.pre
  have hown : s.vm.findClass RX11 = some m.cls := findClass_of_methodNamed B.named
  have hnm : meth.name = "taken" := (name_of_methodNamed B.named B.method).1
  subst hsz
  have hD := hD0.self (sz := s.heap.size)
  generalize hAe : va_A (hHW h0 a ca n) s.heap.size = A at hD ⊢
  have hA : ∀ q : Nat, s.heap.size ≤ q → A q := fun q h => by rw [← hAe]; exact Or.inr h
  have hS : va_S A s.heap s.heap [] := va_S.rf
  have hl := lv_entry ([.ref (h0), .int (x)]) (n := 2) (Nat.le_of_ble_eq_true rfl)
  rw [lg_entry_eq]
  generalize (lg_sl ([.ref (h0), .int (x)]) ++ List.replicate (2 - (lg_sl ([.ref (h0), .int (x)])).length) Slot.unset).toArray = ls at hl ⊢
  have hl : lv_has ls 2 [(0, .ref (h0)), (1, .int (x))] := hl
  have hP : va_P D vwCl [(h0, .inr (11, [.ref (a 0), .ref (a 1), .ref (a 3), .ref (a 5), .ref (a 9), .ref (a 10), .ref (a 11), .ref (a 12), .ref (a 6), .ref (a 13), .ref (a 7), .int (0), .ref (a 8), .int (1000), .int ((-1)), .int ((-1)), .int ((-1)), .int (0), .int (0), .int (0), .int (0)])), (a 0, .inr (7, [.ref (a 14), .ref (a 15), .ref (a 16), .ref (a 17), .ref (a 18), .int (nI n), .int (0), .int (0), .int (0)])), (a 1, .inr (0, [.ref (a 19), .ref (a 20), .ref (a 21), .ref (a 22), .ref (a 23), .int (0), .ref (a 24), .ref (a 25), .ref (a 26), .ref (a 27), .ref (a 28), .ref (a 29), .ref (a 30), .ref (a 31), .ref (a 32), .ref (a 2), .int (0), .ref (a 33), .ref (a 34), .int (0), .int (nI n)])), (a 2, .inl (ca 0, 60, .inl (fun _ => 0))), (a 3, .inr (5, [.ref (a 0), .ref (a 4), .ref (a 35), .ref (a 36), .ref (a 37), .int (0), .int (0), .int (0), .int (0), .int (0), .int ((-1))])), (a 4, .inl (ca 1, 41, .inl (fun _ => 0))), (a 5, .inr (9, [.ref (a 0), .ref (a 38), .ref (a 39), .int (0)])), (a 6, .inr (4, [.ref (a 0), .ref (a 9), .ref (a 11), .ref (a 40), .int (0), .ref (a 41), .int (0), .ref (a 42), .int (0), .ref (a 43), .int (0)])), (a 7, .inl (ca 2, 3000, .inl (fun _ => 0))), (a 8, .inl (ca 3, 5, .inl (fun _ => 0)))] s.heap := hP
  have hD : va_D A [(h0, .inr (11, [.ref (a 0), .ref (a 1), .ref (a 3), .ref (a 5), .ref (a 9), .ref (a 10), .ref (a 11), .ref (a 12), .ref (a 6), .ref (a 13), .ref (a 7), .int (0), .ref (a 8), .int (1000), .int ((-1)), .int ((-1)), .int ((-1)), .int (0), .int (0), .int (0), .int (0)])), (a 0, .inr (7, [.ref (a 14), .ref (a 15), .ref (a 16), .ref (a 17), .ref (a 18), .int (nI n), .int (0), .int (0), .int (0)])), (a 1, .inr (0, [.ref (a 19), .ref (a 20), .ref (a 21), .ref (a 22), .ref (a 23), .int (0), .ref (a 24), .ref (a 25), .ref (a 26), .ref (a 27), .ref (a 28), .ref (a 29), .ref (a 30), .ref (a 31), .ref (a 32), .ref (a 2), .int (0), .ref (a 33), .ref (a 34), .int (0), .int (nI n)])), (a 2, .inl (ca 0, 60, .inl (fun _ => 0))), (a 3, .inr (5, [.ref (a 0), .ref (a 4), .ref (a 35), .ref (a 36), .ref (a 37), .int (0), .int (0), .int (0), .int (0), .int (0), .int ((-1))])), (a 4, .inl (ca 1, 41, .inl (fun _ => 0))), (a 5, .inr (9, [.ref (a 0), .ref (a 38), .ref (a 39), .int (0)])), (a 6, .inr (4, [.ref (a 0), .ref (a 9), .ref (a 11), .ref (a 40), .int (0), .ref (a 41), .int (0), .ref (a 42), .int (0), .ref (a 43), .int (0)])), (a 7, .inl (ca 2, 3000, .inl (fun _ => 0))), (a 8, .inl (ca 3, 5, .inl (fun _ => 0)))] := hD
  have hK : va_K D vwCl [(ca 0, .boolean), (ca 1, .int), (ca 2, .char), (ca 3, .int)] s := hK
  refine lv_iload_n hx hb dX11_taken_0 rfl (lv_at hl 1 rfl) ?_
  refine lv_if_lt hx hb dX11_taken_1 (tgt := 27) rfl (fun h1 => ?_) (fun h1 => ?_)
  · refine lv_iconst hx hb dX11_taken_27 (v := 0) rfl ?_
    exact W.iret (v := 0) hx hb hr (fun t ht hW => ⟨⟨0, (), rfl, rfl, trivial⟩, hS.F ht⟩) hS.2.2 dX11_taken_28
  · refine lv_iload_n hx hb dX11_taken_4 rfl (lv_at hl 1 rfl) ?_
    refine lv_aload_n hx hb dX11_taken_5 rfl (lv_at hl 0 rfl) ?_
    refine va_get (D := D) (ci := 11) (v := .ref (a 1)) (C := RX11) (T := TX11) (N := 21) hx hb hts (fun w h => List.mem_cons_of_mem _ (List.mem_append_left _ (List.mem_append_right _ h))) hown hK hP 0 rfl rfl 1 (by decide) (hts (.fieldLink RX11 27 "ProofHouse" "book" "LProofHouse$Book;") (List.mem_of_getElem? (i := 1) rfl)) (fun _ h9 => h9) rfl dX11_taken_6 ?_
    refine va_getN (D := D) (ci := 0) (v := .int (0)) (C := RX0) (T := TX0) (N := 21) hx hb hts (fun w h => List.mem_cons_of_mem _ (List.mem_append_right _ h)) hown hK hP 2 rfl rfl 19 (by decide) (va_Nw.use rfl hE.2.2.2.2.2.2.1) (fun _ h9 => h9) rfl dX11_taken_9 ?_
    refine lv_icmp_ge hx hb dX11_taken_12 (tgt := 27) rfl (fun h2 => ?_) (fun h2 => ?_)
    · refine lv_iconst hx hb dX11_taken_27 (v := 0) rfl ?_
      exact W.iret (v := 0) hx hb hr (fun t ht hW => ⟨⟨0, (), rfl, rfl, trivial⟩, hS.F ht⟩) hS.2.2 dX11_taken_28
    · exact absurd (Int32.not_lt.mp h1) h2

def wc_tell : List Cond := .code yX11_tell cX11_tell 5 (some .int) :: ([Cond.fieldLink RX11 27 "ProofHouse" "book" "LProofHouse$Book;"] ++ wsX110 ++ wsX00)

set_option maxHeartbeats 4000000 in
set_option maxRecDepth 100000 in
/-- tell -/
theorem h_tell (l : Launch) (D : va_G) (h0 sz : Nat) (a : Nat → Nat) (ca : Nat → ClassId) (n : Nat) (x : Int32)  : Met l yX11_tell wc_tell ({ frames := 0, cells := 0, slots := 0, locals := 0 }) (va_Pc [.ref (h0), .int (x)] (fun U => U.heap.size = sz ∧ va_P D vwCl (hHW h0 a ca n) U.heap ∧ va_K D vwCl (hHT ca) U ∧ va_D (fun _ => True) (hHW h0 a ca n) ∧ hM U)) (va_Qi (fun (r : Int32) (_ : Unit) => r = -1) (fun _ _ => True) (va_A (hHW h0 a ca n) sz)) 0 0 (va_A (hHW h0 a ca n) sz) := by
  refine Met.ofW (cc := cX11_tell) (maxL := 5) (ret := (some .int)) (by decide) rfl ?_
  intro p e s m args below meth c s₁ B hml hv
  obtain ⟨rfl, hsz, hP, hK, hD0, hE⟩ := hv
  have hx := B.exec
  have hb := B.bytes
  have hr := B.returns
  have hts := atoms_spec (ws := wc_tell) B.pre
  have hown : s.vm.findClass RX11 = some m.cls := findClass_of_methodNamed B.named
  have hnm : meth.name = "tell" := (name_of_methodNamed B.named B.method).1
  subst hsz
  have hD := hD0.self (sz := s.heap.size)
  generalize hAe : va_A (hHW h0 a ca n) s.heap.size = A at hD ⊢
  have hA : ∀ q : Nat, s.heap.size ≤ q → A q := fun q h => by rw [← hAe]; exact Or.inr h
  have hS : va_S A s.heap s.heap [] := va_S.rf
  have hl := lv_entry ([.ref (h0), .int (x)]) (n := 5) (Nat.le_of_ble_eq_true rfl)
  rw [lg_entry_eq]
  generalize (lg_sl ([.ref (h0), .int (x)]) ++ List.replicate (5 - (lg_sl ([.ref (h0), .int (x)])).length) Slot.unset).toArray = ls at hl ⊢
  have hl : lv_has ls 5 [(0, .ref (h0)), (1, .int (x))] := hl
  have hP : va_P D vwCl [(h0, .inr (11, [.ref (a 0), .ref (a 1), .ref (a 3), .ref (a 5), .ref (a 9), .ref (a 10), .ref (a 11), .ref (a 12), .ref (a 6), .ref (a 13), .ref (a 7), .int (0), .ref (a 8), .int (1000), .int ((-1)), .int ((-1)), .int ((-1)), .int (0), .int (0), .int (0), .int (0)])), (a 0, .inr (7, [.ref (a 14), .ref (a 15), .ref (a 16), .ref (a 17), .ref (a 18), .int (nI n), .int (0), .int (0), .int (0)])), (a 1, .inr (0, [.ref (a 19), .ref (a 20), .ref (a 21), .ref (a 22), .ref (a 23), .int (0), .ref (a 24), .ref (a 25), .ref (a 26), .ref (a 27), .ref (a 28), .ref (a 29), .ref (a 30), .ref (a 31), .ref (a 32), .ref (a 2), .int (0), .ref (a 33), .ref (a 34), .int (0), .int (nI n)])), (a 2, .inl (ca 0, 60, .inl (fun _ => 0))), (a 3, .inr (5, [.ref (a 0), .ref (a 4), .ref (a 35), .ref (a 36), .ref (a 37), .int (0), .int (0), .int (0), .int (0), .int (0), .int ((-1))])), (a 4, .inl (ca 1, 41, .inl (fun _ => 0))), (a 5, .inr (9, [.ref (a 0), .ref (a 38), .ref (a 39), .int (0)])), (a 6, .inr (4, [.ref (a 0), .ref (a 9), .ref (a 11), .ref (a 40), .int (0), .ref (a 41), .int (0), .ref (a 42), .int (0), .ref (a 43), .int (0)])), (a 7, .inl (ca 2, 3000, .inl (fun _ => 0))), (a 8, .inl (ca 3, 5, .inl (fun _ => 0)))] s.heap := hP
  have hD : va_D A [(h0, .inr (11, [.ref (a 0), .ref (a 1), .ref (a 3), .ref (a 5), .ref (a 9), .ref (a 10), .ref (a 11), .ref (a 12), .ref (a 6), .ref (a 13), .ref (a 7), .int (0), .ref (a 8), .int (1000), .int ((-1)), .int ((-1)), .int ((-1)), .int (0), .int (0), .int (0), .int (0)])), (a 0, .inr (7, [.ref (a 14), .ref (a 15), .ref (a 16), .ref (a 17), .ref (a 18), .int (nI n), .int (0), .int (0), .int (0)])), (a 1, .inr (0, [.ref (a 19), .ref (a 20), .ref (a 21), .ref (a 22), .ref (a 23), .int (0), .ref (a 24), .ref (a 25), .ref (a 26), .ref (a 27), .ref (a 28), .ref (a 29), .ref (a 30), .ref (a 31), .ref (a 32), .ref (a 2), .int (0), .ref (a 33), .ref (a 34), .int (0), .int (nI n)])), (a 2, .inl (ca 0, 60, .inl (fun _ => 0))), (a 3, .inr (5, [.ref (a 0), .ref (a 4), .ref (a 35), .ref (a 36), .ref (a 37), .int (0), .int (0), .int (0), .int (0), .int (0), .int ((-1))])), (a 4, .inl (ca 1, 41, .inl (fun _ => 0))), (a 5, .inr (9, [.ref (a 0), .ref (a 38), .ref (a 39), .int (0)])), (a 6, .inr (4, [.ref (a 0), .ref (a 9), .ref (a 11), .ref (a 40), .int (0), .ref (a 41), .int (0), .ref (a 42), .int (0), .ref (a 43), .int (0)])), (a 7, .inl (ca 2, 3000, .inl (fun _ => 0))), (a 8, .inl (ca 3, 5, .inl (fun _ => 0)))] := hD
  have hK : va_K D vwCl [(ca 0, .boolean), (ca 1, .int), (ca 2, .char), (ca 3, .int)] s := hK
  refine lv_iload_n hx hb dX11_tell_0 rfl (lv_at hl 1 rfl) ?_
  refine lv_if_lt hx hb dX11_tell_1 (tgt := 15) rfl (fun h1 => ?_) (fun h1 => ?_)
  · refine lv_iconst hx hb dX11_tell_15 (v := (-1)) rfl ?_
    exact W.iret (v := (-1)) hx hb hr (fun t ht hW => ⟨⟨(-1), (), rfl, rfl, trivial⟩, hS.F ht⟩) hS.2.2 dX11_tell_16
  · refine lv_iload_n hx hb dX11_tell_4 rfl (lv_at hl 1 rfl) ?_
    refine lv_aload_n hx hb dX11_tell_5 rfl (lv_at hl 0 rfl) ?_
    refine va_get (D := D) (ci := 11) (v := .ref (a 1)) (C := RX11) (T := TX11) (N := 21) hx hb hts (fun w h => List.mem_cons_of_mem _ (List.mem_append_left _ (List.mem_append_right _ h))) hown hK hP 0 rfl rfl 1 (by decide) (hts (.fieldLink RX11 27 "ProofHouse" "book" "LProofHouse$Book;") (List.mem_of_getElem? (i := 1) rfl)) (fun _ h9 => h9) rfl dX11_tell_6 ?_
    refine va_getN (D := D) (ci := 0) (v := .int (0)) (C := RX0) (T := TX0) (N := 21) hx hb hts (fun w h => List.mem_cons_of_mem _ (List.mem_append_right _ h)) hown hK hP 2 rfl rfl 19 (by decide) (va_Nw.use rfl hE.2.2.2.2.2.2.1) (fun _ h9 => h9) rfl dX11_tell_9 ?_
    refine lv_icmp_lt hx hb dX11_tell_12 (tgt := 17) rfl (fun h2 => ?_) (fun h2 => ?_)
    · exact absurd h2 h1
    · refine lv_iconst hx hb dX11_tell_15 (v := (-1)) rfl ?_
      exact W.iret (v := (-1)) hx hb hr (fun t ht hW => ⟨⟨(-1), (), rfl, rfl, trivial⟩, hS.F ht⟩) hS.2.2 dX11_tell_16

def wc_recheck : List Cond := .code yX11_recheck cX11_recheck 2 (some .boolean) :: ([Cond.fieldLink RX11 133 "ProofHouse" "proved" "Z"] ++ wsX110)

set_option maxHeartbeats 4000000 in
set_option maxRecDepth 100000 in
/-- recheck -/
theorem h_recheck (l : Launch) (D : va_G) (h0 sz : Nat) (a : Nat → Nat) (ca : Nat → ClassId) (n : Nat)   : Met l yX11_recheck wc_recheck ({ frames := 0, cells := 0, slots := 0, locals := 0 }) (va_Pc [.ref (h0)] (fun U => U.heap.size = sz ∧ va_P D vwCl (hHW h0 a ca n) U.heap ∧ va_K D vwCl (hHT ca) U ∧ va_D (fun _ => True) (hHW h0 a ca n) ∧ hM U)) (va_Qi (fun (r : Int32) (_ : Unit) => r = 0) (fun _ _ => True) (va_A (hHW h0 a ca n) sz)) 0 0 (va_A (hHW h0 a ca n) sz) := by
  refine Met.ofW (cc := cX11_recheck) (maxL := 2) (ret := (some .boolean)) (by decide) rfl ?_
  intro p e s m args below meth c s₁ B hml hv
  obtain ⟨rfl, hsz, hP, hK, hD0, hE⟩ := hv
  have hx := B.exec
  have hb := B.bytes
  have hr := B.returns
  have hts := atoms_spec (ws := wc_recheck) B.pre
  have hown : s.vm.findClass RX11 = some m.cls := findClass_of_methodNamed B.named
  have hnm : meth.name = "recheck" := (name_of_methodNamed B.named B.method).1
  subst hsz
  have hD := hD0.self (sz := s.heap.size)
  generalize hAe : va_A (hHW h0 a ca n) s.heap.size = A at hD ⊢
  have hA : ∀ q : Nat, s.heap.size ≤ q → A q := fun q h => by rw [← hAe]; exact Or.inr h
  have hS : va_S A s.heap s.heap [] := va_S.rf
  have hl := lv_entry ([.ref (h0)]) (n := 2) (Nat.le_of_ble_eq_true rfl)
  rw [lg_entry_eq]
  generalize (lg_sl ([.ref (h0)]) ++ List.replicate (2 - (lg_sl ([.ref (h0)])).length) Slot.unset).toArray = ls at hl ⊢
  have hl : lv_has ls 2 [(0, .ref (h0))] := hl
  have hP : va_P D vwCl [(h0, .inr (11, [.ref (a 0), .ref (a 1), .ref (a 3), .ref (a 5), .ref (a 9), .ref (a 10), .ref (a 11), .ref (a 12), .ref (a 6), .ref (a 13), .ref (a 7), .int (0), .ref (a 8), .int (1000), .int ((-1)), .int ((-1)), .int ((-1)), .int (0), .int (0), .int (0), .int (0)])), (a 0, .inr (7, [.ref (a 14), .ref (a 15), .ref (a 16), .ref (a 17), .ref (a 18), .int (nI n), .int (0), .int (0), .int (0)])), (a 1, .inr (0, [.ref (a 19), .ref (a 20), .ref (a 21), .ref (a 22), .ref (a 23), .int (0), .ref (a 24), .ref (a 25), .ref (a 26), .ref (a 27), .ref (a 28), .ref (a 29), .ref (a 30), .ref (a 31), .ref (a 32), .ref (a 2), .int (0), .ref (a 33), .ref (a 34), .int (0), .int (nI n)])), (a 2, .inl (ca 0, 60, .inl (fun _ => 0))), (a 3, .inr (5, [.ref (a 0), .ref (a 4), .ref (a 35), .ref (a 36), .ref (a 37), .int (0), .int (0), .int (0), .int (0), .int (0), .int ((-1))])), (a 4, .inl (ca 1, 41, .inl (fun _ => 0))), (a 5, .inr (9, [.ref (a 0), .ref (a 38), .ref (a 39), .int (0)])), (a 6, .inr (4, [.ref (a 0), .ref (a 9), .ref (a 11), .ref (a 40), .int (0), .ref (a 41), .int (0), .ref (a 42), .int (0), .ref (a 43), .int (0)])), (a 7, .inl (ca 2, 3000, .inl (fun _ => 0))), (a 8, .inl (ca 3, 5, .inl (fun _ => 0)))] s.heap := hP
  have hD : va_D A [(h0, .inr (11, [.ref (a 0), .ref (a 1), .ref (a 3), .ref (a 5), .ref (a 9), .ref (a 10), .ref (a 11), .ref (a 12), .ref (a 6), .ref (a 13), .ref (a 7), .int (0), .ref (a 8), .int (1000), .int ((-1)), .int ((-1)), .int ((-1)), .int (0), .int (0), .int (0), .int (0)])), (a 0, .inr (7, [.ref (a 14), .ref (a 15), .ref (a 16), .ref (a 17), .ref (a 18), .int (nI n), .int (0), .int (0), .int (0)])), (a 1, .inr (0, [.ref (a 19), .ref (a 20), .ref (a 21), .ref (a 22), .ref (a 23), .int (0), .ref (a 24), .ref (a 25), .ref (a 26), .ref (a 27), .ref (a 28), .ref (a 29), .ref (a 30), .ref (a 31), .ref (a 32), .ref (a 2), .int (0), .ref (a 33), .ref (a 34), .int (0), .int (nI n)])), (a 2, .inl (ca 0, 60, .inl (fun _ => 0))), (a 3, .inr (5, [.ref (a 0), .ref (a 4), .ref (a 35), .ref (a 36), .ref (a 37), .int (0), .int (0), .int (0), .int (0), .int (0), .int ((-1))])), (a 4, .inl (ca 1, 41, .inl (fun _ => 0))), (a 5, .inr (9, [.ref (a 0), .ref (a 38), .ref (a 39), .int (0)])), (a 6, .inr (4, [.ref (a 0), .ref (a 9), .ref (a 11), .ref (a 40), .int (0), .ref (a 41), .int (0), .ref (a 42), .int (0), .ref (a 43), .int (0)])), (a 7, .inl (ca 2, 3000, .inl (fun _ => 0))), (a 8, .inl (ca 3, 5, .inl (fun _ => 0)))] := hD
  have hK : va_K D vwCl [(ca 0, .boolean), (ca 1, .int), (ca 2, .char), (ca 3, .int)] s := hK
  refine lv_aload_n hx hb dX11_recheck_0 rfl (lv_at hl 0 rfl) ?_
  refine va_get (D := D) (ci := 11) (v := .int (0)) (C := RX11) (T := TX11) (N := 21) hx hb hts (fun w h => List.mem_cons_of_mem _ (List.mem_append_right _ h)) hown hK hP 0 rfl rfl 20 (by decide) (hts (.fieldLink RX11 133 "ProofHouse" "proved" "Z") (List.mem_of_getElem? (i := 1) rfl)) (fun _ h9 => h9) rfl dX11_recheck_1 ?_
  refine lv_if_ne hx hb dX11_recheck_4 (tgt := 9) rfl (fun h1 => ?_) (fun h1 => ?_)
  · exact absurd rfl h1
  · refine lv_iconst hx hb dX11_recheck_7 (v := 0) rfl ?_
    exact W.zret (v := 0) hx hb hr rfl (fun t ht hW => ⟨⟨0, (), rfl, rfl, trivial⟩, hS.F ht⟩) hS.2.2 dX11_recheck_8

set_option maxHeartbeats 4000000 in
set_option maxRecDepth 100000 in
/-- fault -/
theorem h_fault (l : Launch) (D : va_G) (h0 sz : Nat) (a : Nat → Nat) (ca : Nat → ClassId) (n : Nat) (x : Int32)  : Met l yX11_fault wsX11_fault ({ frames := 0, cells := 0, slots := 0, locals := 0 }) (va_Pc [.ref (h0), .int (x)] (fun U => U.heap.size = sz ∧ va_P D vwCl (hHW h0 a ca n) U.heap ∧ va_K D vwCl (hHT ca) U ∧ va_D (fun _ => True) (hHW h0 a ca n) ∧ hM U)) (va_Qi (fun (r : Int32) (_ : Unit) => r = if x = 0 then 0 else if x = 1 then -1 else if x = 2 then 0 else -1) (fun _ _ => True) (va_A (hHW h0 a ca n) sz)) 0 0 (va_A (hHW h0 a ca n) sz) := by
  refine Met.ofW (cc := cX11_fault) (maxL := 2) (ret := (some .int)) (by decide) rfl ?_
  intro p e s m args below meth c s₁ B hml hv
  obtain ⟨rfl, hsz, hP, hK, hD0, hE⟩ := hv
  have hx := B.exec
  have hb := B.bytes
  have hr := B.returns
  have hts := atoms_spec (ws := wsX11_fault) B.pre
  have hown : s.vm.findClass RX11 = some m.cls := findClass_of_methodNamed B.named
  have hnm : meth.name = "fault" := (name_of_methodNamed B.named B.method).1
  subst hsz
  have hD := hD0.self (sz := s.heap.size)
  generalize hAe : va_A (hHW h0 a ca n) s.heap.size = A at hD ⊢
  have hA : ∀ q : Nat, s.heap.size ≤ q → A q := fun q h => by rw [← hAe]; exact Or.inr h
  have hS : va_S A s.heap s.heap [] := va_S.rf
  have hl := lv_entry ([.ref (h0), .int (x)]) (n := 2) (Nat.le_of_ble_eq_true rfl)
  rw [lg_entry_eq]
  generalize (lg_sl ([.ref (h0), .int (x)]) ++ List.replicate (2 - (lg_sl ([.ref (h0), .int (x)])).length) Slot.unset).toArray = ls at hl ⊢
  have hl : lv_has ls 2 [(0, .ref (h0)), (1, .int (x))] := hl
  have hP : va_P D vwCl [(h0, .inr (11, [.ref (a 0), .ref (a 1), .ref (a 3), .ref (a 5), .ref (a 9), .ref (a 10), .ref (a 11), .ref (a 12), .ref (a 6), .ref (a 13), .ref (a 7), .int (0), .ref (a 8), .int (1000), .int ((-1)), .int ((-1)), .int ((-1)), .int (0), .int (0), .int (0), .int (0)])), (a 0, .inr (7, [.ref (a 14), .ref (a 15), .ref (a 16), .ref (a 17), .ref (a 18), .int (nI n), .int (0), .int (0), .int (0)])), (a 1, .inr (0, [.ref (a 19), .ref (a 20), .ref (a 21), .ref (a 22), .ref (a 23), .int (0), .ref (a 24), .ref (a 25), .ref (a 26), .ref (a 27), .ref (a 28), .ref (a 29), .ref (a 30), .ref (a 31), .ref (a 32), .ref (a 2), .int (0), .ref (a 33), .ref (a 34), .int (0), .int (nI n)])), (a 2, .inl (ca 0, 60, .inl (fun _ => 0))), (a 3, .inr (5, [.ref (a 0), .ref (a 4), .ref (a 35), .ref (a 36), .ref (a 37), .int (0), .int (0), .int (0), .int (0), .int (0), .int ((-1))])), (a 4, .inl (ca 1, 41, .inl (fun _ => 0))), (a 5, .inr (9, [.ref (a 0), .ref (a 38), .ref (a 39), .int (0)])), (a 6, .inr (4, [.ref (a 0), .ref (a 9), .ref (a 11), .ref (a 40), .int (0), .ref (a 41), .int (0), .ref (a 42), .int (0), .ref (a 43), .int (0)])), (a 7, .inl (ca 2, 3000, .inl (fun _ => 0))), (a 8, .inl (ca 3, 5, .inl (fun _ => 0)))] s.heap := hP
  have hD : va_D A [(h0, .inr (11, [.ref (a 0), .ref (a 1), .ref (a 3), .ref (a 5), .ref (a 9), .ref (a 10), .ref (a 11), .ref (a 12), .ref (a 6), .ref (a 13), .ref (a 7), .int (0), .ref (a 8), .int (1000), .int ((-1)), .int ((-1)), .int ((-1)), .int (0), .int (0), .int (0), .int (0)])), (a 0, .inr (7, [.ref (a 14), .ref (a 15), .ref (a 16), .ref (a 17), .ref (a 18), .int (nI n), .int (0), .int (0), .int (0)])), (a 1, .inr (0, [.ref (a 19), .ref (a 20), .ref (a 21), .ref (a 22), .ref (a 23), .int (0), .ref (a 24), .ref (a 25), .ref (a 26), .ref (a 27), .ref (a 28), .ref (a 29), .ref (a 30), .ref (a 31), .ref (a 32), .ref (a 2), .int (0), .ref (a 33), .ref (a 34), .int (0), .int (nI n)])), (a 2, .inl (ca 0, 60, .inl (fun _ => 0))), (a 3, .inr (5, [.ref (a 0), .ref (a 4), .ref (a 35), .ref (a 36), .ref (a 37), .int (0), .int (0), .int (0), .int (0), .int (0), .int ((-1))])), (a 4, .inl (ca 1, 41, .inl (fun _ => 0))), (a 5, .inr (9, [.ref (a 0), .ref (a 38), .ref (a 39), .int (0)])), (a 6, .inr (4, [.ref (a 0), .ref (a 9), .ref (a 11), .ref (a 40), .int (0), .ref (a 41), .int (0), .ref (a 42), .int (0), .ref (a 43), .int (0)])), (a 7, .inl (ca 2, 3000, .inl (fun _ => 0))), (a 8, .inl (ca 3, 5, .inl (fun _ => 0)))] := hD
  have hK : va_K D vwCl [(ca 0, .boolean), (ca 1, .int), (ca 2, .char), (ca 3, .int)] s := hK
  refine lv_iload_n hx hb dX11_fault_0 rfl (lv_at hl 1 rfl) ?_
  by_cases k1 : x = 0
  · refine lv_tableIn (off := 27) (tgt := 28) hx hb dX11_fault_1 (by rw [k1]; decide) (by rw [k1]; decide) (by rw [k1]; rfl) rfl ?_
    refine lv_aload_n hx hb dX11_fault_28 rfl (lv_at hl 0 rfl) ?_
    refine va_get (D := D) (ci := 11) (v := .ref (a 3)) (C := RX11) (T := TX11) (N := 21) hx hb hts (fun w h => List.mem_cons_of_mem _ (List.mem_append_left _ (List.mem_append_right _ h))) hown hK hP 0 rfl rfl 2 (by decide) (hts (.fieldLink RX11 36 "ProofHouse" "reader" "LProofHouse$Reader;") (List.mem_of_getElem? (i := 1) rfl)) (fun _ h9 => h9) rfl dX11_fault_29 ?_
    refine va_getN (D := D) (ci := 5) (v := .int (0)) (C := RX5) (T := TX5) (N := 11) hx hb hts (fun w h => List.mem_cons_of_mem _ (List.mem_append_right _ h)) hown hK hP 4 rfl rfl 9 (by decide) (va_Nw.use rfl hE.1) (fun _ h9 => h9) rfl dX11_fault_32 ?_
    exact W.iret (v := 0) hx hb hr (fun t ht hW => ⟨⟨0, (), rfl, (by rw [if_pos k1]), trivial⟩, hS.F ht⟩) hS.2.2 dX11_fault_35
  by_cases k2 : x = 1
  · refine lv_tableIn (off := 35) (tgt := 36) hx hb dX11_fault_1 (by rw [k2]; decide) (by rw [k2]; decide) (by rw [k2]; rfl) rfl ?_
    refine lv_aload_n hx hb dX11_fault_36 rfl (lv_at hl 0 rfl) ?_
    refine va_get (D := D) (ci := 11) (v := .ref (a 3)) (C := RX11) (T := TX11) (N := 21) hx hb hts (fun w h => List.mem_cons_of_mem _ (List.mem_append_left _ (List.mem_append_right _ h))) hown hK hP 0 rfl rfl 2 (by decide) (hts (.fieldLink RX11 36 "ProofHouse" "reader" "LProofHouse$Reader;") (List.mem_of_getElem? (i := 1) rfl)) (fun _ h9 => h9) rfl dX11_fault_37 ?_
    refine va_getN (D := D) (ci := 5) (v := .int ((-1))) (C := RX5) (T := TX5) (N := 11) hx hb hts (fun w h => List.mem_cons_of_mem _ (List.mem_append_right _ h)) hown hK hP 4 rfl rfl 10 (by decide) (va_Nw.use rfl hE.2.1) (fun _ h9 => h9) rfl dX11_fault_40 ?_
    exact W.iret (v := (-1)) hx hb hr (fun t ht hW => ⟨⟨(-1), (), rfl, (by rw [if_neg k1, if_pos k2]), trivial⟩, hS.F ht⟩) hS.2.2 dX11_fault_43
  by_cases k3 : x = 2
  · refine lv_tableIn (off := 43) (tgt := 44) hx hb dX11_fault_1 (by rw [k3]; decide) (by rw [k3]; decide) (by rw [k3]; rfl) rfl ?_
    refine lv_aload_n hx hb dX11_fault_44 rfl (lv_at hl 0 rfl) ?_
    refine va_get (D := D) (ci := 11) (v := .int (0)) (C := RX11) (T := TX11) (N := 21) hx hb hts (fun w h => List.mem_cons_of_mem _ (List.mem_append_left _ (List.mem_append_right _ h))) hown hK hP 0 rfl rfl 19 (by decide) (hts (.fieldLink RX11 130 "ProofHouse" "workFault" "I") (List.mem_of_getElem? (i := 2) rfl)) (fun _ h9 => h9) rfl dX11_fault_45 ?_
    exact W.iret (v := 0) hx hb hr (fun t ht hW => ⟨⟨0, (), rfl, (by rw [if_neg k1, if_neg k2, if_pos k3]), trivial⟩, hS.F ht⟩) hS.2.2 dX11_fault_48
  refine lv_tableOut (tgt := 49) hx hb dX11_fault_1 (t_out (hi := 2) 0 (fun k hk => by rcases (show k = 0 ∨ k = 1 ∨ k = 2 by omega) with rfl | rfl | rfl <;> assumption) (by decide) rfl) rfl ?_
  refine lv_iconst hx hb dX11_fault_49 (v := (-1)) rfl ?_
  exact W.iret (v := (-1)) hx hb hr (fun t ht hW => ⟨⟨(-1), (), rfl, (by rw [if_neg k1, if_neg k2, if_neg k3]), trivial⟩, hS.F ht⟩) hS.2.2 dX11_fault_50

set_option maxHeartbeats 4000000 in
set_option maxRecDepth 100000 in
/-- rules -/
theorem h_rules (l : Launch) (D : va_G) (h0 sz : Nat) (b : Nat → Nat) (kp z : Int32)  : Met l yX0_rules wsX0_rules ({ frames := 0, cells := 0, slots := 0, locals := 0 }) (va_Pc [.ref (h0), .int (z)] (fun U => U.heap.size = sz ∧ va_P D vwCl [(h0, .inr (0, [.ref (b 0), .ref (b 1), .ref (b 2), .ref (b 3), .ref (b 4), .int (0), .ref (b 6), .ref (b 7), .ref (b 8), .ref (b 9), .ref (b 10), .ref (b 11), .ref (b 12), .ref (b 13), .ref (b 14), .ref (b 15), .int (0), .ref (b 17), .ref (b 18), .int (0), .int (kp)]))] U.heap ∧ va_K D vwCl [] U ∧ va_D (fun _ => True) [(h0, .inr (0, [.ref (b 0), .ref (b 1), .ref (b 2), .ref (b 3), .ref (b 4), .int (0), .ref (b 6), .ref (b 7), .ref (b 8), .ref (b 9), .ref (b 10), .ref (b 11), .ref (b 12), .ref (b 13), .ref (b 14), .ref (b 15), .int (0), .ref (b 17), .ref (b 18), .int (0), .int (kp)]))])) (va_Qi (fun (r : Int32) (_ : Unit) => r = 0) (fun _ _ => True) (va_A [(h0, .inr (0, [.ref (b 0), .ref (b 1), .ref (b 2), .ref (b 3), .ref (b 4), .int (0), .ref (b 6), .ref (b 7), .ref (b 8), .ref (b 9), .ref (b 10), .ref (b 11), .ref (b 12), .ref (b 13), .ref (b 14), .ref (b 15), .int (0), .ref (b 17), .ref (b 18), .int (0), .int (kp)]))] sz)) 0 0 (va_A [(h0, .inr (0, [.ref (b 0), .ref (b 1), .ref (b 2), .ref (b 3), .ref (b 4), .int (0), .ref (b 6), .ref (b 7), .ref (b 8), .ref (b 9), .ref (b 10), .ref (b 11), .ref (b 12), .ref (b 13), .ref (b 14), .ref (b 15), .int (0), .ref (b 17), .ref (b 18), .int (0), .int (kp)]))] sz) := by
  refine Met.ofW (cc := cX0_rules) (maxL := 4) (ret := (some .int)) (by decide) rfl ?_
  intro p e s m args below meth c s₁ B hml hv
  obtain ⟨rfl, hsz, hP, hK, hD0⟩ := hv
  have hx := B.exec
  have hb := B.bytes
  have hr := B.returns
  have hts := atoms_spec (ws := wsX0_rules) B.pre
  have hown : s.vm.findClass RX0 = some m.cls := findClass_of_methodNamed B.named
  have hnm : meth.name = "rules" := (name_of_methodNamed B.named B.method).1
  subst hsz
  have hD := hD0.self (sz := s.heap.size)
  generalize hAe : va_A ([(h0, .inr (0, [.ref (b 0), .ref (b 1), .ref (b 2), .ref (b 3), .ref (b 4), .int (0), .ref (b 6), .ref (b 7), .ref (b 8), .ref (b 9), .ref (b 10), .ref (b 11), .ref (b 12), .ref (b 13), .ref (b 14), .ref (b 15), .int (0), .ref (b 17), .ref (b 18), .int (0), .int (kp)]))]) s.heap.size = A at hD ⊢
  have hA : ∀ q : Nat, s.heap.size ≤ q → A q := fun q h => by rw [← hAe]; exact Or.inr h
  have hS : va_S A s.heap s.heap [] := va_S.rf
  have hl := lv_entry ([.ref (h0), .int (z)]) (n := 4) (Nat.le_of_ble_eq_true rfl)
  rw [lg_entry_eq]
  generalize (lg_sl ([.ref (h0), .int (z)]) ++ List.replicate (4 - (lg_sl ([.ref (h0), .int (z)])).length) Slot.unset).toArray = ls at hl ⊢
  have hl : lv_has ls 4 [(0, .ref (h0)), (1, .int (z))] := hl
  refine lv_iconst hx hb dX0_rules_0 (v := 0) rfl ?_
  refine lv_istore_n hx hb dX0_rules_1 rfl hl (by decide) rfl (fun ls hl => ?_)
  have hl : lv_has ls 4 [(2, .int (0)), (0, .ref (h0)), (1, .int (z))] := hl
  refine lv_iconst hx hb dX0_rules_2 (v := 0) rfl ?_
  refine lv_istore_n hx hb dX0_rules_3 rfl hl (by decide) rfl (fun ls hl => ?_)
  have hl : lv_has ls 4 [(3, .int (0)), (2, .int (0)), (0, .ref (h0)), (1, .int (z))] := hl
  refine lv_iload_n hx hb dX0_rules_4 rfl (lv_at hl 0 rfl) ?_
  refine lv_aload_n hx hb dX0_rules_5 rfl (lv_at hl 2 rfl) ?_
  refine va_get (D := D) (ci := 0) (v := .int (0)) (C := RX0) (T := TX0) (N := 21) hx hb hts (fun w h => List.mem_cons_of_mem _ (List.mem_append_right _ h)) hown hK hP 0 rfl rfl 16 (by decide) (hts (.fieldLink RX0 64 "ProofHouse$Book" "theorems" "I") (List.mem_of_getElem? (i := 1) rfl)) (fun _ h9 => h9) rfl dX0_rules_6 ?_
  refine lv_icmp_ge hx hb dX0_rules_9 (tgt := 49) rfl (fun h1 => ?_) (fun h1 => ?_)
  · refine lv_iload_n hx hb dX0_rules_49 rfl (lv_at hl 1 rfl) ?_
    exact W.iret (v := 0) hx hb hr (fun t ht hW => ⟨⟨0, (), rfl, rfl, trivial⟩, hS.F ht⟩) hS.2.2 dX0_rules_50
  · exact absurd (Int32.le_refl 0) h1

set_option maxHeartbeats 4000000 in
set_option maxRecDepth 100000 in
/-- count -/
theorem h_count (l : Launch) (D : va_G) (h0 sz : Nat) (a : Nat → Nat) (ca : Nat → ClassId) (n : Nat) (x : Int32)  : Met l yX11_count wsX11_count ({ frames := 1, cells := 0, slots := 0, locals := 30 }) (va_Pc [.ref (h0), .int (x)] (fun U => U.heap.size = sz ∧ va_P D vwCl (hHW h0 a ca n) U.heap ∧ va_K D vwCl (hHT ca) U ∧ va_D (fun _ => True) (hHW h0 a ca n) ∧ hM U)) (va_Qi (fun (r : Int32) (_ : Unit) => r = if x = 0 then 0 else if x = 1 then 0 else if x = 2 then 0 else if x = 3 then 0 else if x = 4 then 0 else -1) (fun _ _ => True) (va_A (hHW h0 a ca n) sz)) 0 0 (va_A (hHW h0 a ca n) sz) := by
  refine Met.ofW (cc := cX11_count) (maxL := 2) (ret := (some .int)) (by decide) rfl ?_
  intro p e s m args below meth c s₁ B hml hv
  obtain ⟨rfl, hsz, hP, hK, hD0, hE⟩ := hv
  have hx := B.exec
  have hb := B.bytes
  have hr := B.returns
  have hts := atoms_spec (ws := wsX11_count) B.pre
  have hown : s.vm.findClass RX11 = some m.cls := findClass_of_methodNamed B.named
  have hnm : meth.name = "count" := (name_of_methodNamed B.named B.method).1
  subst hsz
  have hD := hD0.self (sz := s.heap.size)
  generalize hAe : va_A (hHW h0 a ca n) s.heap.size = A at hD ⊢
  have hA : ∀ q : Nat, s.heap.size ≤ q → A q := fun q h => by rw [← hAe]; exact Or.inr h
  have hS : va_S A s.heap s.heap [] := va_S.rf
  have hl := lv_entry ([.ref (h0), .int (x)]) (n := 2) (Nat.le_of_ble_eq_true rfl)
  rw [lg_entry_eq]
  generalize (lg_sl ([.ref (h0), .int (x)]) ++ List.replicate (2 - (lg_sl ([.ref (h0), .int (x)])).length) Slot.unset).toArray = ls at hl ⊢
  have hl : lv_has ls 2 [(0, .ref (h0)), (1, .int (x))] := hl
  have hP : va_P D vwCl [(h0, .inr (11, [.ref (a 0), .ref (a 1), .ref (a 3), .ref (a 5), .ref (a 9), .ref (a 10), .ref (a 11), .ref (a 12), .ref (a 6), .ref (a 13), .ref (a 7), .int (0), .ref (a 8), .int (1000), .int ((-1)), .int ((-1)), .int ((-1)), .int (0), .int (0), .int (0), .int (0)])), (a 0, .inr (7, [.ref (a 14), .ref (a 15), .ref (a 16), .ref (a 17), .ref (a 18), .int (nI n), .int (0), .int (0), .int (0)])), (a 1, .inr (0, [.ref (a 19), .ref (a 20), .ref (a 21), .ref (a 22), .ref (a 23), .int (0), .ref (a 24), .ref (a 25), .ref (a 26), .ref (a 27), .ref (a 28), .ref (a 29), .ref (a 30), .ref (a 31), .ref (a 32), .ref (a 2), .int (0), .ref (a 33), .ref (a 34), .int (0), .int (nI n)])), (a 2, .inl (ca 0, 60, .inl (fun _ => 0))), (a 3, .inr (5, [.ref (a 0), .ref (a 4), .ref (a 35), .ref (a 36), .ref (a 37), .int (0), .int (0), .int (0), .int (0), .int (0), .int ((-1))])), (a 4, .inl (ca 1, 41, .inl (fun _ => 0))), (a 5, .inr (9, [.ref (a 0), .ref (a 38), .ref (a 39), .int (0)])), (a 6, .inr (4, [.ref (a 0), .ref (a 9), .ref (a 11), .ref (a 40), .int (0), .ref (a 41), .int (0), .ref (a 42), .int (0), .ref (a 43), .int (0)])), (a 7, .inl (ca 2, 3000, .inl (fun _ => 0))), (a 8, .inl (ca 3, 5, .inl (fun _ => 0)))] s.heap := hP
  have hD : va_D A [(h0, .inr (11, [.ref (a 0), .ref (a 1), .ref (a 3), .ref (a 5), .ref (a 9), .ref (a 10), .ref (a 11), .ref (a 12), .ref (a 6), .ref (a 13), .ref (a 7), .int (0), .ref (a 8), .int (1000), .int ((-1)), .int ((-1)), .int ((-1)), .int (0), .int (0), .int (0), .int (0)])), (a 0, .inr (7, [.ref (a 14), .ref (a 15), .ref (a 16), .ref (a 17), .ref (a 18), .int (nI n), .int (0), .int (0), .int (0)])), (a 1, .inr (0, [.ref (a 19), .ref (a 20), .ref (a 21), .ref (a 22), .ref (a 23), .int (0), .ref (a 24), .ref (a 25), .ref (a 26), .ref (a 27), .ref (a 28), .ref (a 29), .ref (a 30), .ref (a 31), .ref (a 32), .ref (a 2), .int (0), .ref (a 33), .ref (a 34), .int (0), .int (nI n)])), (a 2, .inl (ca 0, 60, .inl (fun _ => 0))), (a 3, .inr (5, [.ref (a 0), .ref (a 4), .ref (a 35), .ref (a 36), .ref (a 37), .int (0), .int (0), .int (0), .int (0), .int (0), .int ((-1))])), (a 4, .inl (ca 1, 41, .inl (fun _ => 0))), (a 5, .inr (9, [.ref (a 0), .ref (a 38), .ref (a 39), .int (0)])), (a 6, .inr (4, [.ref (a 0), .ref (a 9), .ref (a 11), .ref (a 40), .int (0), .ref (a 41), .int (0), .ref (a 42), .int (0), .ref (a 43), .int (0)])), (a 7, .inl (ca 2, 3000, .inl (fun _ => 0))), (a 8, .inl (ca 3, 5, .inl (fun _ => 0)))] := hD
  have hK : va_K D vwCl [(ca 0, .boolean), (ca 1, .int), (ca 2, .char), (ca 3, .int)] s := hK
  refine lv_iload_n hx hb dX11_count_0 rfl (lv_at hl 1 rfl) ?_
  by_cases k1 : x = 0
  · refine lv_tableIn (off := 35) (tgt := 36) hx hb dX11_count_1 (by rw [k1]; decide) (by rw [k1]; decide) (by rw [k1]; rfl) rfl ?_
    refine lv_aload_n hx hb dX11_count_36 rfl (lv_at hl 0 rfl) ?_
    refine va_get (D := D) (ci := 11) (v := .ref (a 1)) (C := RX11) (T := TX11) (N := 21) hx hb hts (fun w h => List.mem_cons_of_mem _ (List.mem_append_left _ (List.mem_append_left _ (List.mem_append_right _ h)))) hown hK hP 0 rfl rfl 1 (by decide) (hts (.fieldLink RX11 27 "ProofHouse" "book" "LProofHouse$Book;") (List.mem_of_getElem? (i := 1) rfl)) (fun _ h9 => h9) rfl dX11_count_37 ?_
    refine va_getN (D := D) (ci := 0) (v := .int (0)) (C := RX0) (T := TX0) (N := 21) hx hb hts (fun w h => List.mem_cons_of_mem _ (List.mem_append_left _ (List.mem_append_right _ h))) hown hK hP 2 rfl rfl 5 (by decide) (va_Nw.use rfl hE.2.2.1) (fun _ h9 => h9) rfl dX11_count_40 ?_
    exact W.iret (v := 0) hx hb hr (fun t ht hW => ⟨⟨0, (), rfl, (by rw [if_pos k1]), trivial⟩, hS.F ht⟩) hS.2.2 dX11_count_43
  by_cases k2 : x = 1
  · refine lv_tableIn (off := 43) (tgt := 44) hx hb dX11_count_1 (by rw [k2]; decide) (by rw [k2]; decide) (by rw [k2]; rfl) rfl ?_
    refine lv_aload_n hx hb dX11_count_44 rfl (lv_at hl 0 rfl) ?_
    refine va_get (D := D) (ci := 11) (v := .ref (a 1)) (C := RX11) (T := TX11) (N := 21) hx hb hts (fun w h => List.mem_cons_of_mem _ (List.mem_append_left _ (List.mem_append_left _ (List.mem_append_right _ h)))) hown hK hP 0 rfl rfl 1 (by decide) (hts (.fieldLink RX11 27 "ProofHouse" "book" "LProofHouse$Book;") (List.mem_of_getElem? (i := 1) rfl)) (fun _ h9 => h9) rfl dX11_count_45 ?_
    refine va_getN (D := D) (ci := 0) (v := .int (0)) (C := RX0) (T := TX0) (N := 21) hx hb hts (fun w h => List.mem_cons_of_mem _ (List.mem_append_left _ (List.mem_append_right _ h))) hown hK hP 2 rfl rfl 16 (by decide) (va_Nw.use rfl hE.2.2.2.1) (fun _ h9 => h9) rfl dX11_count_48 ?_
    exact W.iret (v := 0) hx hb hr (fun t ht hW => ⟨⟨0, (), rfl, (by rw [if_neg k1, if_pos k2]), trivial⟩, hS.F ht⟩) hS.2.2 dX11_count_51
  by_cases k3 : x = 2
  · refine lv_tableIn (off := 51) (tgt := 52) hx hb dX11_count_1 (by rw [k3]; decide) (by rw [k3]; decide) (by rw [k3]; rfl) rfl ?_
    refine lv_aload_n hx hb dX11_count_52 rfl (lv_at hl 0 rfl) ?_
    refine va_get (D := D) (ci := 11) (v := .ref (a 1)) (C := RX11) (T := TX11) (N := 21) hx hb hts (fun w h => List.mem_cons_of_mem _ (List.mem_append_left _ (List.mem_append_left _ (List.mem_append_right _ h)))) hown hK hP 0 rfl rfl 1 (by decide) (hts (.fieldLink RX11 27 "ProofHouse" "book" "LProofHouse$Book;") (List.mem_of_getElem? (i := 1) rfl)) (fun _ h9 => h9) rfl dX11_count_53 ?_
    refine lv_iconst hx hb dX11_count_56 (v := 0) rfl ?_
    have hPc := hP.sub (ws' := [(a 1, .inr (0, [.ref (a 19), .ref (a 20), .ref (a 21), .ref (a 22), .ref (a 23), .int (0), .ref (a 24), .ref (a 25), .ref (a 26), .ref (a 27), .ref (a 28), .ref (a 29), .ref (a 30), .ref (a 31), .ref (a 32), .ref (a 2), .int (0), .ref (a 33), .ref (a 34), .int (0), .int (nI n)]))]) [2] rfl
    have hDc := hD.sub (ws' := [(a 1, .inr (0, [.ref (a 19), .ref (a 20), .ref (a 21), .ref (a 22), .ref (a 23), .int (0), .ref (a 24), .ref (a 25), .ref (a 26), .ref (a 27), .ref (a 28), .ref (a 29), .ref (a 30), .ref (a 31), .ref (a 32), .ref (a 2), .int (0), .ref (a 33), .ref (a 34), .int (0), .int (nI n)]))]) [2] (by decide) rfl
    have hKc := hK.sub (tys' := []) [] rfl
    have hFc := va_free (wc := [(a 1, .inr (0, [.ref (a 19), .ref (a 20), .ref (a 21), .ref (a 22), .ref (a 23), .int (0), .ref (a 24), .ref (a 25), .ref (a 26), .ref (a 27), .ref (a 28), .ref (a 29), .ref (a 30), .ref (a 31), .ref (a 32), .ref (a 2), .int (0), .ref (a 33), .ref (a 34), .int (0), .int (nI n)]))]) hD hS hA [2] rfl
    refine va_calli (va_runV (As := [.int (0)]) (rest := []) ⟨hx, hb, hml, hown, hts⟩ (h_rules l D (a 1) s.heap.size (fun k => ([a 19, a 20, a 21, a 22, a 23, 0, a 24, a 25, a 26, a 27, a 28, a 29, a 30, a 31, a 32, a 2, 0, a 33, a 34, 0, 0] : List Nat).getD k 0) (nI n) 0) (cwV 1 hts gX11_count_X0_rules rfl rfl rfl (by decide +kernel) ⟨Nat.le_of_ble_eq_true rfl, Nat.le_of_ble_eq_true rfl⟩) ⟨fun a U g mk q => by obtain ⟨q0, q1, qP, qK, qD⟩ := q; exact ⟨q0, q1, qP, va_K.moved (u := U) (U := U.calling g mk a) (Vm.Alike.refl U.vm) qK, qD⟩, va_recv hK hP (ci := 0) (q0 := 2) rfl rfl, fun U hU hW => ⟨rfl, by rw [hU], by rw [hU]; exact hPc, va_K.moved hW.alike hKc, hDc.weaken (fun _ _ _ _ => trivial)⟩⟩ rfl rfl hl.1 rfl (lv_room (Nat.le_of_ble_eq_true rfl)) dX11_count_57 ⟨Nat.le_of_ble_eq_true rfl, Nat.le_of_ble_eq_true rfl⟩) hS (fun q _ h => hFc q h) hFc ?_
    intro r5 u4 t H6 lo1 ht hvm hwu4 hB hz1 hk1 hS1
    subst hwu4
    have hP1 : va_P D vwCl [] H6 := p_nil
    have hD1 : va_D (va_A [(a 1, .inr (0, [.ref (a 19), .ref (a 20), .ref (a 21), .ref (a 22), .ref (a 23), .int (0), .ref (a 24), .ref (a 25), .ref (a 26), .ref (a 27), .ref (a 28), .ref (a 29), .ref (a 30), .ref (a 31), .ref (a 32), .ref (a 2), .int (0), .ref (a 33), .ref (a 34), .int (0), .int (nI n)]))] s.heap.size) [] := d_nil
    obtain ⟨hP, hD⟩ := va_join (wr := [(h0, .inr (11, [.ref (a 0), .ref (a 1), .ref (a 3), .ref (a 5), .ref (a 9), .ref (a 10), .ref (a 11), .ref (a 12), .ref (a 6), .ref (a 13), .ref (a 7), .int (0), .ref (a 8), .int (1000), .int ((-1)), .int ((-1)), .int ((-1)), .int (0), .int (0), .int (0), .int (0)])), (a 0, .inr (7, [.ref (a 14), .ref (a 15), .ref (a 16), .ref (a 17), .ref (a 18), .int (nI n), .int (0), .int (0), .int (0)])), (a 2, .inl (ca 0, 60, .inl (fun _ => 0))), (a 3, .inr (5, [.ref (a 0), .ref (a 4), .ref (a 35), .ref (a 36), .ref (a 37), .int (0), .int (0), .int (0), .int (0), .int (0), .int ((-1))])), (a 4, .inl (ca 1, 41, .inl (fun _ => 0))), (a 5, .inr (9, [.ref (a 0), .ref (a 38), .ref (a 39), .int (0)])), (a 6, .inr (4, [.ref (a 0), .ref (a 9), .ref (a 11), .ref (a 40), .int (0), .ref (a 41), .int (0), .ref (a 42), .int (0), .ref (a 43), .int (0)])), (a 7, .inl (ca 2, 3000, .inl (fun _ => 0))), (a 8, .inl (ca 3, 5, .inl (fun _ => 0)))]) (w1 := []) hP hD [2] [0, 1, 3, 4, 5, 6, 7, 8, 9] rfl rfl (by decide) (by decide) hk1 hFc hP1 hD1
    have hK := hK.sub (tys' := [(ca 0, .boolean), (ca 1, .int), (ca 2, .char), (ca 3, .int)]) [0, 1, 2, 3] rfl
    have hS := hS1
    clear hS1 hP1 hD1 hFc hKc hDc hPc hz1 hk1
    have hP : va_P D vwCl [(h0, .inr (11, [.ref (a 0), .ref (a 1), .ref (a 3), .ref (a 5), .ref (a 9), .ref (a 10), .ref (a 11), .ref (a 12), .ref (a 6), .ref (a 13), .ref (a 7), .int (0), .ref (a 8), .int (1000), .int ((-1)), .int ((-1)), .int ((-1)), .int (0), .int (0), .int (0), .int (0)])), (a 0, .inr (7, [.ref (a 14), .ref (a 15), .ref (a 16), .ref (a 17), .ref (a 18), .int (nI n), .int (0), .int (0), .int (0)])), (a 2, .inl (ca 0, 60, .inl (fun _ => 0))), (a 3, .inr (5, [.ref (a 0), .ref (a 4), .ref (a 35), .ref (a 36), .ref (a 37), .int (0), .int (0), .int (0), .int (0), .int (0), .int ((-1))])), (a 4, .inl (ca 1, 41, .inl (fun _ => 0))), (a 5, .inr (9, [.ref (a 0), .ref (a 38), .ref (a 39), .int (0)])), (a 6, .inr (4, [.ref (a 0), .ref (a 9), .ref (a 11), .ref (a 40), .int (0), .ref (a 41), .int (0), .ref (a 42), .int (0), .ref (a 43), .int (0)])), (a 7, .inl (ca 2, 3000, .inl (fun _ => 0))), (a 8, .inl (ca 3, 5, .inl (fun _ => 0)))] H6 := hP
    have hD : va_D A [(h0, .inr (11, [.ref (a 0), .ref (a 1), .ref (a 3), .ref (a 5), .ref (a 9), .ref (a 10), .ref (a 11), .ref (a 12), .ref (a 6), .ref (a 13), .ref (a 7), .int (0), .ref (a 8), .int (1000), .int ((-1)), .int ((-1)), .int ((-1)), .int (0), .int (0), .int (0), .int (0)])), (a 0, .inr (7, [.ref (a 14), .ref (a 15), .ref (a 16), .ref (a 17), .ref (a 18), .int (nI n), .int (0), .int (0), .int (0)])), (a 2, .inl (ca 0, 60, .inl (fun _ => 0))), (a 3, .inr (5, [.ref (a 0), .ref (a 4), .ref (a 35), .ref (a 36), .ref (a 37), .int (0), .int (0), .int (0), .int (0), .int (0), .int ((-1))])), (a 4, .inl (ca 1, 41, .inl (fun _ => 0))), (a 5, .inr (9, [.ref (a 0), .ref (a 38), .ref (a 39), .int (0)])), (a 6, .inr (4, [.ref (a 0), .ref (a 9), .ref (a 11), .ref (a 40), .int (0), .ref (a 41), .int (0), .ref (a 42), .int (0), .ref (a 43), .int (0)])), (a 7, .inl (ca 2, 3000, .inl (fun _ => 0))), (a 8, .inl (ca 3, 5, .inl (fun _ => 0)))] := hD
    have hK : va_K D vwCl [(ca 0, .boolean), (ca 1, .int), (ca 2, .char), (ca 3, .int)] s := hK
    exact W.iret (v := 0) hx hb hr (fun t ht hW => ⟨⟨0, (), rfl, (by rw [if_neg k1, if_neg k2, if_pos k3]), trivial⟩, hS.F ht⟩) hS.2.2 dX11_count_60
  by_cases k7 : x = 3
  · refine lv_tableIn (off := 60) (tgt := 61) hx hb dX11_count_1 (by rw [k7]; decide) (by rw [k7]; decide) (by rw [k7]; rfl) rfl ?_
    refine lv_aload_n hx hb dX11_count_61 rfl (lv_at hl 0 rfl) ?_
    refine va_get (D := D) (ci := 11) (v := .ref (a 1)) (C := RX11) (T := TX11) (N := 21) hx hb hts (fun w h => List.mem_cons_of_mem _ (List.mem_append_left _ (List.mem_append_left _ (List.mem_append_right _ h)))) hown hK hP 0 rfl rfl 1 (by decide) (hts (.fieldLink RX11 27 "ProofHouse" "book" "LProofHouse$Book;") (List.mem_of_getElem? (i := 1) rfl)) (fun _ h9 => h9) rfl dX11_count_62 ?_
    refine lv_iconst hx hb dX11_count_65 (v := 1) rfl ?_
    have hPc := hP.sub (ws' := [(a 1, .inr (0, [.ref (a 19), .ref (a 20), .ref (a 21), .ref (a 22), .ref (a 23), .int (0), .ref (a 24), .ref (a 25), .ref (a 26), .ref (a 27), .ref (a 28), .ref (a 29), .ref (a 30), .ref (a 31), .ref (a 32), .ref (a 2), .int (0), .ref (a 33), .ref (a 34), .int (0), .int (nI n)]))]) [2] rfl
    have hDc := hD.sub (ws' := [(a 1, .inr (0, [.ref (a 19), .ref (a 20), .ref (a 21), .ref (a 22), .ref (a 23), .int (0), .ref (a 24), .ref (a 25), .ref (a 26), .ref (a 27), .ref (a 28), .ref (a 29), .ref (a 30), .ref (a 31), .ref (a 32), .ref (a 2), .int (0), .ref (a 33), .ref (a 34), .int (0), .int (nI n)]))]) [2] (by decide) rfl
    have hKc := hK.sub (tys' := []) [] rfl
    have hFc := va_free (wc := [(a 1, .inr (0, [.ref (a 19), .ref (a 20), .ref (a 21), .ref (a 22), .ref (a 23), .int (0), .ref (a 24), .ref (a 25), .ref (a 26), .ref (a 27), .ref (a 28), .ref (a 29), .ref (a 30), .ref (a 31), .ref (a 32), .ref (a 2), .int (0), .ref (a 33), .ref (a 34), .int (0), .int (nI n)]))]) hD hS hA [2] rfl
    refine va_calli (va_runV (As := [.int (1)]) (rest := []) ⟨hx, hb, hml, hown, hts⟩ (h_rules l D (a 1) s.heap.size (fun k => ([a 19, a 20, a 21, a 22, a 23, 0, a 24, a 25, a 26, a 27, a 28, a 29, a 30, a 31, a 32, a 2, 0, a 33, a 34, 0, 0] : List Nat).getD k 0) (nI n) 1) (cwV 1 hts gX11_count_X0_rules rfl rfl rfl (by decide +kernel) ⟨Nat.le_of_ble_eq_true rfl, Nat.le_of_ble_eq_true rfl⟩) ⟨fun a U g mk q => by obtain ⟨q0, q1, qP, qK, qD⟩ := q; exact ⟨q0, q1, qP, va_K.moved (u := U) (U := U.calling g mk a) (Vm.Alike.refl U.vm) qK, qD⟩, va_recv hK hP (ci := 0) (q0 := 2) rfl rfl, fun U hU hW => ⟨rfl, by rw [hU], by rw [hU]; exact hPc, va_K.moved hW.alike hKc, hDc.weaken (fun _ _ _ _ => trivial)⟩⟩ rfl rfl hl.1 rfl (lv_room (Nat.le_of_ble_eq_true rfl)) dX11_count_66 ⟨Nat.le_of_ble_eq_true rfl, Nat.le_of_ble_eq_true rfl⟩) hS (fun q _ h => hFc q h) hFc ?_
    intro r9 u8 t H10 lo1 ht hvm hwu8 hB hz1 hk1 hS1
    subst hwu8
    have hP1 : va_P D vwCl [] H10 := p_nil
    have hD1 : va_D (va_A [(a 1, .inr (0, [.ref (a 19), .ref (a 20), .ref (a 21), .ref (a 22), .ref (a 23), .int (0), .ref (a 24), .ref (a 25), .ref (a 26), .ref (a 27), .ref (a 28), .ref (a 29), .ref (a 30), .ref (a 31), .ref (a 32), .ref (a 2), .int (0), .ref (a 33), .ref (a 34), .int (0), .int (nI n)]))] s.heap.size) [] := d_nil
    obtain ⟨hP, hD⟩ := va_join (wr := [(h0, .inr (11, [.ref (a 0), .ref (a 1), .ref (a 3), .ref (a 5), .ref (a 9), .ref (a 10), .ref (a 11), .ref (a 12), .ref (a 6), .ref (a 13), .ref (a 7), .int (0), .ref (a 8), .int (1000), .int ((-1)), .int ((-1)), .int ((-1)), .int (0), .int (0), .int (0), .int (0)])), (a 0, .inr (7, [.ref (a 14), .ref (a 15), .ref (a 16), .ref (a 17), .ref (a 18), .int (nI n), .int (0), .int (0), .int (0)])), (a 2, .inl (ca 0, 60, .inl (fun _ => 0))), (a 3, .inr (5, [.ref (a 0), .ref (a 4), .ref (a 35), .ref (a 36), .ref (a 37), .int (0), .int (0), .int (0), .int (0), .int (0), .int ((-1))])), (a 4, .inl (ca 1, 41, .inl (fun _ => 0))), (a 5, .inr (9, [.ref (a 0), .ref (a 38), .ref (a 39), .int (0)])), (a 6, .inr (4, [.ref (a 0), .ref (a 9), .ref (a 11), .ref (a 40), .int (0), .ref (a 41), .int (0), .ref (a 42), .int (0), .ref (a 43), .int (0)])), (a 7, .inl (ca 2, 3000, .inl (fun _ => 0))), (a 8, .inl (ca 3, 5, .inl (fun _ => 0)))]) (w1 := []) hP hD [2] [0, 1, 3, 4, 5, 6, 7, 8, 9] rfl rfl (by decide) (by decide) hk1 hFc hP1 hD1
    have hK := hK.sub (tys' := [(ca 0, .boolean), (ca 1, .int), (ca 2, .char), (ca 3, .int)]) [0, 1, 2, 3] rfl
    have hS := hS1
    clear hS1 hP1 hD1 hFc hKc hDc hPc hz1 hk1
    have hP : va_P D vwCl [(h0, .inr (11, [.ref (a 0), .ref (a 1), .ref (a 3), .ref (a 5), .ref (a 9), .ref (a 10), .ref (a 11), .ref (a 12), .ref (a 6), .ref (a 13), .ref (a 7), .int (0), .ref (a 8), .int (1000), .int ((-1)), .int ((-1)), .int ((-1)), .int (0), .int (0), .int (0), .int (0)])), (a 0, .inr (7, [.ref (a 14), .ref (a 15), .ref (a 16), .ref (a 17), .ref (a 18), .int (nI n), .int (0), .int (0), .int (0)])), (a 2, .inl (ca 0, 60, .inl (fun _ => 0))), (a 3, .inr (5, [.ref (a 0), .ref (a 4), .ref (a 35), .ref (a 36), .ref (a 37), .int (0), .int (0), .int (0), .int (0), .int (0), .int ((-1))])), (a 4, .inl (ca 1, 41, .inl (fun _ => 0))), (a 5, .inr (9, [.ref (a 0), .ref (a 38), .ref (a 39), .int (0)])), (a 6, .inr (4, [.ref (a 0), .ref (a 9), .ref (a 11), .ref (a 40), .int (0), .ref (a 41), .int (0), .ref (a 42), .int (0), .ref (a 43), .int (0)])), (a 7, .inl (ca 2, 3000, .inl (fun _ => 0))), (a 8, .inl (ca 3, 5, .inl (fun _ => 0)))] H10 := hP
    have hD : va_D A [(h0, .inr (11, [.ref (a 0), .ref (a 1), .ref (a 3), .ref (a 5), .ref (a 9), .ref (a 10), .ref (a 11), .ref (a 12), .ref (a 6), .ref (a 13), .ref (a 7), .int (0), .ref (a 8), .int (1000), .int ((-1)), .int ((-1)), .int ((-1)), .int (0), .int (0), .int (0), .int (0)])), (a 0, .inr (7, [.ref (a 14), .ref (a 15), .ref (a 16), .ref (a 17), .ref (a 18), .int (nI n), .int (0), .int (0), .int (0)])), (a 2, .inl (ca 0, 60, .inl (fun _ => 0))), (a 3, .inr (5, [.ref (a 0), .ref (a 4), .ref (a 35), .ref (a 36), .ref (a 37), .int (0), .int (0), .int (0), .int (0), .int (0), .int ((-1))])), (a 4, .inl (ca 1, 41, .inl (fun _ => 0))), (a 5, .inr (9, [.ref (a 0), .ref (a 38), .ref (a 39), .int (0)])), (a 6, .inr (4, [.ref (a 0), .ref (a 9), .ref (a 11), .ref (a 40), .int (0), .ref (a 41), .int (0), .ref (a 42), .int (0), .ref (a 43), .int (0)])), (a 7, .inl (ca 2, 3000, .inl (fun _ => 0))), (a 8, .inl (ca 3, 5, .inl (fun _ => 0)))] := hD
    have hK : va_K D vwCl [(ca 0, .boolean), (ca 1, .int), (ca 2, .char), (ca 3, .int)] s := hK
    exact W.iret (v := 0) hx hb hr (fun t ht hW => ⟨⟨0, (), rfl, (by rw [if_neg k1, if_neg k2, if_neg k3, if_pos k7]), trivial⟩, hS.F ht⟩) hS.2.2 dX11_count_69
  by_cases k11 : x = 4
  · refine lv_tableIn (off := 69) (tgt := 70) hx hb dX11_count_1 (by rw [k11]; decide) (by rw [k11]; decide) (by rw [k11]; rfl) rfl ?_
    refine lv_aload_n hx hb dX11_count_70 rfl (lv_at hl 0 rfl) ?_
    refine va_get (D := D) (ci := 11) (v := .ref (a 6)) (C := RX11) (T := TX11) (N := 21) hx hb hts (fun w h => List.mem_cons_of_mem _ (List.mem_append_left _ (List.mem_append_left _ (List.mem_append_right _ h)))) hown hK hP 0 rfl rfl 8 (by decide) (hts (.fieldLink RX11 88 "ProofHouse" "prover" "LProofHouse$Prover;") (List.mem_of_getElem? (i := 2) rfl)) (fun _ h9 => h9) rfl dX11_count_71 ?_
    refine va_getN (D := D) (ci := 4) (v := .int (0)) (C := RX4) (T := TX4) (N := 11) hx hb hts (fun w h => List.mem_cons_of_mem _ (List.mem_append_right _ h)) hown hK hP 7 rfl rfl 8 (by decide) (va_Nw.use rfl hE.2.2.2.2.1) (fun _ h9 => h9) rfl dX11_count_74 ?_
    exact W.iret (v := 0) hx hb hr (fun t ht hW => ⟨⟨0, (), rfl, (by rw [if_neg k1, if_neg k2, if_neg k3, if_neg k7, if_pos k11]), trivial⟩, hS.F ht⟩) hS.2.2 dX11_count_77
  refine lv_tableOut (tgt := 78) hx hb dX11_count_1 (t_out (hi := 4) 0 (fun k hk => by rcases (show k = 0 ∨ k = 1 ∨ k = 2 ∨ k = 3 ∨ k = 4 by omega) with rfl | rfl | rfl | rfl | rfl <;> assumption) (by decide) rfl) rfl ?_
  refine lv_iconst hx hb dX11_count_78 (v := (-1)) rfl ?_
  exact W.iret (v := (-1)) hx hb hr (fun t ht hW => ⟨⟨(-1), (), rfl, (by rw [if_neg k1, if_neg k2, if_neg k3, if_neg k7, if_neg k11]), trivial⟩, hS.F ht⟩) hS.2.2 dX11_count_79
