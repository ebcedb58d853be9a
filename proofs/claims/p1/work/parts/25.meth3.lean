set_option maxHeartbeats 4000000 in
set_option maxRecDepth 100000 in
/-- end -/
theorem h_end (l : Launch) (D : va_G) (h0 sz : Nat) (a : Nat → Nat) (ca : Nat → ClassId) (n : Nat) (x : Int32)  : Met l yX11_end wsX11_end ({ frames := 1, cells := 0, slots := 0, locals := 30 }) (va_Pc [.ref (h0), .int (x)] (fun U => U.heap.size = sz ∧ va_P D vwCl (hHW h0 a ca n) U.heap ∧ va_K D vwCl (hHT ca) U ∧ va_D (fun _ => True) (hHW h0 a ca n) ∧ hM U)) (va_Qi (fun (r : Int32) (_ : Unit) => ((x < 0 ∨ 20 < x ∨ 3000 < 0 + x) ∧ r = -1) ∨ ∃ K : Nat, x = nI K ∧ K ≤ 20 ∧ r = nI K) (fun _ _ => True) (va_A (hHW h0 a ca n) sz)) 0 0 (va_A (hHW h0 a ca n) sz) := by
  refine Met.ofW (cc := cX11_end) (maxL := 3) (ret := (some .int)) (by decide) rfl ?_
  intro p e s m args below meth c s₁ B hml hv
  obtain ⟨rfl, hsz, hP, hK, hD0, hE⟩ := hv
  have hx := B.exec
  have hb := B.bytes
  have hr := B.returns
  have hts := atoms_spec (ws := wsX11_end) B.pre
  have hown : s.vm.findClass RX11 = some m.cls := findClass_of_methodNamed B.named
  have hnm : meth.name = "end" := (name_of_methodNamed B.named B.method).1
  subst hsz
  have hD := hD0.self (sz := s.heap.size)
  generalize hAe : va_A (hHW h0 a ca n) s.heap.size = A at hD ⊢
  have hA : ∀ q : Nat, s.heap.size ≤ q → A q := fun q h => by rw [← hAe]; exact Or.inr h
  have hS : va_S A s.heap s.heap [] := va_S.rf
  have hl := lv_entry ([.ref (h0), .int (x)]) (n := 3) (Nat.le_of_ble_eq_true rfl)
  rw [lg_entry_eq]
  generalize (lg_sl ([.ref (h0), .int (x)]) ++ List.replicate (3 - (lg_sl ([.ref (h0), .int (x)])).length) Slot.unset).toArray = ls at hl ⊢
  have hl : lv_has ls 3 [(0, .ref (h0)), (1, .int (x))] := hl
  have hP : va_P D vwCl [(h0, .inr (11, [.ref (a 0), .ref (a 1), .ref (a 3), .ref (a 5), .ref (a 9), .ref (a 10), .ref (a 11), .ref (a 12), .ref (a 6), .ref (a 13), .ref (a 7), .int (0), .ref (a 8), .int (1000), .int ((-1)), .int ((-1)), .int ((-1)), .int (0), .int (0), .int (0), .int (0)])), (a 0, .inr (7, [.ref (a 14), .ref (a 15), .ref (a 16), .ref (a 17), .ref (a 18), .int (nI n), .int (0), .int (0), .int (0)])), (a 1, .inr (0, [.ref (a 19), .ref (a 20), .ref (a 21), .ref (a 22), .ref (a 23), .int (0), .ref (a 24), .ref (a 25), .ref (a 26), .ref (a 27), .ref (a 28), .ref (a 29), .ref (a 30), .ref (a 31), .ref (a 32), .ref (a 2), .int (0), .ref (a 33), .ref (a 34), .int (0), .int (nI n)])), (a 2, .inl (ca 0, 60, .inl (fun _ => 0))), (a 3, .inr (5, [.ref (a 0), .ref (a 4), .ref (a 35), .ref (a 36), .ref (a 37), .int (0), .int (0), .int (0), .int (0), .int (0), .int ((-1))])), (a 4, .inl (ca 1, 41, .inl (fun _ => 0))), (a 5, .inr (9, [.ref (a 0), .ref (a 38), .ref (a 39), .int (0)])), (a 6, .inr (4, [.ref (a 0), .ref (a 9), .ref (a 11), .ref (a 40), .int (0), .ref (a 41), .int (0), .ref (a 42), .int (0), .ref (a 43), .int (0)])), (a 7, .inl (ca 2, 3000, .inl (fun _ => 0))), (a 8, .inl (ca 3, 5, .inl (fun _ => 0)))] s.heap := hP
  have hD : va_D A [(h0, .inr (11, [.ref (a 0), .ref (a 1), .ref (a 3), .ref (a 5), .ref (a 9), .ref (a 10), .ref (a 11), .ref (a 12), .ref (a 6), .ref (a 13), .ref (a 7), .int (0), .ref (a 8), .int (1000), .int ((-1)), .int ((-1)), .int ((-1)), .int (0), .int (0), .int (0), .int (0)])), (a 0, .inr (7, [.ref (a 14), .ref (a 15), .ref (a 16), .ref (a 17), .ref (a 18), .int (nI n), .int (0), .int (0), .int (0)])), (a 1, .inr (0, [.ref (a 19), .ref (a 20), .ref (a 21), .ref (a 22), .ref (a 23), .int (0), .ref (a 24), .ref (a 25), .ref (a 26), .ref (a 27), .ref (a 28), .ref (a 29), .ref (a 30), .ref (a 31), .ref (a 32), .ref (a 2), .int (0), .ref (a 33), .ref (a 34), .int (0), .int (nI n)])), (a 2, .inl (ca 0, 60, .inl (fun _ => 0))), (a 3, .inr (5, [.ref (a 0), .ref (a 4), .ref (a 35), .ref (a 36), .ref (a 37), .int (0), .int (0), .int (0), .int (0), .int (0), .int ((-1))])), (a 4, .inl (ca 1, 41, .inl (fun _ => 0))), (a 5, .inr (9, [.ref (a 0), .ref (a 38), .ref (a 39), .int (0)])), (a 6, .inr (4, [.ref (a 0), .ref (a 9), .ref (a 11), .ref (a 40), .int (0), .ref (a 41), .int (0), .ref (a 42), .int (0), .ref (a 43), .int (0)])), (a 7, .inl (ca 2, 3000, .inl (fun _ => 0))), (a 8, .inl (ca 3, 5, .inl (fun _ => 0)))] := hD
  have hK : va_K D vwCl [(ca 0, .boolean), (ca 1, .int), (ca 2, .char), (ca 3, .int)] s := hK
  refine lv_iload_n hx hb dX11_end_0 rfl (lv_at hl 1 rfl) ?_
  refine lv_if_lt hx hb dX11_end_1 (tgt := 22) rfl (fun h1 => ?_) (fun h1 => ?_)
  · refine lv_iconst hx hb dX11_end_22 (v := (-1)) rfl ?_
    exact W.iret (v := (-1)) hx hb hr (fun t ht hW => ⟨⟨(-1), (), rfl, (Or.inl ⟨by first | exact Or.inl h1 | exact Or.inr (Or.inl h2) | exact Or.inr (Or.inr (Int32.not_le.mp h3)), rfl⟩), trivial⟩, hS.F ht⟩) hS.2.2 dX11_end_23
  · refine lv_iload_n hx hb dX11_end_4 rfl (lv_at hl 1 rfl) ?_
    refine lv_bipush hx hb dX11_end_5 (v := 20) rfl ?_
    refine lv_icmp_gt hx hb dX11_end_7 (tgt := 22) rfl (fun h2 => ?_) (fun h2 => ?_)
    · refine lv_iconst hx hb dX11_end_22 (v := (-1)) rfl ?_
      exact W.iret (v := (-1)) hx hb hr (fun t ht hW => ⟨⟨(-1), (), rfl, (Or.inl ⟨by first | exact Or.inl h1 | exact Or.inr (Or.inl h2) | exact Or.inr (Or.inr (Int32.not_le.mp h3)), rfl⟩), trivial⟩, hS.F ht⟩) hS.2.2 dX11_end_23
    · refine lv_aload_n hx hb dX11_end_10 rfl (lv_at hl 0 rfl) ?_
      refine va_get (D := D) (ci := 11) (v := .int (0)) (C := RX11) (T := TX11) (N := 21) hx hb hts (fun w h => List.mem_cons_of_mem _ (List.mem_append_right _ h)) hown hK hP 0 rfl rfl 11 (by decide) (hts (.fieldLink RX11 105 "ProofHouse" "textLength" "I") (List.mem_of_getElem? (i := 1) rfl)) (fun _ h9 => h9) rfl dX11_end_11 ?_
      refine lv_iload_n hx hb dX11_end_14 rfl (lv_at hl 1 rfl) ?_
      refine lv_iadd hx hb dX11_end_15 ?_
      refine lv_sipush hx hb dX11_end_16 (v := 3000) rfl ?_
      refine lv_icmp_le hx hb dX11_end_19 (tgt := 24) rfl (fun h3 => ?_) (fun h3 => ?_)
      · refine lv_iconst hx hb dX11_end_24 (v := 0) rfl ?_
        refine lv_istore_n hx hb dX11_end_25 rfl hl (by decide) rfl (fun ls hl => ?_)
        have hl : lv_has ls 3 [(2, .int (0)), (0, .ref (h0)), (1, .int (x))] := hl
        obtain ⟨K, hKK, hK2⟩ : ∃ K : Nat, K ≤ 20 ∧ x = nI K := nI_of2 (M := 20) (n := 20) (by decide) h1 (Int32.not_lt.mp h2)
        subst hK2
        refine w_loopC (nL := 3) (wd := fun q : (Nat → Int32) × Nat => [(h0, .inr (11, [.ref (a 0), .ref (a 1), .ref (a 3), .ref (a 5), .ref (a 9), .ref (a 10), .ref (a 11), .ref (a 12), .ref (a 6), .ref (a 13), .ref (a 7), .int (0), .ref (a 8), .int (1000), .int ((-1)), .int ((-1)), .int ((-1)), .int (0), .int (0), .int (0), .int (0)])), (a 0, .inr (7, [.ref (a 14), .ref (a 15), .ref (a 16), .ref (a 17), .ref (a 18), .int (nI n), .int (0), .int (0), .int (0)])), (a 1, .inr (0, [.ref (a 19), .ref (a 20), .ref (a 21), .ref (a 22), .ref (a 23), .int (0), .ref (a 24), .ref (a 25), .ref (a 26), .ref (a 27), .ref (a 28), .ref (a 29), .ref (a 30), .ref (a 31), .ref (a 32), .ref (a 2), .int (0), .ref (a 33), .ref (a 34), .int (0), .int (nI n)])), (a 2, .inl (ca 0, 60, .inl (fun _ => 0))), (a 3, .inr (5, [.ref (a 0), .ref (a 4), .ref (a 35), .ref (a 36), .ref (a 37), .int (0), .int (0), .int (0), .int (0), .int (0), .int ((-1))])), (a 4, .inl (ca 1, 41, .inl (fun _ => 0))), (a 5, .inr (9, [.ref (a 0), .ref (a 38), .ref (a 39), .int (0)])), (a 6, .inr (4, [.ref (a 0), .ref (a 9), .ref (a 11), .ref (a 40), .int (0), .ref (a 41), .int (0), .ref (a 42), .int (0), .ref (a 43), .int (0)])), (a 7, .inl (ca 2, 3000, .inl (q.1))), (a 8, .inl (ca 3, 5, .inl (fun _ => 0)))]) (lst := fun q : (Nat → Int32) × Nat => [(2, .int (nI q.2)), (0, .ref h0), (1, .int (nI K))]) (ce := fun _ => 0) (sl := fun _ => 0) (μ := fun q => K - q.2) (I := fun q => q.2 ≤ K) ?_ (fun _ => 0, 0) ls (Nat.zero_le _) hP hD hS hl
        clear hP hD hS hl
        intro q H locs ls hI hP hD hS hl ih
        obtain ⟨ft, k⟩ := q
        dsimp only at hI hP hD
        have hl : lv_has ls 3 [(2, .int (nI k)), (0, .ref (h0)), (1, .int (nI K))] := hl
        have hP : va_P D vwCl [(h0, .inr (11, [.ref (a 0), .ref (a 1), .ref (a 3), .ref (a 5), .ref (a 9), .ref (a 10), .ref (a 11), .ref (a 12), .ref (a 6), .ref (a 13), .ref (a 7), .int (0), .ref (a 8), .int (1000), .int ((-1)), .int ((-1)), .int ((-1)), .int (0), .int (0), .int (0), .int (0)])), (a 0, .inr (7, [.ref (a 14), .ref (a 15), .ref (a 16), .ref (a 17), .ref (a 18), .int (nI n), .int (0), .int (0), .int (0)])), (a 1, .inr (0, [.ref (a 19), .ref (a 20), .ref (a 21), .ref (a 22), .ref (a 23), .int (0), .ref (a 24), .ref (a 25), .ref (a 26), .ref (a 27), .ref (a 28), .ref (a 29), .ref (a 30), .ref (a 31), .ref (a 32), .ref (a 2), .int (0), .ref (a 33), .ref (a 34), .int (0), .int (nI n)])), (a 2, .inl (ca 0, 60, .inl (fun _ => 0))), (a 3, .inr (5, [.ref (a 0), .ref (a 4), .ref (a 35), .ref (a 36), .ref (a 37), .int (0), .int (0), .int (0), .int (0), .int (0), .int ((-1))])), (a 4, .inl (ca 1, 41, .inl (fun _ => 0))), (a 5, .inr (9, [.ref (a 0), .ref (a 38), .ref (a 39), .int (0)])), (a 6, .inr (4, [.ref (a 0), .ref (a 9), .ref (a 11), .ref (a 40), .int (0), .ref (a 41), .int (0), .ref (a 42), .int (0), .ref (a 43), .int (0)])), (a 7, .inl (ca 2, 3000, .inl (ft))), (a 8, .inl (ca 3, 5, .inl (fun _ => 0)))] H := hP
        have hD : va_D A [(h0, .inr (11, [.ref (a 0), .ref (a 1), .ref (a 3), .ref (a 5), .ref (a 9), .ref (a 10), .ref (a 11), .ref (a 12), .ref (a 6), .ref (a 13), .ref (a 7), .int (0), .ref (a 8), .int (1000), .int ((-1)), .int ((-1)), .int ((-1)), .int (0), .int (0), .int (0), .int (0)])), (a 0, .inr (7, [.ref (a 14), .ref (a 15), .ref (a 16), .ref (a 17), .ref (a 18), .int (nI n), .int (0), .int (0), .int (0)])), (a 1, .inr (0, [.ref (a 19), .ref (a 20), .ref (a 21), .ref (a 22), .ref (a 23), .int (0), .ref (a 24), .ref (a 25), .ref (a 26), .ref (a 27), .ref (a 28), .ref (a 29), .ref (a 30), .ref (a 31), .ref (a 32), .ref (a 2), .int (0), .ref (a 33), .ref (a 34), .int (0), .int (nI n)])), (a 2, .inl (ca 0, 60, .inl (fun _ => 0))), (a 3, .inr (5, [.ref (a 0), .ref (a 4), .ref (a 35), .ref (a 36), .ref (a 37), .int (0), .int (0), .int (0), .int (0), .int (0), .int ((-1))])), (a 4, .inl (ca 1, 41, .inl (fun _ => 0))), (a 5, .inr (9, [.ref (a 0), .ref (a 38), .ref (a 39), .int (0)])), (a 6, .inr (4, [.ref (a 0), .ref (a 9), .ref (a 11), .ref (a 40), .int (0), .ref (a 41), .int (0), .ref (a 42), .int (0), .ref (a 43), .int (0)])), (a 7, .inl (ca 2, 3000, .inl (ft))), (a 8, .inl (ca 3, 5, .inl (fun _ => 0)))] := hD
        show W _ _ _ _ _ _ _ _ _ _ _ _ 0 0 _ _
        refine lv_iload_n hx hb dX11_end_26 rfl (lv_at hl 0 rfl) ?_
        refine lv_iload_n hx hb dX11_end_27 rfl (lv_at hl 2 rfl) ?_
        refine lv_icmp_ge hx hb dX11_end_28 (tgt := 71) rfl (fun h4 => ?_) (fun h4 => ?_)
        · replace hP := hP.sub (ws' := [(h0, .inr (11, [.ref (a 0), .ref (a 1), .ref (a 3), .ref (a 5), .ref (a 9), .ref (a 10), .ref (a 11), .ref (a 12), .ref (a 6), .ref (a 13), .ref (a 7), .int (0), .ref (a 8), .int (1000), .int ((-1)), .int ((-1)), .int ((-1)), .int (0), .int (0), .int (0), .int (0)])), (a 8, .inl (ca 3, 5, .inl (fun _ => 0)))]) [0, 9] rfl
          replace hD := hD.sub (ws' := [(h0, .inr (11, [.ref (a 0), .ref (a 1), .ref (a 3), .ref (a 5), .ref (a 9), .ref (a 10), .ref (a 11), .ref (a 12), .ref (a 6), .ref (a 13), .ref (a 7), .int (0), .ref (a 8), .int (1000), .int ((-1)), .int ((-1)), .int ((-1)), .int (0), .int (0), .int (0), .int (0)])), (a 8, .inl (ca 3, 5, .inl (fun _ => 0)))]) [0, 9] (by decide) rfl
          replace hK := hK.sub (tys' := [(ca 3, .int)]) [3] rfl
          clear ih
          refine lv_aload_n hx hb dX11_end_71 rfl (lv_at hl 1 rfl) ?_
          refine lv_dup hx hb dX11_end_72 rfl ?_
          refine va_get (D := D) (ci := 11) (v := .int (0)) (C := RX11) (T := TX11) (N := 21) hx hb hts (fun w h => List.mem_cons_of_mem _ (List.mem_append_right _ h)) hown hK hP 0 rfl rfl 11 (by decide) (hts (.fieldLink RX11 105 "ProofHouse" "textLength" "I") (List.mem_of_getElem? (i := 1) rfl)) (fun _ h9 => h9) rfl dX11_end_73 ?_
          refine lv_iload_n hx hb dX11_end_76 rfl (lv_at hl 2 rfl) ?_
          refine lv_iadd hx hb dX11_end_77 ?_
          refine va_put (D := D) (ci := 11) (v := .int (0 + (nI K))) (ty := .int) (C := RX11) (T := TX11) (N := 21) hx hb hts (fun w h => List.mem_cons_of_mem _ (List.mem_append_right _ h)) tyX11 tyX11_ok nmX11 hown hK hP hD hS 0 rfl rfl 11 (by decide) (hts (.fieldLink RX11 105 "ProofHouse" "textLength" "I") (List.mem_of_getElem? (i := 1) rfl)) (fun _ h9 => h9) rfl (tyX11_ok 11 (by decide)) rfl rfl (Nat.le_of_ble_eq_true rfl) dX11_end_78 ?_
          clear hP hD hS
          intro H locs hP hD hS
          have hP : va_P D vwCl [(h0, .inr (11, [.ref (a 0), .ref (a 1), .ref (a 3), .ref (a 5), .ref (a 9), .ref (a 10), .ref (a 11), .ref (a 12), .ref (a 6), .ref (a 13), .ref (a 7), .int (0 + (nI K)), .ref (a 8), .int (1000), .int ((-1)), .int ((-1)), .int ((-1)), .int (0), .int (0), .int (0), .int (0)])), (a 8, .inl (ca 3, 5, .inl (fun _ => 0)))] H := hP
          have hD : va_D A [(h0, .inr (11, [.ref (a 0), .ref (a 1), .ref (a 3), .ref (a 5), .ref (a 9), .ref (a 10), .ref (a 11), .ref (a 12), .ref (a 6), .ref (a 13), .ref (a 7), .int (0 + (nI K)), .ref (a 8), .int (1000), .int ((-1)), .int ((-1)), .int ((-1)), .int (0), .int (0), .int (0), .int (0)])), (a 8, .inl (ca 3, 5, .inl (fun _ => 0)))] := hD
          refine lv_aload_n hx hb dX11_end_81 rfl (lv_at hl 1 rfl) ?_
          refine va_get (D := D) (ci := 11) (v := .ref (a 8)) (C := RX11) (T := TX11) (N := 21) hx hb hts (fun w h => List.mem_cons_of_mem _ (List.mem_append_right _ h)) hown hK hP 0 rfl rfl 12 (by decide) (hts (.fieldLink RX11 108 "ProofHouse" "waiting" "[I") (List.mem_of_getElem? (i := 3) rfl)) (fun _ h9 => h9) rfl dX11_end_82 ?_
          refine lv_iconst hx hb dX11_end_85 (v := 0) rfl ?_
          have hPc := hP.sub (ws' := [(a 8, .inl (ca 3, 5, .inl (fun _ => 0)))]) [1] rfl
          have hDc := hD.sub (ws' := [(a 8, .inl (ca 3, 5, .inl (fun _ => 0)))]) [1] (by decide) rfl
          have hKc := hK.sub (tys' := [(ca 3, .int)]) [0] rfl
          have hFc := va_free (wc := [(a 8, .inl (ca 3, 5, .inl (fun _ => 0)))]) hD hS hA [1] rfl
          refine va_callv (va_runS (As := [.ref (a 8), .int (0)]) (rest := []) ⟨hx, hb, hml, hown, hts⟩ (c_J7_fill l D (a 8) H.size 5 (ca 3) (fun _ => 0) 0 (by decide)) (va_cwS 2 hts gX11_end_J7_fill_53178 rfl rfl rfl (by decide +kernel) ⟨Nat.le_of_ble_eq_true rfl, Nat.le_of_ble_eq_true rfl⟩) ⟨fun a U g mk q => by obtain ⟨q0, q1, qP, qK, qD⟩ := q; exact ⟨q0, q1, qP, va_K.moved (u := U) (U := U.calling g mk a) (Vm.Alike.refl U.vm) qK, qD⟩, fun U hU hW => ⟨rfl, by rw [hU], by rw [hU]; exact hPc, va_K.moved hW.alike hKc, hDc.weaken (fun _ _ _ _ => trivial)⟩⟩ rfl rfl hl.1 rfl (lv_room (Nat.le_of_ble_eq_true rfl)) dX11_end_86 ⟨Nat.le_of_ble_eq_true rfl, Nat.le_of_ble_eq_true rfl⟩) hS (fun q _ h => hFc q h) hFc ?_
          intro u5 t H7 lo1 ht hvm hwu5 hB hz1 hk1 hS1
          obtain ⟨hP1, hK1, hD1⟩ := hB
          rw [ht] at hP1
          have hK1 := va_K.moved hvm.symm hK1
          obtain ⟨hP, hD⟩ := va_join (wr := [(h0, .inr (11, [.ref (a 0), .ref (a 1), .ref (a 3), .ref (a 5), .ref (a 9), .ref (a 10), .ref (a 11), .ref (a 12), .ref (a 6), .ref (a 13), .ref (a 7), .int (0 + (nI K)), .ref (a 8), .int (1000), .int ((-1)), .int ((-1)), .int ((-1)), .int (0), .int (0), .int (0), .int (0)]))]) (w1 := [(a 8, .inl (ca 3, 5, .inl (u5)))]) hP hD [1] [0] rfl rfl (by decide) (by decide) hk1 hFc hP1 hD1
          have hK := (hK.sub (tys' := []) [] rfl).app hK1
          have hS := hS1
          clear hS1 hP1 hD1 hFc hKc hDc hPc hz1 hk1
          have hP : va_P D vwCl [(h0, .inr (11, [.ref (a 0), .ref (a 1), .ref (a 3), .ref (a 5), .ref (a 9), .ref (a 10), .ref (a 11), .ref (a 12), .ref (a 6), .ref (a 13), .ref (a 7), .int (0 + (nI K)), .ref (a 8), .int (1000), .int ((-1)), .int ((-1)), .int ((-1)), .int (0), .int (0), .int (0), .int (0)])), (a 8, .inl (ca 3, 5, .inl (u5)))] H7 := hP
          have hD : va_D A [(h0, .inr (11, [.ref (a 0), .ref (a 1), .ref (a 3), .ref (a 5), .ref (a 9), .ref (a 10), .ref (a 11), .ref (a 12), .ref (a 6), .ref (a 13), .ref (a 7), .int (0 + (nI K)), .ref (a 8), .int (1000), .int ((-1)), .int ((-1)), .int ((-1)), .int (0), .int (0), .int (0), .int (0)])), (a 8, .inl (ca 3, 5, .inl (u5)))] := hD
          have hK : va_K D vwCl [(ca 3, .int)] s := hK
          refine lv_aload_n hx hb dX11_end_89 rfl (lv_at hl 1 rfl) ?_
          refine va_get (D := D) (ci := 11) (v := .int (0 + (nI K))) (C := RX11) (T := TX11) (N := 21) hx hb hts (fun w h => List.mem_cons_of_mem _ (List.mem_append_right _ h)) hown hK hP 0 rfl rfl 11 (by decide) (hts (.fieldLink RX11 105 "ProofHouse" "textLength" "I") (List.mem_of_getElem? (i := 1) rfl)) (fun _ h9 => h9) rfl dX11_end_90 ?_
          exact W.iret (v := 0 + (nI K)) hx hb hr (fun t ht hW => ⟨⟨0 + (nI K), (), rfl, (Or.inr ⟨K, rfl, hKK, by rw [show (0 : Int32) = nI 0 from rfl, nI_add, Nat.zero_add]⟩), trivial⟩, hS.F ht⟩) hS.2.2 dX11_end_93
        · have hj : k < K := by
            rcases Nat.lt_or_ge k K with h | h
            · exact h
            · exact absurd (nI_le h (by omega)) h4
          refine lv_aload_n hx hb dX11_end_31 rfl (lv_at hl 1 rfl) ?_
          refine va_get (D := D) (ci := 11) (v := .ref (a 7)) (C := RX11) (T := TX11) (N := 21) hx hb hts (fun w h => List.mem_cons_of_mem _ (List.mem_append_right _ h)) hown hK hP 0 rfl rfl 10 (by decide) (hts (.fieldLink RX11 101 "ProofHouse" "text" "[C") (List.mem_of_getElem? (i := 2) rfl)) (fun _ h9 => h9) rfl dX11_end_32 ?_
          refine lv_aload_n hx hb dX11_end_35 rfl (lv_at hl 1 rfl) ?_
          refine va_get (D := D) (ci := 11) (v := .int (0)) (C := RX11) (T := TX11) (N := 21) hx hb hts (fun w h => List.mem_cons_of_mem _ (List.mem_append_right _ h)) hown hK hP 0 rfl rfl 11 (by decide) (hts (.fieldLink RX11 105 "ProofHouse" "textLength" "I") (List.mem_of_getElem? (i := 1) rfl)) (fun _ h9 => h9) rfl dX11_end_36 ?_
          refine lv_iload_n hx hb dX11_end_39 rfl (lv_at hl 0 rfl) ?_
          refine lv_iadd hx hb dX11_end_40 ?_
          refine lv_aload_n hx hb dX11_end_41 rfl (lv_at hl 1 rfl) ?_
          refine va_get (D := D) (ci := 11) (v := .ref (a 8)) (C := RX11) (T := TX11) (N := 21) hx hb hts (fun w h => List.mem_cons_of_mem _ (List.mem_append_right _ h)) hown hK hP 0 rfl rfl 12 (by decide) (hts (.fieldLink RX11 108 "ProofHouse" "waiting" "[I") (List.mem_of_getElem? (i := 3) rfl)) (fun _ h9 => h9) rfl dX11_end_42 ?_
          refine lv_iload_n hx hb dX11_end_45 rfl (lv_at hl 0 rfl) ?_
          refine lv_iconst hx hb dX11_end_46 (v := 4) rfl ?_
          refine lv_idiv hx hb dX11_end_47 (by decide) ?_
          refine va_iald hx hb hK hP 9 3 rfl rfl (by rw [show (4 : Int32) = nI 4 from rfl, pk_div (by omega) (by decide) (by decide)]; exact vp_in_nI (by omega) (by decide)) dX11_end_48 ?_
          refine lv_topi (fun v8 ev8 => ?_)
          have ev8 : v8 = (fun _ => 0) (nI k / 4 : Int32).toNatClampNeg := ev8
          refine lv_bipush hx hb dX11_end_49 (v := 24) rfl ?_
          refine lv_iload_n hx hb dX11_end_51 rfl (lv_at hl 0 rfl) ?_
          refine lv_iconst hx hb dX11_end_52 (v := 4) rfl ?_
          refine lv_irem hx hb dX11_end_53 (by decide) ?_
          refine lv_bipush hx hb dX11_end_54 (v := 8) rfl ?_
          refine lv_imul hx hb dX11_end_56 ?_
          refine lv_isub hx hb dX11_end_57 ?_
          refine lv_iushr hx hb dX11_end_58 rfl ?_
          refine lv_topi (fun v9 ev9 => ?_)
          refine lv_sipush hx hb dX11_end_59 (v := 255) rfl ?_
          refine lv_iand hx hb dX11_end_62 ?_
          refine lv_i2c hx hb dX11_end_63 rfl ?_
          refine va_cast hx hb hK hP hD hS 8 2 rfl rfl (by rw [show (0 : Int32) = nI 0 from rfl, nI_add]; exact vp_in_nI (by omega) (by decide)) dX11_end_64 ?_
          clear hP hD hS
          intro H locs hP hD hS
          have hP : va_P D vwCl [(h0, .inr (11, [.ref (a 0), .ref (a 1), .ref (a 3), .ref (a 5), .ref (a 9), .ref (a 10), .ref (a 11), .ref (a 12), .ref (a 6), .ref (a 13), .ref (a 7), .int (0), .ref (a 8), .int (1000), .int ((-1)), .int ((-1)), .int ((-1)), .int (0), .int (0), .int (0), .int (0)])), (a 0, .inr (7, [.ref (a 14), .ref (a 15), .ref (a 16), .ref (a 17), .ref (a 18), .int (nI n), .int (0), .int (0), .int (0)])), (a 1, .inr (0, [.ref (a 19), .ref (a 20), .ref (a 21), .ref (a 22), .ref (a 23), .int (0), .ref (a 24), .ref (a 25), .ref (a 26), .ref (a 27), .ref (a 28), .ref (a 29), .ref (a 30), .ref (a 31), .ref (a 32), .ref (a 2), .int (0), .ref (a 33), .ref (a 34), .int (0), .int (nI n)])), (a 2, .inl (ca 0, 60, .inl (fun _ => 0))), (a 3, .inr (5, [.ref (a 0), .ref (a 4), .ref (a 35), .ref (a 36), .ref (a 37), .int (0), .int (0), .int (0), .int (0), .int (0), .int ((-1))])), (a 4, .inl (ca 1, 41, .inl (fun _ => 0))), (a 5, .inr (9, [.ref (a 0), .ref (a 38), .ref (a 39), .int (0)])), (a 6, .inr (4, [.ref (a 0), .ref (a 9), .ref (a 11), .ref (a 40), .int (0), .ref (a 41), .int (0), .ref (a 42), .int (0), .ref (a 43), .int (0)])), (a 7, .inl (ca 2, 3000, .inl (upd (ft) (0 + (nI k) : Int32).toNatClampNeg (vp_nar .char (((v9 &&& 255).toUInt32 % 65536).toInt32))))), (a 8, .inl (ca 3, 5, .inl (fun _ => 0)))] H := hP
          have hD : va_D A [(h0, .inr (11, [.ref (a 0), .ref (a 1), .ref (a 3), .ref (a 5), .ref (a 9), .ref (a 10), .ref (a 11), .ref (a 12), .ref (a 6), .ref (a 13), .ref (a 7), .int (0), .ref (a 8), .int (1000), .int ((-1)), .int ((-1)), .int ((-1)), .int (0), .int (0), .int (0), .int (0)])), (a 0, .inr (7, [.ref (a 14), .ref (a 15), .ref (a 16), .ref (a 17), .ref (a 18), .int (nI n), .int (0), .int (0), .int (0)])), (a 1, .inr (0, [.ref (a 19), .ref (a 20), .ref (a 21), .ref (a 22), .ref (a 23), .int (0), .ref (a 24), .ref (a 25), .ref (a 26), .ref (a 27), .ref (a 28), .ref (a 29), .ref (a 30), .ref (a 31), .ref (a 32), .ref (a 2), .int (0), .ref (a 33), .ref (a 34), .int (0), .int (nI n)])), (a 2, .inl (ca 0, 60, .inl (fun _ => 0))), (a 3, .inr (5, [.ref (a 0), .ref (a 4), .ref (a 35), .ref (a 36), .ref (a 37), .int (0), .int (0), .int (0), .int (0), .int (0), .int ((-1))])), (a 4, .inl (ca 1, 41, .inl (fun _ => 0))), (a 5, .inr (9, [.ref (a 0), .ref (a 38), .ref (a 39), .int (0)])), (a 6, .inr (4, [.ref (a 0), .ref (a 9), .ref (a 11), .ref (a 40), .int (0), .ref (a 41), .int (0), .ref (a 42), .int (0), .ref (a 43), .int (0)])), (a 7, .inl (ca 2, 3000, .inl (upd (ft) (0 + (nI k) : Int32).toNatClampNeg (vp_nar .char (((v9 &&& 255).toUInt32 % 65536).toInt32))))), (a 8, .inl (ca 3, 5, .inl (fun _ => 0)))] := hD
          refine lv_iinc (v := nI k + 1) hx hb dX11_end_65 hl (k := 0) rfl rfl (by decide) rfl (fun ls hl => ?_)
          have hl : lv_has ls 3 [(2, .int (nI k + 1)), (0, .ref (h0)), (1, .int (nI K))] := hl
          refine lv_goto hx hb dX11_end_68 (tgt := 26) rfl ?_
          exact ih (upd (ft) (0 + (nI k) : Int32).toNatClampNeg (vp_nar .char (((v9 &&& 255).toUInt32 % 65536).toInt32)), k + 1) H locs ls hj (by show K - (k + 1) < K - k; omega) hP hD hS (by rw [nI_1] at hl; exact hl)
      · refine lv_iconst hx hb dX11_end_22 (v := (-1)) rfl ?_
        exact W.iret (v := (-1)) hx hb hr (fun t ht hW => ⟨⟨(-1), (), rfl, (Or.inl ⟨by first | exact Or.inl h1 | exact Or.inr (Or.inl h2) | exact Or.inr (Or.inr (Int32.not_le.mp h3)), rfl⟩), trivial⟩, hS.F ht⟩) hS.2.2 dX11_end_23

set_option maxHeartbeats 4000000 in
set_option maxRecDepth 100000 in
/-- clear -/
theorem h_clear (l : Launch) (D : va_G) (h0 sz : Nat) (b : Nat → Nat) (z : Int32)  : Met l yX9_clear wsX9_clear ({ frames := 0, cells := 0, slots := 0, locals := 0 }) (va_Pc [.ref (h0)] (fun U => U.heap.size = sz ∧ va_P D vwCl [(h0, .inr (9, [.ref (b 0), .ref (b 1), .ref (b 2), .int (z)]))] U.heap ∧ va_K D vwCl [] U ∧ va_D (fun _ => True) [(h0, .inr (9, [.ref (b 0), .ref (b 1), .ref (b 2), .int (z)]))])) (va_Qv (fun _ : Unit => True) (fun _ _ => True) (va_A [(h0, .inr (9, [.ref (b 0), .ref (b 1), .ref (b 2), .int (z)]))] sz)) 0 0 (va_A [(h0, .inr (9, [.ref (b 0), .ref (b 1), .ref (b 2), .int (z)]))] sz) := by
  refine Met.ofW (cc := cX9_clear) (maxL := 1) (ret := none) (by decide) rfl ?_
  intro p e s m args below meth c s₁ B hml hv
  obtain ⟨rfl, hsz, hP, hK, hD0⟩ := hv
  have hx := B.exec
  have hb := B.bytes
  have hr := B.returns
  have hts := atoms_spec (ws := wsX9_clear) B.pre
  have hown : s.vm.findClass RX9 = some m.cls := findClass_of_methodNamed B.named
  have hnm : meth.name = "clear" := (name_of_methodNamed B.named B.method).1
  subst hsz
  have hD := hD0.self (sz := s.heap.size)
  generalize hAe : va_A ([(h0, .inr (9, [.ref (b 0), .ref (b 1), .ref (b 2), .int (z)]))]) s.heap.size = A at hD ⊢
  have hA : ∀ q : Nat, s.heap.size ≤ q → A q := fun q h => by rw [← hAe]; exact Or.inr h
  have hS : va_S A s.heap s.heap [] := va_S.rf
  have hl := lv_entry ([.ref (h0)]) (n := 1) (Nat.le_of_ble_eq_true rfl)
  rw [lg_entry_eq]
  generalize (lg_sl ([.ref (h0)]) ++ List.replicate (1 - (lg_sl ([.ref (h0)])).length) Slot.unset).toArray = ls at hl ⊢
  have hl : lv_has ls 1 [(0, .ref (h0))] := hl
  refine lv_aload_n hx hb dX9_clear_0 rfl (lv_at hl 0 rfl) ?_
  refine lv_iconst hx hb dX9_clear_1 (v := 0) rfl ?_
  refine va_put (D := D) (ci := 9) (v := .int (0)) (ty := .int) (C := RX9) (T := TX9) (N := 4) hx hb hts (fun w h => List.mem_cons_of_mem _ (List.mem_append_right _ h)) tyX9 tyX9_ok nmX9 hown hK hP hD hS 0 rfl rfl 3 (by decide) (hts (.fieldLink RX9 9 "ProofHouse$Scribe" "length" "I") (List.mem_of_getElem? (i := 1) rfl)) (fun _ h9 => h9) rfl (tyX9_ok 3 (by decide)) rfl rfl (Nat.le_of_ble_eq_true rfl) dX9_clear_2 ?_
  clear hP hD hS
  intro H locs hP hD hS
  have hP : va_P D vwCl [(h0, .inr (9, [.ref (b 0), .ref (b 1), .ref (b 2), .int (0)]))] H := hP
  have hD : va_D A [(h0, .inr (9, [.ref (b 0), .ref (b 1), .ref (b 2), .int (0)]))] := hD
  exact W.vret hx hb hr (fun t ht hW => ⟨⟨(), rfl, trivial, trivial⟩, hS.F ht⟩) hS.2.2 dX9_clear_5

set_option maxHeartbeats 4000000 in
set_option maxRecDepth 100000 in
/-- begin -/
theorem h_rbegin (l : Launch) (D : va_G) (h0 sz : Nat) (b : Nat → Nat) (z g sp tr x : Int32)  : Met l yX7_begin wsX7_begin ({ frames := 0, cells := 0, slots := 0, locals := 0 }) (va_Pc [.ref (h0), .int (x)] (fun U => U.heap.size = sz ∧ va_P D vwCl [(h0, .inr (7, [.ref (b 0), .ref (b 1), .ref (b 2), .ref (b 3), .ref (b 4), .int (z), .int (g), .int (sp), .int (tr)]))] U.heap ∧ va_K D vwCl [] U ∧ va_D (fun _ => True) [(h0, .inr (7, [.ref (b 0), .ref (b 1), .ref (b 2), .ref (b 3), .ref (b 4), .int (z), .int (g), .int (sp), .int (tr)]))])) (va_Qv (fun _ : Unit => True) (fun _ _ => True) (va_A [(h0, .inr (7, [.ref (b 0), .ref (b 1), .ref (b 2), .ref (b 3), .ref (b 4), .int (z), .int (g), .int (sp), .int (tr)]))] sz)) 0 0 (va_A [(h0, .inr (7, [.ref (b 0), .ref (b 1), .ref (b 2), .ref (b 3), .ref (b 4), .int (z), .int (g), .int (sp), .int (tr)]))] sz) := by
  refine Met.ofW (cc := cX7_begin) (maxL := 2) (ret := none) (by decide) rfl ?_
  intro p e s m args below meth c s₁ B hml hv
  obtain ⟨rfl, hsz, hP, hK, hD0⟩ := hv
  have hx := B.exec
  have hb := B.bytes
  have hr := B.returns
  have hts := atoms_spec (ws := wsX7_begin) B.pre
  have hown : s.vm.findClass RX7 = some m.cls := findClass_of_methodNamed B.named
  have hnm : meth.name = "begin" := (name_of_methodNamed B.named B.method).1
  subst hsz
  have hD := hD0.self (sz := s.heap.size)
  generalize hAe : va_A ([(h0, .inr (7, [.ref (b 0), .ref (b 1), .ref (b 2), .ref (b 3), .ref (b 4), .int (z), .int (g), .int (sp), .int (tr)]))]) s.heap.size = A at hD ⊢
  have hA : ∀ q : Nat, s.heap.size ≤ q → A q := fun q h => by rw [← hAe]; exact Or.inr h
  have hS : va_S A s.heap s.heap [] := va_S.rf
  have hl := lv_entry ([.ref (h0), .int (x)]) (n := 2) (Nat.le_of_ble_eq_true rfl)
  rw [lg_entry_eq]
  generalize (lg_sl ([.ref (h0), .int (x)]) ++ List.replicate (2 - (lg_sl ([.ref (h0), .int (x)])).length) Slot.unset).toArray = ls at hl ⊢
  have hl : lv_has ls 2 [(0, .ref (h0)), (1, .int (x))] := hl
  refine lv_aload_n hx hb dX7_begin_0 rfl (lv_at hl 0 rfl) ?_
  refine lv_iload_n hx hb dX7_begin_1 rfl (lv_at hl 1 rfl) ?_
  refine va_put (D := D) (ci := 7) (v := .int (x)) (ty := .int) (C := RX7) (T := TX7) (N := 9) hx hb hts (fun w h => List.mem_cons_of_mem _ (List.mem_append_right _ h)) tyX7 tyX7_ok nmX7 hown hK hP hD hS 0 rfl rfl 6 (by decide) (hts (.fieldLink RX7 34 "ProofHouse$Room" "given" "I") (List.mem_of_getElem? (i := 1) rfl)) (fun _ h9 => h9) rfl (tyX7_ok 6 (by decide)) rfl rfl (Nat.le_of_ble_eq_true rfl) dX7_begin_2 ?_
  clear hP hD hS
  intro H locs hP hD hS
  have hP : va_P D vwCl [(h0, .inr (7, [.ref (b 0), .ref (b 1), .ref (b 2), .ref (b 3), .ref (b 4), .int (z), .int (x), .int (sp), .int (tr)]))] H := hP
  have hD : va_D A [(h0, .inr (7, [.ref (b 0), .ref (b 1), .ref (b 2), .ref (b 3), .ref (b 4), .int (z), .int (x), .int (sp), .int (tr)]))] := hD
  refine lv_aload_n hx hb dX7_begin_5 rfl (lv_at hl 0 rfl) ?_
  refine lv_iconst hx hb dX7_begin_6 (v := 0) rfl ?_
  refine va_put (D := D) (ci := 7) (v := .int (0)) (ty := .int) (C := RX7) (T := TX7) (N := 9) hx hb hts (fun w h => List.mem_cons_of_mem _ (List.mem_append_right _ h)) tyX7 tyX7_ok nmX7 hown hK hP hD hS 0 rfl rfl 7 (by decide) (hts (.fieldLink RX7 37 "ProofHouse$Room" "spent" "I") (List.mem_of_getElem? (i := 2) rfl)) (fun _ h9 => h9) rfl (tyX7_ok 7 (by decide)) rfl rfl (Nat.le_of_ble_eq_true rfl) dX7_begin_7 ?_
  clear hP hD hS
  intro H locs hP hD hS
  have hP : va_P D vwCl [(h0, .inr (7, [.ref (b 0), .ref (b 1), .ref (b 2), .ref (b 3), .ref (b 4), .int (z), .int (x), .int (0), .int (tr)]))] H := hP
  have hD : va_D A [(h0, .inr (7, [.ref (b 0), .ref (b 1), .ref (b 2), .ref (b 3), .ref (b 4), .int (z), .int (x), .int (0), .int (tr)]))] := hD
  refine lv_aload_n hx hb dX7_begin_10 rfl (lv_at hl 0 rfl) ?_
  refine lv_iconst hx hb dX7_begin_11 (v := 0) rfl ?_
  refine va_put (D := D) (ci := 7) (v := .int (0)) (ty := .int) (C := RX7) (T := TX7) (N := 9) hx hb hts (fun w h => List.mem_cons_of_mem _ (List.mem_append_right _ h)) tyX7 tyX7_ok nmX7 hown hK hP hD hS 0 rfl rfl 8 (by decide) (hts (.fieldLink RX7 40 "ProofHouse$Room" "trouble" "I") (List.mem_of_getElem? (i := 3) rfl)) (fun _ h9 => h9) rfl (tyX7_ok 8 (by decide)) rfl rfl (Nat.le_of_ble_eq_true rfl) dX7_begin_12 ?_
  clear hP hD hS
  intro H locs hP hD hS
  have hP : va_P D vwCl [(h0, .inr (7, [.ref (b 0), .ref (b 1), .ref (b 2), .ref (b 3), .ref (b 4), .int (z), .int (x), .int (0), .int (0)]))] H := hP
  have hD : va_D A [(h0, .inr (7, [.ref (b 0), .ref (b 1), .ref (b 2), .ref (b 3), .ref (b 4), .int (z), .int (x), .int (0), .int (0)]))] := hD
  exact W.vret hx hb hr (fun t ht hW => ⟨⟨(), rfl, trivial, trivial⟩, hS.F ht⟩) hS.2.2 dX7_begin_15

set_option maxHeartbeats 4000000 in
set_option maxRecDepth 100000 in
/-- begin -/
theorem h_pbegin (l : Launch) (D : va_G) (h0 sz : Nat) (b : Nat → Nat) (z4 z6 z8 z10 : Int32)  : Met l yX4_begin wsX4_begin ({ frames := 0, cells := 0, slots := 0, locals := 0 }) (va_Pc [.ref (h0)] (fun U => U.heap.size = sz ∧ va_P D vwCl [(h0, .inr (4, [.ref (b 0), .ref (b 1), .ref (b 2), .ref (b 3), .int (z4), .ref (b 5), .int (z6), .ref (b 7), .int (z8), .ref (b 9), .int (z10)]))] U.heap ∧ va_K D vwCl [] U ∧ va_D (fun _ => True) [(h0, .inr (4, [.ref (b 0), .ref (b 1), .ref (b 2), .ref (b 3), .int (z4), .ref (b 5), .int (z6), .ref (b 7), .int (z8), .ref (b 9), .int (z10)]))])) (va_Qv (fun _ : Unit => True) (fun _ _ => True) (va_A [(h0, .inr (4, [.ref (b 0), .ref (b 1), .ref (b 2), .ref (b 3), .int (z4), .ref (b 5), .int (z6), .ref (b 7), .int (z8), .ref (b 9), .int (z10)]))] sz)) 0 0 (va_A [(h0, .inr (4, [.ref (b 0), .ref (b 1), .ref (b 2), .ref (b 3), .int (z4), .ref (b 5), .int (z6), .ref (b 7), .int (z8), .ref (b 9), .int (z10)]))] sz) := by
  refine Met.ofW (cc := cX4_begin) (maxL := 1) (ret := none) (by decide) rfl ?_
  intro p e s m args below meth c s₁ B hml hv
  obtain ⟨rfl, hsz, hP, hK, hD0⟩ := hv
  have hx := B.exec
  have hb := B.bytes
  have hr := B.returns
  have hts := atoms_spec (ws := wsX4_begin) B.pre
  have hown : s.vm.findClass RX4 = some m.cls := findClass_of_methodNamed B.named
  have hnm : meth.name = "begin" := (name_of_methodNamed B.named B.method).1
  subst hsz
  have hD := hD0.self (sz := s.heap.size)
  generalize hAe : va_A ([(h0, .inr (4, [.ref (b 0), .ref (b 1), .ref (b 2), .ref (b 3), .int (z4), .ref (b 5), .int (z6), .ref (b 7), .int (z8), .ref (b 9), .int (z10)]))]) s.heap.size = A at hD ⊢
  have hA : ∀ q : Nat, s.heap.size ≤ q → A q := fun q h => by rw [← hAe]; exact Or.inr h
  have hS : va_S A s.heap s.heap [] := va_S.rf
  have hl := lv_entry ([.ref (h0)]) (n := 1) (Nat.le_of_ble_eq_true rfl)
  rw [lg_entry_eq]
  generalize (lg_sl ([.ref (h0)]) ++ List.replicate (1 - (lg_sl ([.ref (h0)])).length) Slot.unset).toArray = ls at hl ⊢
  have hl : lv_has ls 1 [(0, .ref (h0))] := hl
  refine lv_aload_n hx hb dX4_begin_0 rfl (lv_at hl 0 rfl) ?_
  refine lv_iconst hx hb dX4_begin_1 (v := 0) rfl ?_
  refine va_put (D := D) (ci := 4) (v := .int (0)) (ty := .int) (C := RX4) (T := TX4) (N := 11) hx hb hts (fun w h => List.mem_cons_of_mem _ (List.mem_append_right _ h)) tyX4 tyX4_ok nmX4 hown hK hP hD hS 0 rfl rfl 4 (by decide) (hts (.fieldLink RX4 17 "ProofHouse$Prover" "givenCount" "I") (List.mem_of_getElem? (i := 1) rfl)) (fun _ h9 => h9) rfl (tyX4_ok 4 (by decide)) rfl rfl (Nat.le_of_ble_eq_true rfl) dX4_begin_2 ?_
  clear hP hD hS
  intro H locs hP hD hS
  have hP : va_P D vwCl [(h0, .inr (4, [.ref (b 0), .ref (b 1), .ref (b 2), .ref (b 3), .int (0), .ref (b 5), .int (z6), .ref (b 7), .int (z8), .ref (b 9), .int (z10)]))] H := hP
  have hD : va_D A [(h0, .inr (4, [.ref (b 0), .ref (b 1), .ref (b 2), .ref (b 3), .int (0), .ref (b 5), .int (z6), .ref (b 7), .int (z8), .ref (b 9), .int (z10)]))] := hD
  refine lv_aload_n hx hb dX4_begin_5 rfl (lv_at hl 0 rfl) ?_
  refine lv_iconst hx hb dX4_begin_6 (v := 0) rfl ?_
  refine va_put (D := D) (ci := 4) (v := .int (0)) (ty := .int) (C := RX4) (T := TX4) (N := 11) hx hb hts (fun w h => List.mem_cons_of_mem _ (List.mem_append_right _ h)) tyX4 tyX4_ok nmX4 hown hK hP hD hS 0 rfl rfl 8 (by decide) (hts (.fieldLink RX4 30 "ProofHouse$Prover" "leftCount" "I") (List.mem_of_getElem? (i := 2) rfl)) (fun _ h9 => h9) rfl (tyX4_ok 8 (by decide)) rfl rfl (Nat.le_of_ble_eq_true rfl) dX4_begin_7 ?_
  clear hP hD hS
  intro H locs hP hD hS
  have hP : va_P D vwCl [(h0, .inr (4, [.ref (b 0), .ref (b 1), .ref (b 2), .ref (b 3), .int (0), .ref (b 5), .int (z6), .ref (b 7), .int (0), .ref (b 9), .int (z10)]))] H := hP
  have hD : va_D A [(h0, .inr (4, [.ref (b 0), .ref (b 1), .ref (b 2), .ref (b 3), .int (0), .ref (b 5), .int (z6), .ref (b 7), .int (0), .ref (b 9), .int (z10)]))] := hD
  exact W.vret hx hb hr (fun t ht hW => ⟨⟨(), rfl, trivial, trivial⟩, hS.F ht⟩) hS.2.2 dX4_begin_10

def wc_rforget : List Cond := .code yX7_forget cX7_forget 3 none :: ([Cond.fieldLink RX7 30 "ProofHouse$Room" "used" "I", Cond.methodLink RX7 79 Lib.Math.min.name, Cond.static Lib.Math.min.name, Cond.initialized "java/lang/Math", Cond.code Lib.Math.min.name Lib.Math.min.code 2 (some .int), Cond.methodLink RX7 85 Lib.Math.max.name, Cond.static Lib.Math.max.name, Cond.code Lib.Math.max.name Lib.Math.max.code 2 (some .int)] ++ wsX70)

set_option maxHeartbeats 4000000 in
set_option maxRecDepth 100000 in
/-- forget -/
theorem h_rforget (l : Launch) (D : va_G) (h0 sz : Nat) (b : Nat → Nat) (n : Nat) (g sp tr : Int32) (hn : n ≤ 220) : Met l yX7_forget wc_rforget ({ frames := 1, cells := 0, slots := 0, locals := 16 }) (va_Pc [.ref (h0), .int (nI n)] (fun U => U.heap.size = sz ∧ va_P D vwCl [(h0, .inr (7, [.ref (b 0), .ref (b 1), .ref (b 2), .ref (b 3), .ref (b 4), .int (nI n), .int (g), .int (sp), .int (tr)]))] U.heap ∧ va_K D vwCl [] U ∧ va_D (fun _ => True) [(h0, .inr (7, [.ref (b 0), .ref (b 1), .ref (b 2), .ref (b 3), .ref (b 4), .int (nI n), .int (g), .int (sp), .int (tr)]))])) (va_Qv (fun u : Int32 => True) (fun u t => va_P D vwCl ([(h0, .inr (7, [.ref (b 0), .ref (b 1), .ref (b 2), .ref (b 3), .ref (b 4), .int (u), .int (g), .int (sp), .int (tr)]))]) t.heap ∧ va_K D vwCl ([]) t ∧ va_D (va_A [(h0, .inr (7, [.ref (b 0), .ref (b 1), .ref (b 2), .ref (b 3), .ref (b 4), .int (nI n), .int (g), .int (sp), .int (tr)]))] sz) ([(h0, .inr (7, [.ref (b 0), .ref (b 1), .ref (b 2), .ref (b 3), .ref (b 4), .int (u), .int (g), .int (sp), .int (tr)]))])) (va_A [(h0, .inr (7, [.ref (b 0), .ref (b 1), .ref (b 2), .ref (b 3), .ref (b 4), .int (nI n), .int (g), .int (sp), .int (tr)]))] sz)) 0 0 (va_A [(h0, .inr (7, [.ref (b 0), .ref (b 1), .ref (b 2), .ref (b 3), .ref (b 4), .int (nI n), .int (g), .int (sp), .int (tr)]))] sz) := by
  refine Met.ofW (cc := cX7_forget) (maxL := 3) (ret := none) (by decide) rfl ?_
  intro p e s m args below meth c s₁ B hml hv
  obtain ⟨rfl, hsz, hP, hK, hD0⟩ := hv
  have hx := B.exec
  have hb := B.bytes
  have hr := B.returns
  have hts := atoms_spec (ws := wc_rforget) B.pre
  have hown : s.vm.findClass RX7 = some m.cls := findClass_of_methodNamed B.named
  have hnm : meth.name = "forget" := (name_of_methodNamed B.named B.method).1
  subst hsz
  have hD := hD0.self (sz := s.heap.size)
  generalize hAe : va_A ([(h0, .inr (7, [.ref (b 0), .ref (b 1), .ref (b 2), .ref (b 3), .ref (b 4), .int (nI n), .int (g), .int (sp), .int (tr)]))]) s.heap.size = A at hD ⊢
  have hA : ∀ q : Nat, s.heap.size ≤ q → A q := fun q h => by rw [← hAe]; exact Or.inr h
  have hS : va_S A s.heap s.heap [] := va_S.rf
  have hl := lv_entry ([.ref (h0), .int (nI n)]) (n := 3) (Nat.le_of_ble_eq_true rfl)
  rw [lg_entry_eq]
  generalize (lg_sl ([.ref (h0), .int (nI n)]) ++ List.replicate (3 - (lg_sl ([.ref (h0), .int (nI n)])).length) Slot.unset).toArray = ls at hl ⊢
  have hl : lv_has ls 3 [(0, .ref (h0)), (1, .int (nI n))] := hl
  refine lv_aload_n hx hb dX7_forget_0 rfl (lv_at hl 0 rfl) ?_
  refine va_get (D := D) (ci := 7) (v := .int (nI n)) (C := RX7) (T := TX7) (N := 9) hx hb hts (fun w h => List.mem_cons_of_mem _ (List.mem_append_right _ h)) hown hK hP 0 rfl rfl 5 (by decide) (hts (.fieldLink RX7 30 "ProofHouse$Room" "used" "I") (List.mem_of_getElem? (i := 1) rfl)) (fun _ h9 => h9) rfl dX7_forget_1 ?_
  refine lv_iconst hx hb dX7_forget_4 (v := 1) rfl ?_
  refine lv_isub hx hb dX7_forget_5 ?_
  refine lv_istore_n hx hb dX7_forget_6 rfl hl (by decide) rfl (fun ls hl => ?_)
  have hl : lv_has ls 3 [(2, .int ((nI n) - 1)), (0, .ref (h0)), (1, .int (nI n))] := hl
  refine lv_iload_n hx hb dX7_forget_7 rfl (lv_at hl 0 rfl) ?_
  refine lv_iload_n hx hb dX7_forget_8 rfl (lv_at hl 2 rfl) ?_
  refine lv_icmp_lt hx hb dX7_forget_9 (tgt := 47) rfl (fun h1 => ?_) (fun h1 => ?_)
  · refine lv_aload_n hx hb dX7_forget_47 rfl (lv_at hl 1 rfl) ?_
    refine lv_iconst hx hb dX7_forget_48 (v := 0) rfl ?_
    refine lv_aload_n hx hb dX7_forget_49 rfl (lv_at hl 1 rfl) ?_
    refine va_get (D := D) (ci := 7) (v := .int (nI n)) (C := RX7) (T := TX7) (N := 9) hx hb hts (fun w h => List.mem_cons_of_mem _ (List.mem_append_right _ h)) hown hK hP 0 rfl rfl 5 (by decide) (hts (.fieldLink RX7 30 "ProofHouse$Room" "used" "I") (List.mem_of_getElem? (i := 1) rfl)) (fun _ h9 => h9) rfl dX7_forget_50 ?_
    refine lv_iload_n hx hb dX7_forget_53 rfl (lv_at hl 2 rfl) ?_
    refine va_mmin hx hb (by rw [hml]; exact hl.1.symm) hown (hts (.methodLink RX7 79 Lib.Math.min.name) (List.mem_of_getElem? (i := 2) rfl)) (hts (.static Lib.Math.min.name) (List.mem_of_getElem? (i := 3) rfl)) (hts (.initialized "java/lang/Math") (List.mem_of_getElem? (i := 4) rfl)) (hts (.code Lib.Math.min.name Lib.Math.min.code 2 (some .int)) (List.mem_of_getElem? (i := 5) rfl)) (Nat.le_of_ble_eq_true rfl) (Nat.le_of_ble_eq_true rfl) (Nat.le_of_ble_eq_true rfl) (Nat.le_of_ble_eq_true rfl) dX7_forget_54 ?_
    refine va_mmax hx hb (by rw [hml]; exact hl.1.symm) hown (hts (.methodLink RX7 85 Lib.Math.max.name) (List.mem_of_getElem? (i := 6) rfl)) (hts (.static Lib.Math.max.name) (List.mem_of_getElem? (i := 7) rfl)) (hts (.initialized "java/lang/Math") (List.mem_of_getElem? (i := 4) rfl)) (hts (.code Lib.Math.max.name Lib.Math.max.code 2 (some .int)) (List.mem_of_getElem? (i := 8) rfl)) (Nat.le_of_ble_eq_true rfl) (Nat.le_of_ble_eq_true rfl) (Nat.le_of_ble_eq_true rfl) (Nat.le_of_ble_eq_true rfl) dX7_forget_57 ?_
    refine va_put (D := D) (ci := 7) (v := .int (if 0 < if nI n < nI n then nI n else nI n then if nI n < nI n then nI n else nI n else 0)) (ty := .int) (C := RX7) (T := TX7) (N := 9) hx hb hts (fun w h => List.mem_cons_of_mem _ (List.mem_append_right _ h)) tyX7 tyX7_ok nmX7 hown hK hP hD hS 0 rfl rfl 5 (by decide) (hts (.fieldLink RX7 30 "ProofHouse$Room" "used" "I") (List.mem_of_getElem? (i := 1) rfl)) (fun _ h9 => h9) rfl (tyX7_ok 5 (by decide)) rfl rfl (Nat.le_of_ble_eq_true rfl) dX7_forget_60 ?_
    clear hP hD hS
    intro H locs hP hD hS
    have hP : va_P D vwCl [(h0, .inr (7, [.ref (b 0), .ref (b 1), .ref (b 2), .ref (b 3), .ref (b 4), .int (if 0 < if nI n < nI n then nI n else nI n then if nI n < nI n then nI n else nI n else 0), .int (g), .int (sp), .int (tr)]))] H := hP
    have hD : va_D A [(h0, .inr (7, [.ref (b 0), .ref (b 1), .ref (b 2), .ref (b 3), .ref (b 4), .int (if 0 < if nI n < nI n then nI n else nI n then if nI n < nI n then nI n else nI n else 0), .int (g), .int (sp), .int (tr)]))] := hD
    exact W.vret hx hb hr (fun t ht hW => ⟨⟨if 0 < if nI n < nI n then nI n else nI n then if nI n < nI n then nI n else nI n else 0, rfl, trivial, ⟨by rw [ht]; exact hP, va_K.moved hW.alike hK, hD⟩⟩, hS.F ht⟩) hS.2.2 dX7_forget_63
  · exact absurd (n_pred hn) h1

set_option maxHeartbeats 4000000 in
set_option maxRecDepth 100000 in
/-- muteNone -/
theorem h_muteNone (l : Launch) (D : va_G) (h0 sz : Nat) (b : Nat → Nat) (cA : ClassId) (z5 z16 z19 z20 : Int32)  : Met l yX0_muteNone wsX0_muteNone ({ frames := 0, cells := 0, slots := 0, locals := 0 }) (va_Pc [.ref (h0)] (fun U => U.heap.size = sz ∧ va_P D vwCl [(h0, .inr (0, [.ref (b 0), .ref (b 1), .ref (b 2), .ref (b 3), .ref (b 4), .int (z5), .ref (b 6), .ref (b 7), .ref (b 8), .ref (b 9), .ref (b 10), .ref (b 11), .ref (b 12), .ref (b 13), .ref (b 14), .ref (b 15), .int (z16), .ref (b 17), .ref (b 18), .int (z19), .int (z20)])), (b 15, .inl (cA, 60, .inl (fun _ => 0)))] U.heap ∧ va_K D vwCl [(cA, .boolean)] U ∧ va_D (fun _ => True) [(h0, .inr (0, [.ref (b 0), .ref (b 1), .ref (b 2), .ref (b 3), .ref (b 4), .int (z5), .ref (b 6), .ref (b 7), .ref (b 8), .ref (b 9), .ref (b 10), .ref (b 11), .ref (b 12), .ref (b 13), .ref (b 14), .ref (b 15), .int (z16), .ref (b 17), .ref (b 18), .int (z19), .int (z20)])), (b 15, .inl (cA, 60, .inl (fun _ => 0)))])) (va_Qv (fun _ : Unit => True) (fun _ _ => True) (va_A [(h0, .inr (0, [.ref (b 0), .ref (b 1), .ref (b 2), .ref (b 3), .ref (b 4), .int (z5), .ref (b 6), .ref (b 7), .ref (b 8), .ref (b 9), .ref (b 10), .ref (b 11), .ref (b 12), .ref (b 13), .ref (b 14), .ref (b 15), .int (z16), .ref (b 17), .ref (b 18), .int (z19), .int (z20)])), (b 15, .inl (cA, 60, .inl (fun _ => 0)))] sz)) 0 0 (va_A [(h0, .inr (0, [.ref (b 0), .ref (b 1), .ref (b 2), .ref (b 3), .ref (b 4), .int (z5), .ref (b 6), .ref (b 7), .ref (b 8), .ref (b 9), .ref (b 10), .ref (b 11), .ref (b 12), .ref (b 13), .ref (b 14), .ref (b 15), .int (z16), .ref (b 17), .ref (b 18), .int (z19), .int (z20)])), (b 15, .inl (cA, 60, .inl (fun _ => 0)))] sz) := by
  refine Met.ofW (cc := cX0_muteNone) (maxL := 2) (ret := none) (by decide) rfl ?_
  intro p e s m args below meth c s₁ B hml hv
  obtain ⟨rfl, hsz, hP, hK, hD0⟩ := hv
  have hx := B.exec
  have hb := B.bytes
  have hr := B.returns
  have hts := atoms_spec (ws := wsX0_muteNone) B.pre
  have hown : s.vm.findClass RX0 = some m.cls := findClass_of_methodNamed B.named
  have hnm : meth.name = "muteNone" := (name_of_methodNamed B.named B.method).1
  subst hsz
  have hD := hD0.self (sz := s.heap.size)
  generalize hAe : va_A ([(h0, .inr (0, [.ref (b 0), .ref (b 1), .ref (b 2), .ref (b 3), .ref (b 4), .int (z5), .ref (b 6), .ref (b 7), .ref (b 8), .ref (b 9), .ref (b 10), .ref (b 11), .ref (b 12), .ref (b 13), .ref (b 14), .ref (b 15), .int (z16), .ref (b 17), .ref (b 18), .int (z19), .int (z20)])), (b 15, .inl (cA, 60, .inl (fun _ => 0)))]) s.heap.size = A at hD ⊢
  have hA : ∀ q : Nat, s.heap.size ≤ q → A q := fun q h => by rw [← hAe]; exact Or.inr h
  have hS : va_S A s.heap s.heap [] := va_S.rf
  have hl := lv_entry ([.ref (h0)]) (n := 2) (Nat.le_of_ble_eq_true rfl)
  rw [lg_entry_eq]
  generalize (lg_sl ([.ref (h0)]) ++ List.replicate (2 - (lg_sl ([.ref (h0)])).length) Slot.unset).toArray = ls at hl ⊢
  have hl : lv_has ls 2 [(0, .ref (h0))] := hl
  refine lv_iconst hx hb dX0_muteNone_0 (v := 0) rfl ?_
  refine lv_istore_n hx hb dX0_muteNone_1 rfl hl (by decide) rfl (fun ls hl => ?_)
  have hl : lv_has ls 2 [(1, .int (0)), (0, .ref (h0))] := hl
  refine w_loopC (nL := 2) (wd := fun q : (Nat → Int32) × Nat => [(h0, .inr (0, [.ref (b 0), .ref (b 1), .ref (b 2), .ref (b 3), .ref (b 4), .int (z5), .ref (b 6), .ref (b 7), .ref (b 8), .ref (b 9), .ref (b 10), .ref (b 11), .ref (b 12), .ref (b 13), .ref (b 14), .ref (b 15), .int (z16), .ref (b 17), .ref (b 18), .int (z19), .int (z20)])), (b 15, .inl (cA, 60, .inl (q.1)))]) (lst := fun q : (Nat → Int32) × Nat => [(1, .int (nI q.2)), (0, .ref h0)]) (ce := fun _ => 0) (sl := fun _ => 0) (μ := fun q => 60 - q.2) (I := fun q => q.2 ≤ 60) ?_ (fun _ => 0, 0) ls (Nat.zero_le _) hP hD hS hl
  clear hP hD hS hl
  intro q H locs ls hI hP hD hS hl ih
  obtain ⟨ft, k⟩ := q
  dsimp only at hI hP hD
  have hl : lv_has ls 2 [(1, .int (nI k)), (0, .ref (h0))] := hl
  have hP : va_P D vwCl [(h0, .inr (0, [.ref (b 0), .ref (b 1), .ref (b 2), .ref (b 3), .ref (b 4), .int (z5), .ref (b 6), .ref (b 7), .ref (b 8), .ref (b 9), .ref (b 10), .ref (b 11), .ref (b 12), .ref (b 13), .ref (b 14), .ref (b 15), .int (z16), .ref (b 17), .ref (b 18), .int (z19), .int (z20)])), (b 15, .inl (cA, 60, .inl (ft)))] H := hP
  have hD : va_D A [(h0, .inr (0, [.ref (b 0), .ref (b 1), .ref (b 2), .ref (b 3), .ref (b 4), .int (z5), .ref (b 6), .ref (b 7), .ref (b 8), .ref (b 9), .ref (b 10), .ref (b 11), .ref (b 12), .ref (b 13), .ref (b 14), .ref (b 15), .int (z16), .ref (b 17), .ref (b 18), .int (z19), .int (z20)])), (b 15, .inl (cA, 60, .inl (ft)))] := hD
  show W _ _ _ _ _ _ _ _ _ _ _ _ 0 0 _ _
  refine lv_iload_n hx hb dX0_muteNone_2 rfl (lv_at hl 0 rfl) ?_
  refine lv_bipush hx hb dX0_muteNone_3 (v := 60) rfl ?_
  refine lv_icmp_ge hx hb dX0_muteNone_5 (tgt := 21) rfl (fun h1 => ?_) (fun h1 => ?_)
  · exact W.vret hx hb hr (fun t ht hW => ⟨⟨(), rfl, trivial, trivial⟩, hS.F ht⟩) hS.2.2 dX0_muteNone_21
  · have hj : k < 60 := by
      rcases Nat.lt_or_ge k 60 with h | h
      · exact h
      · exact absurd (nI_le h (by omega)) h1
    refine lv_aload_n hx hb dX0_muteNone_8 rfl (lv_at hl 1 rfl) ?_
    refine va_get (D := D) (ci := 0) (v := .ref (b 15)) (C := RX0) (T := TX0) (N := 21) hx hb hts (fun w h => List.mem_cons_of_mem _ (List.mem_append_right _ h)) hown hK hP 0 rfl rfl 15 (by decide) (hts (.fieldLink RX0 61 "ProofHouse$Book" "muted" "[Z") (List.mem_of_getElem? (i := 1) rfl)) (fun _ h9 => h9) rfl dX0_muteNone_9 ?_
    refine lv_iload_n hx hb dX0_muteNone_12 rfl (lv_at hl 0 rfl) ?_
    refine lv_iconst hx hb dX0_muteNone_13 (v := 0) rfl ?_
    refine va_zast hx hb hK hP hD hS 1 0 rfl rfl (vp_in_nI hj (by decide)) dX0_muteNone_14 ?_
    clear hP hD hS
    intro H locs hP hD hS
    have hP : va_P D vwCl [(h0, .inr (0, [.ref (b 0), .ref (b 1), .ref (b 2), .ref (b 3), .ref (b 4), .int (z5), .ref (b 6), .ref (b 7), .ref (b 8), .ref (b 9), .ref (b 10), .ref (b 11), .ref (b 12), .ref (b 13), .ref (b 14), .ref (b 15), .int (z16), .ref (b 17), .ref (b 18), .int (z19), .int (z20)])), (b 15, .inl (cA, 60, .inl (upd (ft) (nI k : Int32).toNatClampNeg (vp_nar .boolean (0)))))] H := hP
    have hD : va_D A [(h0, .inr (0, [.ref (b 0), .ref (b 1), .ref (b 2), .ref (b 3), .ref (b 4), .int (z5), .ref (b 6), .ref (b 7), .ref (b 8), .ref (b 9), .ref (b 10), .ref (b 11), .ref (b 12), .ref (b 13), .ref (b 14), .ref (b 15), .int (z16), .ref (b 17), .ref (b 18), .int (z19), .int (z20)])), (b 15, .inl (cA, 60, .inl (upd (ft) (nI k : Int32).toNatClampNeg (vp_nar .boolean (0)))))] := hD
    refine lv_iinc (v := nI k + 1) hx hb dX0_muteNone_15 hl (k := 0) rfl rfl (by decide) rfl (fun ls hl => ?_)
    have hl : lv_has ls 2 [(1, .int (nI k + 1)), (0, .ref (h0))] := hl
    refine lv_goto hx hb dX0_muteNone_18 (tgt := 2) rfl ?_
    exact ih (upd (ft) (nI k : Int32).toNatClampNeg (vp_nar .boolean (0)), k + 1) H locs ls hj (by show 60 - (k + 1) < 60 - k; omega) hP hD hS (by rw [nI_1] at hl; exact hl)

set_option maxHeartbeats 4000000 in
set_option maxRecDepth 100000 in
/-- refuse -/
theorem h_refuse (l : Launch) (D : va_G) (h0 sz : Nat) (b : Nat → Nat) (x y : Int32)  : Met l yX5_refuse wsX5_refuse ({ frames := 0, cells := 0, slots := 0, locals := 0 }) (va_Pc [.ref (h0), .int (x), .int (y)] (fun U => U.heap.size = sz ∧ va_P D vwCl [(h0, .inr (5, [.ref (b 0), .ref (b 1), .ref (b 2), .ref (b 3), .ref (b 4), .int (0), .int (0), .int (0), .int (0), .int (0), .int ((-1))]))] U.heap ∧ va_K D vwCl [] U ∧ va_D (fun _ => True) [(h0, .inr (5, [.ref (b 0), .ref (b 1), .ref (b 2), .ref (b 3), .ref (b 4), .int (0), .int (0), .int (0), .int (0), .int (0), .int ((-1))]))])) (va_Qv (fun u : Unit => True) (fun u t => va_P D vwCl ([(h0, .inr (5, [.ref (b 0), .ref (b 1), .ref (b 2), .ref (b 3), .ref (b 4), .int (0), .int (0), .int (0), .int (0), .int (x), .int (y)]))]) t.heap ∧ va_K D vwCl ([]) t ∧ va_D (va_A [(h0, .inr (5, [.ref (b 0), .ref (b 1), .ref (b 2), .ref (b 3), .ref (b 4), .int (0), .int (0), .int (0), .int (0), .int (0), .int ((-1))]))] sz) ([(h0, .inr (5, [.ref (b 0), .ref (b 1), .ref (b 2), .ref (b 3), .ref (b 4), .int (0), .int (0), .int (0), .int (0), .int (x), .int (y)]))])) (va_A [(h0, .inr (5, [.ref (b 0), .ref (b 1), .ref (b 2), .ref (b 3), .ref (b 4), .int (0), .int (0), .int (0), .int (0), .int (0), .int ((-1))]))] sz)) 0 0 (va_A [(h0, .inr (5, [.ref (b 0), .ref (b 1), .ref (b 2), .ref (b 3), .ref (b 4), .int (0), .int (0), .int (0), .int (0), .int (0), .int ((-1))]))] sz) := by
  refine Met.ofW (cc := cX5_refuse) (maxL := 3) (ret := none) (by decide) rfl ?_
  intro p e s m args below meth c s₁ B hml hv
  obtain ⟨rfl, hsz, hP, hK, hD0⟩ := hv
  have hx := B.exec
  have hb := B.bytes
  have hr := B.returns
  have hts := atoms_spec (ws := wsX5_refuse) B.pre
  have hown : s.vm.findClass RX5 = some m.cls := findClass_of_methodNamed B.named
  have hnm : meth.name = "refuse" := (name_of_methodNamed B.named B.method).1
  subst hsz
  have hD := hD0.self (sz := s.heap.size)
  generalize hAe : va_A ([(h0, .inr (5, [.ref (b 0), .ref (b 1), .ref (b 2), .ref (b 3), .ref (b 4), .int (0), .int (0), .int (0), .int (0), .int (0), .int ((-1))]))]) s.heap.size = A at hD ⊢
  have hA : ∀ q : Nat, s.heap.size ≤ q → A q := fun q h => by rw [← hAe]; exact Or.inr h
  have hS : va_S A s.heap s.heap [] := va_S.rf
  have hl := lv_entry ([.ref (h0), .int (x), .int (y)]) (n := 3) (Nat.le_of_ble_eq_true rfl)
  rw [lg_entry_eq]
  generalize (lg_sl ([.ref (h0), .int (x), .int (y)]) ++ List.replicate (3 - (lg_sl ([.ref (h0), .int (x), .int (y)])).length) Slot.unset).toArray = ls at hl ⊢
  have hl : lv_has ls 3 [(0, .ref (h0)), (1, .int (x)), (2, .int (y))] := hl
  refine lv_aload_n hx hb dX5_refuse_0 rfl (lv_at hl 0 rfl) ?_
  refine lv_iload_n hx hb dX5_refuse_1 rfl (lv_at hl 1 rfl) ?_
  refine va_put (D := D) (ci := 5) (v := .int (x)) (ty := .int) (C := RX5) (T := TX5) (N := 11) hx hb hts (fun w h => List.mem_cons_of_mem _ (List.mem_append_right _ h)) tyX5 tyX5_ok nmX5 hown hK hP hD hS 0 rfl rfl 9 (by decide) (hts (.fieldLink RX5 37 "ProofHouse$Reader" "flaw" "I") (List.mem_of_getElem? (i := 1) rfl)) (fun _ h9 => h9) rfl (tyX5_ok 9 (by decide)) rfl rfl (Nat.le_of_ble_eq_true rfl) dX5_refuse_2 ?_
  clear hP hD hS
  intro H locs hP hD hS
  have hP : va_P D vwCl [(h0, .inr (5, [.ref (b 0), .ref (b 1), .ref (b 2), .ref (b 3), .ref (b 4), .int (0), .int (0), .int (0), .int (0), .int (x), .int ((-1))]))] H := hP
  have hD : va_D A [(h0, .inr (5, [.ref (b 0), .ref (b 1), .ref (b 2), .ref (b 3), .ref (b 4), .int (0), .int (0), .int (0), .int (0), .int (x), .int ((-1))]))] := hD
  refine lv_aload_n hx hb dX5_refuse_5 rfl (lv_at hl 0 rfl) ?_
  refine lv_iload_n hx hb dX5_refuse_6 rfl (lv_at hl 2 rfl) ?_
  refine va_put (D := D) (ci := 5) (v := .int (y)) (ty := .int) (C := RX5) (T := TX5) (N := 11) hx hb hts (fun w h => List.mem_cons_of_mem _ (List.mem_append_right _ h)) tyX5 tyX5_ok nmX5 hown hK hP hD hS 0 rfl rfl 10 (by decide) (hts (.fieldLink RX5 40 "ProofHouse$Reader" "place" "I") (List.mem_of_getElem? (i := 2) rfl)) (fun _ h9 => h9) rfl (tyX5_ok 10 (by decide)) rfl rfl (Nat.le_of_ble_eq_true rfl) dX5_refuse_7 ?_
  clear hP hD hS
  intro H locs hP hD hS
  have hP : va_P D vwCl [(h0, .inr (5, [.ref (b 0), .ref (b 1), .ref (b 2), .ref (b 3), .ref (b 4), .int (0), .int (0), .int (0), .int (0), .int (x), .int (y)]))] H := hP
  have hD : va_D A [(h0, .inr (5, [.ref (b 0), .ref (b 1), .ref (b 2), .ref (b 3), .ref (b 4), .int (0), .int (0), .int (0), .int (0), .int (x), .int (y)]))] := hD
  exact W.vret hx hb hr (fun t ht hW => ⟨⟨(), rfl, trivial, ⟨by rw [ht]; exact hP, va_K.moved hW.alike hK, hD⟩⟩, hS.F ht⟩) hS.2.2 dX5_refuse_10

def wc_read : List Cond := .code yX5_read cX5_read 5 (some .int) :: (([Cond.fieldLink RX5 24 "ProofHouse$Reader" "depth" "I", Cond.fieldLink RX5 28 "ProofHouse$Reader" "held" "I", Cond.fieldLink RX5 31 "ProofHouse$Reader" "words" "I", Cond.fieldLink RX5 34 "ProofHouse$Reader" "whole" "I", Cond.fieldLink RX5 37 "ProofHouse$Reader" "flaw" "I", Cond.fieldLink RX5 40 "ProofHouse$Reader" "place" "I", Cond.fieldLink RX5 11 "ProofHouse$Reader" "phases" "[I"] ++ (wsV RX5 60 RX5 yX5_refuse wsX5_refuse)) ++ wsX50)
set_option maxRecDepth 100000 in
theorem g_wc_read_refuse : GoodIn wc_read (wsV RX5 60 RX5 yX5_refuse wsX5_refuse) := goodIn_sub (fun w h => List.mem_cons_of_mem _ (List.mem_append_left _ (List.mem_append_right _ h))) (by decide +kernel)
set_option maxHeartbeats 4000000 in
set_option maxRecDepth 100000 in
/-- read -/
theorem h_read (l : Launch) (D : va_G) (h0 sz : Nat) (b : Nat → Nat) (cA : ClassId) (tx : Nat)  : Met l yX5_read wc_read ({ frames := 1, cells := 0, slots := 0, locals := 30 }) (va_Pc [.ref (h0), .ref (tx), .int (0)] (fun U => U.heap.size = sz ∧ va_P D vwCl [(h0, .inr (5, [.ref (b 0), .ref (b 1), .ref (b 2), .ref (b 3), .ref (b 4), .int (0), .int (0), .int (0), .int (0), .int (0), .int ((-1))])), (b 1, .inl (cA, 41, .inl (fun _ => 0)))] U.heap ∧ va_K D vwCl [(cA, .int)] U ∧ va_D (fun _ => True) [(h0, .inr (5, [.ref (b 0), .ref (b 1), .ref (b 2), .ref (b 3), .ref (b 4), .int (0), .int (0), .int (0), .int (0), .int (0), .int ((-1))])), (b 1, .inl (cA, 41, .inl (fun _ => 0)))])) (va_Qi (fun (r : Int32) (u : Unit) => True) (fun u t => va_P D vwCl ([(h0, .inr (5, [.ref (b 0), .ref (b 1), .ref (b 2), .ref (b 3), .ref (b 4), .int (0), .int (0), .int (0), .int (0), .int (3), .int (0)]))]) t.heap ∧ va_K D vwCl ([]) t ∧ va_D (va_A [(h0, .inr (5, [.ref (b 0), .ref (b 1), .ref (b 2), .ref (b 3), .ref (b 4), .int (0), .int (0), .int (0), .int (0), .int (0), .int ((-1))])), (b 1, .inl (cA, 41, .inl (fun _ => 0)))] sz) ([(h0, .inr (5, [.ref (b 0), .ref (b 1), .ref (b 2), .ref (b 3), .ref (b 4), .int (0), .int (0), .int (0), .int (0), .int (3), .int (0)]))])) (va_A [(h0, .inr (5, [.ref (b 0), .ref (b 1), .ref (b 2), .ref (b 3), .ref (b 4), .int (0), .int (0), .int (0), .int (0), .int (0), .int ((-1))])), (b 1, .inl (cA, 41, .inl (fun _ => 0)))] sz)) 0 0 (va_A [(h0, .inr (5, [.ref (b 0), .ref (b 1), .ref (b 2), .ref (b 3), .ref (b 4), .int (0), .int (0), .int (0), .int (0), .int (0), .int ((-1))])), (b 1, .inl (cA, 41, .inl (fun _ => 0)))] sz) := by
  refine Met.ofW (cc := cX5_read) (maxL := 5) (ret := (some .int)) (by decide) rfl ?_
  intro p e s m args below meth c s₁ B hml hv
  obtain ⟨rfl, hsz, hP, hK, hD0⟩ := hv
  have hx := B.exec
  have hb := B.bytes
  have hr := B.returns
  have hts := atoms_spec (ws := wc_read) B.pre
  have hown : s.vm.findClass RX5 = some m.cls := findClass_of_methodNamed B.named
  have hnm : meth.name = "read" := (name_of_methodNamed B.named B.method).1
  subst hsz
  have hD := hD0.self (sz := s.heap.size)
  generalize hAe : va_A ([(h0, .inr (5, [.ref (b 0), .ref (b 1), .ref (b 2), .ref (b 3), .ref (b 4), .int (0), .int (0), .int (0), .int (0), .int (0), .int ((-1))])), (b 1, .inl (cA, 41, .inl (fun _ => 0)))]) s.heap.size = A at hD ⊢
  have hA : ∀ q : Nat, s.heap.size ≤ q → A q := fun q h => by rw [← hAe]; exact Or.inr h
  have hS : va_S A s.heap s.heap [] := va_S.rf
  have hl := lv_entry ([.ref (h0), .ref (tx), .int (0)]) (n := 5) (Nat.le_of_ble_eq_true rfl)
  rw [lg_entry_eq]
  generalize (lg_sl ([.ref (h0), .ref (tx), .int (0)]) ++ List.replicate (5 - (lg_sl ([.ref (h0), .ref (tx), .int (0)])).length) Slot.unset).toArray = ls at hl ⊢
  have hl : lv_has ls 5 [(0, .ref (h0)), (1, .ref (tx)), (2, .int (0))] := hl
  refine lv_aload_n hx hb dX5_read_0 rfl (lv_at hl 0 rfl) ?_
  refine lv_iconst hx hb dX5_read_1 (v := 0) rfl ?_
  refine va_put (D := D) (ci := 5) (v := .int (0)) (ty := .int) (C := RX5) (T := TX5) (N := 11) hx hb hts (fun w h => List.mem_cons_of_mem _ (List.mem_append_right _ h)) tyX5 tyX5_ok nmX5 hown hK hP hD hS 0 rfl rfl 5 (by decide) (hts (.fieldLink RX5 24 "ProofHouse$Reader" "depth" "I") (List.mem_of_getElem? (i := 1) rfl)) (fun _ h9 => h9) rfl (tyX5_ok 5 (by decide)) rfl rfl (Nat.le_of_ble_eq_true rfl) dX5_read_2 ?_
  clear hP hD hS
  intro H locs hP hD hS
  have hP : va_P D vwCl [(h0, .inr (5, [.ref (b 0), .ref (b 1), .ref (b 2), .ref (b 3), .ref (b 4), .int (0), .int (0), .int (0), .int (0), .int (0), .int ((-1))])), (b 1, .inl (cA, 41, .inl (fun _ => 0)))] H := hP
  have hD : va_D A [(h0, .inr (5, [.ref (b 0), .ref (b 1), .ref (b 2), .ref (b 3), .ref (b 4), .int (0), .int (0), .int (0), .int (0), .int (0), .int ((-1))])), (b 1, .inl (cA, 41, .inl (fun _ => 0)))] := hD
  refine lv_aload_n hx hb dX5_read_5 rfl (lv_at hl 0 rfl) ?_
  refine lv_iconst hx hb dX5_read_6 (v := 0) rfl ?_
  refine va_put (D := D) (ci := 5) (v := .int (0)) (ty := .int) (C := RX5) (T := TX5) (N := 11) hx hb hts (fun w h => List.mem_cons_of_mem _ (List.mem_append_right _ h)) tyX5 tyX5_ok nmX5 hown hK hP hD hS 0 rfl rfl 6 (by decide) (hts (.fieldLink RX5 28 "ProofHouse$Reader" "held" "I") (List.mem_of_getElem? (i := 2) rfl)) (fun _ h9 => h9) rfl (tyX5_ok 6 (by decide)) rfl rfl (Nat.le_of_ble_eq_true rfl) dX5_read_7 ?_
  clear hP hD hS
  intro H locs hP hD hS
  have hP : va_P D vwCl [(h0, .inr (5, [.ref (b 0), .ref (b 1), .ref (b 2), .ref (b 3), .ref (b 4), .int (0), .int (0), .int (0), .int (0), .int (0), .int ((-1))])), (b 1, .inl (cA, 41, .inl (fun _ => 0)))] H := hP
  have hD : va_D A [(h0, .inr (5, [.ref (b 0), .ref (b 1), .ref (b 2), .ref (b 3), .ref (b 4), .int (0), .int (0), .int (0), .int (0), .int (0), .int ((-1))])), (b 1, .inl (cA, 41, .inl (fun _ => 0)))] := hD
  refine lv_aload_n hx hb dX5_read_10 rfl (lv_at hl 0 rfl) ?_
  refine lv_iconst hx hb dX5_read_11 (v := 0) rfl ?_
  refine va_put (D := D) (ci := 5) (v := .int (0)) (ty := .int) (C := RX5) (T := TX5) (N := 11) hx hb hts (fun w h => List.mem_cons_of_mem _ (List.mem_append_right _ h)) tyX5 tyX5_ok nmX5 hown hK hP hD hS 0 rfl rfl 7 (by decide) (hts (.fieldLink RX5 31 "ProofHouse$Reader" "words" "I") (List.mem_of_getElem? (i := 3) rfl)) (fun _ h9 => h9) rfl (tyX5_ok 7 (by decide)) rfl rfl (Nat.le_of_ble_eq_true rfl) dX5_read_12 ?_
  clear hP hD hS
  intro H locs hP hD hS
  have hP : va_P D vwCl [(h0, .inr (5, [.ref (b 0), .ref (b 1), .ref (b 2), .ref (b 3), .ref (b 4), .int (0), .int (0), .int (0), .int (0), .int (0), .int ((-1))])), (b 1, .inl (cA, 41, .inl (fun _ => 0)))] H := hP
  have hD : va_D A [(h0, .inr (5, [.ref (b 0), .ref (b 1), .ref (b 2), .ref (b 3), .ref (b 4), .int (0), .int (0), .int (0), .int (0), .int (0), .int ((-1))])), (b 1, .inl (cA, 41, .inl (fun _ => 0)))] := hD
  refine lv_aload_n hx hb dX5_read_15 rfl (lv_at hl 0 rfl) ?_
  refine lv_iconst hx hb dX5_read_16 (v := 0) rfl ?_
  refine va_put (D := D) (ci := 5) (v := .int (0)) (ty := .int) (C := RX5) (T := TX5) (N := 11) hx hb hts (fun w h => List.mem_cons_of_mem _ (List.mem_append_right _ h)) tyX5 tyX5_ok nmX5 hown hK hP hD hS 0 rfl rfl 8 (by decide) (hts (.fieldLink RX5 34 "ProofHouse$Reader" "whole" "I") (List.mem_of_getElem? (i := 4) rfl)) (fun _ h9 => h9) rfl (tyX5_ok 8 (by decide)) rfl rfl (Nat.le_of_ble_eq_true rfl) dX5_read_17 ?_
  clear hP hD hS
  intro H locs hP hD hS
  have hP : va_P D vwCl [(h0, .inr (5, [.ref (b 0), .ref (b 1), .ref (b 2), .ref (b 3), .ref (b 4), .int (0), .int (0), .int (0), .int (0), .int (0), .int ((-1))])), (b 1, .inl (cA, 41, .inl (fun _ => 0)))] H := hP
  have hD : va_D A [(h0, .inr (5, [.ref (b 0), .ref (b 1), .ref (b 2), .ref (b 3), .ref (b 4), .int (0), .int (0), .int (0), .int (0), .int (0), .int ((-1))])), (b 1, .inl (cA, 41, .inl (fun _ => 0)))] := hD
  refine lv_aload_n hx hb dX5_read_20 rfl (lv_at hl 0 rfl) ?_
  refine lv_iconst hx hb dX5_read_21 (v := 0) rfl ?_
  refine va_put (D := D) (ci := 5) (v := .int (0)) (ty := .int) (C := RX5) (T := TX5) (N := 11) hx hb hts (fun w h => List.mem_cons_of_mem _ (List.mem_append_right _ h)) tyX5 tyX5_ok nmX5 hown hK hP hD hS 0 rfl rfl 9 (by decide) (hts (.fieldLink RX5 37 "ProofHouse$Reader" "flaw" "I") (List.mem_of_getElem? (i := 5) rfl)) (fun _ h9 => h9) rfl (tyX5_ok 9 (by decide)) rfl rfl (Nat.le_of_ble_eq_true rfl) dX5_read_22 ?_
  clear hP hD hS
  intro H locs hP hD hS
  have hP : va_P D vwCl [(h0, .inr (5, [.ref (b 0), .ref (b 1), .ref (b 2), .ref (b 3), .ref (b 4), .int (0), .int (0), .int (0), .int (0), .int (0), .int ((-1))])), (b 1, .inl (cA, 41, .inl (fun _ => 0)))] H := hP
  have hD : va_D A [(h0, .inr (5, [.ref (b 0), .ref (b 1), .ref (b 2), .ref (b 3), .ref (b 4), .int (0), .int (0), .int (0), .int (0), .int (0), .int ((-1))])), (b 1, .inl (cA, 41, .inl (fun _ => 0)))] := hD
  refine lv_aload_n hx hb dX5_read_25 rfl (lv_at hl 0 rfl) ?_
  refine lv_iconst hx hb dX5_read_26 (v := (-1)) rfl ?_
  refine va_put (D := D) (ci := 5) (v := .int ((-1))) (ty := .int) (C := RX5) (T := TX5) (N := 11) hx hb hts (fun w h => List.mem_cons_of_mem _ (List.mem_append_right _ h)) tyX5 tyX5_ok nmX5 hown hK hP hD hS 0 rfl rfl 10 (by decide) (hts (.fieldLink RX5 40 "ProofHouse$Reader" "place" "I") (List.mem_of_getElem? (i := 6) rfl)) (fun _ h9 => h9) rfl (tyX5_ok 10 (by decide)) rfl rfl (Nat.le_of_ble_eq_true rfl) dX5_read_27 ?_
  clear hP hD hS
  intro H locs hP hD hS
  have hP : va_P D vwCl [(h0, .inr (5, [.ref (b 0), .ref (b 1), .ref (b 2), .ref (b 3), .ref (b 4), .int (0), .int (0), .int (0), .int (0), .int (0), .int ((-1))])), (b 1, .inl (cA, 41, .inl (fun _ => 0)))] H := hP
  have hD : va_D A [(h0, .inr (5, [.ref (b 0), .ref (b 1), .ref (b 2), .ref (b 3), .ref (b 4), .int (0), .int (0), .int (0), .int (0), .int (0), .int ((-1))])), (b 1, .inl (cA, 41, .inl (fun _ => 0)))] := hD
  refine lv_aload_n hx hb dX5_read_30 rfl (lv_at hl 0 rfl) ?_
  refine va_get (D := D) (ci := 5) (v := .ref (b 1)) (C := RX5) (T := TX5) (N := 11) hx hb hts (fun w h => List.mem_cons_of_mem _ (List.mem_append_right _ h)) hown hK hP 0 rfl rfl 1 (by decide) (hts (.fieldLink RX5 11 "ProofHouse$Reader" "phases" "[I") (List.mem_of_getElem? (i := 7) rfl)) (fun _ h9 => h9) rfl dX5_read_31 ?_
  refine lv_iconst hx hb dX5_read_34 (v := 0) rfl ?_
  refine lv_iconst hx hb dX5_read_35 (v := 0) rfl ?_
  refine va_iast hx hb hK hP hD hS 1 0 rfl rfl (by unfold vp_in; decide) dX5_read_36 ?_
  clear hP hD hS
  intro H locs hP hD hS
  have hP : va_P D vwCl [(h0, .inr (5, [.ref (b 0), .ref (b 1), .ref (b 2), .ref (b 3), .ref (b 4), .int (0), .int (0), .int (0), .int (0), .int (0), .int ((-1))])), (b 1, .inl (cA, 41, .inl (upd (fun _ => 0) (0 : Int32).toNatClampNeg (0))))] H := hP
  have hD : va_D A [(h0, .inr (5, [.ref (b 0), .ref (b 1), .ref (b 2), .ref (b 3), .ref (b 4), .int (0), .int (0), .int (0), .int (0), .int (0), .int ((-1))])), (b 1, .inl (cA, 41, .inl (upd (fun _ => 0) (0 : Int32).toNatClampNeg (0))))] := hD
  refine lv_iconst hx hb dX5_read_37 (v := 0) rfl ?_
  refine lv_istore_n hx hb dX5_read_38 rfl hl (by decide) rfl (fun ls hl => ?_)
  have hl : lv_has ls 5 [(3, .int (0)), (0, .ref (h0)), (1, .ref (tx)), (2, .int (0))] := hl
  refine lv_iload_n hx hb dX5_read_39 rfl (lv_at hl 0 rfl) ?_
  refine lv_iload_n hx hb dX5_read_40 rfl (lv_at hl 3 rfl) ?_
  refine lv_icmp_ge hx hb dX5_read_41 (tgt := 119) rfl (fun h1 => ?_) (fun h1 => ?_)
  · refine lv_aload_n hx hb dX5_read_119 rfl (lv_at hl 1 rfl) ?_
    refine va_get (D := D) (ci := 5) (v := .int (0)) (C := RX5) (T := TX5) (N := 11) hx hb hts (fun w h => List.mem_cons_of_mem _ (List.mem_append_right _ h)) hown hK hP 0 rfl rfl 9 (by decide) (hts (.fieldLink RX5 37 "ProofHouse$Reader" "flaw" "I") (List.mem_of_getElem? (i := 5) rfl)) (fun _ h9 => h9) rfl dX5_read_120 ?_
    refine lv_if_ne hx hb dX5_read_123 (tgt := 143) rfl (fun h2 => ?_) (fun h2 => ?_)
    · exact absurd rfl h2
    · refine lv_aload_n hx hb dX5_read_126 rfl (lv_at hl 1 rfl) ?_
      refine va_get (D := D) (ci := 5) (v := .ref (b 1)) (C := RX5) (T := TX5) (N := 11) hx hb hts (fun w h => List.mem_cons_of_mem _ (List.mem_append_right _ h)) hown hK hP 0 rfl rfl 1 (by decide) (hts (.fieldLink RX5 11 "ProofHouse$Reader" "phases" "[I") (List.mem_of_getElem? (i := 7) rfl)) (fun _ h9 => h9) rfl dX5_read_127 ?_
      refine lv_iconst hx hb dX5_read_130 (v := 0) rfl ?_
      refine va_iald hx hb hK hP 1 0 rfl rfl (by unfold vp_in; decide) dX5_read_131 ?_
      refine lv_topi (fun v3 ev3 => ?_)
      have ev3 : v3 = (upd (fun _ => 0) (0 : Int32).toNatClampNeg (0)) (0 : Int32).toNatClampNeg := ev3
      refine lv_bipush hx hb dX5_read_132 (v := 6) rfl ?_
      refine lv_icmp_eq hx hb dX5_read_134 (tgt := 143) rfl (fun h4 => ?_) (fun h4 => ?_)
      · exact absurd h4 (by rw [ev3, pk_us]; decide)
      · refine lv_aload_n hx hb dX5_read_137 rfl (lv_at hl 1 rfl) ?_
        refine lv_iconst hx hb dX5_read_138 (v := 3) rfl ?_
        refine lv_iload_n hx hb dX5_read_139 rfl (lv_at hl 3 rfl) ?_
        have hPc := hP.sub (ws' := [(h0, .inr (5, [.ref (b 0), .ref (b 1), .ref (b 2), .ref (b 3), .ref (b 4), .int (0), .int (0), .int (0), .int (0), .int (0), .int ((-1))]))]) [0] rfl
        have hDc := hD.sub (ws' := [(h0, .inr (5, [.ref (b 0), .ref (b 1), .ref (b 2), .ref (b 3), .ref (b 4), .int (0), .int (0), .int (0), .int (0), .int (0), .int ((-1))]))]) [0] (by decide) rfl
        have hKc := hK.sub (tys' := []) [] rfl
        have hFc := va_free (wc := [(h0, .inr (5, [.ref (b 0), .ref (b 1), .ref (b 2), .ref (b 3), .ref (b 4), .int (0), .int (0), .int (0), .int (0), .int (0), .int ((-1))]))]) hD hS hA [0] rfl
        refine va_callv (va_runV (As := [.int (3), .int (0)]) (rest := []) ⟨hx, hb, hml, hown, hts⟩ (h_refuse l D h0 H.size b 3 0) (cwV 2 hts g_wc_read_refuse rfl rfl rfl (by decide +kernel) ⟨Nat.le_of_ble_eq_true rfl, Nat.le_of_ble_eq_true rfl⟩) ⟨fun a U g mk q => by obtain ⟨q0, q1, qP, qK, qD⟩ := q; exact ⟨q0, q1, qP, va_K.moved (u := U) (U := U.calling g mk a) (Vm.Alike.refl U.vm) qK, qD⟩, va_recv hK hP (ci := 5) (q0 := 0) rfl rfl, fun U hU hW => ⟨rfl, by rw [hU], by rw [hU]; exact hPc, va_K.moved hW.alike hKc, hDc.weaken (fun _ _ _ _ => trivial)⟩⟩ rfl rfl hl.1 rfl (lv_room (Nat.le_of_ble_eq_true rfl)) dX5_read_140 ⟨Nat.le_of_ble_eq_true rfl, Nat.le_of_ble_eq_true rfl⟩) hS (fun q _ h => hFc q h) hFc ?_
        intro u5 t H7 lo1 ht hvm hwu5 hB hz1 hk1 hS1
        obtain ⟨hP1, hK1, hD1⟩ := hB
        rw [ht] at hP1
        have hK1 := va_K.moved hvm.symm hK1
        obtain ⟨hP, hD⟩ := va_join (wr := [(b 1, .inl (cA, 41, .inl (upd (fun _ => 0) (0 : Int32).toNatClampNeg (0))))]) (w1 := [(h0, .inr (5, [.ref (b 0), .ref (b 1), .ref (b 2), .ref (b 3), .ref (b 4), .int (0), .int (0), .int (0), .int (0), .int (3), .int (0)]))]) hP hD [0] [1] rfl rfl (by decide) (by decide) hk1 hFc hP1 hD1
        have hK := (hK.sub (tys' := [(cA, .int)]) [0] rfl).app hK1
        have hS := hS1
        clear hS1 hP1 hD1 hFc hKc hDc hPc hz1 hk1
        have hP : va_P D vwCl [(b 1, .inl (cA, 41, .inl (upd (fun _ => 0) (0 : Int32).toNatClampNeg (0)))), (h0, .inr (5, [.ref (b 0), .ref (b 1), .ref (b 2), .ref (b 3), .ref (b 4), .int (0), .int (0), .int (0), .int (0), .int (3), .int (0)]))] H7 := hP
        have hD : va_D A [(b 1, .inl (cA, 41, .inl (upd (fun _ => 0) (0 : Int32).toNatClampNeg (0)))), (h0, .inr (5, [.ref (b 0), .ref (b 1), .ref (b 2), .ref (b 3), .ref (b 4), .int (0), .int (0), .int (0), .int (0), .int (3), .int (0)]))] := hD
        have hK : va_K D vwCl [(cA, .int)] s := hK
        refine lv_aload_n hx hb dX5_read_143 rfl (lv_at hl 1 rfl) ?_
        refine va_get (D := D) (ci := 5) (v := .int (0)) (C := RX5) (T := TX5) (N := 11) hx hb hts (fun w h => List.mem_cons_of_mem _ (List.mem_append_right _ h)) hown hK hP 1 rfl rfl 8 (by decide) (hts (.fieldLink RX5 34 "ProofHouse$Reader" "whole" "I") (List.mem_of_getElem? (i := 4) rfl)) (fun _ h9 => h9) rfl dX5_read_144 ?_
        replace hP := hP.sub (ws' := [(h0, .inr (5, [.ref (b 0), .ref (b 1), .ref (b 2), .ref (b 3), .ref (b 4), .int (0), .int (0), .int (0), .int (0), .int (3), .int (0)]))]) [1] rfl
        replace hD := hD.sub (ws' := [(h0, .inr (5, [.ref (b 0), .ref (b 1), .ref (b 2), .ref (b 3), .ref (b 4), .int (0), .int (0), .int (0), .int (0), .int (3), .int (0)]))]) [1] (by decide) rfl
        replace hK := hK.sub (tys' := []) [] rfl
        exact W.iret (v := 0) hx hb hr (fun t ht hW => ⟨⟨0, (), rfl, trivial, ⟨by rw [ht]; exact hP, va_K.moved hW.alike hK, hD⟩⟩, hS.F ht⟩) hS.2.2 dX5_read_147
  · exact absurd (Int32.le_refl 0) h1
