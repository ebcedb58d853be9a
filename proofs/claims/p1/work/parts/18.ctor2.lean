section
variable {p : Program} {l : Launch} {e : Env} {R : Room} {s : State} {m : MethodId} {args : Array Value} {below : List Frame} {meth : Method} {c : Code} {H : Heap} {locs : List Loc} {Q : State → Prop}
/-- a loop that changes cells, locals, and makes cells -/
theorem w_loopC {D : va_G} {A : Nat → Prop} {H0 : Heap} {pc nL : Nat} {α : Type} (wd : α → va_W) (lst : α → List (Nat × Value)) (ce sl : α → Nat) (μ : α → Nat) (I : α → Prop) (step : ∀ (a : α) (H : Heap) (locs : List Loc) (ls : Array Slot), I a → va_P D vwCl (wd a) H → va_D A (wd a) → va_S A H0 H locs → lv_has ls nL (lst a) → (∀ (b : α) (H : Heap) (locs : List Loc) (ls' : Array Slot), I b → μ b < μ a → va_P D vwCl (wd b) H → va_D A (wd b) → va_S A H0 H locs → lv_has ls' nL (lst b) → W p l e R s m args below meth c H locs (ce b) (sl b) Q (F0 m pc ls' [])) → W p l e R s m args below meth c H locs (ce a) (sl a) Q (F0 m pc ls [])) (a : α) (ls : Array Slot) (hI : I a) (hP : va_P D vwCl (wd a) H) (hD : va_D A (wd a)) (hS : va_S A H0 H locs) (hl : lv_has ls nL (lst a)) : W p l e R s m args below meth c H locs (ce a) (sl a) Q (F0 m pc ls []) := by
  have key : ∀ (n : Nat) (a : α) (H : Heap) (locs : List Loc) (ls : Array Slot), μ a < n → I a → va_P D vwCl (wd a) H → va_D A (wd a) → va_S A H0 H locs → lv_has ls nL (lst a) → W p l e R s m args below meth c H locs (ce a) (sl a) Q (F0 m pc ls []) := by
    intro n
    induction n with
    | zero => intro a H locs ls h; exact absurd h (Nat.not_lt_zero _)
    | succ n ih => intro a H locs ls h hI hP hD hS hl; exact step a H locs ls hI hP hD hS hl (fun b H locs ls' hb hm hP hD hS hl' => ih b H locs ls' (by omega) hb hP hD hS hl')
  exact key (μ a + 1) a H locs ls (Nat.lt_succ_self _) hI hP hD hS hl
end

set_option maxHeartbeats 4000000 in
set_option maxRecDepth 100000 in
/-- ProofHouse$Prover() -/
theorem c_X4_init (l : Launch) (D : va_G) (h0 sz : Nat) (r1 : Nat) (r2 : Nat) (r3 : Nat) : Met l yX4_init wsX4_init ({ frames := 2, cells := 305, slots := 5284, locals := 40 }) (va_Pc [.ref (h0), .ref (r1), .ref (r2), .ref (r3)] (fun U => U.heap.size = sz ∧ va_P D vwCl [(h0, .inr (4, [.null, .null, .null, .null, .int 0, .null, .int 0, .null, .int 0, .null, .int 0]))] U.heap ∧ va_K D vwCl [] U ∧ va_D (fun _ => True) [(h0, .inr (4, [.null, .null, .null, .null, .int 0, .null, .int 0, .null, .int 0, .null, .int 0]))] ∧ va_AO RX1 U ∧ va_Nw (.methodLinkNest RX4 33 yX1_init "ProofHouse") U)) (va_Qv (fun u : Nat → Nat => True) (fun u t => va_P D vwCl ([(h0, .inr (4, [.ref (r1), .ref (r2), .ref (r3), .ref (u 3), .int (0), .ref (u 5), .int (0), .ref (u 7), .int (0), .ref (u 9), .int (0)]))]) t.heap ∧ va_K D vwCl ([]) t ∧ va_D (va_A [(h0, .inr (4, [.null, .null, .null, .null, .int 0, .null, .int 0, .null, .int 0, .null, .int 0]))] sz) ([(h0, .inr (4, [.ref (r1), .ref (r2), .ref (r3), .ref (u 3), .int (0), .ref (u 5), .int (0), .ref (u 7), .int (0), .ref (u 9), .int (0)]))])) (va_A [(h0, .inr (4, [.null, .null, .null, .null, .int 0, .null, .int 0, .null, .int 0, .null, .int 0]))] sz)) 305 5284 (va_A [(h0, .inr (4, [.null, .null, .null, .null, .int 0, .null, .int 0, .null, .int 0, .null, .int 0]))] sz) := by
  refine Met.ofW (cc := cX4_init) (maxL := 5) (ret := none) (by decide) rfl ?_
  intro p e s m args below meth c s₁ B hml hv
  obtain ⟨rfl, hsz, hP, hK, hD0, hE⟩ := hv
  have hx := B.exec
  have hb := B.bytes
  have hr := B.returns
  have hts := atoms_spec (ws := wsX4_init) B.pre
  have hown : s.vm.findClass RX4 = some m.cls := findClass_of_methodNamed B.named
  have hnm : meth.name = "<init>" := (name_of_methodNamed B.named B.method).1
  subst hsz
  have hD := hD0.self (sz := s.heap.size)
  generalize hAe : va_A ([(h0, .inr (4, [.null, .null, .null, .null, .int 0, .null, .int 0, .null, .int 0, .null, .int 0]))]) s.heap.size = A at hD ⊢
  have hA : ∀ q : Nat, s.heap.size ≤ q → A q := fun q h => by rw [← hAe]; exact Or.inr h
  have hS : va_S A s.heap s.heap [] := va_S.rf
  have hl := lv_entry ([.ref (h0), .ref (r1), .ref (r2), .ref (r3)]) (n := 5) (Nat.le_of_ble_eq_true rfl)
  rw [lg_entry_eq]
  generalize (lg_sl ([.ref (h0), .ref (r1), .ref (r2), .ref (r3)]) ++ List.replicate (5 - (lg_sl ([.ref (h0), .ref (r1), .ref (r2), .ref (r3)])).length) Slot.unset).toArray = ls at hl ⊢
  have hl : lv_has ls 5 [(0, .ref (h0)), (1, .ref (r1)), (2, .ref (r2)), (3, .ref (r3))] := hl
  refine lv_aload_n hx hb dX4_init_0 rfl (lv_at hl 0 rfl) ?_
  refine W.objInit hx hb hown (hts (.methodLink RX4 5 objectInit) (List.mem_of_getElem? (i := 1) rfl)) (hts (.instanceMethod objectInit) (List.mem_of_getElem? (i := 2) rfl)) (hts (.code objectInit ⟨#[0xb1]⟩ 1 none) (List.mem_of_getElem? (i := 3) rfl)) rfl (by rw [hml]; exact hl.1) rfl dX4_init_1 (Nat.le_of_ble_eq_true rfl) (Nat.le_of_ble_eq_true rfl) ?_
  refine W.eq (g2 := F0 m 4 ls []) rfl ?_
  refine lv_aload_n hx hb dX4_init_4 rfl (lv_at hl 0 rfl) ?_
  refine lv_bipush hx hb dX4_init_5 (v := 120) rfl ?_
  refine va_newq (N' := 120) hx hb hown (hts (.classLink RX4 11 RX1) (List.mem_of_getElem? (i := 4) rfl)) hE.1 hK hP hD hS hA (by decide) (by decide) (by decide) (Nat.le_of_ble_eq_true rfl) (Nat.le_of_ble_eq_true rfl) dX4_init_7 ?_
  clear hP hD hS hK
  intro q1 c2 H hK hP hD hS
  have hP : va_P D vwCl [(h0, .inr (4, [.null, .null, .null, .null, .int 0, .null, .int 0, .null, .int 0, .null, .int 0])), (q1, .inl (c2, 120, .inr (.inr (.inr (.inr (fun _ => none))))))] H := hP
  have hD : va_D A [(h0, .inr (4, [.null, .null, .null, .null, .int 0, .null, .int 0, .null, .int 0, .null, .int 0])), (q1, .inl (c2, 120, .inr (.inr (.inr (.inr (fun _ => none))))))] := hD
  have hK : va_K D vwCl [(c2, .object RX1)] s := hK
  refine va_putF (D := D) (ci := 4) (v := .ref (q1)) (ty := .array (.object "ProofHouse$Clause")) (C := RX4) (T := TX4) (N := 11) hx hb hts (fun w h => List.mem_cons_of_mem _ (List.mem_append_left _ (List.mem_append_right _ h))) tyX4 tyX4_ok nmX4 hown hK hP hD hS 0 rfl rfl 3 (by decide) (hts (.fieldLink RX4 13 "ProofHouse$Prover" "given" "[LProofHouse$Clause;") (List.mem_of_getElem? (i := 5) rfl)) (fun _ h9 => h9) rfl hnm rfl (tyX4_ok 3 (by decide)) rfl rfl (Nat.le_of_ble_eq_true rfl) dX4_init_10 ?_
  clear hP hD hS
  intro H locs hP hD hS
  have hP : va_P D vwCl [(h0, .inr (4, [.null, .null, .null, .ref (q1), .int 0, .null, .int 0, .null, .int 0, .null, .int 0])), (q1, .inl (c2, 120, .inr (.inr (.inr (.inr (fun _ => none))))))] H := hP
  have hD : va_D A [(h0, .inr (4, [.null, .null, .null, .ref (q1), .int 0, .null, .int 0, .null, .int 0, .null, .int 0])), (q1, .inl (c2, 120, .inr (.inr (.inr (.inr (fun _ => none))))))] := hD
  refine lv_aload_n hx hb dX4_init_13 rfl (lv_at hl 0 rfl) ?_
  refine lv_iconst hx hb dX4_init_14 (v := 0) rfl ?_
  refine va_put (D := D) (ci := 4) (v := .int (0)) (ty := .int) (C := RX4) (T := TX4) (N := 11) hx hb hts (fun w h => List.mem_cons_of_mem _ (List.mem_append_left _ (List.mem_append_right _ h))) tyX4 tyX4_ok nmX4 hown hK hP hD hS 0 rfl rfl 4 (by decide) (hts (.fieldLink RX4 17 "ProofHouse$Prover" "givenCount" "I") (List.mem_of_getElem? (i := 6) rfl)) (fun _ h9 => h9) rfl (tyX4_ok 4 (by decide)) rfl rfl (Nat.le_of_ble_eq_true rfl) dX4_init_15 ?_
  clear hP hD hS
  intro H locs hP hD hS
  have hP : va_P D vwCl [(h0, .inr (4, [.null, .null, .null, .ref (q1), .int (0), .null, .int 0, .null, .int 0, .null, .int 0])), (q1, .inl (c2, 120, .inr (.inr (.inr (.inr (fun _ => none))))))] H := hP
  have hD : va_D A [(h0, .inr (4, [.null, .null, .null, .ref (q1), .int (0), .null, .int 0, .null, .int 0, .null, .int 0])), (q1, .inl (c2, 120, .inr (.inr (.inr (.inr (fun _ => none))))))] := hD
  refine lv_aload_n hx hb dX4_init_18 rfl (lv_at hl 0 rfl) ?_
  refine lv_bipush hx hb dX4_init_19 (v := 10) rfl ?_
  refine va_newq (N' := 10) hx hb hown (hts (.classLink RX4 11 RX1) (List.mem_of_getElem? (i := 4) rfl)) hE.1 hK hP hD hS hA (by decide) (by decide) (by decide) (Nat.le_of_ble_eq_true rfl) (Nat.le_of_ble_eq_true rfl) dX4_init_21 ?_
  clear hP hD hS hK
  intro q3 c4 H hK hP hD hS
  have hP : va_P D vwCl [(h0, .inr (4, [.null, .null, .null, .ref (q1), .int (0), .null, .int 0, .null, .int 0, .null, .int 0])), (q1, .inl (c2, 120, .inr (.inr (.inr (.inr (fun _ => none)))))), (q3, .inl (c4, 10, .inr (.inr (.inr (.inr (fun _ => none))))))] H := hP
  have hD : va_D A [(h0, .inr (4, [.null, .null, .null, .ref (q1), .int (0), .null, .int 0, .null, .int 0, .null, .int 0])), (q1, .inl (c2, 120, .inr (.inr (.inr (.inr (fun _ => none)))))), (q3, .inl (c4, 10, .inr (.inr (.inr (.inr (fun _ => none))))))] := hD
  have hK : va_K D vwCl [(c2, .object RX1), (c4, .object RX1)] s := hK
  refine va_putF (D := D) (ci := 4) (v := .ref (q3)) (ty := .array (.object "ProofHouse$Clause")) (C := RX4) (T := TX4) (N := 11) hx hb hts (fun w h => List.mem_cons_of_mem _ (List.mem_append_left _ (List.mem_append_right _ h))) tyX4 tyX4_ok nmX4 hown hK hP hD hS 0 rfl rfl 5 (by decide) (hts (.fieldLink RX4 21 "ProofHouse$Prover" "waiting" "[LProofHouse$Clause;") (List.mem_of_getElem? (i := 7) rfl)) (fun _ h9 => h9) rfl hnm rfl (tyX4_ok 5 (by decide)) rfl rfl (Nat.le_of_ble_eq_true rfl) dX4_init_24 ?_
  clear hP hD hS
  intro H locs hP hD hS
  have hP : va_P D vwCl [(h0, .inr (4, [.null, .null, .null, .ref (q1), .int (0), .ref (q3), .int 0, .null, .int 0, .null, .int 0])), (q1, .inl (c2, 120, .inr (.inr (.inr (.inr (fun _ => none)))))), (q3, .inl (c4, 10, .inr (.inr (.inr (.inr (fun _ => none))))))] H := hP
  have hD : va_D A [(h0, .inr (4, [.null, .null, .null, .ref (q1), .int (0), .ref (q3), .int 0, .null, .int 0, .null, .int 0])), (q1, .inl (c2, 120, .inr (.inr (.inr (.inr (fun _ => none)))))), (q3, .inl (c4, 10, .inr (.inr (.inr (.inr (fun _ => none))))))] := hD
  refine lv_aload_n hx hb dX4_init_27 rfl (lv_at hl 0 rfl) ?_
  refine lv_iconst hx hb dX4_init_28 (v := 0) rfl ?_
  refine va_put (D := D) (ci := 4) (v := .int (0)) (ty := .int) (C := RX4) (T := TX4) (N := 11) hx hb hts (fun w h => List.mem_cons_of_mem _ (List.mem_append_left _ (List.mem_append_right _ h))) tyX4 tyX4_ok nmX4 hown hK hP hD hS 0 rfl rfl 6 (by decide) (hts (.fieldLink RX4 24 "ProofHouse$Prover" "waitingCount" "I") (List.mem_of_getElem? (i := 8) rfl)) (fun _ h9 => h9) rfl (tyX4_ok 6 (by decide)) rfl rfl (Nat.le_of_ble_eq_true rfl) dX4_init_29 ?_
  clear hP hD hS
  intro H locs hP hD hS
  have hP : va_P D vwCl [(h0, .inr (4, [.null, .null, .null, .ref (q1), .int (0), .ref (q3), .int (0), .null, .int 0, .null, .int 0])), (q1, .inl (c2, 120, .inr (.inr (.inr (.inr (fun _ => none)))))), (q3, .inl (c4, 10, .inr (.inr (.inr (.inr (fun _ => none))))))] H := hP
  have hD : va_D A [(h0, .inr (4, [.null, .null, .null, .ref (q1), .int (0), .ref (q3), .int (0), .null, .int 0, .null, .int 0])), (q1, .inl (c2, 120, .inr (.inr (.inr (.inr (fun _ => none)))))), (q3, .inl (c4, 10, .inr (.inr (.inr (.inr (fun _ => none))))))] := hD
  refine lv_aload_n hx hb dX4_init_32 rfl (lv_at hl 0 rfl) ?_
  refine lv_bipush hx hb dX4_init_33 (v := 20) rfl ?_
  refine va_newq (N' := 20) hx hb hown (hts (.classLink RX4 11 RX1) (List.mem_of_getElem? (i := 4) rfl)) hE.1 hK hP hD hS hA (by decide) (by decide) (by decide) (Nat.le_of_ble_eq_true rfl) (Nat.le_of_ble_eq_true rfl) dX4_init_35 ?_
  clear hP hD hS hK
  intro q5 c6 H hK hP hD hS
  have hP : va_P D vwCl [(h0, .inr (4, [.null, .null, .null, .ref (q1), .int (0), .ref (q3), .int (0), .null, .int 0, .null, .int 0])), (q1, .inl (c2, 120, .inr (.inr (.inr (.inr (fun _ => none)))))), (q3, .inl (c4, 10, .inr (.inr (.inr (.inr (fun _ => none)))))), (q5, .inl (c6, 20, .inr (.inr (.inr (.inr (fun _ => none))))))] H := hP
  have hD : va_D A [(h0, .inr (4, [.null, .null, .null, .ref (q1), .int (0), .ref (q3), .int (0), .null, .int 0, .null, .int 0])), (q1, .inl (c2, 120, .inr (.inr (.inr (.inr (fun _ => none)))))), (q3, .inl (c4, 10, .inr (.inr (.inr (.inr (fun _ => none)))))), (q5, .inl (c6, 20, .inr (.inr (.inr (.inr (fun _ => none))))))] := hD
  have hK : va_K D vwCl [(c2, .object RX1), (c4, .object RX1), (c6, .object RX1)] s := hK
  refine va_putF (D := D) (ci := 4) (v := .ref (q5)) (ty := .array (.object "ProofHouse$Clause")) (C := RX4) (T := TX4) (N := 11) hx hb hts (fun w h => List.mem_cons_of_mem _ (List.mem_append_left _ (List.mem_append_right _ h))) tyX4 tyX4_ok nmX4 hown hK hP hD hS 0 rfl rfl 7 (by decide) (hts (.fieldLink RX4 27 "ProofHouse$Prover" "left" "[LProofHouse$Clause;") (List.mem_of_getElem? (i := 9) rfl)) (fun _ h9 => h9) rfl hnm rfl (tyX4_ok 7 (by decide)) rfl rfl (Nat.le_of_ble_eq_true rfl) dX4_init_38 ?_
  clear hP hD hS
  intro H locs hP hD hS
  have hP : va_P D vwCl [(h0, .inr (4, [.null, .null, .null, .ref (q1), .int (0), .ref (q3), .int (0), .ref (q5), .int 0, .null, .int 0])), (q1, .inl (c2, 120, .inr (.inr (.inr (.inr (fun _ => none)))))), (q3, .inl (c4, 10, .inr (.inr (.inr (.inr (fun _ => none)))))), (q5, .inl (c6, 20, .inr (.inr (.inr (.inr (fun _ => none))))))] H := hP
  have hD : va_D A [(h0, .inr (4, [.null, .null, .null, .ref (q1), .int (0), .ref (q3), .int (0), .ref (q5), .int 0, .null, .int 0])), (q1, .inl (c2, 120, .inr (.inr (.inr (.inr (fun _ => none)))))), (q3, .inl (c4, 10, .inr (.inr (.inr (.inr (fun _ => none)))))), (q5, .inl (c6, 20, .inr (.inr (.inr (.inr (fun _ => none))))))] := hD
  refine lv_aload_n hx hb dX4_init_41 rfl (lv_at hl 0 rfl) ?_
  refine lv_iconst hx hb dX4_init_42 (v := 0) rfl ?_
  refine va_put (D := D) (ci := 4) (v := .int (0)) (ty := .int) (C := RX4) (T := TX4) (N := 11) hx hb hts (fun w h => List.mem_cons_of_mem _ (List.mem_append_left _ (List.mem_append_right _ h))) tyX4 tyX4_ok nmX4 hown hK hP hD hS 0 rfl rfl 8 (by decide) (hts (.fieldLink RX4 30 "ProofHouse$Prover" "leftCount" "I") (List.mem_of_getElem? (i := 10) rfl)) (fun _ h9 => h9) rfl (tyX4_ok 8 (by decide)) rfl rfl (Nat.le_of_ble_eq_true rfl) dX4_init_43 ?_
  clear hP hD hS
  intro H locs hP hD hS
  have hP : va_P D vwCl [(h0, .inr (4, [.null, .null, .null, .ref (q1), .int (0), .ref (q3), .int (0), .ref (q5), .int (0), .null, .int 0])), (q1, .inl (c2, 120, .inr (.inr (.inr (.inr (fun _ => none)))))), (q3, .inl (c4, 10, .inr (.inr (.inr (.inr (fun _ => none)))))), (q5, .inl (c6, 20, .inr (.inr (.inr (.inr (fun _ => none))))))] H := hP
  have hD : va_D A [(h0, .inr (4, [.null, .null, .null, .ref (q1), .int (0), .ref (q3), .int (0), .ref (q5), .int (0), .null, .int 0])), (q1, .inl (c2, 120, .inr (.inr (.inr (.inr (fun _ => none)))))), (q3, .inl (c4, 10, .inr (.inr (.inr (.inr (fun _ => none)))))), (q5, .inl (c6, 20, .inr (.inr (.inr (.inr (fun _ => none))))))] := hD
  refine lv_aload_n hx hb dX4_init_46 rfl (lv_at hl 0 rfl) ?_
  refine va_new (ci := 1) (fs := [.null, .int 0, .int 0, .int 0]) (C := RX1) (T := TX1) (N := 4) hx hb hts (fun w h => List.mem_cons_of_mem _ (List.mem_append_right _ h)) tyX1 tyX1_ok hown (hts (.classLink RX4 11 RX1) (List.mem_of_getElem? (i := 4) rfl)) (hts (.instantiable RX1 4) (List.mem_of_getElem? (i := 11) rfl)) (hts (.initialized RX1) (List.mem_of_getElem? (i := 12) rfl)) hK hP hD hS hA rfl (fun j hj => by rcases (show j = 0 ∨ j = 1 ∨ j = 2 ∨ j = 3 by omega) with rfl | rfl | rfl | rfl <;> rfl) (Nat.le_of_ble_eq_true rfl) (Nat.le_of_ble_eq_true rfl) dX4_init_47 ?_
  clear hP hD hS
  intro q7 H hP hD hS
  have hP : va_P D vwCl [(h0, .inr (4, [.null, .null, .null, .ref (q1), .int (0), .ref (q3), .int (0), .ref (q5), .int (0), .null, .int 0])), (q1, .inl (c2, 120, .inr (.inr (.inr (.inr (fun _ => none)))))), (q3, .inl (c4, 10, .inr (.inr (.inr (.inr (fun _ => none)))))), (q5, .inl (c6, 20, .inr (.inr (.inr (.inr (fun _ => none)))))), (q7, .inr (1, [.null, .int 0, .int 0, .int 0]))] H := hP
  have hD : va_D A [(h0, .inr (4, [.null, .null, .null, .ref (q1), .int (0), .ref (q3), .int (0), .ref (q5), .int (0), .null, .int 0])), (q1, .inl (c2, 120, .inr (.inr (.inr (.inr (fun _ => none)))))), (q3, .inl (c4, 10, .inr (.inr (.inr (.inr (fun _ => none)))))), (q5, .inl (c6, 20, .inr (.inr (.inr (.inr (fun _ => none)))))), (q7, .inr (1, [.null, .int 0, .int 0, .int 0]))] := hD
  refine lv_dup hx hb dX4_init_50 rfl ?_
  have hPc := hP.sub (ws' := [(q7, .inr (1, [.null, .int 0, .int 0, .int 0]))]) [4] rfl
  have hDc := hD.sub (ws' := [(q7, .inr (1, [.null, .int 0, .int 0, .int 0]))]) [4] (by decide) rfl
  have hKc := hK.sub (tys' := []) [] rfl
  have hFc := va_free (wc := [(q7, .inr (1, [.null, .int 0, .int 0, .int 0]))]) hD hS hA [4] rfl
  refine va_callv (va_runIN (As := []) (rest := [.ref (q7), .ref (h0)]) ⟨hx, hb, hml, hown, hts⟩ (c_X1_init l D q7 H.size) ⟨va_cnB 0 hts ggX4_init_X1_init rfl rfl rfl hE.2 (hts (.initialized RX1) (List.mem_of_getElem? (i := 12) rfl)) (by decide +kernel) ⟨Nat.le_of_ble_eq_true rfl, Nat.le_of_ble_eq_true rfl⟩, rfl, (hts (.instanceMethod yX1_init) (List.mem_of_getElem? (i := 18) rfl))⟩ ⟨fun a U g mk q => by obtain ⟨q0, q1, qP, qK, qD⟩ := q; exact ⟨q0, q1, qP, va_K.moved (u := U) (U := U.calling g mk a) (Vm.Alike.refl U.vm) qK, qD⟩, fun U hU hW => ⟨rfl, by rw [hU], by rw [hU]; exact hPc, va_K.moved hW.alike hKc, hDc.weaken (fun _ _ _ _ => trivial)⟩⟩ rfl rfl hl.1 rfl (lv_room (Nat.le_of_ble_eq_true rfl)) dX4_init_51 ⟨Nat.le_of_ble_eq_true rfl, Nat.le_of_ble_eq_true rfl⟩) hS (fun q _ h => hFc q h) hFc ?_
  intro u8 t H10 lo1 ht hvm hwu8 hB hz1 hk1 hS1
  obtain ⟨hP1, hK1, hD1⟩ := hB
  rw [ht] at hP1
  have hK1 := va_K.moved hvm.symm hK1
  obtain ⟨hP, hD⟩ := va_join (wr := [(h0, .inr (4, [.null, .null, .null, .ref (q1), .int (0), .ref (q3), .int (0), .ref (q5), .int (0), .null, .int 0])), (q1, .inl (c2, 120, .inr (.inr (.inr (.inr (fun _ => none)))))), (q3, .inl (c4, 10, .inr (.inr (.inr (.inr (fun _ => none)))))), (q5, .inl (c6, 20, .inr (.inr (.inr (.inr (fun _ => none))))))]) (w1 := [(q7, .inr (1, [.ref u8, .int (0), .int (0), .int (0)]))]) hP hD [4] [0, 1, 2, 3] rfl rfl (by decide) (by decide) hk1 hFc hP1 hD1
  have hK := (hK.sub (tys' := [(c2, .object RX1), (c4, .object RX1), (c6, .object RX1)]) [0, 1, 2] rfl).app hK1
  have hS := hS1
  clear hS1 hP1 hD1 hFc hKc hDc hPc hz1 hk1
  have hP : va_P D vwCl [(h0, .inr (4, [.null, .null, .null, .ref (q1), .int (0), .ref (q3), .int (0), .ref (q5), .int (0), .null, .int 0])), (q1, .inl (c2, 120, .inr (.inr (.inr (.inr (fun _ => none)))))), (q3, .inl (c4, 10, .inr (.inr (.inr (.inr (fun _ => none)))))), (q5, .inl (c6, 20, .inr (.inr (.inr (.inr (fun _ => none)))))), (q7, .inr (1, [.ref u8, .int (0), .int (0), .int (0)]))] H10 := hP
  have hD : va_D A [(h0, .inr (4, [.null, .null, .null, .ref (q1), .int (0), .ref (q3), .int (0), .ref (q5), .int (0), .null, .int 0])), (q1, .inl (c2, 120, .inr (.inr (.inr (.inr (fun _ => none)))))), (q3, .inl (c4, 10, .inr (.inr (.inr (.inr (fun _ => none)))))), (q5, .inl (c6, 20, .inr (.inr (.inr (.inr (fun _ => none)))))), (q7, .inr (1, [.ref u8, .int (0), .int (0), .int (0)]))] := hD
  have hK : va_K D vwCl [(c2, .object RX1), (c4, .object RX1), (c6, .object RX1)] s := hK
  refine va_putF (D := D) (ci := 4) (v := .ref (q7)) (ty := .object "ProofHouse$Clause") (C := RX4) (T := TX4) (N := 11) hx hb hts (fun w h => List.mem_cons_of_mem _ (List.mem_append_left _ (List.mem_append_right _ h))) tyX4 tyX4_ok nmX4 hown hK hP hD hS 0 rfl rfl 9 (by decide) (hts (.fieldLink RX4 34 "ProofHouse$Prover" "spare" "LProofHouse$Clause;") (List.mem_of_getElem? (i := 13) rfl)) (fun _ h9 => h9) rfl hnm rfl (tyX4_ok 9 (by decide)) rfl rfl (Nat.le_of_ble_eq_true rfl) dX4_init_54 ?_
  clear hP hD hS
  intro H locs hP hD hS
  have hP : va_P D vwCl [(h0, .inr (4, [.null, .null, .null, .ref (q1), .int (0), .ref (q3), .int (0), .ref (q5), .int (0), .ref (q7), .int 0])), (q1, .inl (c2, 120, .inr (.inr (.inr (.inr (fun _ => none)))))), (q3, .inl (c4, 10, .inr (.inr (.inr (.inr (fun _ => none)))))), (q5, .inl (c6, 20, .inr (.inr (.inr (.inr (fun _ => none)))))), (q7, .inr (1, [.ref u8, .int (0), .int (0), .int (0)]))] H := hP
  have hD : va_D A [(h0, .inr (4, [.null, .null, .null, .ref (q1), .int (0), .ref (q3), .int (0), .ref (q5), .int (0), .ref (q7), .int 0])), (q1, .inl (c2, 120, .inr (.inr (.inr (.inr (fun _ => none)))))), (q3, .inl (c4, 10, .inr (.inr (.inr (.inr (fun _ => none)))))), (q5, .inl (c6, 20, .inr (.inr (.inr (.inr (fun _ => none)))))), (q7, .inr (1, [.ref u8, .int (0), .int (0), .int (0)]))] := hD
  refine lv_aload_n hx hb dX4_init_57 rfl (lv_at hl 0 rfl) ?_
  refine lv_iconst hx hb dX4_init_58 (v := 0) rfl ?_
  refine va_put (D := D) (ci := 4) (v := .int (0)) (ty := .boolean) (C := RX4) (T := TX4) (N := 11) hx hb hts (fun w h => List.mem_cons_of_mem _ (List.mem_append_left _ (List.mem_append_right _ h))) tyX4 tyX4_ok nmX4 hown hK hP hD hS 0 rfl rfl 10 (by decide) (hts (.fieldLink RX4 38 "ProofHouse$Prover" "checking" "Z") (List.mem_of_getElem? (i := 14) rfl)) (fun _ h9 => h9) rfl (tyX4_ok 10 (by decide)) rfl rfl (Nat.le_of_ble_eq_true rfl) dX4_init_59 ?_
  clear hP hD hS
  intro H locs hP hD hS
  have hP : va_P D vwCl [(h0, .inr (4, [.null, .null, .null, .ref (q1), .int (0), .ref (q3), .int (0), .ref (q5), .int (0), .ref (q7), .int (0)])), (q1, .inl (c2, 120, .inr (.inr (.inr (.inr (fun _ => none)))))), (q3, .inl (c4, 10, .inr (.inr (.inr (.inr (fun _ => none)))))), (q5, .inl (c6, 20, .inr (.inr (.inr (.inr (fun _ => none)))))), (q7, .inr (1, [.ref u8, .int (0), .int (0), .int (0)]))] H := hP
  have hD : va_D A [(h0, .inr (4, [.null, .null, .null, .ref (q1), .int (0), .ref (q3), .int (0), .ref (q5), .int (0), .ref (q7), .int (0)])), (q1, .inl (c2, 120, .inr (.inr (.inr (.inr (fun _ => none)))))), (q3, .inl (c4, 10, .inr (.inr (.inr (.inr (fun _ => none)))))), (q5, .inl (c6, 20, .inr (.inr (.inr (.inr (fun _ => none)))))), (q7, .inr (1, [.ref u8, .int (0), .int (0), .int (0)]))] := hD
  refine lv_aload_n hx hb dX4_init_62 rfl (lv_at hl 0 rfl) ?_
  refine lv_aload_n hx hb dX4_init_63 rfl (lv_at hl 1 rfl) ?_
  refine va_putF (D := D) (ci := 4) (v := .ref (r1)) (ty := .object "ProofHouse$Room") (C := RX4) (T := TX4) (N := 11) hx hb hts (fun w h => List.mem_cons_of_mem _ (List.mem_append_left _ (List.mem_append_right _ h))) tyX4 tyX4_ok nmX4 hown hK hP hD hS 0 rfl rfl 0 (by decide) (hts (.fieldLink RX4 42 "ProofHouse$Prover" "room" "LProofHouse$Room;") (List.mem_of_getElem? (i := 15) rfl)) (fun _ h9 => h9) rfl hnm rfl (tyX4_ok 0 (by decide)) rfl rfl (Nat.le_of_ble_eq_true rfl) dX4_init_64 ?_
  clear hP hD hS
  intro H locs hP hD hS
  have hP : va_P D vwCl [(h0, .inr (4, [.ref (r1), .null, .null, .ref (q1), .int (0), .ref (q3), .int (0), .ref (q5), .int (0), .ref (q7), .int (0)])), (q1, .inl (c2, 120, .inr (.inr (.inr (.inr (fun _ => none)))))), (q3, .inl (c4, 10, .inr (.inr (.inr (.inr (fun _ => none)))))), (q5, .inl (c6, 20, .inr (.inr (.inr (.inr (fun _ => none)))))), (q7, .inr (1, [.ref u8, .int (0), .int (0), .int (0)]))] H := hP
  have hD : va_D A [(h0, .inr (4, [.ref (r1), .null, .null, .ref (q1), .int (0), .ref (q3), .int (0), .ref (q5), .int (0), .ref (q7), .int (0)])), (q1, .inl (c2, 120, .inr (.inr (.inr (.inr (fun _ => none)))))), (q3, .inl (c4, 10, .inr (.inr (.inr (.inr (fun _ => none)))))), (q5, .inl (c6, 20, .inr (.inr (.inr (.inr (fun _ => none)))))), (q7, .inr (1, [.ref u8, .int (0), .int (0), .int (0)]))] := hD
  refine lv_aload_n hx hb dX4_init_67 rfl (lv_at hl 0 rfl) ?_
  refine lv_aload_n hx hb dX4_init_68 rfl (lv_at hl 2 rfl) ?_
  refine va_putF (D := D) (ci := 4) (v := .ref (r2)) (ty := .object "ProofHouse$Terms") (C := RX4) (T := TX4) (N := 11) hx hb hts (fun w h => List.mem_cons_of_mem _ (List.mem_append_left _ (List.mem_append_right _ h))) tyX4 tyX4_ok nmX4 hown hK hP hD hS 0 rfl rfl 1 (by decide) (hts (.fieldLink RX4 46 "ProofHouse$Prover" "terms" "LProofHouse$Terms;") (List.mem_of_getElem? (i := 16) rfl)) (fun _ h9 => h9) rfl hnm rfl (tyX4_ok 1 (by decide)) rfl rfl (Nat.le_of_ble_eq_true rfl) dX4_init_69 ?_
  clear hP hD hS
  intro H locs hP hD hS
  have hP : va_P D vwCl [(h0, .inr (4, [.ref (r1), .ref (r2), .null, .ref (q1), .int (0), .ref (q3), .int (0), .ref (q5), .int (0), .ref (q7), .int (0)])), (q1, .inl (c2, 120, .inr (.inr (.inr (.inr (fun _ => none)))))), (q3, .inl (c4, 10, .inr (.inr (.inr (.inr (fun _ => none)))))), (q5, .inl (c6, 20, .inr (.inr (.inr (.inr (fun _ => none)))))), (q7, .inr (1, [.ref u8, .int (0), .int (0), .int (0)]))] H := hP
  have hD : va_D A [(h0, .inr (4, [.ref (r1), .ref (r2), .null, .ref (q1), .int (0), .ref (q3), .int (0), .ref (q5), .int (0), .ref (q7), .int (0)])), (q1, .inl (c2, 120, .inr (.inr (.inr (.inr (fun _ => none)))))), (q3, .inl (c4, 10, .inr (.inr (.inr (.inr (fun _ => none)))))), (q5, .inl (c6, 20, .inr (.inr (.inr (.inr (fun _ => none)))))), (q7, .inr (1, [.ref u8, .int (0), .int (0), .int (0)]))] := hD
  refine lv_aload_n hx hb dX4_init_72 rfl (lv_at hl 0 rfl) ?_
  refine lv_aload_n hx hb dX4_init_73 rfl (lv_at hl 3 rfl) ?_
  refine va_putF (D := D) (ci := 4) (v := .ref (r3)) (ty := .object "ProofHouse$Rewriter") (C := RX4) (T := TX4) (N := 11) hx hb hts (fun w h => List.mem_cons_of_mem _ (List.mem_append_left _ (List.mem_append_right _ h))) tyX4 tyX4_ok nmX4 hown hK hP hD hS 0 rfl rfl 2 (by decide) (hts (.fieldLink RX4 50 "ProofHouse$Prover" "rewriter" "LProofHouse$Rewriter;") (List.mem_of_getElem? (i := 17) rfl)) (fun _ h9 => h9) rfl hnm rfl (tyX4_ok 2 (by decide)) rfl rfl (Nat.le_of_ble_eq_true rfl) dX4_init_74 ?_
  clear hP hD hS
  intro H locs hP hD hS
  have hP : va_P D vwCl [(h0, .inr (4, [.ref (r1), .ref (r2), .ref (r3), .ref (q1), .int (0), .ref (q3), .int (0), .ref (q5), .int (0), .ref (q7), .int (0)])), (q1, .inl (c2, 120, .inr (.inr (.inr (.inr (fun _ => none)))))), (q3, .inl (c4, 10, .inr (.inr (.inr (.inr (fun _ => none)))))), (q5, .inl (c6, 20, .inr (.inr (.inr (.inr (fun _ => none)))))), (q7, .inr (1, [.ref u8, .int (0), .int (0), .int (0)]))] H := hP
  have hD : va_D A [(h0, .inr (4, [.ref (r1), .ref (r2), .ref (r3), .ref (q1), .int (0), .ref (q3), .int (0), .ref (q5), .int (0), .ref (q7), .int (0)])), (q1, .inl (c2, 120, .inr (.inr (.inr (.inr (fun _ => none)))))), (q3, .inl (c4, 10, .inr (.inr (.inr (.inr (fun _ => none)))))), (q5, .inl (c6, 20, .inr (.inr (.inr (.inr (fun _ => none)))))), (q7, .inr (1, [.ref u8, .int (0), .int (0), .int (0)]))] := hD
  refine lv_iconst hx hb dX4_init_77 (v := 0) rfl ?_
  refine lv_istore hx hb dX4_init_78 hl (by decide) rfl (fun ls hl => ?_)
  have hl : lv_has ls 5 [(4, .int (0)), (0, .ref (h0)), (1, .ref (r1)), (2, .ref (r2)), (3, .ref (r3))] := hl
  replace hP := hP.sub (ws' := [(h0, .inr (4, [.ref (r1), .ref (r2), .ref (r3), .ref (q1), .int (0), .ref (q3), .int (0), .ref (q5), .int (0), .ref (q7), .int (0)])), (q1, .inl (c2, 120, .inr (.inr (.inr (.inr (fun _ => none)))))), (q3, .inl (c4, 10, .inr (.inr (.inr (.inr (fun _ => none)))))), (q5, .inl (c6, 20, .inr (.inr (.inr (.inr (fun _ => none))))))]) [0, 1, 2, 3] rfl
  replace hD := hD.sub (ws' := [(h0, .inr (4, [.ref (r1), .ref (r2), .ref (r3), .ref (q1), .int (0), .ref (q3), .int (0), .ref (q5), .int (0), .ref (q7), .int (0)])), (q1, .inl (c2, 120, .inr (.inr (.inr (.inr (fun _ => none)))))), (q3, .inl (c4, 10, .inr (.inr (.inr (.inr (fun _ => none)))))), (q5, .inl (c6, 20, .inr (.inr (.inr (.inr (fun _ => none))))))]) [0, 1, 2, 3] (by decide) rfl
  replace hK := hK.sub (tys' := [(c2, .object RX1), (c4, .object RX1), (c6, .object RX1)]) [0, 1, 2] rfl
  refine w_loopC (nL := 5) (wd := fun q : (Nat → Option Nat) × Nat => [(h0, .inr (4, [.ref (r1), .ref (r2), .ref (r3), .ref (q1), .int (0), .ref (q3), .int (0), .ref (q5), .int (0), .ref (q7), .int (0)])), (q1, .inl (c2, 120, .inr (.inr (.inr (.inr (q.1)))))), (q3, .inl (c4, 10, .inr (.inr (.inr (.inr (fun _ => none)))))), (q5, .inl (c6, 20, .inr (.inr (.inr (.inr (fun _ => none))))))]) (lst := fun q : (Nat → Option Nat) × Nat => [(4, .int (nI q.2)), (0, .ref (h0)), (1, .ref (r1)), (2, .ref (r2)), (3, .ref (r3))]) (ce := fun q => 5 + 2 * q.2) (sl := fun q => 184 + 34 * q.2) (μ := fun q => 120 - q.2) (I := fun q => q.2 ≤ 120) ?_ (fun _ => none, 0) ls (Nat.zero_le _) hP hD hS hl
  clear hP hD hS hl
  intro q H locs ls hI hP hD hS hl ih
  obtain ⟨f11, j⟩ := q
  dsimp only at hI hP hD
  have hl : lv_has ls 5 [(4, .int (nI j)), (0, .ref (h0)), (1, .ref (r1)), (2, .ref (r2)), (3, .ref (r3))] := hl
  have hP : va_P D vwCl [(h0, .inr (4, [.ref (r1), .ref (r2), .ref (r3), .ref (q1), .int (0), .ref (q3), .int (0), .ref (q5), .int (0), .ref (q7), .int (0)])), (q1, .inl (c2, 120, .inr (.inr (.inr (.inr (f11)))))), (q3, .inl (c4, 10, .inr (.inr (.inr (.inr (fun _ => none)))))), (q5, .inl (c6, 20, .inr (.inr (.inr (.inr (fun _ => none))))))] H := hP
  have hD : va_D A [(h0, .inr (4, [.ref (r1), .ref (r2), .ref (r3), .ref (q1), .int (0), .ref (q3), .int (0), .ref (q5), .int (0), .ref (q7), .int (0)])), (q1, .inl (c2, 120, .inr (.inr (.inr (.inr (f11)))))), (q3, .inl (c4, 10, .inr (.inr (.inr (.inr (fun _ => none)))))), (q5, .inl (c6, 20, .inr (.inr (.inr (.inr (fun _ => none))))))] := hD
  show W _ _ _ _ _ _ _ _ _ _ _ _ (5 + 2 * j) (184 + 34 * j) _ _
  refine lv_iload hx hb dX4_init_80 (lv_at hl 0 rfl) ?_
  refine lv_bipush hx hb dX4_init_82 (v := 120) rfl ?_
  refine lv_icmp_ge hx hb dX4_init_84 (tgt := 107) rfl (fun h12 => ?_) (fun h12 => ?_)
  · have hj : j = 120 := by
      rcases Nat.lt_or_ge j 120 with h | h
      · exact absurd h12 (nI_ge h (by decide))
      · omega
    subst hj
    clear ih
    have hl : lv_has ls 5 [(4, .int (nI 120)), (0, .ref (h0)), (1, .ref (r1)), (2, .ref (r2)), (3, .ref (r3))] := hl
    show W _ _ _ _ _ _ _ _ _ _ _ _ (245) (4264) _ _
    refine lv_iconst hx hb dX4_init_107 (v := 0) rfl ?_
    refine lv_istore hx hb dX4_init_108 hl (by decide) rfl (fun ls hl => ?_)
    have hl : lv_has ls 5 [(4, .int (0)), (0, .ref (h0)), (1, .ref (r1)), (2, .ref (r2)), (3, .ref (r3))] := hl
    replace hP := hP.sub (ws' := [(h0, .inr (4, [.ref (r1), .ref (r2), .ref (r3), .ref (q1), .int (0), .ref (q3), .int (0), .ref (q5), .int (0), .ref (q7), .int (0)])), (q1, .inl (c2, 120, .inr (.inr (.inr (.inr (f11)))))), (q3, .inl (c4, 10, .inr (.inr (.inr (.inr (fun _ => none)))))), (q5, .inl (c6, 20, .inr (.inr (.inr (.inr (fun _ => none))))))]) [0, 1, 2, 3] rfl
    replace hD := hD.sub (ws' := [(h0, .inr (4, [.ref (r1), .ref (r2), .ref (r3), .ref (q1), .int (0), .ref (q3), .int (0), .ref (q5), .int (0), .ref (q7), .int (0)])), (q1, .inl (c2, 120, .inr (.inr (.inr (.inr (f11)))))), (q3, .inl (c4, 10, .inr (.inr (.inr (.inr (fun _ => none)))))), (q5, .inl (c6, 20, .inr (.inr (.inr (.inr (fun _ => none))))))]) [0, 1, 2, 3] (by decide) rfl
    replace hK := hK.sub (tys' := [(c2, .object RX1), (c4, .object RX1), (c6, .object RX1)]) [0, 1, 2] rfl
    refine w_loopC (nL := 5) (wd := fun q : (Nat → Option Nat) × Nat => [(h0, .inr (4, [.ref (r1), .ref (r2), .ref (r3), .ref (q1), .int (0), .ref (q3), .int (0), .ref (q5), .int (0), .ref (q7), .int (0)])), (q1, .inl (c2, 120, .inr (.inr (.inr (.inr (f11)))))), (q3, .inl (c4, 10, .inr (.inr (.inr (.inr (q.1)))))), (q5, .inl (c6, 20, .inr (.inr (.inr (.inr (fun _ => none))))))]) (lst := fun q : (Nat → Option Nat) × Nat => [(4, .int (nI q.2)), (0, .ref (h0)), (1, .ref (r1)), (2, .ref (r2)), (3, .ref (r3))]) (ce := fun q => 245 + 2 * q.2) (sl := fun q => 4264 + 34 * q.2) (μ := fun q => 10 - q.2) (I := fun q => q.2 ≤ 10) ?_ (fun _ => none, 0) ls (Nat.zero_le _) hP hD hS hl
    clear hP hD hS hl
    intro q H locs ls hI hP hD hS hl ih
    obtain ⟨f13, j⟩ := q
    dsimp only at hI hP hD
    have hl : lv_has ls 5 [(4, .int (nI j)), (0, .ref (h0)), (1, .ref (r1)), (2, .ref (r2)), (3, .ref (r3))] := hl
    have hP : va_P D vwCl [(h0, .inr (4, [.ref (r1), .ref (r2), .ref (r3), .ref (q1), .int (0), .ref (q3), .int (0), .ref (q5), .int (0), .ref (q7), .int (0)])), (q1, .inl (c2, 120, .inr (.inr (.inr (.inr (f11)))))), (q3, .inl (c4, 10, .inr (.inr (.inr (.inr (f13)))))), (q5, .inl (c6, 20, .inr (.inr (.inr (.inr (fun _ => none))))))] H := hP
    have hD : va_D A [(h0, .inr (4, [.ref (r1), .ref (r2), .ref (r3), .ref (q1), .int (0), .ref (q3), .int (0), .ref (q5), .int (0), .ref (q7), .int (0)])), (q1, .inl (c2, 120, .inr (.inr (.inr (.inr (f11)))))), (q3, .inl (c4, 10, .inr (.inr (.inr (.inr (f13)))))), (q5, .inl (c6, 20, .inr (.inr (.inr (.inr (fun _ => none))))))] := hD
    show W _ _ _ _ _ _ _ _ _ _ _ _ (245 + 2 * j) (4264 + 34 * j) _ _
    refine lv_iload hx hb dX4_init_110 (lv_at hl 0 rfl) ?_
    refine lv_bipush hx hb dX4_init_112 (v := 10) rfl ?_
    refine lv_icmp_ge hx hb dX4_init_114 (tgt := 137) rfl (fun h14 => ?_) (fun h14 => ?_)
    · have hj : j = 10 := by
        rcases Nat.lt_or_ge j 10 with h | h
        · exact absurd h14 (nI_ge h (by decide))
        · omega
      subst hj
      clear ih
      have hl : lv_has ls 5 [(4, .int (nI 10)), (0, .ref (h0)), (1, .ref (r1)), (2, .ref (r2)), (3, .ref (r3))] := hl
      show W _ _ _ _ _ _ _ _ _ _ _ _ (265) (4604) _ _
      refine lv_iconst hx hb dX4_init_137 (v := 0) rfl ?_
      refine lv_istore hx hb dX4_init_138 hl (by decide) rfl (fun ls hl => ?_)
      have hl : lv_has ls 5 [(4, .int (0)), (0, .ref (h0)), (1, .ref (r1)), (2, .ref (r2)), (3, .ref (r3))] := hl
      replace hP := hP.sub (ws' := [(h0, .inr (4, [.ref (r1), .ref (r2), .ref (r3), .ref (q1), .int (0), .ref (q3), .int (0), .ref (q5), .int (0), .ref (q7), .int (0)])), (q1, .inl (c2, 120, .inr (.inr (.inr (.inr (f11)))))), (q3, .inl (c4, 10, .inr (.inr (.inr (.inr (f13)))))), (q5, .inl (c6, 20, .inr (.inr (.inr (.inr (fun _ => none))))))]) [0, 1, 2, 3] rfl
      replace hD := hD.sub (ws' := [(h0, .inr (4, [.ref (r1), .ref (r2), .ref (r3), .ref (q1), .int (0), .ref (q3), .int (0), .ref (q5), .int (0), .ref (q7), .int (0)])), (q1, .inl (c2, 120, .inr (.inr (.inr (.inr (f11)))))), (q3, .inl (c4, 10, .inr (.inr (.inr (.inr (f13)))))), (q5, .inl (c6, 20, .inr (.inr (.inr (.inr (fun _ => none))))))]) [0, 1, 2, 3] (by decide) rfl
      replace hK := hK.sub (tys' := [(c2, .object RX1), (c4, .object RX1), (c6, .object RX1)]) [0, 1, 2] rfl
      refine w_loopC (nL := 5) (wd := fun q : (Nat → Option Nat) × Nat => [(h0, .inr (4, [.ref (r1), .ref (r2), .ref (r3), .ref (q1), .int (0), .ref (q3), .int (0), .ref (q5), .int (0), .ref (q7), .int (0)])), (q1, .inl (c2, 120, .inr (.inr (.inr (.inr (f11)))))), (q3, .inl (c4, 10, .inr (.inr (.inr (.inr (f13)))))), (q5, .inl (c6, 20, .inr (.inr (.inr (.inr (q.1))))))]) (lst := fun q : (Nat → Option Nat) × Nat => [(4, .int (nI q.2)), (0, .ref (h0)), (1, .ref (r1)), (2, .ref (r2)), (3, .ref (r3))]) (ce := fun q => 265 + 2 * q.2) (sl := fun q => 4604 + 34 * q.2) (μ := fun q => 20 - q.2) (I := fun q => q.2 ≤ 20) ?_ (fun _ => none, 0) ls (Nat.zero_le _) hP hD hS hl
      clear hP hD hS hl
      intro q H locs ls hI hP hD hS hl ih
      obtain ⟨f15, j⟩ := q
      dsimp only at hI hP hD
      have hl : lv_has ls 5 [(4, .int (nI j)), (0, .ref (h0)), (1, .ref (r1)), (2, .ref (r2)), (3, .ref (r3))] := hl
      have hP : va_P D vwCl [(h0, .inr (4, [.ref (r1), .ref (r2), .ref (r3), .ref (q1), .int (0), .ref (q3), .int (0), .ref (q5), .int (0), .ref (q7), .int (0)])), (q1, .inl (c2, 120, .inr (.inr (.inr (.inr (f11)))))), (q3, .inl (c4, 10, .inr (.inr (.inr (.inr (f13)))))), (q5, .inl (c6, 20, .inr (.inr (.inr (.inr (f15))))))] H := hP
      have hD : va_D A [(h0, .inr (4, [.ref (r1), .ref (r2), .ref (r3), .ref (q1), .int (0), .ref (q3), .int (0), .ref (q5), .int (0), .ref (q7), .int (0)])), (q1, .inl (c2, 120, .inr (.inr (.inr (.inr (f11)))))), (q3, .inl (c4, 10, .inr (.inr (.inr (.inr (f13)))))), (q5, .inl (c6, 20, .inr (.inr (.inr (.inr (f15))))))] := hD
      show W _ _ _ _ _ _ _ _ _ _ _ _ (265 + 2 * j) (4604 + 34 * j) _ _
      refine lv_iload hx hb dX4_init_140 (lv_at hl 0 rfl) ?_
      refine lv_bipush hx hb dX4_init_142 (v := 20) rfl ?_
      refine lv_icmp_ge hx hb dX4_init_144 (tgt := 167) rfl (fun h16 => ?_) (fun h16 => ?_)
      · have hj : j = 20 := by
          rcases Nat.lt_or_ge j 20 with h | h
          · exact absurd h16 (nI_ge h (by decide))
          · omega
        subst hj
        clear ih
        have hl : lv_has ls 5 [(4, .int (nI 20)), (0, .ref (h0)), (1, .ref (r1)), (2, .ref (r2)), (3, .ref (r3))] := hl
        show W _ _ _ _ _ _ _ _ _ _ _ _ (305) (5284) _ _
        replace hP := hP.sub (ws' := [(h0, .inr (4, [.ref (r1), .ref (r2), .ref (r3), .ref (q1), .int (0), .ref (q3), .int (0), .ref (q5), .int (0), .ref (q7), .int (0)]))]) [0] rfl
        replace hD := hD.sub (ws' := [(h0, .inr (4, [.ref (r1), .ref (r2), .ref (r3), .ref (q1), .int (0), .ref (q3), .int (0), .ref (q5), .int (0), .ref (q7), .int (0)]))]) [0] (by decide) rfl
        replace hK := hK.sub (tys' := []) [] rfl
        exact W.vret hx hb hr (fun t ht hW => ⟨⟨(fun k => ([(r1), (r2), (r3), (q1), 0, (q3), 0, (q5), 0, (q7), 0] : List Nat).getD k 0), rfl, trivial, ⟨by rw [ht]; exact hP, va_K.moved hW.alike hK, hD⟩⟩, hS.F ht⟩) hS.2.2 dX4_init_167
      · have hj : j < 20 := by
          rcases Nat.lt_or_ge j 20 with h | h
          · exact h
          · exact absurd (nI_le h (by omega)) h16
        refine lv_aload_n hx hb dX4_init_147 rfl (lv_at hl 1 rfl) ?_
        refine va_get (D := D) (ci := 4) (v := .ref (q5)) (C := RX4) (T := TX4) (N := 11) hx hb hts (fun w h => List.mem_cons_of_mem _ (List.mem_append_left _ (List.mem_append_right _ h))) hown hK hP 0 rfl rfl 7 (by decide) (hts (.fieldLink RX4 27 "ProofHouse$Prover" "left" "[LProofHouse$Clause;") (List.mem_of_getElem? (i := 9) rfl)) (fun _ h9 => h9) rfl dX4_init_148 ?_
        refine lv_iload hx hb dX4_init_151 (lv_at hl 0 rfl) ?_
        refine va_new (ci := 1) (fs := [.null, .int 0, .int 0, .int 0]) (C := RX1) (T := TX1) (N := 4) hx hb hts (fun w h => List.mem_cons_of_mem _ (List.mem_append_right _ h)) tyX1 tyX1_ok hown (hts (.classLink RX4 11 RX1) (List.mem_of_getElem? (i := 4) rfl)) (hts (.instantiable RX1 4) (List.mem_of_getElem? (i := 11) rfl)) (hts (.initialized RX1) (List.mem_of_getElem? (i := 12) rfl)) hK hP hD hS hA rfl (fun j hj => by rcases (show j = 0 ∨ j = 1 ∨ j = 2 ∨ j = 3 by omega) with rfl | rfl | rfl | rfl <;> rfl) (show 265 + 2 * j + 1 ≤ 305 by omega) (show 4604 + 34 * j + 4 ≤ 5284 by omega) dX4_init_153 ?_
        clear hP hD hS
        intro q17 H hP hD hS
        have hP : va_P D vwCl [(h0, .inr (4, [.ref (r1), .ref (r2), .ref (r3), .ref (q1), .int (0), .ref (q3), .int (0), .ref (q5), .int (0), .ref (q7), .int (0)])), (q1, .inl (c2, 120, .inr (.inr (.inr (.inr (f11)))))), (q3, .inl (c4, 10, .inr (.inr (.inr (.inr (f13)))))), (q5, .inl (c6, 20, .inr (.inr (.inr (.inr (f15)))))), (q17, .inr (1, [.null, .int 0, .int 0, .int 0]))] H := hP
        have hD : va_D A [(h0, .inr (4, [.ref (r1), .ref (r2), .ref (r3), .ref (q1), .int (0), .ref (q3), .int (0), .ref (q5), .int (0), .ref (q7), .int (0)])), (q1, .inl (c2, 120, .inr (.inr (.inr (.inr (f11)))))), (q3, .inl (c4, 10, .inr (.inr (.inr (.inr (f13)))))), (q5, .inl (c6, 20, .inr (.inr (.inr (.inr (f15)))))), (q17, .inr (1, [.null, .int 0, .int 0, .int 0]))] := hD
        refine lv_dup hx hb dX4_init_156 rfl ?_
        have hPc := hP.sub (ws' := [(q17, .inr (1, [.null, .int 0, .int 0, .int 0]))]) [4] rfl
        have hDc := hD.sub (ws' := [(q17, .inr (1, [.null, .int 0, .int 0, .int 0]))]) [4] (by decide) rfl
        have hKc := hK.sub (tys' := []) [] rfl
        have hFc := va_free (wc := [(q17, .inr (1, [.null, .int 0, .int 0, .int 0]))]) hD hS hA [4] rfl
        refine va_callv (va_runIN (As := []) (rest := [.ref (q17), .int (nI j), .ref (q5)]) ⟨hx, hb, hml, hown, hts⟩ (c_X1_init l D q17 H.size) ⟨va_cnB 0 hts ggX4_init_X1_init rfl rfl rfl hE.2 (hts (.initialized RX1) (List.mem_of_getElem? (i := 12) rfl)) (by decide +kernel) ⟨Nat.le_of_ble_eq_true rfl, Nat.le_of_ble_eq_true rfl⟩, rfl, (hts (.instanceMethod yX1_init) (List.mem_of_getElem? (i := 18) rfl))⟩ ⟨fun a U g mk q => by obtain ⟨q0, q1, qP, qK, qD⟩ := q; exact ⟨q0, q1, qP, va_K.moved (u := U) (U := U.calling g mk a) (Vm.Alike.refl U.vm) qK, qD⟩, fun U hU hW => ⟨rfl, by rw [hU], by rw [hU]; exact hPc, va_K.moved hW.alike hKc, hDc.weaken (fun _ _ _ _ => trivial)⟩⟩ rfl rfl hl.1 rfl (lv_room (Nat.le_of_ble_eq_true rfl)) dX4_init_157 ⟨show 265 + 2 * j + 1 + 1 ≤ 305 by omega, show 4604 + 34 * j + 4 + 30 ≤ 5284 by omega⟩) hS (fun q _ h => hFc q h) hFc ?_
        intro u18 t H20 lo1 ht hvm hwu18 hB hz1 hk1 hS1
        obtain ⟨hP1, hK1, hD1⟩ := hB
        rw [ht] at hP1
        have hK1 := va_K.moved hvm.symm hK1
        obtain ⟨hP, hD⟩ := va_join (wr := [(h0, .inr (4, [.ref (r1), .ref (r2), .ref (r3), .ref (q1), .int (0), .ref (q3), .int (0), .ref (q5), .int (0), .ref (q7), .int (0)])), (q1, .inl (c2, 120, .inr (.inr (.inr (.inr (f11)))))), (q3, .inl (c4, 10, .inr (.inr (.inr (.inr (f13)))))), (q5, .inl (c6, 20, .inr (.inr (.inr (.inr (f15))))))]) (w1 := [(q17, .inr (1, [.ref u18, .int (0), .int (0), .int (0)]))]) hP hD [4] [0, 1, 2, 3] rfl rfl (by decide) (by decide) hk1 hFc hP1 hD1
        have hK := (hK.sub (tys' := [(c2, .object RX1), (c4, .object RX1), (c6, .object RX1)]) [0, 1, 2] rfl).app hK1
        have hS := hS1
        clear hS1 hP1 hD1 hFc hKc hDc hPc hz1 hk1
        have hP : va_P D vwCl [(h0, .inr (4, [.ref (r1), .ref (r2), .ref (r3), .ref (q1), .int (0), .ref (q3), .int (0), .ref (q5), .int (0), .ref (q7), .int (0)])), (q1, .inl (c2, 120, .inr (.inr (.inr (.inr (f11)))))), (q3, .inl (c4, 10, .inr (.inr (.inr (.inr (f13)))))), (q5, .inl (c6, 20, .inr (.inr (.inr (.inr (f15)))))), (q17, .inr (1, [.ref u18, .int (0), .int (0), .int (0)]))] H20 := hP
        have hD : va_D A [(h0, .inr (4, [.ref (r1), .ref (r2), .ref (r3), .ref (q1), .int (0), .ref (q3), .int (0), .ref (q5), .int (0), .ref (q7), .int (0)])), (q1, .inl (c2, 120, .inr (.inr (.inr (.inr (f11)))))), (q3, .inl (c4, 10, .inr (.inr (.inr (.inr (f13)))))), (q5, .inl (c6, 20, .inr (.inr (.inr (.inr (f15)))))), (q17, .inr (1, [.ref u18, .int (0), .int (0), .int (0)]))] := hD
        have hK : va_K D vwCl [(c2, .object RX1), (c4, .object RX1), (c6, .object RX1)] s := hK
        refine va_astq hx hb hK hP hD hS 3 2 4 1 (r := (RX1, TX1, 4)) rfl rfl rfl rfl (vp_in_nI hj (by decide)) dX4_init_160 ?_
        clear hP hD hS
        intro H locs hP hD hS
        have hP : va_P D vwCl [(h0, .inr (4, [.ref (r1), .ref (r2), .ref (r3), .ref (q1), .int (0), .ref (q3), .int (0), .ref (q5), .int (0), .ref (q7), .int (0)])), (q1, .inl (c2, 120, .inr (.inr (.inr (.inr (f11)))))), (q3, .inl (c4, 10, .inr (.inr (.inr (.inr (f13)))))), (q5, .inl (c6, 20, .inr (.inr (.inr (.inr (va_up (f15) (nI j).toNatClampNeg (some q17))))))), (q17, .inr (1, [.ref u18, .int (0), .int (0), .int (0)]))] H := hP
        have hD : va_D A [(h0, .inr (4, [.ref (r1), .ref (r2), .ref (r3), .ref (q1), .int (0), .ref (q3), .int (0), .ref (q5), .int (0), .ref (q7), .int (0)])), (q1, .inl (c2, 120, .inr (.inr (.inr (.inr (f11)))))), (q3, .inl (c4, 10, .inr (.inr (.inr (.inr (f13)))))), (q5, .inl (c6, 20, .inr (.inr (.inr (.inr (va_up (f15) (nI j).toNatClampNeg (some q17))))))), (q17, .inr (1, [.ref u18, .int (0), .int (0), .int (0)]))] := hD
        refine lv_iinc (v := nI j + 1) hx hb dX4_init_161 hl (k := 0) rfl rfl (by decide) rfl (fun ls hl => ?_)
        have hl : lv_has ls 5 [(4, .int (nI j + 1)), (0, .ref (h0)), (1, .ref (r1)), (2, .ref (r2)), (3, .ref (r3))] := hl
        refine lv_goto hx hb dX4_init_164 (tgt := 140) rfl ?_
        replace hP := hP.sub (ws' := [(h0, .inr (4, [.ref (r1), .ref (r2), .ref (r3), .ref (q1), .int (0), .ref (q3), .int (0), .ref (q5), .int (0), .ref (q7), .int (0)])), (q1, .inl (c2, 120, .inr (.inr (.inr (.inr (f11)))))), (q3, .inl (c4, 10, .inr (.inr (.inr (.inr (f13)))))), (q5, .inl (c6, 20, .inr (.inr (.inr (.inr (va_up (f15) (nI j).toNatClampNeg (some q17)))))))]) [0, 1, 2, 3] rfl
        replace hD := hD.sub (ws' := [(h0, .inr (4, [.ref (r1), .ref (r2), .ref (r3), .ref (q1), .int (0), .ref (q3), .int (0), .ref (q5), .int (0), .ref (q7), .int (0)])), (q1, .inl (c2, 120, .inr (.inr (.inr (.inr (f11)))))), (q3, .inl (c4, 10, .inr (.inr (.inr (.inr (f13)))))), (q5, .inl (c6, 20, .inr (.inr (.inr (.inr (va_up (f15) (nI j).toNatClampNeg (some q17)))))))]) [0, 1, 2, 3] (by decide) rfl
        replace hK := hK.sub (tys' := [(c2, .object RX1), (c4, .object RX1), (c6, .object RX1)]) [0, 1, 2] rfl
        refine W.widen (k := 265 + 2 * (j + 1)) (n := 4604 + 34 * (j + 1)) (by omega) (by omega) ?_
        exact ih (va_up (f15) (nI j).toNatClampNeg (some q17), j + 1) H locs ls (by show j + 1 ≤ 20; omega) (by show 20 - (j + 1) < 20 - j; omega) hP hD hS (by rw [nI_1] at hl; exact hl)
    · have hj : j < 10 := by
        rcases Nat.lt_or_ge j 10 with h | h
        · exact h
        · exact absurd (nI_le h (by omega)) h14
      refine lv_aload_n hx hb dX4_init_117 rfl (lv_at hl 1 rfl) ?_
      refine va_get (D := D) (ci := 4) (v := .ref (q3)) (C := RX4) (T := TX4) (N := 11) hx hb hts (fun w h => List.mem_cons_of_mem _ (List.mem_append_left _ (List.mem_append_right _ h))) hown hK hP 0 rfl rfl 5 (by decide) (hts (.fieldLink RX4 21 "ProofHouse$Prover" "waiting" "[LProofHouse$Clause;") (List.mem_of_getElem? (i := 7) rfl)) (fun _ h9 => h9) rfl dX4_init_118 ?_
      refine lv_iload hx hb dX4_init_121 (lv_at hl 0 rfl) ?_
      refine va_new (ci := 1) (fs := [.null, .int 0, .int 0, .int 0]) (C := RX1) (T := TX1) (N := 4) hx hb hts (fun w h => List.mem_cons_of_mem _ (List.mem_append_right _ h)) tyX1 tyX1_ok hown (hts (.classLink RX4 11 RX1) (List.mem_of_getElem? (i := 4) rfl)) (hts (.instantiable RX1 4) (List.mem_of_getElem? (i := 11) rfl)) (hts (.initialized RX1) (List.mem_of_getElem? (i := 12) rfl)) hK hP hD hS hA rfl (fun j hj => by rcases (show j = 0 ∨ j = 1 ∨ j = 2 ∨ j = 3 by omega) with rfl | rfl | rfl | rfl <;> rfl) (show 245 + 2 * j + 1 ≤ 305 by omega) (show 4264 + 34 * j + 4 ≤ 5284 by omega) dX4_init_123 ?_
      clear hP hD hS
      intro q21 H hP hD hS
      have hP : va_P D vwCl [(h0, .inr (4, [.ref (r1), .ref (r2), .ref (r3), .ref (q1), .int (0), .ref (q3), .int (0), .ref (q5), .int (0), .ref (q7), .int (0)])), (q1, .inl (c2, 120, .inr (.inr (.inr (.inr (f11)))))), (q3, .inl (c4, 10, .inr (.inr (.inr (.inr (f13)))))), (q5, .inl (c6, 20, .inr (.inr (.inr (.inr (fun _ => none)))))), (q21, .inr (1, [.null, .int 0, .int 0, .int 0]))] H := hP
      have hD : va_D A [(h0, .inr (4, [.ref (r1), .ref (r2), .ref (r3), .ref (q1), .int (0), .ref (q3), .int (0), .ref (q5), .int (0), .ref (q7), .int (0)])), (q1, .inl (c2, 120, .inr (.inr (.inr (.inr (f11)))))), (q3, .inl (c4, 10, .inr (.inr (.inr (.inr (f13)))))), (q5, .inl (c6, 20, .inr (.inr (.inr (.inr (fun _ => none)))))), (q21, .inr (1, [.null, .int 0, .int 0, .int 0]))] := hD
      refine lv_dup hx hb dX4_init_126 rfl ?_
      have hPc := hP.sub (ws' := [(q21, .inr (1, [.null, .int 0, .int 0, .int 0]))]) [4] rfl
      have hDc := hD.sub (ws' := [(q21, .inr (1, [.null, .int 0, .int 0, .int 0]))]) [4] (by decide) rfl
      have hKc := hK.sub (tys' := []) [] rfl
      have hFc := va_free (wc := [(q21, .inr (1, [.null, .int 0, .int 0, .int 0]))]) hD hS hA [4] rfl
      refine va_callv (va_runIN (As := []) (rest := [.ref (q21), .int (nI j), .ref (q3)]) ⟨hx, hb, hml, hown, hts⟩ (c_X1_init l D q21 H.size) ⟨va_cnB 0 hts ggX4_init_X1_init rfl rfl rfl hE.2 (hts (.initialized RX1) (List.mem_of_getElem? (i := 12) rfl)) (by decide +kernel) ⟨Nat.le_of_ble_eq_true rfl, Nat.le_of_ble_eq_true rfl⟩, rfl, (hts (.instanceMethod yX1_init) (List.mem_of_getElem? (i := 18) rfl))⟩ ⟨fun a U g mk q => by obtain ⟨q0, q1, qP, qK, qD⟩ := q; exact ⟨q0, q1, qP, va_K.moved (u := U) (U := U.calling g mk a) (Vm.Alike.refl U.vm) qK, qD⟩, fun U hU hW => ⟨rfl, by rw [hU], by rw [hU]; exact hPc, va_K.moved hW.alike hKc, hDc.weaken (fun _ _ _ _ => trivial)⟩⟩ rfl rfl hl.1 rfl (lv_room (Nat.le_of_ble_eq_true rfl)) dX4_init_127 ⟨show 245 + 2 * j + 1 + 1 ≤ 305 by omega, show 4264 + 34 * j + 4 + 30 ≤ 5284 by omega⟩) hS (fun q _ h => hFc q h) hFc ?_
      intro u22 t H24 lo1 ht hvm hwu22 hB hz1 hk1 hS1
      obtain ⟨hP1, hK1, hD1⟩ := hB
      rw [ht] at hP1
      have hK1 := va_K.moved hvm.symm hK1
      obtain ⟨hP, hD⟩ := va_join (wr := [(h0, .inr (4, [.ref (r1), .ref (r2), .ref (r3), .ref (q1), .int (0), .ref (q3), .int (0), .ref (q5), .int (0), .ref (q7), .int (0)])), (q1, .inl (c2, 120, .inr (.inr (.inr (.inr (f11)))))), (q3, .inl (c4, 10, .inr (.inr (.inr (.inr (f13)))))), (q5, .inl (c6, 20, .inr (.inr (.inr (.inr (fun _ => none))))))]) (w1 := [(q21, .inr (1, [.ref u22, .int (0), .int (0), .int (0)]))]) hP hD [4] [0, 1, 2, 3] rfl rfl (by decide) (by decide) hk1 hFc hP1 hD1
      have hK := (hK.sub (tys' := [(c2, .object RX1), (c4, .object RX1), (c6, .object RX1)]) [0, 1, 2] rfl).app hK1
      have hS := hS1
      clear hS1 hP1 hD1 hFc hKc hDc hPc hz1 hk1
      have hP : va_P D vwCl [(h0, .inr (4, [.ref (r1), .ref (r2), .ref (r3), .ref (q1), .int (0), .ref (q3), .int (0), .ref (q5), .int (0), .ref (q7), .int (0)])), (q1, .inl (c2, 120, .inr (.inr (.inr (.inr (f11)))))), (q3, .inl (c4, 10, .inr (.inr (.inr (.inr (f13)))))), (q5, .inl (c6, 20, .inr (.inr (.inr (.inr (fun _ => none)))))), (q21, .inr (1, [.ref u22, .int (0), .int (0), .int (0)]))] H24 := hP
      have hD : va_D A [(h0, .inr (4, [.ref (r1), .ref (r2), .ref (r3), .ref (q1), .int (0), .ref (q3), .int (0), .ref (q5), .int (0), .ref (q7), .int (0)])), (q1, .inl (c2, 120, .inr (.inr (.inr (.inr (f11)))))), (q3, .inl (c4, 10, .inr (.inr (.inr (.inr (f13)))))), (q5, .inl (c6, 20, .inr (.inr (.inr (.inr (fun _ => none)))))), (q21, .inr (1, [.ref u22, .int (0), .int (0), .int (0)]))] := hD
      have hK : va_K D vwCl [(c2, .object RX1), (c4, .object RX1), (c6, .object RX1)] s := hK
      refine va_astq hx hb hK hP hD hS 2 1 4 1 (r := (RX1, TX1, 4)) rfl rfl rfl rfl (vp_in_nI hj (by decide)) dX4_init_130 ?_
      clear hP hD hS
      intro H locs hP hD hS
      have hP : va_P D vwCl [(h0, .inr (4, [.ref (r1), .ref (r2), .ref (r3), .ref (q1), .int (0), .ref (q3), .int (0), .ref (q5), .int (0), .ref (q7), .int (0)])), (q1, .inl (c2, 120, .inr (.inr (.inr (.inr (f11)))))), (q3, .inl (c4, 10, .inr (.inr (.inr (.inr (va_up (f13) (nI j).toNatClampNeg (some q21))))))), (q5, .inl (c6, 20, .inr (.inr (.inr (.inr (fun _ => none)))))), (q21, .inr (1, [.ref u22, .int (0), .int (0), .int (0)]))] H := hP
      have hD : va_D A [(h0, .inr (4, [.ref (r1), .ref (r2), .ref (r3), .ref (q1), .int (0), .ref (q3), .int (0), .ref (q5), .int (0), .ref (q7), .int (0)])), (q1, .inl (c2, 120, .inr (.inr (.inr (.inr (f11)))))), (q3, .inl (c4, 10, .inr (.inr (.inr (.inr (va_up (f13) (nI j).toNatClampNeg (some q21))))))), (q5, .inl (c6, 20, .inr (.inr (.inr (.inr (fun _ => none)))))), (q21, .inr (1, [.ref u22, .int (0), .int (0), .int (0)]))] := hD
      refine lv_iinc (v := nI j + 1) hx hb dX4_init_131 hl (k := 0) rfl rfl (by decide) rfl (fun ls hl => ?_)
      have hl : lv_has ls 5 [(4, .int (nI j + 1)), (0, .ref (h0)), (1, .ref (r1)), (2, .ref (r2)), (3, .ref (r3))] := hl
      refine lv_goto hx hb dX4_init_134 (tgt := 110) rfl ?_
      replace hP := hP.sub (ws' := [(h0, .inr (4, [.ref (r1), .ref (r2), .ref (r3), .ref (q1), .int (0), .ref (q3), .int (0), .ref (q5), .int (0), .ref (q7), .int (0)])), (q1, .inl (c2, 120, .inr (.inr (.inr (.inr (f11)))))), (q3, .inl (c4, 10, .inr (.inr (.inr (.inr (va_up (f13) (nI j).toNatClampNeg (some q21))))))), (q5, .inl (c6, 20, .inr (.inr (.inr (.inr (fun _ => none))))))]) [0, 1, 2, 3] rfl
      replace hD := hD.sub (ws' := [(h0, .inr (4, [.ref (r1), .ref (r2), .ref (r3), .ref (q1), .int (0), .ref (q3), .int (0), .ref (q5), .int (0), .ref (q7), .int (0)])), (q1, .inl (c2, 120, .inr (.inr (.inr (.inr (f11)))))), (q3, .inl (c4, 10, .inr (.inr (.inr (.inr (va_up (f13) (nI j).toNatClampNeg (some q21))))))), (q5, .inl (c6, 20, .inr (.inr (.inr (.inr (fun _ => none))))))]) [0, 1, 2, 3] (by decide) rfl
      replace hK := hK.sub (tys' := [(c2, .object RX1), (c4, .object RX1), (c6, .object RX1)]) [0, 1, 2] rfl
      refine W.widen (k := 245 + 2 * (j + 1)) (n := 4264 + 34 * (j + 1)) (by omega) (by omega) ?_
      exact ih (va_up (f13) (nI j).toNatClampNeg (some q21), j + 1) H locs ls (by show j + 1 ≤ 10; omega) (by show 10 - (j + 1) < 10 - j; omega) hP hD hS (by rw [nI_1] at hl; exact hl)
  · have hj : j < 120 := by
      rcases Nat.lt_or_ge j 120 with h | h
      · exact h
      · exact absurd (nI_le h (by omega)) h12
    refine lv_aload_n hx hb dX4_init_87 rfl (lv_at hl 1 rfl) ?_
    refine va_get (D := D) (ci := 4) (v := .ref (q1)) (C := RX4) (T := TX4) (N := 11) hx hb hts (fun w h => List.mem_cons_of_mem _ (List.mem_append_left _ (List.mem_append_right _ h))) hown hK hP 0 rfl rfl 3 (by decide) (hts (.fieldLink RX4 13 "ProofHouse$Prover" "given" "[LProofHouse$Clause;") (List.mem_of_getElem? (i := 5) rfl)) (fun _ h9 => h9) rfl dX4_init_88 ?_
    refine lv_iload hx hb dX4_init_91 (lv_at hl 0 rfl) ?_
    refine va_new (ci := 1) (fs := [.null, .int 0, .int 0, .int 0]) (C := RX1) (T := TX1) (N := 4) hx hb hts (fun w h => List.mem_cons_of_mem _ (List.mem_append_right _ h)) tyX1 tyX1_ok hown (hts (.classLink RX4 11 RX1) (List.mem_of_getElem? (i := 4) rfl)) (hts (.instantiable RX1 4) (List.mem_of_getElem? (i := 11) rfl)) (hts (.initialized RX1) (List.mem_of_getElem? (i := 12) rfl)) hK hP hD hS hA rfl (fun j hj => by rcases (show j = 0 ∨ j = 1 ∨ j = 2 ∨ j = 3 by omega) with rfl | rfl | rfl | rfl <;> rfl) (show 5 + 2 * j + 1 ≤ 305 by omega) (show 184 + 34 * j + 4 ≤ 5284 by omega) dX4_init_93 ?_
    clear hP hD hS
    intro q25 H hP hD hS
    have hP : va_P D vwCl [(h0, .inr (4, [.ref (r1), .ref (r2), .ref (r3), .ref (q1), .int (0), .ref (q3), .int (0), .ref (q5), .int (0), .ref (q7), .int (0)])), (q1, .inl (c2, 120, .inr (.inr (.inr (.inr (f11)))))), (q3, .inl (c4, 10, .inr (.inr (.inr (.inr (fun _ => none)))))), (q5, .inl (c6, 20, .inr (.inr (.inr (.inr (fun _ => none)))))), (q25, .inr (1, [.null, .int 0, .int 0, .int 0]))] H := hP
    have hD : va_D A [(h0, .inr (4, [.ref (r1), .ref (r2), .ref (r3), .ref (q1), .int (0), .ref (q3), .int (0), .ref (q5), .int (0), .ref (q7), .int (0)])), (q1, .inl (c2, 120, .inr (.inr (.inr (.inr (f11)))))), (q3, .inl (c4, 10, .inr (.inr (.inr (.inr (fun _ => none)))))), (q5, .inl (c6, 20, .inr (.inr (.inr (.inr (fun _ => none)))))), (q25, .inr (1, [.null, .int 0, .int 0, .int 0]))] := hD
    refine lv_dup hx hb dX4_init_96 rfl ?_
    have hPc := hP.sub (ws' := [(q25, .inr (1, [.null, .int 0, .int 0, .int 0]))]) [4] rfl
    have hDc := hD.sub (ws' := [(q25, .inr (1, [.null, .int 0, .int 0, .int 0]))]) [4] (by decide) rfl
    have hKc := hK.sub (tys' := []) [] rfl
    have hFc := va_free (wc := [(q25, .inr (1, [.null, .int 0, .int 0, .int 0]))]) hD hS hA [4] rfl
    refine va_callv (va_runIN (As := []) (rest := [.ref (q25), .int (nI j), .ref (q1)]) ⟨hx, hb, hml, hown, hts⟩ (c_X1_init l D q25 H.size) ⟨va_cnB 0 hts ggX4_init_X1_init rfl rfl rfl hE.2 (hts (.initialized RX1) (List.mem_of_getElem? (i := 12) rfl)) (by decide +kernel) ⟨Nat.le_of_ble_eq_true rfl, Nat.le_of_ble_eq_true rfl⟩, rfl, (hts (.instanceMethod yX1_init) (List.mem_of_getElem? (i := 18) rfl))⟩ ⟨fun a U g mk q => by obtain ⟨q0, q1, qP, qK, qD⟩ := q; exact ⟨q0, q1, qP, va_K.moved (u := U) (U := U.calling g mk a) (Vm.Alike.refl U.vm) qK, qD⟩, fun U hU hW => ⟨rfl, by rw [hU], by rw [hU]; exact hPc, va_K.moved hW.alike hKc, hDc.weaken (fun _ _ _ _ => trivial)⟩⟩ rfl rfl hl.1 rfl (lv_room (Nat.le_of_ble_eq_true rfl)) dX4_init_97 ⟨show 5 + 2 * j + 1 + 1 ≤ 305 by omega, show 184 + 34 * j + 4 + 30 ≤ 5284 by omega⟩) hS (fun q _ h => hFc q h) hFc ?_
    intro u26 t H28 lo1 ht hvm hwu26 hB hz1 hk1 hS1
    obtain ⟨hP1, hK1, hD1⟩ := hB
    rw [ht] at hP1
    have hK1 := va_K.moved hvm.symm hK1
    obtain ⟨hP, hD⟩ := va_join (wr := [(h0, .inr (4, [.ref (r1), .ref (r2), .ref (r3), .ref (q1), .int (0), .ref (q3), .int (0), .ref (q5), .int (0), .ref (q7), .int (0)])), (q1, .inl (c2, 120, .inr (.inr (.inr (.inr (f11)))))), (q3, .inl (c4, 10, .inr (.inr (.inr (.inr (fun _ => none)))))), (q5, .inl (c6, 20, .inr (.inr (.inr (.inr (fun _ => none))))))]) (w1 := [(q25, .inr (1, [.ref u26, .int (0), .int (0), .int (0)]))]) hP hD [4] [0, 1, 2, 3] rfl rfl (by decide) (by decide) hk1 hFc hP1 hD1
    have hK := (hK.sub (tys' := [(c2, .object RX1), (c4, .object RX1), (c6, .object RX1)]) [0, 1, 2] rfl).app hK1
    have hS := hS1
    clear hS1 hP1 hD1 hFc hKc hDc hPc hz1 hk1
    have hP : va_P D vwCl [(h0, .inr (4, [.ref (r1), .ref (r2), .ref (r3), .ref (q1), .int (0), .ref (q3), .int (0), .ref (q5), .int (0), .ref (q7), .int (0)])), (q1, .inl (c2, 120, .inr (.inr (.inr (.inr (f11)))))), (q3, .inl (c4, 10, .inr (.inr (.inr (.inr (fun _ => none)))))), (q5, .inl (c6, 20, .inr (.inr (.inr (.inr (fun _ => none)))))), (q25, .inr (1, [.ref u26, .int (0), .int (0), .int (0)]))] H28 := hP
    have hD : va_D A [(h0, .inr (4, [.ref (r1), .ref (r2), .ref (r3), .ref (q1), .int (0), .ref (q3), .int (0), .ref (q5), .int (0), .ref (q7), .int (0)])), (q1, .inl (c2, 120, .inr (.inr (.inr (.inr (f11)))))), (q3, .inl (c4, 10, .inr (.inr (.inr (.inr (fun _ => none)))))), (q5, .inl (c6, 20, .inr (.inr (.inr (.inr (fun _ => none)))))), (q25, .inr (1, [.ref u26, .int (0), .int (0), .int (0)]))] := hD
    have hK : va_K D vwCl [(c2, .object RX1), (c4, .object RX1), (c6, .object RX1)] s := hK
    refine va_astq hx hb hK hP hD hS 1 0 4 1 (r := (RX1, TX1, 4)) rfl rfl rfl rfl (vp_in_nI hj (by decide)) dX4_init_100 ?_
    clear hP hD hS
    intro H locs hP hD hS
    have hP : va_P D vwCl [(h0, .inr (4, [.ref (r1), .ref (r2), .ref (r3), .ref (q1), .int (0), .ref (q3), .int (0), .ref (q5), .int (0), .ref (q7), .int (0)])), (q1, .inl (c2, 120, .inr (.inr (.inr (.inr (va_up (f11) (nI j).toNatClampNeg (some q25))))))), (q3, .inl (c4, 10, .inr (.inr (.inr (.inr (fun _ => none)))))), (q5, .inl (c6, 20, .inr (.inr (.inr (.inr (fun _ => none)))))), (q25, .inr (1, [.ref u26, .int (0), .int (0), .int (0)]))] H := hP
    have hD : va_D A [(h0, .inr (4, [.ref (r1), .ref (r2), .ref (r3), .ref (q1), .int (0), .ref (q3), .int (0), .ref (q5), .int (0), .ref (q7), .int (0)])), (q1, .inl (c2, 120, .inr (.inr (.inr (.inr (va_up (f11) (nI j).toNatClampNeg (some q25))))))), (q3, .inl (c4, 10, .inr (.inr (.inr (.inr (fun _ => none)))))), (q5, .inl (c6, 20, .inr (.inr (.inr (.inr (fun _ => none)))))), (q25, .inr (1, [.ref u26, .int (0), .int (0), .int (0)]))] := hD
    refine lv_iinc (v := nI j + 1) hx hb dX4_init_101 hl (k := 0) rfl rfl (by decide) rfl (fun ls hl => ?_)
    have hl : lv_has ls 5 [(4, .int (nI j + 1)), (0, .ref (h0)), (1, .ref (r1)), (2, .ref (r2)), (3, .ref (r3))] := hl
    refine lv_goto hx hb dX4_init_104 (tgt := 80) rfl ?_
    replace hP := hP.sub (ws' := [(h0, .inr (4, [.ref (r1), .ref (r2), .ref (r3), .ref (q1), .int (0), .ref (q3), .int (0), .ref (q5), .int (0), .ref (q7), .int (0)])), (q1, .inl (c2, 120, .inr (.inr (.inr (.inr (va_up (f11) (nI j).toNatClampNeg (some q25))))))), (q3, .inl (c4, 10, .inr (.inr (.inr (.inr (fun _ => none)))))), (q5, .inl (c6, 20, .inr (.inr (.inr (.inr (fun _ => none))))))]) [0, 1, 2, 3] rfl
    replace hD := hD.sub (ws' := [(h0, .inr (4, [.ref (r1), .ref (r2), .ref (r3), .ref (q1), .int (0), .ref (q3), .int (0), .ref (q5), .int (0), .ref (q7), .int (0)])), (q1, .inl (c2, 120, .inr (.inr (.inr (.inr (va_up (f11) (nI j).toNatClampNeg (some q25))))))), (q3, .inl (c4, 10, .inr (.inr (.inr (.inr (fun _ => none)))))), (q5, .inl (c6, 20, .inr (.inr (.inr (.inr (fun _ => none))))))]) [0, 1, 2, 3] (by decide) rfl
    replace hK := hK.sub (tys' := [(c2, .object RX1), (c4, .object RX1), (c6, .object RX1)]) [0, 1, 2] rfl
    refine W.widen (k := 5 + 2 * (j + 1)) (n := 184 + 34 * (j + 1)) (by omega) (by omega) ?_
    exact ih (va_up (f11) (nI j).toNatClampNeg (some q25), j + 1) H locs ls (by show j + 1 ≤ 120; omega) (by show 120 - (j + 1) < 120 - j; omega) hP hD hS (by rw [nI_1] at hl; exact hl)

set_option maxHeartbeats 4000000 in
set_option maxRecDepth 100000 in
/-- ProofHouse$Proofs() -/
theorem c_X3_init (l : Launch) (D : va_G) (h0 sz : Nat) (r1 : Nat) (r2 : Nat) (r3 : Nat) (r4 : Nat) (r5 : Nat) : Met l yX3_init wsX3_init ({ frames := 2, cells := 556, slots := 9194, locals := 40 }) (va_Pc [.ref (h0), .ref (r1), .ref (r2), .ref (r3), .ref (r4), .ref (r5)] (fun U => U.heap.size = sz ∧ va_P D vwCl [(h0, .inr (3, [.null, .null, .null, .null, .null, .null, .int 0, .null, .int 0, .null, .int 0]))] U.heap ∧ va_K D vwCl [] U ∧ va_D (fun _ => True) [(h0, .inr (3, [.null, .null, .null, .null, .null, .null, .int 0, .null, .int 0, .null, .int 0]))] ∧ va_AO RX1 U ∧ pAI U ∧ va_Nw (.methodLinkNest RX3 29 yX1_init "ProofHouse") U)) (va_Qv (fun _ : Unit => True) (fun _ _ => True) (va_A [(h0, .inr (3, [.null, .null, .null, .null, .null, .null, .int 0, .null, .int 0, .null, .int 0]))] sz)) 556 9194 (va_A [(h0, .inr (3, [.null, .null, .null, .null, .null, .null, .int 0, .null, .int 0, .null, .int 0]))] sz) := by
  refine Met.ofW (cc := cX3_init) (maxL := 7) (ret := none) (by decide) rfl ?_
  intro p e s m args below meth c s₁ B hml hv
  obtain ⟨rfl, hsz, hP, hK, hD0, hE⟩ := hv
  have hx := B.exec
  have hb := B.bytes
  have hr := B.returns
  have hts := atoms_spec (ws := wsX3_init) B.pre
  have hown : s.vm.findClass RX3 = some m.cls := findClass_of_methodNamed B.named
  have hnm : meth.name = "<init>" := (name_of_methodNamed B.named B.method).1
  subst hsz
  have hD := hD0.self (sz := s.heap.size)
  generalize hAe : va_A ([(h0, .inr (3, [.null, .null, .null, .null, .null, .null, .int 0, .null, .int 0, .null, .int 0]))]) s.heap.size = A at hD ⊢
  have hA : ∀ q : Nat, s.heap.size ≤ q → A q := fun q h => by rw [← hAe]; exact Or.inr h
  have hS : va_S A s.heap s.heap [] := va_S.rf
  have hl := lv_entry ([.ref (h0), .ref (r1), .ref (r2), .ref (r3), .ref (r4), .ref (r5)]) (n := 7) (Nat.le_of_ble_eq_true rfl)
  rw [lg_entry_eq]
  generalize (lg_sl ([.ref (h0), .ref (r1), .ref (r2), .ref (r3), .ref (r4), .ref (r5)]) ++ List.replicate (7 - (lg_sl ([.ref (h0), .ref (r1), .ref (r2), .ref (r3), .ref (r4), .ref (r5)])).length) Slot.unset).toArray = ls at hl ⊢
  have hl : lv_has ls 7 [(0, .ref (h0)), (1, .ref (r1)), (2, .ref (r2)), (3, .ref (r3)), (4, .ref (r4)), (5, .ref (r5))] := hl
  refine lv_aload_n hx hb dX3_init_0 rfl (lv_at hl 0 rfl) ?_
  refine W.objInit hx hb hown (hts (.methodLink RX3 3 objectInit) (List.mem_of_getElem? (i := 1) rfl)) (hts (.instanceMethod objectInit) (List.mem_of_getElem? (i := 2) rfl)) (hts (.code objectInit ⟨#[0xb1]⟩ 1 none) (List.mem_of_getElem? (i := 3) rfl)) rfl (by rw [hml]; exact hl.1) rfl dX3_init_1 (Nat.le_of_ble_eq_true rfl) (Nat.le_of_ble_eq_true rfl) ?_
  refine W.eq (g2 := F0 m 4 ls []) rfl ?_
  refine lv_aload_n hx hb dX3_init_4 rfl (lv_at hl 0 rfl) ?_
  refine lv_bipush hx hb dX3_init_5 (v := 40) rfl ?_
  refine lv_iconst hx hb dX3_init_7 (v := 4) rfl ?_
  refine ib_mn (C := RX3) (T := TX3) (N := 11) (ci := 3) (ty0 := tyX3) (N2 := 40) (M2 := 4) hx hb hts (fun w h => List.mem_cons_of_mem _ (List.mem_append_left _ (List.mem_append_right _ h))) tyX3_ok nmX3 hown hnm rfl hA hK hP hD hS (hts (.classLink RX3 11 "[[I") (List.mem_of_getElem? (i := 4) rfl)) hE.2.1 (hts (.arrayClass .int) (List.mem_of_getElem? (i := 5) rfl)) (by decide) (by decide) (by decide) (by decide) (by decide) (by decide) (Nat.le_of_ble_eq_true rfl) (Nat.le_of_ble_eq_true rfl) dX3_init_8 5 (by decide) (Nat.le_of_ble_eq_true rfl) (hts (.fieldLink RX3 13 "ProofHouse$Proofs" "frames" "[[I") (List.mem_of_getElem? (i := 6) rfl)) rfl rfl (tyX3_ok 5 (by decide)) dX3_init_12 ?_
  clear hP hD hS
  intro q1 H locs hP hD hS
  have hP : va_P D vwCl [(h0, .inr (3, [.null, .null, .null, .null, .null, .ref q1, .int 0, .null, .int 0, .null, .int 0]))] H := hP
  have hD : va_D A [(h0, .inr (3, [.null, .null, .null, .null, .null, .ref q1, .int 0, .null, .int 0, .null, .int 0]))] := hD
  refine lv_aload_n hx hb dX3_init_15 rfl (lv_at hl 0 rfl) ?_
  refine lv_iconst hx hb dX3_init_16 (v := 0) rfl ?_
  refine va_put (D := D) (ci := 3) (v := .int (0)) (ty := .int) (C := RX3) (T := TX3) (N := 11) hx hb hts (fun w h => List.mem_cons_of_mem _ (List.mem_append_left _ (List.mem_append_right _ h))) tyX3 tyX3_ok nmX3 hown hK hP hD hS 0 rfl rfl 6 (by decide) (hts (.fieldLink RX3 16 "ProofHouse$Proofs" "depth" "I") (List.mem_of_getElem? (i := 7) rfl)) (fun _ h9 => h9) rfl (tyX3_ok 6 (by decide)) rfl rfl (Nat.le_of_ble_eq_true rfl) dX3_init_17 ?_
  clear hP hD hS
  intro H locs hP hD hS
  have hP : va_P D vwCl [(h0, .inr (3, [.null, .null, .null, .null, .null, .ref q1, .int (0), .null, .int 0, .null, .int 0]))] H := hP
  have hD : va_D A [(h0, .inr (3, [.null, .null, .null, .null, .null, .ref q1, .int (0), .null, .int 0, .null, .int 0]))] := hD
  refine lv_aload_n hx hb dX3_init_20 rfl (lv_at hl 0 rfl) ?_
  refine lv_sipush hx hb dX3_init_21 (v := 256) rfl ?_
  refine va_newq (N' := 256) hx hb hown (hts (.classLink RX3 20 RX1) (List.mem_of_getElem? (i := 8) rfl)) hE.1 hK hP hD hS hA (by decide) (by decide) (by decide) (Nat.le_of_ble_eq_true rfl) (Nat.le_of_ble_eq_true rfl) dX3_init_24 ?_
  clear hP hD hS hK
  intro q2 c3 H hK hP hD hS
  have hP : va_P D vwCl [(h0, .inr (3, [.null, .null, .null, .null, .null, .ref q1, .int (0), .null, .int 0, .null, .int 0])), (q2, .inl (c3, 256, .inr (.inr (.inr (.inr (fun _ => none))))))] H := hP
  have hD : va_D A [(h0, .inr (3, [.null, .null, .null, .null, .null, .ref q1, .int (0), .null, .int 0, .null, .int 0])), (q2, .inl (c3, 256, .inr (.inr (.inr (.inr (fun _ => none))))))] := hD
  have hK : va_K D vwCl [(c3, .object RX1)] s := hK
  refine va_putF (D := D) (ci := 3) (v := .ref (q2)) (ty := .array (.object "ProofHouse$Clause")) (C := RX3) (T := TX3) (N := 11) hx hb hts (fun w h => List.mem_cons_of_mem _ (List.mem_append_left _ (List.mem_append_right _ h))) tyX3 tyX3_ok nmX3 hown hK hP hD hS 0 rfl rfl 7 (by decide) (hts (.fieldLink RX3 22 "ProofHouse$Proofs" "clauses" "[LProofHouse$Clause;") (List.mem_of_getElem? (i := 9) rfl)) (fun _ h9 => h9) rfl hnm rfl (tyX3_ok 7 (by decide)) rfl rfl (Nat.le_of_ble_eq_true rfl) dX3_init_27 ?_
  clear hP hD hS
  intro H locs hP hD hS
  have hP : va_P D vwCl [(h0, .inr (3, [.null, .null, .null, .null, .null, .ref q1, .int (0), .ref (q2), .int 0, .null, .int 0])), (q2, .inl (c3, 256, .inr (.inr (.inr (.inr (fun _ => none))))))] H := hP
  have hD : va_D A [(h0, .inr (3, [.null, .null, .null, .null, .null, .ref q1, .int (0), .ref (q2), .int 0, .null, .int 0])), (q2, .inl (c3, 256, .inr (.inr (.inr (.inr (fun _ => none))))))] := hD
  refine lv_aload_n hx hb dX3_init_30 rfl (lv_at hl 0 rfl) ?_
  refine lv_iconst hx hb dX3_init_31 (v := 0) rfl ?_
  refine va_put (D := D) (ci := 3) (v := .int (0)) (ty := .int) (C := RX3) (T := TX3) (N := 11) hx hb hts (fun w h => List.mem_cons_of_mem _ (List.mem_append_left _ (List.mem_append_right _ h))) tyX3 tyX3_ok nmX3 hown hK hP hD hS 0 rfl rfl 8 (by decide) (hts (.fieldLink RX3 26 "ProofHouse$Proofs" "held" "I") (List.mem_of_getElem? (i := 10) rfl)) (fun _ h9 => h9) rfl (tyX3_ok 8 (by decide)) rfl rfl (Nat.le_of_ble_eq_true rfl) dX3_init_32 ?_
  clear hP hD hS
  intro H locs hP hD hS
  have hP : va_P D vwCl [(h0, .inr (3, [.null, .null, .null, .null, .null, .ref q1, .int (0), .ref (q2), .int (0), .null, .int 0])), (q2, .inl (c3, 256, .inr (.inr (.inr (.inr (fun _ => none))))))] H := hP
  have hD : va_D A [(h0, .inr (3, [.null, .null, .null, .null, .null, .ref q1, .int (0), .ref (q2), .int (0), .null, .int 0])), (q2, .inl (c3, 256, .inr (.inr (.inr (.inr (fun _ => none))))))] := hD
  refine lv_aload_n hx hb dX3_init_35 rfl (lv_at hl 0 rfl) ?_
  refine va_new (ci := 1) (fs := [.null, .int 0, .int 0, .int 0]) (C := RX1) (T := TX1) (N := 4) hx hb hts (fun w h => List.mem_cons_of_mem _ (List.mem_append_right _ h)) tyX1 tyX1_ok hown (hts (.classLink RX3 20 RX1) (List.mem_of_getElem? (i := 8) rfl)) (hts (.instantiable RX1 4) (List.mem_of_getElem? (i := 11) rfl)) (hts (.initialized RX1) (List.mem_of_getElem? (i := 12) rfl)) hK hP hD hS hA rfl (fun j hj => by rcases (show j = 0 ∨ j = 1 ∨ j = 2 ∨ j = 3 by omega) with rfl | rfl | rfl | rfl <;> rfl) (Nat.le_of_ble_eq_true rfl) (Nat.le_of_ble_eq_true rfl) dX3_init_36 ?_
  clear hP hD hS
  intro q4 H hP hD hS
  have hP : va_P D vwCl [(h0, .inr (3, [.null, .null, .null, .null, .null, .ref q1, .int (0), .ref (q2), .int (0), .null, .int 0])), (q2, .inl (c3, 256, .inr (.inr (.inr (.inr (fun _ => none)))))), (q4, .inr (1, [.null, .int 0, .int 0, .int 0]))] H := hP
  have hD : va_D A [(h0, .inr (3, [.null, .null, .null, .null, .null, .ref q1, .int (0), .ref (q2), .int (0), .null, .int 0])), (q2, .inl (c3, 256, .inr (.inr (.inr (.inr (fun _ => none)))))), (q4, .inr (1, [.null, .int 0, .int 0, .int 0]))] := hD
  refine lv_dup hx hb dX3_init_39 rfl ?_
  have hPc := hP.sub (ws' := [(q4, .inr (1, [.null, .int 0, .int 0, .int 0]))]) [2] rfl
  have hDc := hD.sub (ws' := [(q4, .inr (1, [.null, .int 0, .int 0, .int 0]))]) [2] (by decide) rfl
  have hKc := hK.sub (tys' := []) [] rfl
  have hFc := va_free (wc := [(q4, .inr (1, [.null, .int 0, .int 0, .int 0]))]) hD hS hA [2] rfl
  refine va_callv (va_runIN (As := []) (rest := [.ref (q4), .ref (h0)]) ⟨hx, hb, hml, hown, hts⟩ (c_X1_init l D q4 H.size) ⟨va_cnB 0 hts ggX3_init_X1_init rfl rfl rfl hE.2.2 (hts (.initialized RX1) (List.mem_of_getElem? (i := 12) rfl)) (by decide +kernel) ⟨Nat.le_of_ble_eq_true rfl, Nat.le_of_ble_eq_true rfl⟩, rfl, (hts (.instanceMethod yX1_init) (List.mem_of_getElem? (i := 20) rfl))⟩ ⟨fun a U g mk q => by obtain ⟨q0, q1, qP, qK, qD⟩ := q; exact ⟨q0, q1, qP, va_K.moved (u := U) (U := U.calling g mk a) (Vm.Alike.refl U.vm) qK, qD⟩, fun U hU hW => ⟨rfl, by rw [hU], by rw [hU]; exact hPc, va_K.moved hW.alike hKc, hDc.weaken (fun _ _ _ _ => trivial)⟩⟩ rfl rfl hl.1 rfl (lv_room (Nat.le_of_ble_eq_true rfl)) dX3_init_40 ⟨Nat.le_of_ble_eq_true rfl, Nat.le_of_ble_eq_true rfl⟩) hS (fun q _ h => hFc q h) hFc ?_
  intro u5 t H7 lo1 ht hvm hwu5 hB hz1 hk1 hS1
  obtain ⟨hP1, hK1, hD1⟩ := hB
  rw [ht] at hP1
  have hK1 := va_K.moved hvm.symm hK1
  obtain ⟨hP, hD⟩ := va_join (wr := [(h0, .inr (3, [.null, .null, .null, .null, .null, .ref q1, .int (0), .ref (q2), .int (0), .null, .int 0])), (q2, .inl (c3, 256, .inr (.inr (.inr (.inr (fun _ => none))))))]) (w1 := [(q4, .inr (1, [.ref u5, .int (0), .int (0), .int (0)]))]) hP hD [2] [0, 1] rfl rfl (by decide) (by decide) hk1 hFc hP1 hD1
  have hK := (hK.sub (tys' := [(c3, .object RX1)]) [0] rfl).app hK1
  have hS := hS1
  clear hS1 hP1 hD1 hFc hKc hDc hPc hz1 hk1
  have hP : va_P D vwCl [(h0, .inr (3, [.null, .null, .null, .null, .null, .ref q1, .int (0), .ref (q2), .int (0), .null, .int 0])), (q2, .inl (c3, 256, .inr (.inr (.inr (.inr (fun _ => none)))))), (q4, .inr (1, [.ref u5, .int (0), .int (0), .int (0)]))] H7 := hP
  have hD : va_D A [(h0, .inr (3, [.null, .null, .null, .null, .null, .ref q1, .int (0), .ref (q2), .int (0), .null, .int 0])), (q2, .inl (c3, 256, .inr (.inr (.inr (.inr (fun _ => none)))))), (q4, .inr (1, [.ref u5, .int (0), .int (0), .int (0)]))] := hD
  have hK : va_K D vwCl [(c3, .object RX1)] s := hK
  refine va_putF (D := D) (ci := 3) (v := .ref (q4)) (ty := .object "ProofHouse$Clause") (C := RX3) (T := TX3) (N := 11) hx hb hts (fun w h => List.mem_cons_of_mem _ (List.mem_append_left _ (List.mem_append_right _ h))) tyX3 tyX3_ok nmX3 hown hK hP hD hS 0 rfl rfl 9 (by decide) (hts (.fieldLink RX3 30 "ProofHouse$Proofs" "wanted" "LProofHouse$Clause;") (List.mem_of_getElem? (i := 13) rfl)) (fun _ h9 => h9) rfl hnm rfl (tyX3_ok 9 (by decide)) rfl rfl (Nat.le_of_ble_eq_true rfl) dX3_init_43 ?_
  clear hP hD hS
  intro H locs hP hD hS
  have hP : va_P D vwCl [(h0, .inr (3, [.null, .null, .null, .null, .null, .ref q1, .int (0), .ref (q2), .int (0), .ref (q4), .int 0])), (q2, .inl (c3, 256, .inr (.inr (.inr (.inr (fun _ => none)))))), (q4, .inr (1, [.ref u5, .int (0), .int (0), .int (0)]))] H := hP
  have hD : va_D A [(h0, .inr (3, [.null, .null, .null, .null, .null, .ref q1, .int (0), .ref (q2), .int (0), .ref (q4), .int 0])), (q2, .inl (c3, 256, .inr (.inr (.inr (.inr (fun _ => none)))))), (q4, .inr (1, [.ref u5, .int (0), .int (0), .int (0)]))] := hD
  refine lv_aload_n hx hb dX3_init_46 rfl (lv_at hl 0 rfl) ?_
  refine lv_iconst hx hb dX3_init_47 (v := (-1)) rfl ?_
  refine va_put (D := D) (ci := 3) (v := .int ((-1))) (ty := .int) (C := RX3) (T := TX3) (N := 11) hx hb hts (fun w h => List.mem_cons_of_mem _ (List.mem_append_left _ (List.mem_append_right _ h))) tyX3 tyX3_ok nmX3 hown hK hP hD hS 0 rfl rfl 10 (by decide) (hts (.fieldLink RX3 34 "ProofHouse$Proofs" "wrong" "I") (List.mem_of_getElem? (i := 14) rfl)) (fun _ h9 => h9) rfl (tyX3_ok 10 (by decide)) rfl rfl (Nat.le_of_ble_eq_true rfl) dX3_init_48 ?_
  clear hP hD hS
  intro H locs hP hD hS
  have hP : va_P D vwCl [(h0, .inr (3, [.null, .null, .null, .null, .null, .ref q1, .int (0), .ref (q2), .int (0), .ref (q4), .int ((-1))])), (q2, .inl (c3, 256, .inr (.inr (.inr (.inr (fun _ => none)))))), (q4, .inr (1, [.ref u5, .int (0), .int (0), .int (0)]))] H := hP
  have hD : va_D A [(h0, .inr (3, [.null, .null, .null, .null, .null, .ref q1, .int (0), .ref (q2), .int (0), .ref (q4), .int ((-1))])), (q2, .inl (c3, 256, .inr (.inr (.inr (.inr (fun _ => none)))))), (q4, .inr (1, [.ref u5, .int (0), .int (0), .int (0)]))] := hD
  refine lv_aload_n hx hb dX3_init_51 rfl (lv_at hl 0 rfl) ?_
  refine lv_aload_n hx hb dX3_init_52 rfl (lv_at hl 1 rfl) ?_
  refine va_putF (D := D) (ci := 3) (v := .ref (r1)) (ty := .object "ProofHouse$Room") (C := RX3) (T := TX3) (N := 11) hx hb hts (fun w h => List.mem_cons_of_mem _ (List.mem_append_left _ (List.mem_append_right _ h))) tyX3 tyX3_ok nmX3 hown hK hP hD hS 0 rfl rfl 0 (by decide) (hts (.fieldLink RX3 37 "ProofHouse$Proofs" "room" "LProofHouse$Room;") (List.mem_of_getElem? (i := 15) rfl)) (fun _ h9 => h9) rfl hnm rfl (tyX3_ok 0 (by decide)) rfl rfl (Nat.le_of_ble_eq_true rfl) dX3_init_53 ?_
  clear hP hD hS
  intro H locs hP hD hS
  have hP : va_P D vwCl [(h0, .inr (3, [.ref (r1), .null, .null, .null, .null, .ref q1, .int (0), .ref (q2), .int (0), .ref (q4), .int ((-1))])), (q2, .inl (c3, 256, .inr (.inr (.inr (.inr (fun _ => none)))))), (q4, .inr (1, [.ref u5, .int (0), .int (0), .int (0)]))] H := hP
  have hD : va_D A [(h0, .inr (3, [.ref (r1), .null, .null, .null, .null, .ref q1, .int (0), .ref (q2), .int (0), .ref (q4), .int ((-1))])), (q2, .inl (c3, 256, .inr (.inr (.inr (.inr (fun _ => none)))))), (q4, .inr (1, [.ref u5, .int (0), .int (0), .int (0)]))] := hD
  refine lv_aload_n hx hb dX3_init_56 rfl (lv_at hl 0 rfl) ?_
  refine lv_aload_n hx hb dX3_init_57 rfl (lv_at hl 2 rfl) ?_
  refine va_putF (D := D) (ci := 3) (v := .ref (r2)) (ty := .object "ProofHouse$Book") (C := RX3) (T := TX3) (N := 11) hx hb hts (fun w h => List.mem_cons_of_mem _ (List.mem_append_left _ (List.mem_append_right _ h))) tyX3 tyX3_ok nmX3 hown hK hP hD hS 0 rfl rfl 1 (by decide) (hts (.fieldLink RX3 41 "ProofHouse$Proofs" "book" "LProofHouse$Book;") (List.mem_of_getElem? (i := 16) rfl)) (fun _ h9 => h9) rfl hnm rfl (tyX3_ok 1 (by decide)) rfl rfl (Nat.le_of_ble_eq_true rfl) dX3_init_58 ?_
  clear hP hD hS
  intro H locs hP hD hS
  have hP : va_P D vwCl [(h0, .inr (3, [.ref (r1), .ref (r2), .null, .null, .null, .ref q1, .int (0), .ref (q2), .int (0), .ref (q4), .int ((-1))])), (q2, .inl (c3, 256, .inr (.inr (.inr (.inr (fun _ => none)))))), (q4, .inr (1, [.ref u5, .int (0), .int (0), .int (0)]))] H := hP
  have hD : va_D A [(h0, .inr (3, [.ref (r1), .ref (r2), .null, .null, .null, .ref q1, .int (0), .ref (q2), .int (0), .ref (q4), .int ((-1))])), (q2, .inl (c3, 256, .inr (.inr (.inr (.inr (fun _ => none)))))), (q4, .inr (1, [.ref u5, .int (0), .int (0), .int (0)]))] := hD
  refine lv_aload_n hx hb dX3_init_61 rfl (lv_at hl 0 rfl) ?_
  refine lv_aload_n hx hb dX3_init_62 rfl (lv_at hl 3 rfl) ?_
  refine va_putF (D := D) (ci := 3) (v := .ref (r3)) (ty := .object "ProofHouse$Terms") (C := RX3) (T := TX3) (N := 11) hx hb hts (fun w h => List.mem_cons_of_mem _ (List.mem_append_left _ (List.mem_append_right _ h))) tyX3 tyX3_ok nmX3 hown hK hP hD hS 0 rfl rfl 2 (by decide) (hts (.fieldLink RX3 45 "ProofHouse$Proofs" "terms" "LProofHouse$Terms;") (List.mem_of_getElem? (i := 17) rfl)) (fun _ h9 => h9) rfl hnm rfl (tyX3_ok 2 (by decide)) rfl rfl (Nat.le_of_ble_eq_true rfl) dX3_init_63 ?_
  clear hP hD hS
  intro H locs hP hD hS
  have hP : va_P D vwCl [(h0, .inr (3, [.ref (r1), .ref (r2), .ref (r3), .null, .null, .ref q1, .int (0), .ref (q2), .int (0), .ref (q4), .int ((-1))])), (q2, .inl (c3, 256, .inr (.inr (.inr (.inr (fun _ => none)))))), (q4, .inr (1, [.ref u5, .int (0), .int (0), .int (0)]))] H := hP
  have hD : va_D A [(h0, .inr (3, [.ref (r1), .ref (r2), .ref (r3), .null, .null, .ref q1, .int (0), .ref (q2), .int (0), .ref (q4), .int ((-1))])), (q2, .inl (c3, 256, .inr (.inr (.inr (.inr (fun _ => none)))))), (q4, .inr (1, [.ref u5, .int (0), .int (0), .int (0)]))] := hD
  refine lv_aload_n hx hb dX3_init_66 rfl (lv_at hl 0 rfl) ?_
  refine lv_aload hx hb dX3_init_67 (lv_at hl 4 rfl) ?_
  refine va_putF (D := D) (ci := 3) (v := .ref (r4)) (ty := .object "ProofHouse$Evaluator") (C := RX3) (T := TX3) (N := 11) hx hb hts (fun w h => List.mem_cons_of_mem _ (List.mem_append_left _ (List.mem_append_right _ h))) tyX3 tyX3_ok nmX3 hown hK hP hD hS 0 rfl rfl 3 (by decide) (hts (.fieldLink RX3 49 "ProofHouse$Proofs" "evaluator" "LProofHouse$Evaluator;") (List.mem_of_getElem? (i := 18) rfl)) (fun _ h9 => h9) rfl hnm rfl (tyX3_ok 3 (by decide)) rfl rfl (Nat.le_of_ble_eq_true rfl) dX3_init_69 ?_
  clear hP hD hS
  intro H locs hP hD hS
  have hP : va_P D vwCl [(h0, .inr (3, [.ref (r1), .ref (r2), .ref (r3), .ref (r4), .null, .ref q1, .int (0), .ref (q2), .int (0), .ref (q4), .int ((-1))])), (q2, .inl (c3, 256, .inr (.inr (.inr (.inr (fun _ => none)))))), (q4, .inr (1, [.ref u5, .int (0), .int (0), .int (0)]))] H := hP
  have hD : va_D A [(h0, .inr (3, [.ref (r1), .ref (r2), .ref (r3), .ref (r4), .null, .ref q1, .int (0), .ref (q2), .int (0), .ref (q4), .int ((-1))])), (q2, .inl (c3, 256, .inr (.inr (.inr (.inr (fun _ => none)))))), (q4, .inr (1, [.ref u5, .int (0), .int (0), .int (0)]))] := hD
  refine lv_aload_n hx hb dX3_init_72 rfl (lv_at hl 0 rfl) ?_
  refine lv_aload hx hb dX3_init_73 (lv_at hl 5 rfl) ?_
  refine va_putF (D := D) (ci := 3) (v := .ref (r5)) (ty := .object "ProofHouse$Schemes") (C := RX3) (T := TX3) (N := 11) hx hb hts (fun w h => List.mem_cons_of_mem _ (List.mem_append_left _ (List.mem_append_right _ h))) tyX3 tyX3_ok nmX3 hown hK hP hD hS 0 rfl rfl 4 (by decide) (hts (.fieldLink RX3 53 "ProofHouse$Proofs" "schemes" "LProofHouse$Schemes;") (List.mem_of_getElem? (i := 19) rfl)) (fun _ h9 => h9) rfl hnm rfl (tyX3_ok 4 (by decide)) rfl rfl (Nat.le_of_ble_eq_true rfl) dX3_init_75 ?_
  clear hP hD hS
  intro H locs hP hD hS
  have hP : va_P D vwCl [(h0, .inr (3, [.ref (r1), .ref (r2), .ref (r3), .ref (r4), .ref (r5), .ref q1, .int (0), .ref (q2), .int (0), .ref (q4), .int ((-1))])), (q2, .inl (c3, 256, .inr (.inr (.inr (.inr (fun _ => none)))))), (q4, .inr (1, [.ref u5, .int (0), .int (0), .int (0)]))] H := hP
  have hD : va_D A [(h0, .inr (3, [.ref (r1), .ref (r2), .ref (r3), .ref (r4), .ref (r5), .ref q1, .int (0), .ref (q2), .int (0), .ref (q4), .int ((-1))])), (q2, .inl (c3, 256, .inr (.inr (.inr (.inr (fun _ => none)))))), (q4, .inr (1, [.ref u5, .int (0), .int (0), .int (0)]))] := hD
  refine lv_iconst hx hb dX3_init_78 (v := 0) rfl ?_
  refine lv_istore hx hb dX3_init_79 hl (by decide) rfl (fun ls hl => ?_)
  have hl : lv_has ls 7 [(6, .int (0)), (0, .ref (h0)), (1, .ref (r1)), (2, .ref (r2)), (3, .ref (r3)), (4, .ref (r4)), (5, .ref (r5))] := hl
  replace hP := hP.sub (ws' := [(h0, .inr (3, [.ref (r1), .ref (r2), .ref (r3), .ref (r4), .ref (r5), .ref q1, .int (0), .ref (q2), .int (0), .ref (q4), .int ((-1))])), (q2, .inl (c3, 256, .inr (.inr (.inr (.inr (fun _ => none))))))]) [0, 1] rfl
  replace hD := hD.sub (ws' := [(h0, .inr (3, [.ref (r1), .ref (r2), .ref (r3), .ref (r4), .ref (r5), .ref q1, .int (0), .ref (q2), .int (0), .ref (q4), .int ((-1))])), (q2, .inl (c3, 256, .inr (.inr (.inr (.inr (fun _ => none))))))]) [0, 1] (by decide) rfl
  replace hK := hK.sub (tys' := [(c3, .object RX1)]) [0] rfl
  refine w_loopC (nL := 7) (wd := fun q : (Nat → Option Nat) × Nat => [(h0, .inr (3, [.ref (r1), .ref (r2), .ref (r3), .ref (r4), .ref (r5), .ref q1, .int (0), .ref (q2), .int (0), .ref (q4), .int ((-1))])), (q2, .inl (c3, 256, .inr (.inr (.inr (.inr (q.1))))))]) (lst := fun q : (Nat → Option Nat) × Nat => [(6, .int (nI q.2)), (0, .ref (h0)), (1, .ref (r1)), (2, .ref (r2)), (3, .ref (r3)), (4, .ref (r4)), (5, .ref (r5))]) (ce := fun q => 44 + 2 * q.2) (sl := fun q => 490 + 34 * q.2) (μ := fun q => 256 - q.2) (I := fun q => q.2 ≤ 256) ?_ (fun _ => none, 0) ls (Nat.zero_le _) hP hD hS hl
  clear hP hD hS hl
  intro q H locs ls hI hP hD hS hl ih
  obtain ⟨f8, j⟩ := q
  dsimp only at hI hP hD
  have hl : lv_has ls 7 [(6, .int (nI j)), (0, .ref (h0)), (1, .ref (r1)), (2, .ref (r2)), (3, .ref (r3)), (4, .ref (r4)), (5, .ref (r5))] := hl
  have hP : va_P D vwCl [(h0, .inr (3, [.ref (r1), .ref (r2), .ref (r3), .ref (r4), .ref (r5), .ref q1, .int (0), .ref (q2), .int (0), .ref (q4), .int ((-1))])), (q2, .inl (c3, 256, .inr (.inr (.inr (.inr (f8))))))] H := hP
  have hD : va_D A [(h0, .inr (3, [.ref (r1), .ref (r2), .ref (r3), .ref (r4), .ref (r5), .ref q1, .int (0), .ref (q2), .int (0), .ref (q4), .int ((-1))])), (q2, .inl (c3, 256, .inr (.inr (.inr (.inr (f8))))))] := hD
  show W _ _ _ _ _ _ _ _ _ _ _ _ (44 + 2 * j) (490 + 34 * j) _ _
  refine lv_iload hx hb dX3_init_81 (lv_at hl 0 rfl) ?_
  refine lv_sipush hx hb dX3_init_83 (v := 256) rfl ?_
  refine lv_icmp_ge hx hb dX3_init_86 (tgt := 109) rfl (fun h9 => ?_) (fun h9 => ?_)
  · have hj : j = 256 := by
      rcases Nat.lt_or_ge j 256 with h | h
      · exact absurd h9 (nI_ge h (by decide))
      · omega
    subst hj
    clear ih
    have hl : lv_has ls 7 [(6, .int (nI 256)), (0, .ref (h0)), (1, .ref (r1)), (2, .ref (r2)), (3, .ref (r3)), (4, .ref (r4)), (5, .ref (r5))] := hl
    show W _ _ _ _ _ _ _ _ _ _ _ _ (556) (9194) _ _
    exact W.vret hx hb hr (fun t ht hW => ⟨⟨(), rfl, trivial, trivial⟩, hS.F ht⟩) hS.2.2 dX3_init_109
  · have hj : j < 256 := by
      rcases Nat.lt_or_ge j 256 with h | h
      · exact h
      · exact absurd (nI_le h (by omega)) h9
    refine lv_aload_n hx hb dX3_init_89 rfl (lv_at hl 1 rfl) ?_
    refine va_get (D := D) (ci := 3) (v := .ref (q2)) (C := RX3) (T := TX3) (N := 11) hx hb hts (fun w h => List.mem_cons_of_mem _ (List.mem_append_left _ (List.mem_append_right _ h))) hown hK hP 0 rfl rfl 7 (by decide) (hts (.fieldLink RX3 22 "ProofHouse$Proofs" "clauses" "[LProofHouse$Clause;") (List.mem_of_getElem? (i := 9) rfl)) (fun _ h9 => h9) rfl dX3_init_90 ?_
    refine lv_iload hx hb dX3_init_93 (lv_at hl 0 rfl) ?_
    refine va_new (ci := 1) (fs := [.null, .int 0, .int 0, .int 0]) (C := RX1) (T := TX1) (N := 4) hx hb hts (fun w h => List.mem_cons_of_mem _ (List.mem_append_right _ h)) tyX1 tyX1_ok hown (hts (.classLink RX3 20 RX1) (List.mem_of_getElem? (i := 8) rfl)) (hts (.instantiable RX1 4) (List.mem_of_getElem? (i := 11) rfl)) (hts (.initialized RX1) (List.mem_of_getElem? (i := 12) rfl)) hK hP hD hS hA rfl (fun j hj => by rcases (show j = 0 ∨ j = 1 ∨ j = 2 ∨ j = 3 by omega) with rfl | rfl | rfl | rfl <;> rfl) (show 44 + 2 * j + 1 ≤ 556 by omega) (show 490 + 34 * j + 4 ≤ 9194 by omega) dX3_init_95 ?_
    clear hP hD hS
    intro q10 H hP hD hS
    have hP : va_P D vwCl [(h0, .inr (3, [.ref (r1), .ref (r2), .ref (r3), .ref (r4), .ref (r5), .ref q1, .int (0), .ref (q2), .int (0), .ref (q4), .int ((-1))])), (q2, .inl (c3, 256, .inr (.inr (.inr (.inr (f8)))))), (q10, .inr (1, [.null, .int 0, .int 0, .int 0]))] H := hP
    have hD : va_D A [(h0, .inr (3, [.ref (r1), .ref (r2), .ref (r3), .ref (r4), .ref (r5), .ref q1, .int (0), .ref (q2), .int (0), .ref (q4), .int ((-1))])), (q2, .inl (c3, 256, .inr (.inr (.inr (.inr (f8)))))), (q10, .inr (1, [.null, .int 0, .int 0, .int 0]))] := hD
    refine lv_dup hx hb dX3_init_98 rfl ?_
    have hPc := hP.sub (ws' := [(q10, .inr (1, [.null, .int 0, .int 0, .int 0]))]) [2] rfl
    have hDc := hD.sub (ws' := [(q10, .inr (1, [.null, .int 0, .int 0, .int 0]))]) [2] (by decide) rfl
    have hKc := hK.sub (tys' := []) [] rfl
    have hFc := va_free (wc := [(q10, .inr (1, [.null, .int 0, .int 0, .int 0]))]) hD hS hA [2] rfl
    refine va_callv (va_runIN (As := []) (rest := [.ref (q10), .int (nI j), .ref (q2)]) ⟨hx, hb, hml, hown, hts⟩ (c_X1_init l D q10 H.size) ⟨va_cnB 0 hts ggX3_init_X1_init rfl rfl rfl hE.2.2 (hts (.initialized RX1) (List.mem_of_getElem? (i := 12) rfl)) (by decide +kernel) ⟨Nat.le_of_ble_eq_true rfl, Nat.le_of_ble_eq_true rfl⟩, rfl, (hts (.instanceMethod yX1_init) (List.mem_of_getElem? (i := 20) rfl))⟩ ⟨fun a U g mk q => by obtain ⟨q0, q1, qP, qK, qD⟩ := q; exact ⟨q0, q1, qP, va_K.moved (u := U) (U := U.calling g mk a) (Vm.Alike.refl U.vm) qK, qD⟩, fun U hU hW => ⟨rfl, by rw [hU], by rw [hU]; exact hPc, va_K.moved hW.alike hKc, hDc.weaken (fun _ _ _ _ => trivial)⟩⟩ rfl rfl hl.1 rfl (lv_room (Nat.le_of_ble_eq_true rfl)) dX3_init_99 ⟨show 44 + 2 * j + 1 + 1 ≤ 556 by omega, show 490 + 34 * j + 4 + 30 ≤ 9194 by omega⟩) hS (fun q _ h => hFc q h) hFc ?_
    intro u11 t H13 lo1 ht hvm hwu11 hB hz1 hk1 hS1
    obtain ⟨hP1, hK1, hD1⟩ := hB
    rw [ht] at hP1
    have hK1 := va_K.moved hvm.symm hK1
    obtain ⟨hP, hD⟩ := va_join (wr := [(h0, .inr (3, [.ref (r1), .ref (r2), .ref (r3), .ref (r4), .ref (r5), .ref q1, .int (0), .ref (q2), .int (0), .ref (q4), .int ((-1))])), (q2, .inl (c3, 256, .inr (.inr (.inr (.inr (f8))))))]) (w1 := [(q10, .inr (1, [.ref u11, .int (0), .int (0), .int (0)]))]) hP hD [2] [0, 1] rfl rfl (by decide) (by decide) hk1 hFc hP1 hD1
    have hK := (hK.sub (tys' := [(c3, .object RX1)]) [0] rfl).app hK1
    have hS := hS1
    clear hS1 hP1 hD1 hFc hKc hDc hPc hz1 hk1
    have hP : va_P D vwCl [(h0, .inr (3, [.ref (r1), .ref (r2), .ref (r3), .ref (r4), .ref (r5), .ref q1, .int (0), .ref (q2), .int (0), .ref (q4), .int ((-1))])), (q2, .inl (c3, 256, .inr (.inr (.inr (.inr (f8)))))), (q10, .inr (1, [.ref u11, .int (0), .int (0), .int (0)]))] H13 := hP
    have hD : va_D A [(h0, .inr (3, [.ref (r1), .ref (r2), .ref (r3), .ref (r4), .ref (r5), .ref q1, .int (0), .ref (q2), .int (0), .ref (q4), .int ((-1))])), (q2, .inl (c3, 256, .inr (.inr (.inr (.inr (f8)))))), (q10, .inr (1, [.ref u11, .int (0), .int (0), .int (0)]))] := hD
    have hK : va_K D vwCl [(c3, .object RX1)] s := hK
    refine va_astq hx hb hK hP hD hS 1 0 2 1 (r := (RX1, TX1, 4)) rfl rfl rfl rfl (vp_in_nI hj (by decide)) dX3_init_102 ?_
    clear hP hD hS
    intro H locs hP hD hS
    have hP : va_P D vwCl [(h0, .inr (3, [.ref (r1), .ref (r2), .ref (r3), .ref (r4), .ref (r5), .ref q1, .int (0), .ref (q2), .int (0), .ref (q4), .int ((-1))])), (q2, .inl (c3, 256, .inr (.inr (.inr (.inr (va_up (f8) (nI j).toNatClampNeg (some q10))))))), (q10, .inr (1, [.ref u11, .int (0), .int (0), .int (0)]))] H := hP
    have hD : va_D A [(h0, .inr (3, [.ref (r1), .ref (r2), .ref (r3), .ref (r4), .ref (r5), .ref q1, .int (0), .ref (q2), .int (0), .ref (q4), .int ((-1))])), (q2, .inl (c3, 256, .inr (.inr (.inr (.inr (va_up (f8) (nI j).toNatClampNeg (some q10))))))), (q10, .inr (1, [.ref u11, .int (0), .int (0), .int (0)]))] := hD
    refine lv_iinc (v := nI j + 1) hx hb dX3_init_103 hl (k := 0) rfl rfl (by decide) rfl (fun ls hl => ?_)
    have hl : lv_has ls 7 [(6, .int (nI j + 1)), (0, .ref (h0)), (1, .ref (r1)), (2, .ref (r2)), (3, .ref (r3)), (4, .ref (r4)), (5, .ref (r5))] := hl
    refine lv_goto hx hb dX3_init_106 (tgt := 81) rfl ?_
    replace hP := hP.sub (ws' := [(h0, .inr (3, [.ref (r1), .ref (r2), .ref (r3), .ref (r4), .ref (r5), .ref q1, .int (0), .ref (q2), .int (0), .ref (q4), .int ((-1))])), (q2, .inl (c3, 256, .inr (.inr (.inr (.inr (va_up (f8) (nI j).toNatClampNeg (some q10)))))))]) [0, 1] rfl
    replace hD := hD.sub (ws' := [(h0, .inr (3, [.ref (r1), .ref (r2), .ref (r3), .ref (r4), .ref (r5), .ref q1, .int (0), .ref (q2), .int (0), .ref (q4), .int ((-1))])), (q2, .inl (c3, 256, .inr (.inr (.inr (.inr (va_up (f8) (nI j).toNatClampNeg (some q10)))))))]) [0, 1] (by decide) rfl
    replace hK := hK.sub (tys' := [(c3, .object RX1)]) [0] rfl
    refine W.widen (k := 44 + 2 * (j + 1)) (n := 490 + 34 * (j + 1)) (by omega) (by omega) ?_
    exact ih (va_up (f8) (nI j).toNatClampNeg (some q10), j + 1) H locs ls (by show j + 1 ≤ 256; omega) (by show 256 - (j + 1) < 256 - j; omega) hP hD hS (by rw [nI_1] at hl; exact hl)
