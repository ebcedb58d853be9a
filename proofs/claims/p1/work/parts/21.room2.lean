/-- the names that are known: no cell of theirs is a pair -/
def k_chk : List Int32 → Int64 → Bool
  | [], _ => true
  | b :: l, code => if 0 < s_idx 1 (((b &&& 255).toUInt32 % 65536).toInt32) then k_chk l (code * 47 + (s_idx 1 (((b &&& 255).toUInt32 % 65536).toInt32)).toInt64) else decide (0 ≤ (4611686018427387904 : Int64) ||| code) && k_chk l 0
theorem k_all : k_chk (sByt.getD 0 []) 0 = true := by decide +kernel
theorem g_at {B : List Int32} {k : Nat} (h : k < B.length) : B.getD k 0 = B[k] := by simp [List.getD, h]
theorem k_step {code : Int64} {k : Nat} (hk : k < 220) (h : k_chk ((sByt.getD 0 []).drop k) code = true) : (0 < s_idx 1 (s_ch 0 k) → k_chk ((sByt.getD 0 []).drop (k + 1)) (code * 47 + (s_idx 1 (s_ch 0 k)).toInt64) = true) ∧ (¬ 0 < s_idx 1 (s_ch 0 k) → 0 ≤ (4611686018427387904 : Int64) ||| code ∧ k_chk ((sByt.getD 0 []).drop (k + 1)) 0 = true) := by
  have hl : k < (sByt.getD 0 []).length := hk
  have e : (sByt.getD 0 []).getD k 0 = (sByt.getD 0 [])[k] := g_at hl
  unfold s_ch
  rw [e]
  rw [List.drop_eq_getElem_cons hl] at h
  unfold k_chk at h
  refine ⟨fun h1 => ?_, fun h1 => ?_⟩
  · rw [if_pos h1] at h
    exact h
  · rw [if_neg h1, Bool.and_eq_true, decide_eq_true_eq] at h
    exact h
set_option maxHeartbeats 4000000 in
set_option maxRecDepth 100000 in
/-- Room() -/
theorem c_X7_init (l : Launch) (D : va_G) (h0 sz : Nat) (adK adV : Nat → Nat) : Met l yX7_init wsX7_init ({ frames := 4, cells := 5, slots := 672768, locals := 100 }) (va_Pc [.ref h0] (fun U => U.heap.size = sz ∧ va_P D vwCl [(h0, .inr (7, [.null, .null, .null, .null, .null, .int 0, .int 0, .int 0, .int 0]))] U.heap ∧ va_K D vwCl [] U ∧ va_D (fun _ => True) [(h0, .inr (7, [.null, .null, .null, .null, .null, .int 0, .int 0, .int 0, .int 0]))] ∧ sS adK adV (va_A [(h0, .inr (7, [.null, .null, .null, .null, .null, .int 0, .int 0, .int 0, .int 0]))] sz) U U.heap ∧ vk_R RX7 49 "nil t quote if equal cons implies + - < consp car cdr natp symbolp height not eval simplify prove defun defthm check on off undo use theorem taut same value first second pair yes no def thm weak cut inst swap put induct " (adK 0) U ∧ vk_R RX7 57 " abcdefghijklmnopqrstuvwxyz0123456789+-*/<>=?!_" (adK 1) U)) (va_Qv (fun u : (Nat → Nat) × Nat => u.2 ≤ 220) (fun u t => va_P D vwCl ([(h0, .inr (7, [.ref (u.1 0), .ref (u.1 1), .ref (u.1 2), .ref (u.1 3), .ref (u.1 4), .int (nI u.2), .int (0), .int (0), .int (0)]))]) t.heap ∧ va_K D vwCl [] t ∧ va_D (va_A [(h0, .inr (7, [.null, .null, .null, .null, .null, .int 0, .int 0, .int 0, .int 0]))] sz) ([(h0, .inr (7, [.ref (u.1 0), .ref (u.1 1), .ref (u.1 2), .ref (u.1 3), .ref (u.1 4), .int (nI u.2), .int (0), .int (0), .int (0)]))])) (va_A [(h0, .inr (7, [.null, .null, .null, .null, .null, .int 0, .int 0, .int 0, .int 0]))] sz)) 5 672768 (va_A [(h0, .inr (7, [.null, .null, .null, .null, .null, .int 0, .int 0, .int 0, .int 0]))] sz) := by
  refine Met.ofW (cc := cX7_init) (maxL := 5) (ret := none) (by decide) rfl ?_
  intro p e s m args below meth c s₁ B hml hv
  obtain ⟨rfl, hsz, hP, hK, hD0, hE⟩ := hv
  have hx := B.exec
  have hb := B.bytes
  have hr := B.returns
  have hts := atoms_spec (ws := wsX7_init) B.pre
  have hown : s.vm.findClass RX7 = some m.cls := findClass_of_methodNamed B.named
  have hnm : meth.name = "<init>" := (name_of_methodNamed B.named B.method).1
  subst hsz
  have hD := hD0.self (sz := s.heap.size)
  generalize hAe : va_A ([(h0, .inr (7, [.null, .null, .null, .null, .null, .int 0, .int 0, .int 0, .int 0]))]) s.heap.size = A at hD hE ⊢
  have hA : ∀ q : Nat, s.heap.size ≤ q → A q := fun q h => by rw [← hAe]; exact Or.inr h
  have hS : va_S A s.heap s.heap [] := va_S.rf
  have hl := lv_entry ([.ref (h0)]) (n := 5) (Nat.le_of_ble_eq_true rfl)
  rw [lg_entry_eq]
  generalize (lg_sl ([.ref (h0)]) ++ List.replicate (5 - (lg_sl ([.ref (h0)])).length) Slot.unset).toArray = ls at hl ⊢
  have hl : lv_has ls 5 [(0, .ref (h0))] := hl
  refine lv_aload_n hx hb dX7_init_0 rfl (lv_at hl 0 rfl) ?_
  refine W.objInit hx hb hown (hts (.methodLink RX7 3 objectInit) (List.mem_of_getElem? (i := 1) rfl)) (hts (.instanceMethod objectInit) (List.mem_of_getElem? (i := 2) rfl)) (hts (.code objectInit ⟨#[0xb1]⟩ 1 none) (List.mem_of_getElem? (i := 3) rfl)) rfl (by rw [hml]; exact hl.1) rfl dX7_init_1 (Nat.le_of_ble_eq_true rfl) (Nat.le_of_ble_eq_true rfl) ?_
  refine W.eq (g2 := F0 m 4 ls []) rfl ?_
  refine lv_aload_n hx hb dX7_init_4 rfl (lv_at hl 0 rfl) ?_
  refine lv_ldc hx hb hown (hts (.constant RX7 11 (160000)) (List.mem_of_getElem? (i := 4) rfl)) dX7_init_5 ?_
  refine ib_arrK (C := RX7) (T := TX7) (N := 9) (ci := 7) (ty0 := tyX7) (atype := .long) (ty := .long) (a0 := (160000, .inr (.inl (fun _ => 0)))) (nw := 160000) hx hb hts (fun w h => List.mem_cons_of_mem _ (List.mem_append_right _ h)) tyX7_ok nmX7 hown hnm rfl hA hK hP hD hS (hts (.arrayClass .long) (List.mem_of_getElem? (i := 5) rfl)) rfl (fun cA => ia_J cA _) (by decide) (by decide) (by decide) (Nat.le_of_ble_eq_true rfl) (Nat.le_of_ble_eq_true rfl) dX7_init_7 0 (by decide) (Nat.le_of_ble_eq_true rfl) (hts (.fieldLink RX7 12 "ProofHouse$Room" "cells" "[J") (List.mem_of_getElem? (i := 6) rfl)) rfl rfl (tyX7_ok 0 (by decide)) dX7_init_9 ?_
  clear hP hD hS hK
  intro q1 c2 H locs hK hP hD hS
  have hK : va_K D vwCl [(c2, .long)] s := hK
  have hP : va_P D vwCl [(h0, .inr (7, [.ref q1, .null, .null, .null, .null, .int 0, .int 0, .int 0, .int 0])), (q1, .inl (c2, 160000, .inr (.inl (fun _ => 0))))] H := hP
  have hD : va_D A [(h0, .inr (7, [.ref q1, .null, .null, .null, .null, .int 0, .int 0, .int 0, .int 0])), (q1, .inl (c2, 160000, .inr (.inl (fun _ => 0))))] := hD
  refine lv_aload_n hx hb dX7_init_12 rfl (lv_at hl 0 rfl) ?_
  refine lv_ldc hx hb hown (hts (.constant RX7 11 (160000)) (List.mem_of_getElem? (i := 4) rfl)) dX7_init_13 ?_
  refine ib_arrK (C := RX7) (T := TX7) (N := 9) (ci := 7) (ty0 := tyX7) (atype := .int) (ty := .int) (a0 := (160000, .inl (fun _ => 0))) (nw := 160000) hx hb hts (fun w h => List.mem_cons_of_mem _ (List.mem_append_right _ h)) tyX7_ok nmX7 hown hnm rfl hA hK hP hD hS (hts (.arrayClass .int) (List.mem_of_getElem? (i := 7) rfl)) rfl (fun cA => ia_I cA _) (by decide) (by decide) (by decide) (Nat.le_of_ble_eq_true rfl) (Nat.le_of_ble_eq_true rfl) dX7_init_15 1 (by decide) (Nat.le_of_ble_eq_true rfl) (hts (.fieldLink RX7 16 "ProofHouse$Room" "chain" "[I") (List.mem_of_getElem? (i := 8) rfl)) rfl rfl (tyX7_ok 1 (by decide)) dX7_init_17 ?_
  clear hP hD hS hK
  intro q3 c4 H locs hK hP hD hS
  have hK : va_K D vwCl [(c2, .long), (c4, .int)] s := hK
  have hP : va_P D vwCl [(h0, .inr (7, [.ref q1, .ref q3, .null, .null, .null, .int 0, .int 0, .int 0, .int 0])), (q1, .inl (c2, 160000, .inr (.inl (fun _ => 0)))), (q3, .inl (c4, 160000, .inl (fun _ => 0)))] H := hP
  have hD : va_D A [(h0, .inr (7, [.ref q1, .ref q3, .null, .null, .null, .int 0, .int 0, .int 0, .int 0])), (q1, .inl (c2, 160000, .inr (.inl (fun _ => 0)))), (q3, .inl (c4, 160000, .inl (fun _ => 0)))] := hD
  refine lv_aload_n hx hb dX7_init_20 rfl (lv_at hl 0 rfl) ?_
  refine lv_ldc hx hb hown (hts (.constant RX7 11 (160000)) (List.mem_of_getElem? (i := 4) rfl)) dX7_init_21 ?_
  refine ib_arrK (C := RX7) (T := TX7) (N := 9) (ci := 7) (ty0 := tyX7) (atype := .int) (ty := .int) (a0 := (160000, .inl (fun _ => 0))) (nw := 160000) hx hb hts (fun w h => List.mem_cons_of_mem _ (List.mem_append_right _ h)) tyX7_ok nmX7 hown hnm rfl hA hK hP hD hS (hts (.arrayClass .int) (List.mem_of_getElem? (i := 7) rfl)) rfl (fun cA => ia_I cA _) (by decide) (by decide) (by decide) (Nat.le_of_ble_eq_true rfl) (Nat.le_of_ble_eq_true rfl) dX7_init_23 2 (by decide) (Nat.le_of_ble_eq_true rfl) (hts (.fieldLink RX7 20 "ProofHouse$Room" "sums" "[I") (List.mem_of_getElem? (i := 9) rfl)) rfl rfl (tyX7_ok 2 (by decide)) dX7_init_25 ?_
  clear hP hD hS hK
  intro q5 c6 H locs hK hP hD hS
  have hK : va_K D vwCl [(c2, .long), (c4, .int), (c6, .int)] s := hK
  have hP : va_P D vwCl [(h0, .inr (7, [.ref q1, .ref q3, .ref q5, .null, .null, .int 0, .int 0, .int 0, .int 0])), (q1, .inl (c2, 160000, .inr (.inl (fun _ => 0)))), (q3, .inl (c4, 160000, .inl (fun _ => 0))), (q5, .inl (c6, 160000, .inl (fun _ => 0)))] H := hP
  have hD : va_D A [(h0, .inr (7, [.ref q1, .ref q3, .ref q5, .null, .null, .int 0, .int 0, .int 0, .int 0])), (q1, .inl (c2, 160000, .inr (.inl (fun _ => 0)))), (q3, .inl (c4, 160000, .inl (fun _ => 0))), (q5, .inl (c6, 160000, .inl (fun _ => 0)))] := hD
  refine lv_aload_n hx hb dX7_init_28 rfl (lv_at hl 0 rfl) ?_
  refine lv_ldc hx hb hown (hts (.constant RX7 11 (160000)) (List.mem_of_getElem? (i := 4) rfl)) dX7_init_29 ?_
  refine ib_arrK (C := RX7) (T := TX7) (N := 9) (ci := 7) (ty0 := tyX7) (atype := .int) (ty := .int) (a0 := (160000, .inl (fun _ => 0))) (nw := 160000) hx hb hts (fun w h => List.mem_cons_of_mem _ (List.mem_append_right _ h)) tyX7_ok nmX7 hown hnm rfl hA hK hP hD hS (hts (.arrayClass .int) (List.mem_of_getElem? (i := 7) rfl)) rfl (fun cA => ia_I cA _) (by decide) (by decide) (by decide) (Nat.le_of_ble_eq_true rfl) (Nat.le_of_ble_eq_true rfl) dX7_init_31 3 (by decide) (Nat.le_of_ble_eq_true rfl) (hts (.fieldLink RX7 23 "ProofHouse$Room" "heights" "[I") (List.mem_of_getElem? (i := 10) rfl)) rfl rfl (tyX7_ok 3 (by decide)) dX7_init_33 ?_
  clear hP hD hS hK
  intro q7 c8 H locs hK hP hD hS
  have hK : va_K D vwCl [(c2, .long), (c4, .int), (c6, .int), (c8, .int)] s := hK
  have hP : va_P D vwCl [(h0, .inr (7, [.ref q1, .ref q3, .ref q5, .ref q7, .null, .int 0, .int 0, .int 0, .int 0])), (q1, .inl (c2, 160000, .inr (.inl (fun _ => 0)))), (q3, .inl (c4, 160000, .inl (fun _ => 0))), (q5, .inl (c6, 160000, .inl (fun _ => 0))), (q7, .inl (c8, 160000, .inl (fun _ => 0)))] H := hP
  have hD : va_D A [(h0, .inr (7, [.ref q1, .ref q3, .ref q5, .ref q7, .null, .int 0, .int 0, .int 0, .int 0])), (q1, .inl (c2, 160000, .inr (.inl (fun _ => 0)))), (q3, .inl (c4, 160000, .inl (fun _ => 0))), (q5, .inl (c6, 160000, .inl (fun _ => 0))), (q7, .inl (c8, 160000, .inl (fun _ => 0)))] := hD
  refine lv_aload_n hx hb dX7_init_36 rfl (lv_at hl 0 rfl) ?_
  refine lv_ldc hx hb hown (hts (.constant RX7 26 (32768)) (List.mem_of_getElem? (i := 11) rfl)) dX7_init_37 ?_
  refine ib_arrK (C := RX7) (T := TX7) (N := 9) (ci := 7) (ty0 := tyX7) (atype := .int) (ty := .int) (a0 := (32768, .inl (fun _ => 0))) (nw := 32768) hx hb hts (fun w h => List.mem_cons_of_mem _ (List.mem_append_right _ h)) tyX7_ok nmX7 hown hnm rfl hA hK hP hD hS (hts (.arrayClass .int) (List.mem_of_getElem? (i := 7) rfl)) rfl (fun cA => ia_I cA _) (by decide) (by decide) (by decide) (Nat.le_of_ble_eq_true rfl) (Nat.le_of_ble_eq_true rfl) dX7_init_39 4 (by decide) (Nat.le_of_ble_eq_true rfl) (hts (.fieldLink RX7 27 "ProofHouse$Room" "heads" "[I") (List.mem_of_getElem? (i := 12) rfl)) rfl rfl (tyX7_ok 4 (by decide)) dX7_init_41 ?_
  clear hP hD hS hK
  intro q9 c10 H locs hK hP hD hS
  have hK : va_K D vwCl [(c2, .long), (c4, .int), (c6, .int), (c8, .int), (c10, .int)] s := hK
  have hP : va_P D vwCl [(h0, .inr (7, [.ref q1, .ref q3, .ref q5, .ref q7, .ref q9, .int 0, .int 0, .int 0, .int 0])), (q1, .inl (c2, 160000, .inr (.inl (fun _ => 0)))), (q3, .inl (c4, 160000, .inl (fun _ => 0))), (q5, .inl (c6, 160000, .inl (fun _ => 0))), (q7, .inl (c8, 160000, .inl (fun _ => 0))), (q9, .inl (c10, 32768, .inl (fun _ => 0)))] H := hP
  have hD : va_D A [(h0, .inr (7, [.ref q1, .ref q3, .ref q5, .ref q7, .ref q9, .int 0, .int 0, .int 0, .int 0])), (q1, .inl (c2, 160000, .inr (.inl (fun _ => 0)))), (q3, .inl (c4, 160000, .inl (fun _ => 0))), (q5, .inl (c6, 160000, .inl (fun _ => 0))), (q7, .inl (c8, 160000, .inl (fun _ => 0))), (q9, .inl (c10, 32768, .inl (fun _ => 0)))] := hD
  refine lv_aload_n hx hb dX7_init_44 rfl (lv_at hl 0 rfl) ?_
  refine lv_iconst hx hb dX7_init_45 (v := 0) rfl ?_
  refine va_put (D := D) (ci := 7) (v := .int (0)) (ty := .int) (C := RX7) (T := TX7) (N := 9) hx hb hts (fun w h => List.mem_cons_of_mem _ (List.mem_append_right _ h)) tyX7 tyX7_ok nmX7 hown hK hP hD hS 0 rfl rfl 5 (by decide) (hts (.fieldLink RX7 30 "ProofHouse$Room" "used" "I") (List.mem_of_getElem? (i := 13) rfl)) (fun _ h9 => h9) rfl (tyX7_ok 5 (by decide)) rfl rfl (Nat.le_of_ble_eq_true rfl) dX7_init_46 ?_
  clear hP hD hS
  intro H locs hP hD hS
  have hP : va_P D vwCl [(h0, .inr (7, [.ref q1, .ref q3, .ref q5, .ref q7, .ref q9, .int (0), .int 0, .int 0, .int 0])), (q1, .inl (c2, 160000, .inr (.inl (fun _ => 0)))), (q3, .inl (c4, 160000, .inl (fun _ => 0))), (q5, .inl (c6, 160000, .inl (fun _ => 0))), (q7, .inl (c8, 160000, .inl (fun _ => 0))), (q9, .inl (c10, 32768, .inl (fun _ => 0)))] H := hP
  have hD : va_D A [(h0, .inr (7, [.ref q1, .ref q3, .ref q5, .ref q7, .ref q9, .int (0), .int 0, .int 0, .int 0])), (q1, .inl (c2, 160000, .inr (.inl (fun _ => 0)))), (q3, .inl (c4, 160000, .inl (fun _ => 0))), (q5, .inl (c6, 160000, .inl (fun _ => 0))), (q7, .inl (c8, 160000, .inl (fun _ => 0))), (q9, .inl (c10, 32768, .inl (fun _ => 0)))] := hD
  refine lv_aload_n hx hb dX7_init_49 rfl (lv_at hl 0 rfl) ?_
  refine lv_iconst hx hb dX7_init_50 (v := 0) rfl ?_
  refine va_put (D := D) (ci := 7) (v := .int (0)) (ty := .int) (C := RX7) (T := TX7) (N := 9) hx hb hts (fun w h => List.mem_cons_of_mem _ (List.mem_append_right _ h)) tyX7 tyX7_ok nmX7 hown hK hP hD hS 0 rfl rfl 6 (by decide) (hts (.fieldLink RX7 34 "ProofHouse$Room" "given" "I") (List.mem_of_getElem? (i := 14) rfl)) (fun _ h9 => h9) rfl (tyX7_ok 6 (by decide)) rfl rfl (Nat.le_of_ble_eq_true rfl) dX7_init_51 ?_
  clear hP hD hS
  intro H locs hP hD hS
  have hP : va_P D vwCl [(h0, .inr (7, [.ref q1, .ref q3, .ref q5, .ref q7, .ref q9, .int (0), .int (0), .int 0, .int 0])), (q1, .inl (c2, 160000, .inr (.inl (fun _ => 0)))), (q3, .inl (c4, 160000, .inl (fun _ => 0))), (q5, .inl (c6, 160000, .inl (fun _ => 0))), (q7, .inl (c8, 160000, .inl (fun _ => 0))), (q9, .inl (c10, 32768, .inl (fun _ => 0)))] H := hP
  have hD : va_D A [(h0, .inr (7, [.ref q1, .ref q3, .ref q5, .ref q7, .ref q9, .int (0), .int (0), .int 0, .int 0])), (q1, .inl (c2, 160000, .inr (.inl (fun _ => 0)))), (q3, .inl (c4, 160000, .inl (fun _ => 0))), (q5, .inl (c6, 160000, .inl (fun _ => 0))), (q7, .inl (c8, 160000, .inl (fun _ => 0))), (q9, .inl (c10, 32768, .inl (fun _ => 0)))] := hD
  refine lv_aload_n hx hb dX7_init_54 rfl (lv_at hl 0 rfl) ?_
  refine lv_iconst hx hb dX7_init_55 (v := 0) rfl ?_
  refine va_put (D := D) (ci := 7) (v := .int (0)) (ty := .int) (C := RX7) (T := TX7) (N := 9) hx hb hts (fun w h => List.mem_cons_of_mem _ (List.mem_append_right _ h)) tyX7 tyX7_ok nmX7 hown hK hP hD hS 0 rfl rfl 7 (by decide) (hts (.fieldLink RX7 37 "ProofHouse$Room" "spent" "I") (List.mem_of_getElem? (i := 15) rfl)) (fun _ h9 => h9) rfl (tyX7_ok 7 (by decide)) rfl rfl (Nat.le_of_ble_eq_true rfl) dX7_init_56 ?_
  clear hP hD hS
  intro H locs hP hD hS
  have hP : va_P D vwCl [(h0, .inr (7, [.ref q1, .ref q3, .ref q5, .ref q7, .ref q9, .int (0), .int (0), .int (0), .int 0])), (q1, .inl (c2, 160000, .inr (.inl (fun _ => 0)))), (q3, .inl (c4, 160000, .inl (fun _ => 0))), (q5, .inl (c6, 160000, .inl (fun _ => 0))), (q7, .inl (c8, 160000, .inl (fun _ => 0))), (q9, .inl (c10, 32768, .inl (fun _ => 0)))] H := hP
  have hD : va_D A [(h0, .inr (7, [.ref q1, .ref q3, .ref q5, .ref q7, .ref q9, .int (0), .int (0), .int (0), .int 0])), (q1, .inl (c2, 160000, .inr (.inl (fun _ => 0)))), (q3, .inl (c4, 160000, .inl (fun _ => 0))), (q5, .inl (c6, 160000, .inl (fun _ => 0))), (q7, .inl (c8, 160000, .inl (fun _ => 0))), (q9, .inl (c10, 32768, .inl (fun _ => 0)))] := hD
  refine lv_aload_n hx hb dX7_init_59 rfl (lv_at hl 0 rfl) ?_
  refine lv_iconst hx hb dX7_init_60 (v := 0) rfl ?_
  refine va_put (D := D) (ci := 7) (v := .int (0)) (ty := .int) (C := RX7) (T := TX7) (N := 9) hx hb hts (fun w h => List.mem_cons_of_mem _ (List.mem_append_right _ h)) tyX7 tyX7_ok nmX7 hown hK hP hD hS 0 rfl rfl 8 (by decide) (hts (.fieldLink RX7 40 "ProofHouse$Room" "trouble" "I") (List.mem_of_getElem? (i := 16) rfl)) (fun _ h9 => h9) rfl (tyX7_ok 8 (by decide)) rfl rfl (Nat.le_of_ble_eq_true rfl) dX7_init_61 ?_
  clear hP hD hS
  intro H locs hP hD hS
  have hP : va_P D vwCl [(h0, .inr (7, [.ref q1, .ref q3, .ref q5, .ref q7, .ref q9, .int (0), .int (0), .int (0), .int (0)])), (q1, .inl (c2, 160000, .inr (.inl (fun _ => 0)))), (q3, .inl (c4, 160000, .inl (fun _ => 0))), (q5, .inl (c6, 160000, .inl (fun _ => 0))), (q7, .inl (c8, 160000, .inl (fun _ => 0))), (q9, .inl (c10, 32768, .inl (fun _ => 0)))] H := hP
  have hD : va_D A [(h0, .inr (7, [.ref q1, .ref q3, .ref q5, .ref q7, .ref q9, .int (0), .int (0), .int (0), .int (0)])), (q1, .inl (c2, 160000, .inr (.inl (fun _ => 0)))), (q3, .inl (c4, 160000, .inl (fun _ => 0))), (q5, .inl (c6, 160000, .inl (fun _ => 0))), (q7, .inl (c8, 160000, .inl (fun _ => 0))), (q9, .inl (c10, 32768, .inl (fun _ => 0)))] := hD
  refine lv_aload_n hx hb dX7_init_64 rfl (lv_at hl 0 rfl) ?_
  refine va_get (D := D) (ci := 7) (v := .ref q9) (C := RX7) (T := TX7) (N := 9) hx hb hts (fun w h => List.mem_cons_of_mem _ (List.mem_append_right _ h)) hown hK hP 0 rfl rfl 4 (by decide) (hts (.fieldLink RX7 27 "ProofHouse$Room" "heads" "[I") (List.mem_of_getElem? (i := 12) rfl)) (fun _ h9 => h9) rfl dX7_init_65 ?_
  refine lv_iconst hx hb dX7_init_68 (v := (-1)) rfl ?_
  have hPc := hP.sub (ws' := [(q9, .inl (c10, 32768, .inl (fun _ => 0)))]) [5] rfl
  have hDc := hD.sub (ws' := [(q9, .inl (c10, 32768, .inl (fun _ => 0)))]) [5] (by decide) rfl
  have hKc := hK.sub (tys' := [(c10, .int)]) [4] rfl
  have hFc := va_free (wc := [(q9, .inl (c10, 32768, .inl (fun _ => 0)))]) hD hS hA [5] rfl
  refine va_callv (va_runS (As := [.ref (q9), .int ((-1))]) (rest := []) ⟨hx, hb, hml, hown, hts⟩ (c_J7_fill l D q9 H.size 32768 c10 (fun _ => 0) (-1) (by decide)) (va_cwS 2 hts gX7_init_J7_fill_53178 rfl rfl rfl (by decide +kernel) ⟨Nat.le_of_ble_eq_true rfl, Nat.le_of_ble_eq_true rfl⟩) ⟨fun a U g mk q => by obtain ⟨q0, q1, qP, qK, qD⟩ := q; exact ⟨q0, q1, qP, va_K.moved (u := U) (U := U.calling g mk a) (Vm.Alike.refl U.vm) qK, qD⟩, fun U hU hW => ⟨rfl, by rw [hU], by rw [hU]; exact hPc, va_K.moved hW.alike hKc, hDc.weaken (fun _ _ _ _ => trivial)⟩⟩ rfl rfl hl.1 rfl (lv_room (Nat.le_of_ble_eq_true rfl)) dX7_init_69 ⟨Nat.le_of_ble_eq_true rfl, Nat.le_of_ble_eq_true rfl⟩) hS (fun q _ h => hFc q h) hFc ?_
  intro u11 t H13 lo1 ht hvm hwu11 hB hz1 hk1 hS1
  have hfill := hwu11
  obtain ⟨hP1, hK1, hD1⟩ := hB
  rw [ht] at hP1
  have hK1 := va_K.moved hvm.symm hK1
  obtain ⟨hP, hD⟩ := va_join (wr := [(h0, .inr (7, [.ref q1, .ref q3, .ref q5, .ref q7, .ref q9, .int (0), .int (0), .int (0), .int (0)])), (q1, .inl (c2, 160000, .inr (.inl (fun _ => 0)))), (q3, .inl (c4, 160000, .inl (fun _ => 0))), (q5, .inl (c6, 160000, .inl (fun _ => 0))), (q7, .inl (c8, 160000, .inl (fun _ => 0)))]) (w1 := [(q9, .inl (c10, 32768, .inl (u11)))]) hP hD [5] [0, 1, 2, 3, 4] rfl rfl (by decide) (by decide) hk1 hFc hP1 hD1
  have hK := (hK.sub (tys' := [(c2, .long), (c4, .int), (c6, .int), (c8, .int)]) [0, 1, 2, 3] rfl).app hK1
  have hS := hS1
  clear hS1 hP1 hD1 hFc hKc hDc hPc hz1 hk1
  have hP : va_P D vwCl [(h0, .inr (7, [.ref q1, .ref q3, .ref q5, .ref q7, .ref q9, .int (0), .int (0), .int (0), .int (0)])), (q1, .inl (c2, 160000, .inr (.inl (fun _ => 0)))), (q3, .inl (c4, 160000, .inl (fun _ => 0))), (q5, .inl (c6, 160000, .inl (fun _ => 0))), (q7, .inl (c8, 160000, .inl (fun _ => 0))), (q9, .inl (c10, 32768, .inl (u11)))] H13 := hP
  have hD : va_D A [(h0, .inr (7, [.ref q1, .ref q3, .ref q5, .ref q7, .ref q9, .int (0), .int (0), .int (0), .int (0)])), (q1, .inl (c2, 160000, .inr (.inl (fun _ => 0)))), (q3, .inl (c4, 160000, .inl (fun _ => 0))), (q5, .inl (c6, 160000, .inl (fun _ => 0))), (q7, .inl (c8, 160000, .inl (fun _ => 0))), (q9, .inl (c10, 32768, .inl (u11)))] := hD
  have hK : va_K D vwCl [(c2, .long), (c4, .int), (c6, .int), (c8, .int), (c10, .int)] s := hK
  refine lv_lconst hx hb dX7_init_72 (v := 0) rfl ?_
  refine lv_lstore_n hx hb dX7_init_73 rfl hl (by decide) rfl (fun ls hl => ?_)
  have hl : lv_has ls 5 [(1, .long (0)), (0, .ref (h0))] := hl
  refine lv_iconst hx hb dX7_init_74 (v := 0) rfl ?_
  refine lv_istore_n hx hb dX7_init_75 rfl hl (by decide) rfl (fun ls hl => ?_)
  have hl : lv_has ls 5 [(3, .int (0)), (1, .long (0)), (0, .ref (h0))] := hl
  obtain ⟨a, ha⟩ : ∃ z : Nat → Nat, z = fun k => ([q1, q3, q5, q7, q9] : List Nat).getD k 0 := ⟨_, rfl⟩
  obtain ⟨ca, hca⟩ : ∃ z : Nat → ClassId, z = fun k => ([c2, c4, c6, c8, c10] : List ClassId).getD k c2 := ⟨_, rfl⟩
  have hP : va_P D vwCl (rW h0 a ca 0 0 0 (fun _ => 0, fun _ => 0, fun _ => 0, fun _ => 0, u11, 0)) H13 := by rw [ha, hca]; exact hP
  have hD : va_D A (rW h0 a ca 0 0 0 (fun _ => 0, fun _ => 0, fun _ => 0, fun _ => 0, u11, 0)) := by rw [ha, hca]; exact hD
  have hK : va_K D vwCl (rT ca) s := by rw [hca]; exact hK
  have hO0 : rOk (fun _ => 0, fun _ => 0, fun _ => 0, fun _ => 0, u11, 0) := ⟨fun h hh => Or.inl (hfill h hh), fun j hj => absurd hj (Nat.not_lt_zero _)⟩
  clear ha hca
  refine w_loopC (nL := 5) (wd := fun q : rST × Int64 × Nat => rW h0 a ca 0 0 0 q.1) (lst := fun q : rST × Int64 × Nat => [(3, .int (nI q.2.2)), (1, .long q.2.1), (0, .ref h0)]) (ce := fun _ => 5) (sl := fun _ => 672768) (μ := fun q => 220 - q.2.2) (I := fun q => q.2.2 ≤ 220 ∧ q.1.2.2.2.2.2 ≤ q.2.2 ∧ rOk q.1 ∧ k_chk ((sByt.getD 0 []).drop q.2.2) q.2.1 = true) ?_ ((fun _ => 0, fun _ => 0, fun _ => 0, fun _ => 0, u11, 0), 0, 0) ls ⟨Nat.zero_le _, Nat.zero_le _, hO0, k_all⟩ hP hD hS hl
  clear hP hD hS hl
  intro q H locs ls hI hP hD hS hl ih
  obtain ⟨⟨fc, f1, f2, f3, f4, n⟩, code, k⟩ := q
  obtain ⟨hI1, hI2, hO, hC⟩ := hI
  dsimp only at hI1 hI2 hC
  have hl : lv_has ls 5 [(3, .int (nI k)), (1, .long (code)), (0, .ref (h0))] := hl
  have hP : va_P D vwCl [(h0, .inr (7, [.ref (a 0), .ref (a 1), .ref (a 2), .ref (a 3), .ref (a 4), .int (nI n), .int (0), .int (0), .int (0)])), (a 0, .inl (ca 0, 160000, .inr (.inl (fc)))), (a 1, .inl (ca 1, 160000, .inl (f1))), (a 2, .inl (ca 2, 160000, .inl (f2))), (a 3, .inl (ca 3, 160000, .inl (f3))), (a 4, .inl (ca 4, 32768, .inl (f4)))] H := hP
  have hD : va_D A [(h0, .inr (7, [.ref (a 0), .ref (a 1), .ref (a 2), .ref (a 3), .ref (a 4), .int (nI n), .int (0), .int (0), .int (0)])), (a 0, .inl (ca 0, 160000, .inr (.inl (fc)))), (a 1, .inl (ca 1, 160000, .inl (f1))), (a 2, .inl (ca 2, 160000, .inl (f2))), (a 3, .inl (ca 3, 160000, .inl (f3))), (a 4, .inl (ca 4, 32768, .inl (f4)))] := hD
  have hK : va_K D vwCl [(ca 0, .long), (ca 1, .int), (ca 2, .int), (ca 3, .int), (ca 4, .int)] s := hK
  show W _ _ _ _ _ _ _ _ _ _ _ _ 5 672768 _ _
  refine lv_iload_n hx hb dX7_init_76 rfl (lv_at hl 0 rfl) ?_
  refine va_ldcS hx hb hown hE.2.1 dX7_init_77 ?_
  have hPc := hP.sub (ws' := []) [] rfl
  have hDc := hD.sub (ws' := []) [] (by decide) rfl
  have hKc := hK.sub (tys' := []) [] rfl
  have hFc := va_free (wc := []) hD hS hA [] rfl
  refine va_calli (va_runV (As := []) (rest := [.int (nI k)]) ⟨hx, hb, hml, hown, hts⟩ (c_J0_length l D adK adV H.size 0 (by decide)) (cwV 0 hts gX7_init_J0_length_8abf5 rfl rfl rfl (by decide +kernel) ⟨Nat.le_of_ble_eq_true rfl, Nat.le_of_ble_eq_true rfl⟩) ⟨fun a U g mk q => by obtain ⟨q0, q1, qP, qK, qD, q5⟩ := q; exact ⟨q0, q1, qP, va_K.moved (u := U) (U := U.calling g mk a) (Vm.Alike.refl U.vm) qK, qD, sS.moved (u := U) (U := U.calling g mk a) (Vm.Alike.refl U.vm) q5⟩, vk_recv hE.1.1 (i := 0) (by decide) hS, fun U hU hW => ⟨rfl, by rw [hU], by rw [hU]; exact hPc, va_K.moved hW.alike hKc, hDc.weaken (fun _ _ _ _ => trivial), by rw [hU]; exact sS.moved hW.alike ((hE.1.kept hS.2.1).narrow hFc)⟩⟩ rfl rfl hl.1 rfl (lv_room (Nat.le_of_ble_eq_true rfl)) dX7_init_79 ⟨Nat.le_of_ble_eq_true rfl, Nat.le_of_ble_eq_true rfl⟩) hS (fun q _ h => hFc q h) hFc ?_
  intro r15 u14 t H16 lo1 ht hvm hwu14 hB hz1 hk1 hS1
  subst hwu14
  have hP1 : va_P D vwCl [] H16 := p_nil
  have hD1 : va_D (va_A [] H.size) [] := d_nil
  obtain ⟨hP, hD⟩ := va_join (wr := [(h0, .inr (7, [.ref (a 0), .ref (a 1), .ref (a 2), .ref (a 3), .ref (a 4), .int (nI n), .int (0), .int (0), .int (0)])), (a 0, .inl (ca 0, 160000, .inr (.inl (fc)))), (a 1, .inl (ca 1, 160000, .inl (f1))), (a 2, .inl (ca 2, 160000, .inl (f2))), (a 3, .inl (ca 3, 160000, .inl (f3))), (a 4, .inl (ca 4, 32768, .inl (f4)))]) (w1 := []) hP hD [] [0, 1, 2, 3, 4, 5] rfl rfl (by decide) (by decide) hk1 hFc hP1 hD1
  have hK := hK.sub (tys' := [(ca 0, .long), (ca 1, .int), (ca 2, .int), (ca 3, .int), (ca 4, .int)]) [0, 1, 2, 3, 4] rfl
  have hS := hS1
  clear hS1 hP1 hD1 hFc hKc hDc hPc hz1 hk1
  have hP : va_P D vwCl [(h0, .inr (7, [.ref (a 0), .ref (a 1), .ref (a 2), .ref (a 3), .ref (a 4), .int (nI n), .int (0), .int (0), .int (0)])), (a 0, .inl (ca 0, 160000, .inr (.inl (fc)))), (a 1, .inl (ca 1, 160000, .inl (f1))), (a 2, .inl (ca 2, 160000, .inl (f2))), (a 3, .inl (ca 3, 160000, .inl (f3))), (a 4, .inl (ca 4, 32768, .inl (f4)))] H16 := hP
  have hD : va_D A [(h0, .inr (7, [.ref (a 0), .ref (a 1), .ref (a 2), .ref (a 3), .ref (a 4), .int (nI n), .int (0), .int (0), .int (0)])), (a 0, .inl (ca 0, 160000, .inr (.inl (fc)))), (a 1, .inl (ca 1, 160000, .inl (f1))), (a 2, .inl (ca 2, 160000, .inl (f2))), (a 3, .inl (ca 3, 160000, .inl (f3))), (a 4, .inl (ca 4, 32768, .inl (f4)))] := hD
  have hK : va_K D vwCl [(ca 0, .long), (ca 1, .int), (ca 2, .int), (ca 3, .int), (ca 4, .int)] s := hK
  refine lv_icmp_ge hx hb dX7_init_82 (tgt := 134) rfl (fun h17 => ?_) (fun h17 => ?_)
  · replace hP := hP.sub (ws' := [(h0, .inr (7, [.ref (a 0), .ref (a 1), .ref (a 2), .ref (a 3), .ref (a 4), .int (nI n), .int (0), .int (0), .int (0)]))]) [0] rfl
    replace hD := hD.sub (ws' := [(h0, .inr (7, [.ref (a 0), .ref (a 1), .ref (a 2), .ref (a 3), .ref (a 4), .int (nI n), .int (0), .int (0), .int (0)]))]) [0] (by decide) rfl
    replace hK := hK.sub (tys' := []) [] rfl
    exact W.vret hx hb hr (fun t ht hW => ⟨⟨(a, n), rfl, (show n ≤ 220 by omega), ⟨by rw [ht]; exact hP, va_K.moved hW.alike hK, hD⟩⟩, hS.F ht⟩) hS.2.2 dX7_init_134
  · have hj : k < 220 := by
      rcases Nat.lt_or_ge k 220 with h | h
      · exact h
      · exact absurd (nI_le (a := 220) h (by omega)) h17
    refine va_ldcS hx hb hown hE.2.2 dX7_init_85 ?_
    refine va_ldcS hx hb hown hE.2.1 dX7_init_87 ?_
    refine lv_iload_n hx hb dX7_init_89 rfl (lv_at hl 0 rfl) ?_
    have hPc := hP.sub (ws' := []) [] rfl
    have hDc := hD.sub (ws' := []) [] (by decide) rfl
    have hKc := hK.sub (tys' := []) [] rfl
    have hFc := va_free (wc := []) hD hS hA [] rfl
    refine va_calli (va_runV (As := [.int (nI k)]) (rest := [.ref (adK 1)]) ⟨hx, hb, hml, hown, hts⟩ (c_J0_charAt l D adK adV H16.size 0 k (by decide) hj) (cwV 1 hts gX7_init_J0_charAt_5068e rfl rfl rfl (by decide +kernel) ⟨Nat.le_of_ble_eq_true rfl, Nat.le_of_ble_eq_true rfl⟩) ⟨fun a U g mk q => by obtain ⟨q0, q1, qP, qK, qD, q5⟩ := q; exact ⟨q0, q1, qP, va_K.moved (u := U) (U := U.calling g mk a) (Vm.Alike.refl U.vm) qK, qD, sS.moved (u := U) (U := U.calling g mk a) (Vm.Alike.refl U.vm) q5⟩, vk_recv hE.1.1 (i := 0) (by decide) hS, fun U hU hW => ⟨rfl, by rw [hU], by rw [hU]; exact hPc, va_K.moved hW.alike hKc, hDc.weaken (fun _ _ _ _ => trivial), by rw [hU]; exact sS.moved hW.alike ((hE.1.kept hS.2.1).narrow hFc)⟩⟩ rfl rfl hl.1 rfl (lv_room (Nat.le_of_ble_eq_true rfl)) dX7_init_90 ⟨Nat.le_of_ble_eq_true rfl, Nat.le_of_ble_eq_true rfl⟩) hS (fun q _ h => hFc q h) hFc ?_
    intro r19 u18 t H20 lo1 ht hvm hwu18 hB hz1 hk1 hS1
    subst hwu18
    have hP1 : va_P D vwCl [] H20 := p_nil
    have hD1 : va_D (va_A [] H16.size) [] := d_nil
    obtain ⟨hP, hD⟩ := va_join (wr := [(h0, .inr (7, [.ref (a 0), .ref (a 1), .ref (a 2), .ref (a 3), .ref (a 4), .int (nI n), .int (0), .int (0), .int (0)])), (a 0, .inl (ca 0, 160000, .inr (.inl (fc)))), (a 1, .inl (ca 1, 160000, .inl (f1))), (a 2, .inl (ca 2, 160000, .inl (f2))), (a 3, .inl (ca 3, 160000, .inl (f3))), (a 4, .inl (ca 4, 32768, .inl (f4)))]) (w1 := []) hP hD [] [0, 1, 2, 3, 4, 5] rfl rfl (by decide) (by decide) hk1 hFc hP1 hD1
    have hK := hK.sub (tys' := [(ca 0, .long), (ca 1, .int), (ca 2, .int), (ca 3, .int), (ca 4, .int)]) [0, 1, 2, 3, 4] rfl
    have hS := hS1
    clear hS1 hP1 hD1 hFc hKc hDc hPc hz1 hk1
    have hP : va_P D vwCl [(h0, .inr (7, [.ref (a 0), .ref (a 1), .ref (a 2), .ref (a 3), .ref (a 4), .int (nI n), .int (0), .int (0), .int (0)])), (a 0, .inl (ca 0, 160000, .inr (.inl (fc)))), (a 1, .inl (ca 1, 160000, .inl (f1))), (a 2, .inl (ca 2, 160000, .inl (f2))), (a 3, .inl (ca 3, 160000, .inl (f3))), (a 4, .inl (ca 4, 32768, .inl (f4)))] H20 := hP
    have hD : va_D A [(h0, .inr (7, [.ref (a 0), .ref (a 1), .ref (a 2), .ref (a 3), .ref (a 4), .int (nI n), .int (0), .int (0), .int (0)])), (a 0, .inl (ca 0, 160000, .inr (.inl (fc)))), (a 1, .inl (ca 1, 160000, .inl (f1))), (a 2, .inl (ca 2, 160000, .inl (f2))), (a 3, .inl (ca 3, 160000, .inl (f3))), (a 4, .inl (ca 4, 32768, .inl (f4)))] := hD
    have hK : va_K D vwCl [(ca 0, .long), (ca 1, .int), (ca 2, .int), (ca 3, .int), (ca 4, .int)] s := hK
    have hPc := hP.sub (ws' := []) [] rfl
    have hDc := hD.sub (ws' := []) [] (by decide) rfl
    have hKc := hK.sub (tys' := []) [] rfl
    have hFc := va_free (wc := []) hD hS hA [] rfl
    refine va_calli (va_runV (As := [.int (s_ch 0 k)]) (rest := []) ⟨hx, hb, hml, hown, hts⟩ (c_J0_indexOf l D adK adV H20.size 1 (s_ch 0 k) (by decide)) (cwV 1 hts gX7_init_J0_indexOf_0f7a4 rfl rfl rfl (by decide +kernel) ⟨Nat.le_of_ble_eq_true rfl, Nat.le_of_ble_eq_true rfl⟩) ⟨fun a U g mk q => by obtain ⟨q0, q1, qP, qK, qD, q5⟩ := q; exact ⟨q0, q1, qP, va_K.moved (u := U) (U := U.calling g mk a) (Vm.Alike.refl U.vm) qK, qD, sS.moved (u := U) (U := U.calling g mk a) (Vm.Alike.refl U.vm) q5⟩, vk_recv hE.1.1 (i := 1) (by decide) hS, fun U hU hW => ⟨rfl, by rw [hU], by rw [hU]; exact hPc, va_K.moved hW.alike hKc, hDc.weaken (fun _ _ _ _ => trivial), by rw [hU]; exact sS.moved hW.alike ((hE.1.kept hS.2.1).narrow hFc)⟩⟩ rfl rfl hl.1 rfl (lv_room (Nat.le_of_ble_eq_true rfl)) dX7_init_93 ⟨Nat.le_of_ble_eq_true rfl, Nat.le_of_ble_eq_true rfl⟩) hS (fun q _ h => hFc q h) hFc ?_
    intro r22 u21 t H23 lo1 ht hvm hwu21 hB hz1 hk1 hS1
    subst hwu21
    have hP1 : va_P D vwCl [] H23 := p_nil
    have hD1 : va_D (va_A [] H20.size) [] := d_nil
    obtain ⟨hP, hD⟩ := va_join (wr := [(h0, .inr (7, [.ref (a 0), .ref (a 1), .ref (a 2), .ref (a 3), .ref (a 4), .int (nI n), .int (0), .int (0), .int (0)])), (a 0, .inl (ca 0, 160000, .inr (.inl (fc)))), (a 1, .inl (ca 1, 160000, .inl (f1))), (a 2, .inl (ca 2, 160000, .inl (f2))), (a 3, .inl (ca 3, 160000, .inl (f3))), (a 4, .inl (ca 4, 32768, .inl (f4)))]) (w1 := []) hP hD [] [0, 1, 2, 3, 4, 5] rfl rfl (by decide) (by decide) hk1 hFc hP1 hD1
    have hK := hK.sub (tys' := [(ca 0, .long), (ca 1, .int), (ca 2, .int), (ca 3, .int), (ca 4, .int)]) [0, 1, 2, 3, 4] rfl
    have hS := hS1
    clear hS1 hP1 hD1 hFc hKc hDc hPc hz1 hk1
    have hP : va_P D vwCl [(h0, .inr (7, [.ref (a 0), .ref (a 1), .ref (a 2), .ref (a 3), .ref (a 4), .int (nI n), .int (0), .int (0), .int (0)])), (a 0, .inl (ca 0, 160000, .inr (.inl (fc)))), (a 1, .inl (ca 1, 160000, .inl (f1))), (a 2, .inl (ca 2, 160000, .inl (f2))), (a 3, .inl (ca 3, 160000, .inl (f3))), (a 4, .inl (ca 4, 32768, .inl (f4)))] H23 := hP
    have hD : va_D A [(h0, .inr (7, [.ref (a 0), .ref (a 1), .ref (a 2), .ref (a 3), .ref (a 4), .int (nI n), .int (0), .int (0), .int (0)])), (a 0, .inl (ca 0, 160000, .inr (.inl (fc)))), (a 1, .inl (ca 1, 160000, .inl (f1))), (a 2, .inl (ca 2, 160000, .inl (f2))), (a 3, .inl (ca 3, 160000, .inl (f3))), (a 4, .inl (ca 4, 32768, .inl (f4)))] := hD
    have hK : va_K D vwCl [(ca 0, .long), (ca 1, .int), (ca 2, .int), (ca 3, .int), (ca 4, .int)] s := hK
    refine lv_istore hx hb dX7_init_96 hl (by decide) rfl (fun ls hl => ?_)
    have hl : lv_has ls 5 [(4, .int (s_idx 1 (s_ch 0 k))), (3, .int (nI k)), (1, .long (code)), (0, .ref (h0))] := hl
    refine lv_iload hx hb dX7_init_98 (lv_at hl 0 rfl) ?_
    refine lv_if_le hx hb dX7_init_100 (tgt := 116) rfl (fun h24 => ?_) (fun h24 => ?_)
    · have hd : ¬ 0 < s_idx 1 (s_ch 0 k) := Int32.not_lt.mpr h24
      refine lv_aload_n hx hb dX7_init_116 rfl (lv_at hl 3 rfl) ?_
      refine lv_ldc2 hx hb hown (hts (.constantLong RX7 69 (4611686018427387904)) (List.mem_of_getElem? (i := 18) rfl)) dX7_init_117 ?_
      refine lv_lload_n hx hb dX7_init_120 rfl (lv_at hl 2 rfl) ?_
      refine lv_lor hx hb dX7_init_121 ?_
      have hPc := hP.sub (ws' := [(h0, .inr (7, [.ref (a 0), .ref (a 1), .ref (a 2), .ref (a 3), .ref (a 4), .int (nI n), .int (0), .int (0), .int (0)])), (a 0, .inl (ca 0, 160000, .inr (.inl (fc)))), (a 1, .inl (ca 1, 160000, .inl (f1))), (a 2, .inl (ca 2, 160000, .inl (f2))), (a 3, .inl (ca 3, 160000, .inl (f3))), (a 4, .inl (ca 4, 32768, .inl (f4)))]) [0, 1, 2, 3, 4, 5] rfl
      have hDc := hD.sub (ws' := [(h0, .inr (7, [.ref (a 0), .ref (a 1), .ref (a 2), .ref (a 3), .ref (a 4), .int (nI n), .int (0), .int (0), .int (0)])), (a 0, .inl (ca 0, 160000, .inr (.inl (fc)))), (a 1, .inl (ca 1, 160000, .inl (f1))), (a 2, .inl (ca 2, 160000, .inl (f2))), (a 3, .inl (ca 3, 160000, .inl (f3))), (a 4, .inl (ca 4, 32768, .inl (f4)))]) [0, 1, 2, 3, 4, 5] (by decide) rfl
      have hKc := hK.sub (tys' := [(ca 0, .long), (ca 1, .int), (ca 2, .int), (ca 3, .int), (ca 4, .int)]) [0, 1, 2, 3, 4] rfl
      have hFc := va_free (wc := [(h0, .inr (7, [.ref (a 0), .ref (a 1), .ref (a 2), .ref (a 3), .ref (a 4), .int (nI n), .int (0), .int (0), .int (0)])), (a 0, .inl (ca 0, 160000, .inr (.inl (fc)))), (a 1, .inl (ca 1, 160000, .inl (f1))), (a 2, .inl (ca 2, 160000, .inl (f2))), (a 3, .inl (ca 3, 160000, .inl (f3))), (a 4, .inl (ca 4, 32768, .inl (f4)))]) hD hS hA [0, 1, 2, 3, 4, 5] rfl
      refine va_calli (va_runV (As := [.long (4611686018427387904 ||| code)]) (rest := []) ⟨hx, hb, hml, hown, hts⟩ (c_X7_made l D h0 H23.size a ca 0 0 0 fc f1 f2 f3 f4 n (4611686018427387904 ||| code) (by omega) hO ((k_step hj hC).2 hd).1) (cwV 1 hts gX7_init_X7_made rfl rfl rfl (by decide +kernel) ⟨Nat.le_of_ble_eq_true rfl, Nat.le_of_ble_eq_true rfl⟩) ⟨fun a U g mk q => by obtain ⟨q0, q1, qP, qK, qD⟩ := q; exact ⟨q0, q1, qP, va_K.moved (u := U) (U := U.calling g mk a) (Vm.Alike.refl U.vm) qK, qD⟩, va_recv hK hP (ci := 7) (q0 := 0) rfl rfl, fun U hU hW => ⟨rfl, by rw [hU], by rw [hU]; exact hPc, va_K.moved hW.alike hKc, hDc.weaken (fun _ _ _ _ => trivial)⟩⟩ rfl rfl hl.1 rfl (lv_room (Nat.le_of_ble_eq_true rfl)) dX7_init_122 ⟨Nat.le_of_ble_eq_true rfl, Nat.le_of_ble_eq_true rfl⟩) hS (fun q _ h => hFc q h) hFc ?_
      intro r26 u25 t H27 lo1 ht hvm hwu25 hB hz1 hk1 hS1
      obtain ⟨hu1, hu2⟩ := hwu25
      obtain ⟨hP1, hK1, hD1⟩ := hB
      rw [ht] at hP1
      have hK1 := va_K.moved hvm.symm hK1
      obtain ⟨hP, hD⟩ := va_join (wr := []) (w1 := [(h0, .inr (7, [.ref (a 0), .ref (a 1), .ref (a 2), .ref (a 3), .ref (a 4), .int (nI u25.2.2.2.2.2), .int (0), .int (0), .int (0)])), (a 0, .inl (ca 0, 160000, .inr (.inl (u25.1)))), (a 1, .inl (ca 1, 160000, .inl (u25.2.1))), (a 2, .inl (ca 2, 160000, .inl (u25.2.2.1))), (a 3, .inl (ca 3, 160000, .inl (u25.2.2.2.1))), (a 4, .inl (ca 4, 32768, .inl (u25.2.2.2.2.1)))]) hP hD [0, 1, 2, 3, 4, 5] [] rfl rfl (by decide) (by decide) hk1 hFc hP1 hD1
      have hK := (hK.sub (tys' := []) [] rfl).app hK1
      have hS := hS1
      clear hS1 hP1 hD1 hFc hKc hDc hPc hz1 hk1
      have hP : va_P D vwCl [(h0, .inr (7, [.ref (a 0), .ref (a 1), .ref (a 2), .ref (a 3), .ref (a 4), .int (nI u25.2.2.2.2.2), .int (0), .int (0), .int (0)])), (a 0, .inl (ca 0, 160000, .inr (.inl (u25.1)))), (a 1, .inl (ca 1, 160000, .inl (u25.2.1))), (a 2, .inl (ca 2, 160000, .inl (u25.2.2.1))), (a 3, .inl (ca 3, 160000, .inl (u25.2.2.2.1))), (a 4, .inl (ca 4, 32768, .inl (u25.2.2.2.2.1)))] H27 := hP
      have hD : va_D A [(h0, .inr (7, [.ref (a 0), .ref (a 1), .ref (a 2), .ref (a 3), .ref (a 4), .int (nI u25.2.2.2.2.2), .int (0), .int (0), .int (0)])), (a 0, .inl (ca 0, 160000, .inr (.inl (u25.1)))), (a 1, .inl (ca 1, 160000, .inl (u25.2.1))), (a 2, .inl (ca 2, 160000, .inl (u25.2.2.1))), (a 3, .inl (ca 3, 160000, .inl (u25.2.2.2.1))), (a 4, .inl (ca 4, 32768, .inl (u25.2.2.2.2.1)))] := hD
      have hK : va_K D vwCl [(ca 0, .long), (ca 1, .int), (ca 2, .int), (ca 3, .int), (ca 4, .int)] s := hK
      refine lv_pop hx hb dX7_init_125 rfl ?_
      refine lv_lconst hx hb dX7_init_126 (v := 0) rfl ?_
      refine lv_lstore_n hx hb dX7_init_127 rfl hl (by decide) rfl (fun ls hl => ?_)
      have hl : lv_has ls 5 [(1, .long (0)), (4, .int (s_idx 1 (s_ch 0 k))), (3, .int (nI k)), (0, .ref (h0))] := hl
      refine lv_iinc (v := nI k + 1) hx hb dX7_init_128 hl (k := 2) rfl rfl (by decide) rfl (fun ls hl => ?_)
      have hl : lv_has ls 5 [(3, .int (nI k + 1)), (1, .long (0)), (4, .int (s_idx 1 (s_ch 0 k))), (0, .ref (h0))] := hl
      refine lv_goto hx hb dX7_init_131 (tgt := 76) rfl ?_
      exact ih (u25, 0, k + 1) H27 _ ls ⟨hj, Nat.le_trans hu1 (by show n + 1 ≤ k + 1; omega), hu2, ((k_step hj hC).2 hd).2⟩ (by show 220 - (k + 1) < 220 - k; omega) hP hD hS (lv_sub (by rw [nI_1] at hl; exact hl) [0, 1, 3] rfl)
    · have hd : 0 < s_idx 1 (s_ch 0 k) := Int32.not_le.mp h24
      refine lv_lload_n hx hb dX7_init_103 rfl (lv_at hl 2 rfl) ?_
      refine lv_ldc2 hx hb hown (hts (.constantLong RX7 67 (47)) (List.mem_of_getElem? (i := 17) rfl)) dX7_init_104 ?_
      refine lv_lmul hx hb dX7_init_107 ?_
      refine lv_iload hx hb dX7_init_108 (lv_at hl 0 rfl) ?_
      refine lv_i2l hx hb dX7_init_110 rfl ?_
      refine lv_ladd hx hb dX7_init_111 ?_
      refine lv_lstore_n hx hb dX7_init_112 rfl hl (by decide) rfl (fun ls hl => ?_)
      have hl : lv_has ls 5 [(1, .long ((code * 47) + ((s_idx 1 (s_ch 0 k)).toInt64))), (4, .int (s_idx 1 (s_ch 0 k))), (3, .int (nI k)), (0, .ref (h0))] := hl
      refine lv_goto hx hb dX7_init_113 (tgt := 128) rfl ?_
      refine lv_iinc (v := nI k + 1) hx hb dX7_init_128 hl (k := 2) rfl rfl (by decide) rfl (fun ls hl => ?_)
      have hl : lv_has ls 5 [(3, .int (nI k + 1)), (1, .long ((code * 47) + ((s_idx 1 (s_ch 0 k)).toInt64))), (4, .int (s_idx 1 (s_ch 0 k))), (0, .ref (h0))] := hl
      refine lv_goto hx hb dX7_init_131 (tgt := 76) rfl ?_
      exact ih ((fc, f1, f2, f3, f4, n), (code * 47) + ((s_idx 1 (s_ch 0 k)).toInt64), k + 1) H23 _ ls ⟨hj, (by show n ≤ k + 1; omega), hO, (k_step hj hC).1 hd⟩ (by show 220 - (k + 1) < 220 - k; omega) hP hD hS (lv_sub (by rw [nI_1] at hl; exact hl) [0, 1, 3] rfl)
