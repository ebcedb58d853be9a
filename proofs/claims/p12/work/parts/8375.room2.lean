/-- the cells of the names that are known, from what is left of the text on -/
def k_cd : List Int32 → Int64 → List Int64
  | [], _ => []
  | b :: l, code => if 0 < s_idx 1 (((b &&& 255).toUInt32 % 65536).toInt32) then k_cd l (code * 47 + (s_idx 1 (((b &&& 255).toUInt32 % 65536).toInt32)).toInt64) else ((4611686018427387904 : Int64) ||| code) :: k_cd l 0
def kCs : List Int64 := k_cd (sByt.getD 0 []) 0
theorem kCs_all : kCs.length = 44 ∧ kCs.Nodup ∧ ∀ x ∈ kCs, 0 ≤ x := by decide +kernel
theorem g_at {B : List Int32} {k : Nat} (h : k < B.length) : B.getD k 0 = B[k] := by simp [List.getD, h]
theorem k_cds {code : Int64} {k : Nat} (hk : k < 220) : (0 < s_idx 1 (s_ch 0 k) → k_cd ((sByt.getD 0 []).drop k) code = k_cd ((sByt.getD 0 []).drop (k + 1)) (code * 47 + (s_idx 1 (s_ch 0 k)).toInt64)) ∧ (¬ 0 < s_idx 1 (s_ch 0 k) → k_cd ((sByt.getD 0 []).drop k) code = ((4611686018427387904 : Int64) ||| code) :: k_cd ((sByt.getD 0 []).drop (k + 1)) 0) := by
  have hl : k < (sByt.getD 0 []).length := hk
  have e : (sByt.getD 0 []).getD k 0 = (sByt.getD 0 [])[k] := g_at hl
  unfold s_ch
  rw [e, List.drop_eq_getElem_cons hl]
  exact ⟨fun h1 => if_pos h1, fun h1 => if_neg h1⟩
/-- what is made next is not there, and is no pair -/
theorem k_new {fc : Nat → Int64} {n : Nat} {x : Int64} {l : List Int64} (h : (List.range n).map fc ++ x :: l = kCs) : (∀ i, i < n → fc i ≠ x) ∧ 0 ≤ x := by
  obtain ⟨-, h2, h3⟩ := kCs_all
  rw [← h] at h2 h3
  refine ⟨fun i hi e => ?_, h3 x (by simp)⟩
  have h4 := (List.nodup_append.mp h2).2.2
  exact h4 (fc i) (List.mem_map.mpr ⟨i, List.mem_range.mpr hi, rfl⟩) x (by simp) e
theorem k_app {fc fd : Nat → Int64} {n : Nat} {x : Int64} {l : List Int64} (h : (List.range n).map fc ++ x :: l = kCs) (h1 : ∀ j, j < n → fd j = fc j) (h2 : fd n = x) : (List.range (n + 1)).map fd ++ l = kCs := by
  rw [← h, List.range_succ, List.map_append, List.append_assoc]
  congr 1
  · exact List.map_congr_left (fun j hj => h1 j (List.mem_range.mp hj))
  · simp [h2]
theorem k_end {fc : Nat → Int64} {n : Nat} {code : Int64} (h : (List.range n).map fc ++ k_cd ((sByt.getD 0 []).drop 220) code = kCs) : n = 44 := by
  have e : k_cd ((sByt.getD 0 []).drop 220) code = [] := by
    rw [List.drop_eq_nil_of_le (show (sByt.getD 0 []).length ≤ 220 from Nat.le_refl _)]
    rfl
  rw [e, List.append_nil] at h
  have := congrArg List.length h
  rw [kCs_all.1, List.length_map, List.length_range] at this
  exact this
theorem k_endC {fc : Nat → Int64} {n : Nat} {code : Int64} (h : (List.range n).map fc ++ k_cd ((sByt.getD 0 []).drop 220) code = kCs) : (List.range 44).map fc = kCs := by
  have e : k_cd ((sByt.getD 0 []).drop 220) code = [] := by
    rw [List.drop_eq_nil_of_le (show (sByt.getD 0 []).length ≤ 220 from Nat.le_refl _)]
    rfl
  have hn := k_end h
  rw [e, List.append_nil, hn] at h
  exact h
def rO3 (u : rST) : Prop := rO2 u ∧ (List.range 44).map u.1 = kCs
def rCa (ca : Nat → ClassId) : Nat → ClassId
  | 0 => ca 3
  | _ => ca 0
/-- Room's rows -/
def rR (a : Nat → Nat) (ca : Nat → ClassId) (u : rST) : va_W := [(a 0, .inl (ca 3, 160000, .inr (.inl (u.1)))), (a 1, .inl (ca 0, 160000, .inl (u.2.1))), (a 2, .inl (ca 0, 160000, .inl (u.2.2.1))), (a 3, .inl (ca 0, 160000, .inl (u.2.2.2.1))), (a 4, .inl (ca 0, 32768, .inl (u.2.2.2.2.1)))]
def kW7 (ca : Nat → ClassId) (h0 : Nat) (a : Nat → Nat) (u : rST) : va_W := [(h0, .inr (7, [.ref (a 0), .ref (a 1), .ref (a 2), .ref (a 3), .ref (a 4), .int (nI u.2.2.2.2.2), .int (0), .int (0), .int (0)]))] ++ rR a ca u
set_option maxHeartbeats 4000000 in
set_option maxRecDepth 100000 in
/-- Room() -/
theorem k_X7_init (l : Launch) (D : va_G) (ca : Nat → ClassId) (h0 sz : Nat) (adK adV : Nat → Nat) : Met l yX7_init wsX7_init ({ frames := 4, cells := 5, slots := 672768, locals := 100 }) (va_Pc [.ref h0] (fun U => U.heap.size = sz ∧ va_P D vwCl [(h0, .inr (7, [.null, .null, .null, .null, .null, .int 0, .int 0, .int 0, .int 0]))] U.heap ∧ va_K D vwCl (yTy ca) U ∧ va_D (fun _ => True) [(h0, .inr (7, [.null, .null, .null, .null, .null, .int 0, .int 0, .int 0, .int 0]))] ∧ sS adK adV (va_A [(h0, .inr (7, [.null, .null, .null, .null, .null, .int 0, .int 0, .int 0, .int 0]))] sz) U U.heap ∧ vk_R RX7 49 "nil t quote if equal cons implies + - < consp car cdr natp symbolp height not eval simplify prove defun defthm check on off undo use theorem taut same value first second pair yes no def thm weak cut inst swap put induct " (adK 0) U ∧ vk_R RX7 57 " abcdefghijklmnopqrstuvwxyz0123456789+-*/<>=?!_" (adK 1) U)) (va_Qv (fun u : (Nat → Nat) × rST => u.2.2.2.2.2.2 = 44 ∧ rO3 u.2) (fun u t => va_P D vwCl (kW7 ca h0 u.1 u.2) t.heap ∧ va_K D vwCl (yTy ca) t ∧ va_D (va_A [(h0, .inr (7, [.null, .null, .null, .null, .null, .int 0, .int 0, .int 0, .int 0]))] sz) (kW7 ca h0 u.1 u.2)) (va_A [(h0, .inr (7, [.null, .null, .null, .null, .null, .int 0, .int 0, .int 0, .int 0]))] sz)) 5 672768 (va_A [(h0, .inr (7, [.null, .null, .null, .null, .null, .int 0, .int 0, .int 0, .int 0]))] sz) := by
  refine Met.ofW (cc := cX7_init) (maxL := 5) (ret := none) (by decide) rfl ?_
  intro p e s m args below meth c s₁ B hml hv
  obtain ⟨rfl, hsz, hP, hK, hD0, hE⟩ := hv
  have hx := B.exec
  have hb := B.bytes
  have hr := B.returns
  have hts := atoms_spec (ws := wsX7_init) B.pre
  have hown : s.vm.findClass RX7 = some m.cls := findClass_of_methodNamed B.named
  have hnm : meth.name = "<init>" := (name_of_methodNamed B.named B.method).1
  subst hsz
  have hD := hD0.self (sz := s.heap.size)
  generalize hAe : va_A ([(h0, .inr (7, [.null, .null, .null, .null, .null, .int 0, .int 0, .int 0, .int 0]))]) s.heap.size = A at hD hE ⊢
  have hA : ∀ q : Nat, s.heap.size ≤ q → A q := fun q h => by rw [← hAe]; exact Or.inr h
  have hS : va_S A s.heap s.heap [] := va_S.rf
  have hl := lv_entry ([.ref (h0)]) (n := 5) (Nat.le_of_ble_eq_true rfl)
  rw [lg_entry_eq]
  generalize (lg_sl ([.ref (h0)]) ++ List.replicate (5 - (lg_sl ([.ref (h0)])).length) Slot.unset).toArray = ls at hl ⊢
  have hl : lv_has ls 5 [(0, .ref (h0))] := hl
  have hP : va_P D vwCl ([(h0, .inr (7, [.null, .null, .null, .null, .null, .int 0, .int 0, .int 0, .int 0]))] ++ ([])) s.heap := hP
  have hD : va_D A ([(h0, .inr (7, [.null, .null, .null, .null, .null, .int 0, .int 0, .int 0, .int 0]))] ++ ([])) := hD
  refine lv_aload_n hx hb dX7_init_0 rfl (lv_at hl 0 rfl) ?_
  refine W.objInit hx hb hown (hts (.methodLink RX7 3 objectInit) (List.mem_of_getElem? (i := 1) rfl)) (hts (.instanceMethod objectInit) (List.mem_of_getElem? (i := 2) rfl)) (hts (.code objectInit ⟨#[0xb1]⟩ 1 none) (List.mem_of_getElem? (i := 3) rfl)) rfl (by rw [hml]; exact hl.1) rfl dX7_init_1 (Nat.le_of_ble_eq_true rfl) (Nat.le_of_ble_eq_true rfl) ?_
  refine W.eq (g2 := F0 m 4 ls []) rfl ?_
  refine lv_aload_n hx hb dX7_init_4 rfl (lv_at hl 0 rfl) ?_
  refine lv_ldc hx hb hown (hts (.constant RX7 11 (160000)) (List.mem_of_getElem? (i := 4) rfl)) dX7_init_5 ?_
  refine kb_arr (C := RX7) (T := TX7) (N := 9) (ci := 7) (ty0 := tyX7) (atype := .long) (ty := .long) (a0 := (160000, .inr (.inl (fun _ => 0)))) (nw := 160000) 3 hx hb hts (fun w h => List.mem_cons_of_mem _ (List.mem_append_right _ h)) tyX7_ok nmX7 hown hnm rfl hA hK hP hD hS (hts (.arrayClass .long) (List.mem_of_getElem? (i := 5) rfl)) rfl rfl (fun cA => ia_J cA _) (by decide) (by decide) (by decide) (Nat.le_of_ble_eq_true rfl) (Nat.le_of_ble_eq_true rfl) dX7_init_7 0 (by decide) (Nat.le_of_ble_eq_true rfl) (hts (.fieldLink RX7 12 "ProofHouse$Room" "cells" "[J") (List.mem_of_getElem? (i := 6) rfl)) rfl rfl (tyX7_ok 0 (by decide)) dX7_init_9 ?_
  clear hP hD hS
  intro q1 H locs hP hD hS
  have hP : va_P D vwCl ([(h0, .inr (7, [.ref q1, .null, .null, .null, .null, .int 0, .int 0, .int 0, .int 0])), (q1, .inl (ca 3, 160000, .inr (.inl (fun _ => 0))))] ++ ([])) H := hP
  have hD : va_D A ([(h0, .inr (7, [.ref q1, .null, .null, .null, .null, .int 0, .int 0, .int 0, .int 0])), (q1, .inl (ca 3, 160000, .inr (.inl (fun _ => 0))))] ++ ([])) := hD
  refine lv_aload_n hx hb dX7_init_12 rfl (lv_at hl 0 rfl) ?_
  refine lv_ldc hx hb hown (hts (.constant RX7 11 (160000)) (List.mem_of_getElem? (i := 4) rfl)) dX7_init_13 ?_
  refine kb_arr (C := RX7) (T := TX7) (N := 9) (ci := 7) (ty0 := tyX7) (atype := .int) (ty := .int) (a0 := (160000, .inl (fun _ => 0))) (nw := 160000) 0 hx hb hts (fun w h => List.mem_cons_of_mem _ (List.mem_append_right _ h)) tyX7_ok nmX7 hown hnm rfl hA hK hP hD hS (hts (.arrayClass .int) (List.mem_of_getElem? (i := 7) rfl)) rfl rfl (fun cA => ia_I cA _) (by decide) (by decide) (by decide) (Nat.le_of_ble_eq_true rfl) (Nat.le_of_ble_eq_true rfl) dX7_init_15 1 (by decide) (Nat.le_of_ble_eq_true rfl) (hts (.fieldLink RX7 16 "ProofHouse$Room" "chain" "[I") (List.mem_of_getElem? (i := 8) rfl)) rfl rfl (tyX7_ok 1 (by decide)) dX7_init_17 ?_
  clear hP hD hS
  intro q2 H locs hP hD hS
  have hP : va_P D vwCl ([(h0, .inr (7, [.ref q1, .ref q2, .null, .null, .null, .int 0, .int 0, .int 0, .int 0])), (q1, .inl (ca 3, 160000, .inr (.inl (fun _ => 0)))), (q2, .inl (ca 0, 160000, .inl (fun _ => 0)))] ++ ([])) H := hP
  have hD : va_D A ([(h0, .inr (7, [.ref q1, .ref q2, .null, .null, .null, .int 0, .int 0, .int 0, .int 0])), (q1, .inl (ca 3, 160000, .inr (.inl (fun _ => 0)))), (q2, .inl (ca 0, 160000, .inl (fun _ => 0)))] ++ ([])) := hD
  refine lv_aload_n hx hb dX7_init_20 rfl (lv_at hl 0 rfl) ?_
  refine lv_ldc hx hb hown (hts (.constant RX7 11 (160000)) (List.mem_of_getElem? (i := 4) rfl)) dX7_init_21 ?_
  refine kb_arr (C := RX7) (T := TX7) (N := 9) (ci := 7) (ty0 := tyX7) (atype := .int) (ty := .int) (a0 := (160000, .inl (fun _ => 0))) (nw := 160000) 0 hx hb hts (fun w h => List.mem_cons_of_mem _ (List.mem_append_right _ h)) tyX7_ok nmX7 hown hnm rfl hA hK hP hD hS (hts (.arrayClass .int) (List.mem_of_getElem? (i := 7) rfl)) rfl rfl (fun cA => ia_I cA _) (by decide) (by decide) (by decide) (Nat.le_of_ble_eq_true rfl) (Nat.le_of_ble_eq_true rfl) dX7_init_23 2 (by decide) (Nat.le_of_ble_eq_true rfl) (hts (.fieldLink RX7 20 "ProofHouse$Room" "sums" "[I") (List.mem_of_getElem? (i := 9) rfl)) rfl rfl (tyX7_ok 2 (by decide)) dX7_init_25 ?_
  clear hP hD hS
  intro q3 H locs hP hD hS
  have hP : va_P D vwCl ([(h0, .inr (7, [.ref q1, .ref q2, .ref q3, .null, .null, .int 0, .int 0, .int 0, .int 0])), (q1, .inl (ca 3, 160000, .inr (.inl (fun _ => 0)))), (q2, .inl (ca 0, 160000, .inl (fun _ => 0))), (q3, .inl (ca 0, 160000, .inl (fun _ => 0)))] ++ ([])) H := hP
  have hD : va_D A ([(h0, .inr (7, [.ref q1, .ref q2, .ref q3, .null, .null, .int 0, .int 0, .int 0, .int 0])), (q1, .inl (ca 3, 160000, .inr (.inl (fun _ => 0)))), (q2, .inl (ca 0, 160000, .inl (fun _ => 0))), (q3, .inl (ca 0, 160000, .inl (fun _ => 0)))] ++ ([])) := hD
  refine lv_aload_n hx hb dX7_init_28 rfl (lv_at hl 0 rfl) ?_
  refine lv_ldc hx hb hown (hts (.constant RX7 11 (160000)) (List.mem_of_getElem? (i := 4) rfl)) dX7_init_29 ?_
  refine kb_arr (C := RX7) (T := TX7) (N := 9) (ci := 7) (ty0 := tyX7) (atype := .int) (ty := .int) (a0 := (160000, .inl (fun _ => 0))) (nw := 160000) 0 hx hb hts (fun w h => List.mem_cons_of_mem _ (List.mem_append_right _ h)) tyX7_ok nmX7 hown hnm rfl hA hK hP hD hS (hts (.arrayClass .int) (List.mem_of_getElem? (i := 7) rfl)) rfl rfl (fun cA => ia_I cA _) (by decide) (by decide) (by decide) (Nat.le_of_ble_eq_true rfl) (Nat.le_of_ble_eq_true rfl) dX7_init_31 3 (by decide) (Nat.le_of_ble_eq_true rfl) (hts (.fieldLink RX7 23 "ProofHouse$Room" "heights" "[I") (List.mem_of_getElem? (i := 10) rfl)) rfl rfl (tyX7_ok 3 (by decide)) dX7_init_33 ?_
  clear hP hD hS
  intro q4 H locs hP hD hS
  have hP : va_P D vwCl ([(h0, .inr (7, [.ref q1, .ref q2, .ref q3, .ref q4, .null, .int 0, .int 0, .int 0, .int 0])), (q1, .inl (ca 3, 160000, .inr (.inl (fun _ => 0)))), (q2, .inl (ca 0, 160000, .inl (fun _ => 0))), (q3, .inl (ca 0, 160000, .inl (fun _ => 0))), (q4, .inl (ca 0, 160000, .inl (fun _ => 0)))] ++ ([])) H := hP
  have hD : va_D A ([(h0, .inr (7, [.ref q1, .ref q2, .ref q3, .ref q4, .null, .int 0, .int 0, .int 0, .int 0])), (q1, .inl (ca 3, 160000, .inr (.inl (fun _ => 0)))), (q2, .inl (ca 0, 160000, .inl (fun _ => 0))), (q3, .inl (ca 0, 160000, .inl (fun _ => 0))), (q4, .inl (ca 0, 160000, .inl (fun _ => 0)))] ++ ([])) := hD
  refine lv_aload_n hx hb dX7_init_36 rfl (lv_at hl 0 rfl) ?_
  refine lv_ldc hx hb hown (hts (.constant RX7 26 (32768)) (List.mem_of_getElem? (i := 11) rfl)) dX7_init_37 ?_
  refine kb_arr (C := RX7) (T := TX7) (N := 9) (ci := 7) (ty0 := tyX7) (atype := .int) (ty := .int) (a0 := (32768, .inl (fun _ => 0))) (nw := 32768) 0 hx hb hts (fun w h => List.mem_cons_of_mem _ (List.mem_append_right _ h)) tyX7_ok nmX7 hown hnm rfl hA hK hP hD hS (hts (.arrayClass .int) (List.mem_of_getElem? (i := 7) rfl)) rfl rfl (fun cA => ia_I cA _) (by decide) (by decide) (by decide) (Nat.le_of_ble_eq_true rfl) (Nat.le_of_ble_eq_true rfl) dX7_init_39 4 (by decide) (Nat.le_of_ble_eq_true rfl) (hts (.fieldLink RX7 27 "ProofHouse$Room" "heads" "[I") (List.mem_of_getElem? (i := 12) rfl)) rfl rfl (tyX7_ok 4 (by decide)) dX7_init_41 ?_
  clear hP hD hS
  intro q5 H locs hP hD hS
  have hP : va_P D vwCl ([(h0, .inr (7, [.ref q1, .ref q2, .ref q3, .ref q4, .ref q5, .int 0, .int 0, .int 0, .int 0])), (q1, .inl (ca 3, 160000, .inr (.inl (fun _ => 0)))), (q2, .inl (ca 0, 160000, .inl (fun _ => 0))), (q3, .inl (ca 0, 160000, .inl (fun _ => 0))), (q4, .inl (ca 0, 160000, .inl (fun _ => 0))), (q5, .inl (ca 0, 32768, .inl (fun _ => 0)))] ++ ([])) H := hP
  have hD : va_D A ([(h0, .inr (7, [.ref q1, .ref q2, .ref q3, .ref q4, .ref q5, .int 0, .int 0, .int 0, .int 0])), (q1, .inl (ca 3, 160000, .inr (.inl (fun _ => 0)))), (q2, .inl (ca 0, 160000, .inl (fun _ => 0))), (q3, .inl (ca 0, 160000, .inl (fun _ => 0))), (q4, .inl (ca 0, 160000, .inl (fun _ => 0))), (q5, .inl (ca 0, 32768, .inl (fun _ => 0)))] ++ ([])) := hD
  refine lv_aload_n hx hb dX7_init_44 rfl (lv_at hl 0 rfl) ?_
  refine lv_iconst hx hb dX7_init_45 (v := 0) rfl ?_
  refine va_put (D := D) (ci := 7) (v := .int (0)) (ty := .int) (C := RX7) (T := TX7) (N := 9) hx hb hts (fun w h => List.mem_cons_of_mem _ (List.mem_append_right _ h)) tyX7 tyX7_ok nmX7 hown hK hP hD hS 0 rfl rfl 5 (by decide) (hts (.fieldLink RX7 30 "ProofHouse$Room" "used" "I") (List.mem_of_getElem? (i := 13) rfl)) (fun _ h9 => h9) rfl (tyX7_ok 5 (by decide)) rfl rfl (Nat.le_of_ble_eq_true rfl) dX7_init_46 ?_
  clear hP hD hS
  intro H locs hP hD hS
  have hP : va_P D vwCl ([(h0, .inr (7, [.ref q1, .ref q2, .ref q3, .ref q4, .ref q5, .int (0), .int 0, .int 0, .int 0])), (q1, .inl (ca 3, 160000, .inr (.inl (fun _ => 0)))), (q2, .inl (ca 0, 160000, .inl (fun _ => 0))), (q3, .inl (ca 0, 160000, .inl (fun _ => 0))), (q4, .inl (ca 0, 160000, .inl (fun _ => 0))), (q5, .inl (ca 0, 32768, .inl (fun _ => 0)))] ++ ([])) H := hP
  have hD : va_D A ([(h0, .inr (7, [.ref q1, .ref q2, .ref q3, .ref q4, .ref q5, .int (0), .int 0, .int 0, .int 0])), (q1, .inl (ca 3, 160000, .inr (.inl (fun _ => 0)))), (q2, .inl (ca 0, 160000, .inl (fun _ => 0))), (q3, .inl (ca 0, 160000, .inl (fun _ => 0))), (q4, .inl (ca 0, 160000, .inl (fun _ => 0))), (q5, .inl (ca 0, 32768, .inl (fun _ => 0)))] ++ ([])) := hD
  refine lv_aload_n hx hb dX7_init_49 rfl (lv_at hl 0 rfl) ?_
  refine lv_iconst hx hb dX7_init_50 (v := 0) rfl ?_
  refine va_put (D := D) (ci := 7) (v := .int (0)) (ty := .int) (C := RX7) (T := TX7) (N := 9) hx hb hts (fun w h => List.mem_cons_of_mem _ (List.mem_append_right _ h)) tyX7 tyX7_ok nmX7 hown hK hP hD hS 0 rfl rfl 6 (by decide) (hts (.fieldLink RX7 34 "ProofHouse$Room" "given" "I") (List.mem_of_getElem? (i := 14) rfl)) (fun _ h9 => h9) rfl (tyX7_ok 6 (by decide)) rfl rfl (Nat.le_of_ble_eq_true rfl) dX7_init_51 ?_
  clear hP hD hS
  intro H locs hP hD hS
  have hP : va_P D vwCl ([(h0, .inr (7, [.ref q1, .ref q2, .ref q3, .ref q4, .ref q5, .int (0), .int (0), .int 0, .int 0])), (q1, .inl (ca 3, 160000, .inr (.inl (fun _ => 0)))), (q2, .inl (ca 0, 160000, .inl (fun _ => 0))), (q3, .inl (ca 0, 160000, .inl (fun _ => 0))), (q4, .inl (ca 0, 160000, .inl (fun _ => 0))), (q5, .inl (ca 0, 32768, .inl (fun _ => 0)))] ++ ([])) H := hP
  have hD : va_D A ([(h0, .inr (7, [.ref q1, .ref q2, .ref q3, .ref q4, .ref q5, .int (0), .int (0), .int 0, .int 0])), (q1, .inl (ca 3, 160000, .inr (.inl (fun _ => 0)))), (q2, .inl (ca 0, 160000, .inl (fun _ => 0))), (q3, .inl (ca 0, 160000, .inl (fun _ => 0))), (q4, .inl (ca 0, 160000, .inl (fun _ => 0))), (q5, .inl (ca 0, 32768, .inl (fun _ => 0)))] ++ ([])) := hD
  refine lv_aload_n hx hb dX7_init_54 rfl (lv_at hl 0 rfl) ?_
  refine lv_iconst hx hb dX7_init_55 (v := 0) rfl ?_
  refine va_put (D := D) (ci := 7) (v := .int (0)) (ty := .int) (C := RX7) (T := TX7) (N := 9) hx hb hts (fun w h => List.mem_cons_of_mem _ (List.mem_append_right _ h)) tyX7 tyX7_ok nmX7 hown hK hP hD hS 0 rfl rfl 7 (by decide) (hts (.fieldLink RX7 37 "ProofHouse$Room" "spent" "I") (List.mem_of_getElem? (i := 15) rfl)) (fun _ h9 => h9) rfl (tyX7_ok 7 (by decide)) rfl rfl (Nat.le_of_ble_eq_true rfl) dX7_init_56 ?_
  clear hP hD hS
  intro H locs hP hD hS
  have hP : va_P D vwCl ([(h0, .inr (7, [.ref q1, .ref q2, .ref q3, .ref q4, .ref q5, .int (0), .int (0), .int (0), .int 0])), (q1, .inl (ca 3, 160000, .inr (.inl (fun _ => 0)))), (q2, .inl (ca 0, 160000, .inl (fun _ => 0))), (q3, .inl (ca 0, 160000, .inl (fun _ => 0))), (q4, .inl (ca 0, 160000, .inl (fun _ => 0))), (q5, .inl (ca 0, 32768, .inl (fun _ => 0)))] ++ ([])) H := hP
  have hD : va_D A ([(h0, .inr (7, [.ref q1, .ref q2, .ref q3, .ref q4, .ref q5, .int (0), .int (0), .int (0), .int 0])), (q1, .inl (ca 3, 160000, .inr (.inl (fun _ => 0)))), (q2, .inl (ca 0, 160000, .inl (fun _ => 0))), (q3, .inl (ca 0, 160000, .inl (fun _ => 0))), (q4, .inl (ca 0, 160000, .inl (fun _ => 0))), (q5, .inl (ca 0, 32768, .inl (fun _ => 0)))] ++ ([])) := hD
  refine lv_aload_n hx hb dX7_init_59 rfl (lv_at hl 0 rfl) ?_
  refine lv_iconst hx hb dX7_init_60 (v := 0) rfl ?_
  refine va_put (D := D) (ci := 7) (v := .int (0)) (ty := .int) (C := RX7) (T := TX7) (N := 9) hx hb hts (fun w h => List.mem_cons_of_mem _ (List.mem_append_right _ h)) tyX7 tyX7_ok nmX7 hown hK hP hD hS 0 rfl rfl 8 (by decide) (hts (.fieldLink RX7 40 "ProofHouse$Room" "trouble" "I") (List.mem_of_getElem? (i := 16) rfl)) (fun _ h9 => h9) rfl (tyX7_ok 8 (by decide)) rfl rfl (Nat.le_of_ble_eq_true rfl) dX7_init_61 ?_
  clear hP hD hS
  intro H locs hP hD hS
  have hP : va_P D vwCl ([(h0, .inr (7, [.ref q1, .ref q2, .ref q3, .ref q4, .ref q5, .int (0), .int (0), .int (0), .int (0)])), (q1, .inl (ca 3, 160000, .inr (.inl (fun _ => 0)))), (q2, .inl (ca 0, 160000, .inl (fun _ => 0))), (q3, .inl (ca 0, 160000, .inl (fun _ => 0))), (q4, .inl (ca 0, 160000, .inl (fun _ => 0))), (q5, .inl (ca 0, 32768, .inl (fun _ => 0)))] ++ ([])) H := hP
  have hD : va_D A ([(h0, .inr (7, [.ref q1, .ref q2, .ref q3, .ref q4, .ref q5, .int (0), .int (0), .int (0), .int (0)])), (q1, .inl (ca 3, 160000, .inr (.inl (fun _ => 0)))), (q2, .inl (ca 0, 160000, .inl (fun _ => 0))), (q3, .inl (ca 0, 160000, .inl (fun _ => 0))), (q4, .inl (ca 0, 160000, .inl (fun _ => 0))), (q5, .inl (ca 0, 32768, .inl (fun _ => 0)))] ++ ([])) := hD
  refine lv_aload_n hx hb dX7_init_64 rfl (lv_at hl 0 rfl) ?_
  refine va_get (D := D) (ci := 7) (v := .ref q5) (C := RX7) (T := TX7) (N := 9) hx hb hts (fun w h => List.mem_cons_of_mem _ (List.mem_append_right _ h)) hown hK hP 0 rfl rfl 4 (by decide) (hts (.fieldLink RX7 27 "ProofHouse$Room" "heads" "[I") (List.mem_of_getElem? (i := 12) rfl)) (fun _ h9 => h9) rfl dX7_init_65 ?_
  refine lv_iconst hx hb dX7_init_68 (v := (-1)) rfl ?_
  have hPc := hP.sub (ws' := [(q5, .inl (ca 0, 32768, .inl (fun _ => 0)))]) [5] rfl
  have hDc := hD.sub (ws' := [(q5, .inl (ca 0, 32768, .inl (fun _ => 0)))]) [5] (by decide) rfl
  have hKc := hK.sub (tys' := [(ca 0, .int)]) [0] rfl
  have hFc := va_free (wc := [(q5, .inl (ca 0, 32768, .inl (fun _ => 0)))]) hD hS hA [5] rfl
  refine va_callv (va_runS (As := [.ref (q5), .int ((-1))]) (rest := []) ⟨hx, hb, hml, hown, hts⟩ (c_J7_fill l D q5 H.size 32768 (ca 0) (fun _ => 0) (-1) (by decide)) (va_cwS 2 hts gX7_init_J7_fill_53178 rfl rfl rfl (by decide +kernel) ⟨Nat.le_of_ble_eq_true rfl, Nat.le_of_ble_eq_true rfl⟩) ⟨fun a U g mk q => by obtain ⟨q0, q1, qP, qK, qD⟩ := q; exact ⟨q0, q1, qP, va_K.moved (u := U) (U := U.calling g mk a) (Vm.Alike.refl U.vm) qK, qD⟩, fun U hU hW => ⟨rfl, by rw [hU], by rw [hU]; exact hPc, va_K.moved hW.alike hKc, hDc.weaken (fun _ _ _ _ => trivial)⟩⟩ rfl rfl hl.1 rfl (lv_room (Nat.le_of_ble_eq_true rfl)) dX7_init_69 ⟨Nat.le_of_ble_eq_true rfl, Nat.le_of_ble_eq_true rfl⟩) hS (fun q _ h => hFc q h) hFc ?_
  intro u6 t H8 lo1 ht hvm hwu6 hB hz1 hk1 hS1
  have hfill := hwu6
  obtain ⟨hP1, -, hD1⟩ := hB
  rw [ht] at hP1
  have hP1 : va_P D vwCl ([(q5, .inl (ca 0, 32768, .inl (u6)))] ++ ([])) H8 := hP1
  have hD1 : va_D (va_A [(q5, .inl (ca 0, 32768, .inl (fun _ => 0)))] H.size) ([(q5, .inl (ca 0, 32768, .inl (u6)))] ++ ([])) := hD1
  obtain ⟨hP, hD⟩ := va_joinQ (X := [(h0, .inr (7, [.ref q1, .ref q2, .ref q3, .ref q4, .ref q5, .int (0), .int (0), .int (0), .int (0)])), (q1, .inl (ca 3, 160000, .inr (.inl (fun _ => 0)))), (q2, .inl (ca 0, 160000, .inl (fun _ => 0))), (q3, .inl (ca 0, 160000, .inl (fun _ => 0))), (q4, .inl (ca 0, 160000, .inl (fun _ => 0))), (q5, .inl (ca 0, 32768, .inl (fun _ => 0)))]) (cx := [(q5, .inl (ca 0, 32768, .inl (fun _ => 0)))]) (wr := [(h0, .inr (7, [.ref q1, .ref q2, .ref q3, .ref q4, .ref q5, .int (0), .int (0), .int (0), .int (0)])), (q1, .inl (ca 3, 160000, .inr (.inl (fun _ => 0)))), (q2, .inl (ca 0, 160000, .inl (fun _ => 0))), (q3, .inl (ca 0, 160000, .inl (fun _ => 0))), (q4, .inl (ca 0, 160000, .inl (fun _ => 0)))]) (w1 := ([(q5, .inl (ca 0, 32768, .inl (u6)))] ++ ([]))) (pl := []) hP hD [5] [0, 1, 2, 3, 4] rfl rfl (by decide) (by decide) hk1 hFc hP1 hD1
  have hS := hS1
  clear hS1 hP1 hD1 hFc hKc hDc hPc hz1 hk1
  have hP : va_P D vwCl ([(h0, .inr (7, [.ref q1, .ref q2, .ref q3, .ref q4, .ref q5, .int (0), .int (0), .int (0), .int (0)])), (q1, .inl (ca 3, 160000, .inr (.inl (fun _ => 0)))), (q2, .inl (ca 0, 160000, .inl (fun _ => 0))), (q3, .inl (ca 0, 160000, .inl (fun _ => 0))), (q4, .inl (ca 0, 160000, .inl (fun _ => 0))), (q5, .inl (ca 0, 32768, .inl (u6)))] ++ ([])) H8 := hP
  have hD : va_D A ([(h0, .inr (7, [.ref q1, .ref q2, .ref q3, .ref q4, .ref q5, .int (0), .int (0), .int (0), .int (0)])), (q1, .inl (ca 3, 160000, .inr (.inl (fun _ => 0)))), (q2, .inl (ca 0, 160000, .inl (fun _ => 0))), (q3, .inl (ca 0, 160000, .inl (fun _ => 0))), (q4, .inl (ca 0, 160000, .inl (fun _ => 0))), (q5, .inl (ca 0, 32768, .inl (u6)))] ++ ([])) := hD
  refine lv_lconst hx hb dX7_init_72 (v := 0) rfl ?_
  refine lv_lstore_n hx hb dX7_init_73 rfl hl (by decide) rfl (fun ls hl => ?_)
  have hl : lv_has ls 5 [(1, .long (0)), (0, .ref (h0))] := hl
  refine lv_iconst hx hb dX7_init_74 (v := 0) rfl ?_
  refine lv_istore_n hx hb dX7_init_75 rfl hl (by decide) rfl (fun ls hl => ?_)
  have hl : lv_has ls 5 [(3, .int (0)), (1, .long (0)), (0, .ref (h0))] := hl
  obtain ⟨a, ha⟩ : ∃ z : Nat → Nat, z = fun k => ([q1, q2, q3, q4, q5] : List Nat).getD k 0 := ⟨_, rfl⟩
  have hP : va_P D vwCl (kW7 ca h0 a ((fun _ => 0), (fun _ => 0), (fun _ => 0), (fun _ => 0), u6, 0)) H8 := by rw [ha]; exact hP
  have hD : va_D A (kW7 ca h0 a ((fun _ => 0), (fun _ => 0), (fun _ => 0), (fun _ => 0), u6, 0)) := by rw [ha]; exact hD
  have hO0 : rO2 ((fun _ => 0), (fun _ => 0), (fun _ => 0), (fun _ => 0), u6, 0) := ⟨fun h hh => Or.inl (hfill h hh), fun j hj => absurd hj (Nat.not_lt_zero _), fun j hj => absurd hj (Nat.not_lt_zero _), fun j hj => absurd hj (Nat.not_lt_zero _), fun i j _ hj => absurd hj (Nat.not_lt_zero _), fun h i _ hi => absurd hi (Nat.not_lt_zero _)⟩
  clear ha
  refine w_loopC (nL := 5) (wd := fun q : rST × Int64 × Nat => kW7 ca h0 a q.1) (lst := fun q : rST × Int64 × Nat => [(3, .int (nI q.2.2)), (1, .long q.2.1), (0, .ref h0)]) (ce := fun _ => 5) (sl := fun _ => 672768) (μ := fun q => 220 - q.2.2) (I := fun q => q.2.2 ≤ 220 ∧ q.1.2.2.2.2.2 ≤ q.2.2 ∧ rO2 q.1 ∧ (List.range q.1.2.2.2.2.2).map q.1.1 ++ k_cd ((sByt.getD 0 []).drop q.2.2) q.2.1 = kCs) ?_ (((fun _ => 0), (fun _ => 0), (fun _ => 0), (fun _ => 0), u6, 0), 0, 0) ls ⟨Nat.zero_le _, Nat.zero_le _, hO0, rfl⟩ hP hD hS hl
  clear hP hD hS hl
  intro q H locs ls hI hP hD hS hl ih
  obtain ⟨⟨fc, f1, f2, f3, f4, n⟩, code, k⟩ := q
  obtain ⟨hI1, hI2, hO, hC⟩ := hI
  dsimp only at hI1 hI2 hC
  have hl : lv_has ls 5 [(3, .int (nI k)), (1, .long (code)), (0, .ref (h0))] := hl
  have hP : va_P D vwCl ([(h0, .inr (7, [.ref (a 0), .ref (a 1), .ref (a 2), .ref (a 3), .ref (a 4), .int (nI n), .int (0), .int (0), .int (0)])), (a 0, .inl (ca 3, 160000, .inr (.inl (fc)))), (a 1, .inl (ca 0, 160000, .inl (f1))), (a 2, .inl (ca 0, 160000, .inl (f2))), (a 3, .inl (ca 0, 160000, .inl (f3))), (a 4, .inl (ca 0, 32768, .inl (f4)))] ++ ([])) H := hP
  have hD : va_D A ([(h0, .inr (7, [.ref (a 0), .ref (a 1), .ref (a 2), .ref (a 3), .ref (a 4), .int (nI n), .int (0), .int (0), .int (0)])), (a 0, .inl (ca 3, 160000, .inr (.inl (fc)))), (a 1, .inl (ca 0, 160000, .inl (f1))), (a 2, .inl (ca 0, 160000, .inl (f2))), (a 3, .inl (ca 0, 160000, .inl (f3))), (a 4, .inl (ca 0, 32768, .inl (f4)))] ++ ([])) := hD
  show W _ _ _ _ _ _ _ _ _ _ _ _ 5 672768 _ _
  refine lv_iload_n hx hb dX7_init_76 rfl (lv_at hl 0 rfl) ?_
  refine va_ldcS hx hb hown hE.2.1 dX7_init_77 ?_
  have hPc := hP.sub (ws' := []) [] rfl
  have hDc := hD.sub (ws' := []) [] (by decide) rfl
  have hKc := hK.sub (tys' := []) [] rfl
  have hFc := va_free (wc := []) hD hS hA [] rfl
  refine va_calli (va_runV (As := []) (rest := [.int (nI k)]) ⟨hx, hb, hml, hown, hts⟩ (c_J0_length l D adK adV H.size 0 (by decide)) (cwV 0 hts gX7_init_J0_length_8abf5 rfl rfl rfl (by decide +kernel) ⟨Nat.le_of_ble_eq_true rfl, Nat.le_of_ble_eq_true rfl⟩) ⟨fun a U g mk q => by obtain ⟨q0, q1, qP, qK, qD, q5⟩ := q; exact ⟨q0, q1, qP, va_K.moved (u := U) (U := U.calling g mk a) (Vm.Alike.refl U.vm) qK, qD, sS.moved (u := U) (U := U.calling g mk a) (Vm.Alike.refl U.vm) q5⟩, vk_recv hE.1.1 (i := 0) (by decide) hS, fun U hU hW => ⟨rfl, by rw [hU], by rw [hU]; exact hPc, va_K.moved hW.alike hKc, hDc.weaken (fun _ _ _ _ => trivial), by rw [hU]; exact sS.moved hW.alike ((hE.1.kept hS.2.1).narrow hFc)⟩⟩ rfl rfl hl.1 rfl (lv_room (Nat.le_of_ble_eq_true rfl)) dX7_init_79 ⟨Nat.le_of_ble_eq_true rfl, Nat.le_of_ble_eq_true rfl⟩) hS (fun q _ h => hFc q h) hFc ?_
  intro r10 u9 t H11 lo1 ht hvm hwu9 hB hz1 hk1 hS1
  subst hwu9
  have hP1 : va_P D vwCl [] H11 := p_nil
  have hD1 : va_D (va_A [] H.size) [] := d_nil
  obtain ⟨hP, hD⟩ := va_joinQ (X := [(h0, .inr (7, [.ref (a 0), .ref (a 1), .ref (a 2), .ref (a 3), .ref (a 4), .int (nI n), .int (0), .int (0), .int (0)])), (a 0, .inl (ca 3, 160000, .inr (.inl (fc)))), (a 1, .inl (ca 0, 160000, .inl (f1))), (a 2, .inl (ca 0, 160000, .inl (f2))), (a 3, .inl (ca 0, 160000, .inl (f3))), (a 4, .inl (ca 0, 32768, .inl (f4)))]) (cx := []) (wr := [(h0, .inr (7, [.ref (a 0), .ref (a 1), .ref (a 2), .ref (a 3), .ref (a 4), .int (nI n), .int (0), .int (0), .int (0)])), (a 0, .inl (ca 3, 160000, .inr (.inl (fc)))), (a 1, .inl (ca 0, 160000, .inl (f1))), (a 2, .inl (ca 0, 160000, .inl (f2))), (a 3, .inl (ca 0, 160000, .inl (f3))), (a 4, .inl (ca 0, 32768, .inl (f4)))]) (w1 := []) (pl := []) hP hD [] [0, 1, 2, 3, 4, 5] rfl rfl (by decide) (by decide) hk1 hFc hP1 hD1
  have hS := hS1
  clear hS1 hP1 hD1 hFc hKc hDc hPc hz1 hk1
  have hP : va_P D vwCl ([(h0, .inr (7, [.ref (a 0), .ref (a 1), .ref (a 2), .ref (a 3), .ref (a 4), .int (nI n), .int (0), .int (0), .int (0)])), (a 0, .inl (ca 3, 160000, .inr (.inl (fc)))), (a 1, .inl (ca 0, 160000, .inl (f1))), (a 2, .inl (ca 0, 160000, .inl (f2))), (a 3, .inl (ca 0, 160000, .inl (f3))), (a 4, .inl (ca 0, 32768, .inl (f4)))] ++ ([])) H11 := hP
  have hD : va_D A ([(h0, .inr (7, [.ref (a 0), .ref (a 1), .ref (a 2), .ref (a 3), .ref (a 4), .int (nI n), .int (0), .int (0), .int (0)])), (a 0, .inl (ca 3, 160000, .inr (.inl (fc)))), (a 1, .inl (ca 0, 160000, .inl (f1))), (a 2, .inl (ca 0, 160000, .inl (f2))), (a 3, .inl (ca 0, 160000, .inl (f3))), (a 4, .inl (ca 0, 32768, .inl (f4)))] ++ ([])) := hD
  refine lv_icmp_ge hx hb dX7_init_82 (tgt := 134) rfl (fun h12 => ?_) (fun h12 => ?_)
  · have hk9 : k = 220 := by
      rcases Nat.lt_or_ge k 220 with h | h
      · exact absurd h12 (nI_ge (b := 220) h (by decide))
      · omega
    exact W.vret hx hb hr (fun t ht hW => ⟨⟨(a, (fc, f1, f2, f3, f4, n)), rfl, ⟨k_end (code := code) (by rw [← hk9]; exact hC), hO, k_endC (code := code) (by rw [← hk9]; exact hC)⟩, ⟨by rw [ht]; exact hP, va_K.moved hW.alike hK, hD⟩⟩, hS.F ht⟩) hS.2.2 dX7_init_134
  · have hj : k < 220 := by
      rcases Nat.lt_or_ge k 220 with h | h
      · exact h
      · exact absurd (nI_le (a := 220) h (by omega)) h12
    refine va_ldcS hx hb hown hE.2.2 dX7_init_85 ?_
    refine va_ldcS hx hb hown hE.2.1 dX7_init_87 ?_
    refine lv_iload_n hx hb dX7_init_89 rfl (lv_at hl 0 rfl) ?_
    have hPc := hP.sub (ws' := []) [] rfl
    have hDc := hD.sub (ws' := []) [] (by decide) rfl
    have hKc := hK.sub (tys' := []) [] rfl
    have hFc := va_free (wc := []) hD hS hA [] rfl
    refine va_calli (va_runV (As := [.int (nI k)]) (rest := [.ref (adK 1)]) ⟨hx, hb, hml, hown, hts⟩ (c_J0_charAt l D adK adV H11.size 0 k (by decide) hj) (cwV 1 hts gX7_init_J0_charAt_5068e rfl rfl rfl (by decide +kernel) ⟨Nat.le_of_ble_eq_true rfl, Nat.le_of_ble_eq_true rfl⟩) ⟨fun a U g mk q => by obtain ⟨q0, q1, qP, qK, qD, q5⟩ := q; exact ⟨q0, q1, qP, va_K.moved (u := U) (U := U.calling g mk a) (Vm.Alike.refl U.vm) qK, qD, sS.moved (u := U) (U := U.calling g mk a) (Vm.Alike.refl U.vm) q5⟩, vk_recv hE.1.1 (i := 0) (by decide) hS, fun U hU hW => ⟨rfl, by rw [hU], by rw [hU]; exact hPc, va_K.moved hW.alike hKc, hDc.weaken (fun _ _ _ _ => trivial), by rw [hU]; exact sS.moved hW.alike ((hE.1.kept hS.2.1).narrow hFc)⟩⟩ rfl rfl hl.1 rfl (lv_room (Nat.le_of_ble_eq_true rfl)) dX7_init_90 ⟨Nat.le_of_ble_eq_true rfl, Nat.le_of_ble_eq_true rfl⟩) hS (fun q _ h => hFc q h) hFc ?_
    intro r14 u13 t H15 lo1 ht hvm hwu13 hB hz1 hk1 hS1
    subst hwu13
    have hP1 : va_P D vwCl [] H15 := p_nil
    have hD1 : va_D (va_A [] H11.size) [] := d_nil
    obtain ⟨hP, hD⟩ := va_joinQ (X := [(h0, .inr (7, [.ref (a 0), .ref (a 1), .ref (a 2), .ref (a 3), .ref (a 4), .int (nI n), .int (0), .int (0), .int (0)])), (a 0, .inl (ca 3, 160000, .inr (.inl (fc)))), (a 1, .inl (ca 0, 160000, .inl (f1))), (a 2, .inl (ca 0, 160000, .inl (f2))), (a 3, .inl (ca 0, 160000, .inl (f3))), (a 4, .inl (ca 0, 32768, .inl (f4)))]) (cx := []) (wr := [(h0, .inr (7, [.ref (a 0), .ref (a 1), .ref (a 2), .ref (a 3), .ref (a 4), .int (nI n), .int (0), .int (0), .int (0)])), (a 0, .inl (ca 3, 160000, .inr (.inl (fc)))), (a 1, .inl (ca 0, 160000, .inl (f1))), (a 2, .inl (ca 0, 160000, .inl (f2))), (a 3, .inl (ca 0, 160000, .inl (f3))), (a 4, .inl (ca 0, 32768, .inl (f4)))]) (w1 := []) (pl := []) hP hD [] [0, 1, 2, 3, 4, 5] rfl rfl (by decide) (by decide) hk1 hFc hP1 hD1
    have hS := hS1
    clear hS1 hP1 hD1 hFc hKc hDc hPc hz1 hk1
    have hP : va_P D vwCl ([(h0, .inr (7, [.ref (a 0), .ref (a 1), .ref (a 2), .ref (a 3), .ref (a 4), .int (nI n), .int (0), .int (0), .int (0)])), (a 0, .inl (ca 3, 160000, .inr (.inl (fc)))), (a 1, .inl (ca 0, 160000, .inl (f1))), (a 2, .inl (ca 0, 160000, .inl (f2))), (a 3, .inl (ca 0, 160000, .inl (f3))), (a 4, .inl (ca 0, 32768, .inl (f4)))] ++ ([])) H15 := hP
    have hD : va_D A ([(h0, .inr (7, [.ref (a 0), .ref (a 1), .ref (a 2), .ref (a 3), .ref (a 4), .int (nI n), .int (0), .int (0), .int (0)])), (a 0, .inl (ca 3, 160000, .inr (.inl (fc)))), (a 1, .inl (ca 0, 160000, .inl (f1))), (a 2, .inl (ca 0, 160000, .inl (f2))), (a 3, .inl (ca 0, 160000, .inl (f3))), (a 4, .inl (ca 0, 32768, .inl (f4)))] ++ ([])) := hD
    have hPc := hP.sub (ws' := []) [] rfl
    have hDc := hD.sub (ws' := []) [] (by decide) rfl
    have hKc := hK.sub (tys' := []) [] rfl
    have hFc := va_free (wc := []) hD hS hA [] rfl
    refine va_calli (va_runV (As := [.int (s_ch 0 k)]) (rest := []) ⟨hx, hb, hml, hown, hts⟩ (c_J0_indexOf l D adK adV H15.size 1 (s_ch 0 k) (by decide)) (cwV 1 hts gX7_init_J0_indexOf_0f7a4 rfl rfl rfl (by decide +kernel) ⟨Nat.le_of_ble_eq_true rfl, Nat.le_of_ble_eq_true rfl⟩) ⟨fun a U g mk q => by obtain ⟨q0, q1, qP, qK, qD, q5⟩ := q; exact ⟨q0, q1, qP, va_K.moved (u := U) (U := U.calling g mk a) (Vm.Alike.refl U.vm) qK, qD, sS.moved (u := U) (U := U.calling g mk a) (Vm.Alike.refl U.vm) q5⟩, vk_recv hE.1.1 (i := 1) (by decide) hS, fun U hU hW => ⟨rfl, by rw [hU], by rw [hU]; exact hPc, va_K.moved hW.alike hKc, hDc.weaken (fun _ _ _ _ => trivial), by rw [hU]; exact sS.moved hW.alike ((hE.1.kept hS.2.1).narrow hFc)⟩⟩ rfl rfl hl.1 rfl (lv_room (Nat.le_of_ble_eq_true rfl)) dX7_init_93 ⟨Nat.le_of_ble_eq_true rfl, Nat.le_of_ble_eq_true rfl⟩) hS (fun q _ h => hFc q h) hFc ?_
    intro r17 u16 t H18 lo1 ht hvm hwu16 hB hz1 hk1 hS1
    subst hwu16
    have hP1 : va_P D vwCl [] H18 := p_nil
    have hD1 : va_D (va_A [] H15.size) [] := d_nil
    obtain ⟨hP, hD⟩ := va_joinQ (X := [(h0, .inr (7, [.ref (a 0), .ref (a 1), .ref (a 2), .ref (a 3), .ref (a 4), .int (nI n), .int (0), .int (0), .int (0)])), (a 0, .inl (ca 3, 160000, .inr (.inl (fc)))), (a 1, .inl (ca 0, 160000, .inl (f1))), (a 2, .inl (ca 0, 160000, .inl (f2))), (a 3, .inl (ca 0, 160000, .inl (f3))), (a 4, .inl (ca 0, 32768, .inl (f4)))]) (cx := []) (wr := [(h0, .inr (7, [.ref (a 0), .ref (a 1), .ref (a 2), .ref (a 3), .ref (a 4), .int (nI n), .int (0), .int (0), .int (0)])), (a 0, .inl (ca 3, 160000, .inr (.inl (fc)))), (a 1, .inl (ca 0, 160000, .inl (f1))), (a 2, .inl (ca 0, 160000, .inl (f2))), (a 3, .inl (ca 0, 160000, .inl (f3))), (a 4, .inl (ca 0, 32768, .inl (f4)))]) (w1 := []) (pl := []) hP hD [] [0, 1, 2, 3, 4, 5] rfl rfl (by decide) (by decide) hk1 hFc hP1 hD1
    have hS := hS1
    clear hS1 hP1 hD1 hFc hKc hDc hPc hz1 hk1
    have hP : va_P D vwCl ([(h0, .inr (7, [.ref (a 0), .ref (a 1), .ref (a 2), .ref (a 3), .ref (a 4), .int (nI n), .int (0), .int (0), .int (0)])), (a 0, .inl (ca 3, 160000, .inr (.inl (fc)))), (a 1, .inl (ca 0, 160000, .inl (f1))), (a 2, .inl (ca 0, 160000, .inl (f2))), (a 3, .inl (ca 0, 160000, .inl (f3))), (a 4, .inl (ca 0, 32768, .inl (f4)))] ++ ([])) H18 := hP
    have hD : va_D A ([(h0, .inr (7, [.ref (a 0), .ref (a 1), .ref (a 2), .ref (a 3), .ref (a 4), .int (nI n), .int (0), .int (0), .int (0)])), (a 0, .inl (ca 3, 160000, .inr (.inl (fc)))), (a 1, .inl (ca 0, 160000, .inl (f1))), (a 2, .inl (ca 0, 160000, .inl (f2))), (a 3, .inl (ca 0, 160000, .inl (f3))), (a 4, .inl (ca 0, 32768, .inl (f4)))] ++ ([])) := hD
    refine lv_istore hx hb dX7_init_96 hl (by decide) rfl (fun ls hl => ?_)
    have hl : lv_has ls 5 [(4, .int (s_idx 1 (s_ch 0 k))), (3, .int (nI k)), (1, .long (code)), (0, .ref (h0))] := hl
    refine lv_iload hx hb dX7_init_98 (lv_at hl 0 rfl) ?_
    refine lv_if_le hx hb dX7_init_100 (tgt := 116) rfl (fun h19 => ?_) (fun h19 => ?_)
    · have hd : ¬ 0 < s_idx 1 (s_ch 0 k) := Int32.not_lt.mpr h19
      have hC2 : (List.range n).map fc ++ (4611686018427387904 ||| code) :: k_cd ((sByt.getD 0 []).drop (k + 1)) 0 = kCs := by rw [← (k_cds hj).2 hd]; exact hC
      refine lv_aload_n hx hb dX7_init_116 rfl (lv_at hl 3 rfl) ?_
      refine lv_ldc2 hx hb hown (hts (.constantLong RX7 69 (4611686018427387904)) (List.mem_of_getElem? (i := 18) rfl)) dX7_init_117 ?_
      refine lv_lload_n hx hb dX7_init_120 rfl (lv_at hl 2 rfl) ?_
      refine lv_lor hx hb dX7_init_121 ?_
      have hPc := hP.sub (ws' := [(h0, .inr (7, [.ref (a 0), .ref (a 1), .ref (a 2), .ref (a 3), .ref (a 4), .int (nI n), .int (0), .int (0), .int (0)])), (a 0, .inl (ca 3, 160000, .inr (.inl (fc)))), (a 1, .inl (ca 0, 160000, .inl (f1))), (a 2, .inl (ca 0, 160000, .inl (f2))), (a 3, .inl (ca 0, 160000, .inl (f3))), (a 4, .inl (ca 0, 32768, .inl (f4)))]) [0, 1, 2, 3, 4, 5] rfl
      have hDc := hD.sub (ws' := [(h0, .inr (7, [.ref (a 0), .ref (a 1), .ref (a 2), .ref (a 3), .ref (a 4), .int (nI n), .int (0), .int (0), .int (0)])), (a 0, .inl (ca 3, 160000, .inr (.inl (fc)))), (a 1, .inl (ca 0, 160000, .inl (f1))), (a 2, .inl (ca 0, 160000, .inl (f2))), (a 3, .inl (ca 0, 160000, .inl (f3))), (a 4, .inl (ca 0, 32768, .inl (f4)))]) [0, 1, 2, 3, 4, 5] (by decide) rfl
      have hKc := hK.sub (tys' := rT (rCa ca)) [3, 0, 0, 0, 0] rfl
      have hFc := va_free (wc := [(h0, .inr (7, [.ref (a 0), .ref (a 1), .ref (a 2), .ref (a 3), .ref (a 4), .int (nI n), .int (0), .int (0), .int (0)])), (a 0, .inl (ca 3, 160000, .inr (.inl (fc)))), (a 1, .inl (ca 0, 160000, .inl (f1))), (a 2, .inl (ca 0, 160000, .inl (f2))), (a 3, .inl (ca 0, 160000, .inl (f3))), (a 4, .inl (ca 0, 32768, .inl (f4)))]) hD hS hA [0, 1, 2, 3, 4, 5] rfl
      refine va_calli (va_runV (As := [.long (4611686018427387904 ||| code)]) (rest := []) ⟨hx, hb, hml, hown, hts⟩ (k_X7_made l D h0 H18.size a (rCa ca) 0 0 0 fc f1 f2 f3 f4 n (4611686018427387904 ||| code) (by omega) hO (k_new hC2).2 (k_new hC2).1) (cwV 1 hts gX7_init_X7_made rfl rfl rfl (by decide +kernel) ⟨Nat.le_of_ble_eq_true rfl, Nat.le_of_ble_eq_true rfl⟩) ⟨fun a U g mk q => by obtain ⟨q0, q1, qP, qK, qD⟩ := q; exact ⟨q0, q1, qP, va_K.moved (u := U) (U := U.calling g mk a) (Vm.Alike.refl U.vm) qK, qD⟩, va_recv hK hP (ci := 7) (q0 := 0) rfl rfl, fun U hU hW => ⟨rfl, by rw [hU], by rw [hU]; exact hPc, va_K.moved hW.alike hKc, hDc.weaken (fun _ _ _ _ => trivial)⟩⟩ rfl rfl hl.1 rfl (lv_room (Nat.le_of_ble_eq_true rfl)) dX7_init_122 ⟨Nat.le_of_ble_eq_true rfl, Nat.le_of_ble_eq_true rfl⟩) hS (fun q _ h => hFc q h) hFc ?_
      intro r21 u20 t H22 lo1 ht hvm hwu20 hB hz1 hk1 hS1
      obtain ⟨hu1, hu2, hu3, hu4⟩ := hwu20
      obtain ⟨hP1, -, hD1⟩ := hB
      rw [ht] at hP1
      have hP1 : va_P D vwCl ([(h0, .inr (7, [.ref (a 0), .ref (a 1), .ref (a 2), .ref (a 3), .ref (a 4), .int (nI u20.2.2.2.2.2), .int (0), .int (0), .int (0)])), (a 0, .inl (ca 3, 160000, .inr (.inl (u20.1)))), (a 1, .inl (ca 0, 160000, .inl (u20.2.1))), (a 2, .inl (ca 0, 160000, .inl (u20.2.2.1))), (a 3, .inl (ca 0, 160000, .inl (u20.2.2.2.1))), (a 4, .inl (ca 0, 32768, .inl (u20.2.2.2.2.1)))] ++ ([])) H22 := hP1
      have hD1 : va_D (va_A [(h0, .inr (7, [.ref (a 0), .ref (a 1), .ref (a 2), .ref (a 3), .ref (a 4), .int (nI n), .int (0), .int (0), .int (0)])), (a 0, .inl (ca 3, 160000, .inr (.inl (fc)))), (a 1, .inl (ca 0, 160000, .inl (f1))), (a 2, .inl (ca 0, 160000, .inl (f2))), (a 3, .inl (ca 0, 160000, .inl (f3))), (a 4, .inl (ca 0, 32768, .inl (f4)))] H18.size) ([(h0, .inr (7, [.ref (a 0), .ref (a 1), .ref (a 2), .ref (a 3), .ref (a 4), .int (nI u20.2.2.2.2.2), .int (0), .int (0), .int (0)])), (a 0, .inl (ca 3, 160000, .inr (.inl (u20.1)))), (a 1, .inl (ca 0, 160000, .inl (u20.2.1))), (a 2, .inl (ca 0, 160000, .inl (u20.2.2.1))), (a 3, .inl (ca 0, 160000, .inl (u20.2.2.2.1))), (a 4, .inl (ca 0, 32768, .inl (u20.2.2.2.2.1)))] ++ ([])) := hD1
      obtain ⟨hP, hD⟩ := va_joinQ (X := [(h0, .inr (7, [.ref (a 0), .ref (a 1), .ref (a 2), .ref (a 3), .ref (a 4), .int (nI n), .int (0), .int (0), .int (0)])), (a 0, .inl (ca 3, 160000, .inr (.inl (fc)))), (a 1, .inl (ca 0, 160000, .inl (f1))), (a 2, .inl (ca 0, 160000, .inl (f2))), (a 3, .inl (ca 0, 160000, .inl (f3))), (a 4, .inl (ca 0, 32768, .inl (f4)))]) (cx := [(h0, .inr (7, [.ref (a 0), .ref (a 1), .ref (a 2), .ref (a 3), .ref (a 4), .int (nI n), .int (0), .int (0), .int (0)])), (a 0, .inl (ca 3, 160000, .inr (.inl (fc)))), (a 1, .inl (ca 0, 160000, .inl (f1))), (a 2, .inl (ca 0, 160000, .inl (f2))), (a 3, .inl (ca 0, 160000, .inl (f3))), (a 4, .inl (ca 0, 32768, .inl (f4)))]) (wr := []) (w1 := ([(h0, .inr (7, [.ref (a 0), .ref (a 1), .ref (a 2), .ref (a 3), .ref (a 4), .int (nI u20.2.2.2.2.2), .int (0), .int (0), .int (0)])), (a 0, .inl (ca 3, 160000, .inr (.inl (u20.1)))), (a 1, .inl (ca 0, 160000, .inl (u20.2.1))), (a 2, .inl (ca 0, 160000, .inl (u20.2.2.1))), (a 3, .inl (ca 0, 160000, .inl (u20.2.2.2.1))), (a 4, .inl (ca 0, 32768, .inl (u20.2.2.2.2.1)))] ++ ([]))) (pl := []) hP hD [0, 1, 2, 3, 4, 5] [] rfl rfl (by decide) (by decide) hk1 hFc hP1 hD1
      have hS := hS1
      clear hS1 hP1 hD1 hFc hKc hDc hPc hz1 hk1
      have hP : va_P D vwCl ([(h0, .inr (7, [.ref (a 0), .ref (a 1), .ref (a 2), .ref (a 3), .ref (a 4), .int (nI u20.2.2.2.2.2), .int (0), .int (0), .int (0)])), (a 0, .inl (ca 3, 160000, .inr (.inl (u20.1)))), (a 1, .inl (ca 0, 160000, .inl (u20.2.1))), (a 2, .inl (ca 0, 160000, .inl (u20.2.2.1))), (a 3, .inl (ca 0, 160000, .inl (u20.2.2.2.1))), (a 4, .inl (ca 0, 32768, .inl (u20.2.2.2.2.1)))] ++ ([])) H22 := hP
      have hD : va_D A ([(h0, .inr (7, [.ref (a 0), .ref (a 1), .ref (a 2), .ref (a 3), .ref (a 4), .int (nI u20.2.2.2.2.2), .int (0), .int (0), .int (0)])), (a 0, .inl (ca 3, 160000, .inr (.inl (u20.1)))), (a 1, .inl (ca 0, 160000, .inl (u20.2.1))), (a 2, .inl (ca 0, 160000, .inl (u20.2.2.1))), (a 3, .inl (ca 0, 160000, .inl (u20.2.2.2.1))), (a 4, .inl (ca 0, 32768, .inl (u20.2.2.2.2.1)))] ++ ([])) := hD
      refine lv_pop hx hb dX7_init_125 rfl ?_
      refine lv_lconst hx hb dX7_init_126 (v := 0) rfl ?_
      refine lv_lstore_n hx hb dX7_init_127 rfl hl (by decide) rfl (fun ls hl => ?_)
      have hl : lv_has ls 5 [(1, .long (0)), (4, .int (s_idx 1 (s_ch 0 k))), (3, .int (nI k)), (0, .ref (h0))] := hl
      refine lv_iinc (v := nI k + 1) hx hb dX7_init_128 hl (k := 2) rfl rfl (by decide) rfl (fun ls hl => ?_)
      have hl : lv_has ls 5 [(3, .int (nI k + 1)), (1, .long (0)), (4, .int (s_idx 1 (s_ch 0 k))), (0, .ref (h0))] := hl
      refine lv_goto hx hb dX7_init_131 (tgt := 76) rfl ?_
      exact ih (u20, 0, k + 1) H22 _ ls ⟨hj, (by show u20.2.2.2.2.2 ≤ k + 1; omega), hu2, (by show (List.range u20.2.2.2.2.2).map u20.1 ++ _ = _; rw [hu1]; exact k_app hC2 hu3 hu4)⟩ (by show 220 - (k + 1) < 220 - k; omega) hP hD hS (lv_sub (by rw [nI_1] at hl; exact hl) [0, 1, 3] rfl)
    · have hd : 0 < s_idx 1 (s_ch 0 k) := Int32.not_le.mp h19
      refine lv_lload_n hx hb dX7_init_103 rfl (lv_at hl 2 rfl) ?_
      refine lv_ldc2 hx hb hown (hts (.constantLong RX7 67 (47)) (List.mem_of_getElem? (i := 17) rfl)) dX7_init_104 ?_
      refine lv_lmul hx hb dX7_init_107 ?_
      refine lv_iload hx hb dX7_init_108 (lv_at hl 0 rfl) ?_
      refine lv_i2l hx hb dX7_init_110 rfl ?_
      refine lv_ladd hx hb dX7_init_111 ?_
      refine lv_lstore_n hx hb dX7_init_112 rfl hl (by decide) rfl (fun ls hl => ?_)
      have hl : lv_has ls 5 [(1, .long ((code * 47) + ((s_idx 1 (s_ch 0 k)).toInt64))), (4, .int (s_idx 1 (s_ch 0 k))), (3, .int (nI k)), (0, .ref (h0))] := hl
      refine lv_goto hx hb dX7_init_113 (tgt := 128) rfl ?_
      refine lv_iinc (v := nI k + 1) hx hb dX7_init_128 hl (k := 2) rfl rfl (by decide) rfl (fun ls hl => ?_)
      have hl : lv_has ls 5 [(3, .int (nI k + 1)), (1, .long ((code * 47) + ((s_idx 1 (s_ch 0 k)).toInt64))), (4, .int (s_idx 1 (s_ch 0 k))), (0, .ref (h0))] := hl
      refine lv_goto hx hb dX7_init_131 (tgt := 76) rfl ?_
      exact ih ((fc, f1, f2, f3, f4, n), (code * 47) + ((s_idx 1 (s_ch 0 k)).toInt64), k + 1) H18 _ ls ⟨hj, (by show n ≤ k + 1; omega), hO, (by rw [← (k_cds hj).1 hd]; exact hC)⟩ (by show 220 - (k + 1) < 220 - k; omega) hP hD hS (lv_sub (by rw [nI_1] at hl; exact hl) [0, 1, 3] rfl)
