/-! the class: its objects and rows as cells -/
def slen (i : Nat) : Nat := if i = 0 then 2000 else 200
def yF0 (ad : Nat → Nat → Nat) (u : iST) : List Value := [.ref (ad 1 0), .ref (ad 1 1), .ref (ad 1 2), .ref (ad 1 3), .ref (ad 1 4), .int (jI (u.1 0)), .ref (ad 1 5), .ref (ad 1 6), .ref (ad 1 7), .ref (ad 1 8), .ref (ad 3 0), .ref (ad 1 9), .ref (ad 1 10), .ref (ad 1 11), .ref (ad 1 12), .ref (ad 1 13), .int (jI (u.1 1)), .ref (ad 1 14), .ref (ad 1 15), .int (jI (u.1 2)), .int (jI (u.1 3))]
def yF2 (ad : Nat → Nat → Nat) (u : iST) : List Value := [.ref (ad 0 6), .ref (ad 0 0), .ref (ad 1 16), .ref (ad 1 17), .ref (ad 1 18), .ref (ad 1 19), .ref (ad 1 20), .ref (ad 1 21), .ref (ad 1 22), .int (jI (u.1 4)), .int (jI (u.1 5)), .int (jI (u.1 6)), .int (jI (u.1 7)), .int (jI (u.1 8)), .int (jI (u.1 9))]
def yF3 (ad : Nat → Nat → Nat) (u : iST) : List Value := [.ref (ad 0 6), .ref (ad 0 0), .ref (ad 0 8), .ref (ad 0 1), .ref (ad 0 7), .ref (ad 3 3), .int (jI (u.1 10)), .ref (ad 3 7), .int (jI (u.1 11)), .ref (ad 4 151), .int (jI (u.1 12))]
def yF4 (ad : Nat → Nat → Nat) (u : iST) : List Value := [.ref (ad 0 6), .ref (ad 0 8), .ref (ad 0 5), .ref (ad 3 4), .int (jI (u.1 13)), .ref (ad 3 5), .int (jI (u.1 14)), .ref (ad 3 6), .int (jI (u.1 15)), .ref (ad 4 150), .int (jI (u.1 16))]
def yF5 (ad : Nat → Nat → Nat) (u : iST) : List Value := [.ref (ad 0 6), .ref (ad 1 23), .ref (ad 1 24), .ref (ad 1 25), .ref (ad 1 26), .int (jI (u.1 17)), .int (jI (u.1 18)), .int (jI (u.1 19)), .int (jI (u.1 20)), .int (jI (u.1 21)), .int (jI (u.1 22))]
def yF6 (ad : Nat → Nat → Nat) (u : iST) : List Value := [.ref (ad 0 6), .ref (ad 0 0), .ref (ad 0 8), .ref (ad 0 1), .ref (ad 10 1), .ref (ad 10 2), .ref (ad 3 1), .int (jI (u.1 23)), .int (jI (u.1 24)), .int (jI (u.1 25)), .ref (ad 3 2), .int (jI (u.1 26)), .int (jI (u.1 27)), .int (jI (u.1 28))]
def yF7 (ad : Nat → Nat → Nat) (u : iST) : List Value := [.ref (ad 2 0), .ref (ad 1 27), .ref (ad 1 28), .ref (ad 1 29), .ref (ad 1 30), .int (jI (u.1 29)), .int (jI (u.1 30)), .int (jI (u.1 31)), .int (jI (u.1 32))]
def yF8 (ad : Nat → Nat → Nat) (u : iST) : List Value := [.ref (ad 0 6), .ref (ad 0 0), .ref (ad 0 8), .ref (ad 1 31), .ref (ad 1 32), .int (jI (u.1 33)), .int (jI (u.1 34)), .ref (ad 1 33), .int (jI (u.1 35)), .ref (ad 1 34), .int (jI (u.1 36))]
def yF10 (ad : Nat → Nat → Nat) (u : iST) : List Value := [.ref (ad 0 6), .ref (ad 0 0), .int (jI (u.1 37)), .int (jI (u.1 38)), .ref (ad 1 35), .ref (ad 1 36), .int (jI (u.1 39)), .int (jI (u.1 40)), .int (jI (u.1 41)), .ref (ad 1 37), .ref (ad 1 38), .ref (ad 1 39), .ref (ad 1 40), .ref (ad 1 41), .ref (ad 1 42), .ref (ad 1 43)]
def yF11 (ad : Nat → Nat → Nat) (u : iST) : List Value := [.ref (ad 0 6), .ref (ad 0 0), .ref (ad 0 4), .ref (ad 10 0), .ref (ad 0 8), .ref (ad 0 1), .ref (ad 0 5), .ref (ad 0 7), .ref (ad 0 3), .ref (ad 0 2), .ref (ad 1 44), .int (jI (u.1 42)), .ref (ad 1 45), .int (jI (u.1 43)), .int (jI (u.1 44)), .int (jI (u.1 45)), .int (jI (u.1 46)), .int (jI (u.1 47)), .int (jI (u.1 48)), .int (jI (u.1 49)), .int (jI (u.1 50))]
def yF1 (ad : Nat → Nat → Nat) (u : iST) (i : Nat) : List Value := [.ref (ad 5 i), .int (jI (u.2.1 46 (i : Int))), .int (jI (u.2.1 47 (i : Int))), .int (jI (u.2.1 48 (i : Int)))]
def yF9 (ad : Nat → Nat → Nat) (u : iST) (i : Nat) : List Value := [.ref (ad 0 6), .ref (ad 11 i), .ref (ad 12 i), .int (jI (u.2.1 54 (i : Int)))]
def yB (ca : Nat → ClassId) (ad : Nat → Nat → Nat) (u : iST) : va_W := [(ad 0 0, .inr (0, yF0 ad u)), (ad 0 1, .inr (2, yF2 ad u)), (ad 0 2, .inr (3, yF3 ad u)), (ad 0 3, .inr (4, yF4 ad u)), (ad 0 4, .inr (5, yF5 ad u)), (ad 0 5, .inr (6, yF6 ad u)), (ad 0 6, .inr (7, yF7 ad u)), (ad 0 7, .inr (8, yF8 ad u)), (ad 0 8, .inr (10, yF10 ad u)), (ad 0 9, .inr (11, yF11 ad u)), (ad 1 0, .inl (ca 0, 40, .inl (fun j => jI (u.2.1 0 (j : Int))))), (ad 1 1, .inl (ca 0, 40, .inl (fun j => jI (u.2.1 1 (j : Int))))), (ad 1 2, .inl (ca 0, 40, .inl (fun j => jI (u.2.1 2 (j : Int))))), (ad 1 3, .inl (ca 0, 40, .inl (fun j => jI (u.2.1 3 (j : Int))))), (ad 1 4, .inl (ca 0, 40, .inl (fun j => jI (u.2.1 4 (j : Int))))), (ad 1 5, .inl (ca 0, 60, .inl (fun j => jI (u.2.1 5 (j : Int))))), (ad 1 6, .inl (ca 0, 60, .inl (fun j => jI (u.2.1 6 (j : Int))))), (ad 1 7, .inl (ca 0, 60, .inl (fun j => jI (u.2.1 7 (j : Int))))), (ad 1 8, .inl (ca 0, 60, .inl (fun j => jI (u.2.1 8 (j : Int))))), (ad 1 9, .inl (ca 0, 60, .inl (fun j => jI (u.2.1 9 (j : Int))))), (ad 1 10, .inl (ca 1, 60, .inl (fun j => jI (u.2.1 10 (j : Int))))), (ad 1 11, .inl (ca 1, 60, .inl (fun j => jI (u.2.1 11 (j : Int))))), (ad 1 12, .inl (ca 1, 60, .inl (fun j => jI (u.2.1 12 (j : Int))))), (ad 1 13, .inl (ca 1, 60, .inl (fun j => jI (u.2.1 13 (j : Int))))), (ad 1 14, .inl (ca 0, 100, .inl (fun j => jI (u.2.1 14 (j : Int))))), (ad 1 15, .inl (ca 0, 100, .inl (fun j => jI (u.2.1 15 (j : Int))))), (ad 1 16, .inl (ca 0, 300, .inl (fun j => jI (u.2.1 16 (j : Int))))), (ad 1 17, .inl (ca 0, 300, .inl (fun j => jI (u.2.1 17 (j : Int))))), (ad 1 18, .inl (ca 0, 300, .inl (fun j => jI (u.2.1 18 (j : Int))))), (ad 1 19, .inl (ca 1, 300, .inl (fun j => jI (u.2.1 19 (j : Int))))), (ad 1 20, .inl (ca 0, 300, .inl (fun j => jI (u.2.1 20 (j : Int))))), (ad 1 21, .inl (ca 0, 300, .inl (fun j => jI (u.2.1 21 (j : Int))))), (ad 1 22, .inl (ca 0, 1803, .inl (fun j => jI (u.2.1 22 (j : Int))))), (ad 1 23, .inl (ca 0, 41, .inl (fun j => jI (u.2.1 23 (j : Int))))), (ad 1 24, .inl (ca 0, 41, .inl (fun j => jI (u.2.1 24 (j : Int))))), (ad 1 25, .inl (ca 0, 41, .inl (fun j => jI (u.2.1 25 (j : Int))))), (ad 1 26, .inl (ca 0, 1000, .inl (fun j => jI (u.2.1 26 (j : Int))))), (ad 1 27, .inl (ca 0, 160000, .inl (fun j => jI (u.2.1 27 (j : Int))))), (ad 1 28, .inl (ca 0, 160000, .inl (fun j => jI (u.2.1 28 (j : Int))))), (ad 1 29, .inl (ca 0, 160000, .inl (fun j => jI (u.2.1 29 (j : Int))))), (ad 1 30, .inl (ca 0, 32768, .inl (fun j => jI (u.2.1 30 (j : Int))))), (ad 1 31, .inl (ca 0, 64, .inl (fun j => jI (u.2.1 31 (j : Int))))), (ad 1 32, .inl (ca 1, 64, .inl (fun j => jI (u.2.1 32 (j : Int))))), (ad 1 33, .inl (ca 0, 128, .inl (fun j => jI (u.2.1 33 (j : Int))))), (ad 1 34, .inl (ca 0, 6, .inl (fun j => jI (u.2.1 34 (j : Int))))), (ad 1 35, .inl (ca 0, 256, .inl (fun j => jI (u.2.1 35 (j : Int))))), (ad 1 36, .inl (ca 0, 256, .inl (fun j => jI (u.2.1 36 (j : Int))))), (ad 1 37, .inl (ca 0, 128, .inl (fun j => jI (u.2.1 37 (j : Int))))), (ad 1 38, .inl (ca 0, 128, .inl (fun j => jI (u.2.1 38 (j : Int))))), (ad 1 39, .inl (ca 0, 128, .inl (fun j => jI (u.2.1 39 (j : Int))))), (ad 1 40, .inl (ca 0, 768, .inl (fun j => jI (u.2.1 40 (j : Int))))), (ad 1 41, .inl (ca 0, 128, .inl (fun j => jI (u.2.1 41 (j : Int))))), (ad 1 42, .inl (ca 0, 128, .inl (fun j => jI (u.2.1 42 (j : Int))))), (ad 1 43, .inl (ca 0, 128, .inl (fun j => jI (u.2.1 43 (j : Int))))), (ad 1 44, .inl (ca 2, 3000, .inl (fun j => jI (u.2.1 44 (j : Int))))), (ad 1 45, .inl (ca 0, 5, .inl (fun j => jI (u.2.1 45 (j : Int))))), (ad 2 0, .inl (ca 3, 160000, .inr (.inl (fun j => jL (u.2.2 (j : Int)))))), (ad 3 0, .inl (ca 4, 60, .inr (.inr (.inr (.inr (fun j => some (ad 6 j))))))), (ad 3 1, .inl (ca 4, 60, .inr (.inr (.inr (.inr (fun j => some (ad 7 j))))))), (ad 3 2, .inl (ca 4, 1000, .inr (.inr (.inr (.inr (fun j => some (ad 8 j))))))), (ad 3 3, .inl (ca 4, 40, .inr (.inr (.inr (.inr (fun j => some (ad 9 j))))))), (ad 3 4, .inl (ca 5, 120, .inr (.inr (.inr (.inr (fun j => some (ad 4 j))))))), (ad 3 5, .inl (ca 5, 10, .inr (.inr (.inr (.inr (fun j => some (ad 4 (120 + j)))))))), (ad 3 6, .inl (ca 5, 20, .inr (.inr (.inr (.inr (fun j => some (ad 4 (130 + j)))))))), (ad 3 7, .inl (ca 5, 256, .inr (.inr (.inr (.inr (fun j => some (ad 4 (u.2.1 57 (j : Int)).toNat)))))))]
def yE_clause (ca : Nat → ClassId) (ad : Nat → Nat → Nat) (u : iST) (i : Nat) : Nat × va_E := (ad 4 i, .inr (1, yF1 ad u i))
def yE_lits (ca : Nat → ClassId) (ad : Nat → Nat → Nat) (u : iST) (i : Nat) : Nat × va_E := (ad 5 i, .inl (ca 0, 30, .inl (fun k => jI (if k < 30 then u.2.1 49 (30 * (i : Int) + (k : Int)) else 0))))
def yE_hyps (ca : Nat → ClassId) (ad : Nat → Nat → Nat) (u : iST) (i : Nat) : Nat × va_E := (ad 6 i, .inl (ca 0, 60, .inl (fun k => jI (if k < 60 then u.2.1 50 (60 * (i : Int) + (k : Int)) else 0))))
def yE_frames (ca : Nat → ClassId) (ad : Nat → Nat → Nat) (u : iST) (i : Nat) : Nat × va_E := (ad 7 i, .inl (ca 0, 17, .inl (fun k => jI (if k < 17 then u.2.1 51 (17 * (i : Int) + (k : Int)) else 0))))
def yE_notes (ca : Nat → ClassId) (ad : Nat → Nat → Nat) (u : iST) (i : Nat) : Nat × va_E := (ad 8 i, .inl (ca 0, 5, .inl (fun k => jI (if k < 5 then u.2.1 52 (5 * (i : Int) + (k : Int)) else 0))))
def yE_pframes (ca : Nat → ClassId) (ad : Nat → Nat → Nat) (u : iST) (i : Nat) : Nat × va_E := (ad 9 i, .inl (ca 0, 4, .inl (fun k => jI (if k < 4 then u.2.1 53 (4 * (i : Int) + (k : Int)) else 0))))
def yE_scribe (ca : Nat → ClassId) (ad : Nat → Nat → Nat) (u : iST) (i : Nat) : Nat × va_E := (ad 10 i, .inr (9, yF9 ad u i))
def yE_letters (ca : Nat → ClassId) (ad : Nat → Nat → Nat) (u : iST) (i : Nat) : Nat × va_E := (ad 11 i, .inl (ca 2, slen i, .inl (fun k => jI (if k < 2000 then u.2.1 55 (2000 * (i : Int) + (k : Int)) else 0))))
def yE_srests (ca : Nat → ClassId) (ad : Nat → Nat → Nat) (u : iST) (i : Nat) : Nat × va_E := (ad 12 i, .inl (ca 0, slen i, .inl (fun k => jI (if k < 2000 then u.2.1 56 (2000 * (i : Int) + (k : Int)) else 0))))
def yCl (ca : Nat → ClassId) (ad : Nat → Nat → Nat) (u : iST) : va_W := yB ca ad u ++ ((List.range 408).map (yE_clause ca ad u) ++ ((List.range 408).map (yE_lits ca ad u) ++ ((List.range 60).map (yE_hyps ca ad u) ++ ((List.range 60).map (yE_frames ca ad u) ++ ((List.range 1000).map (yE_notes ca ad u) ++ ((List.range 40).map (yE_pframes ca ad u) ++ ((List.range 3).map (yE_scribe ca ad u) ++ ((List.range 3).map (yE_letters ca ad u) ++ ((List.range 3).map (yE_srests ca ad u) ++ [])))))))))
def yTy (ca : Nat → ClassId) : List (ClassId × FieldType) := [(ca 0, .int), (ca 1, .boolean), (ca 2, .char), (ca 3, .long), (ca 4, .array .int), (ca 5, .object "ProofHouse$Clause")]
theorem rgG {α : Type} {n i : Nat} {f : Nat → α} {t : List α} (h : i < n) : ((List.range n).map f ++ t)[i]? = some (f i) := by
  rw [List.getElem?_append_left (by rw [List.length_map, List.length_range]; exact h), List.getElem?_map, List.getElem?_range h]
  rfl
theorem rgN {α : Type} {n i : Nat} {f : Nat → α} {t : List α} : ((List.range n).map f ++ t)[n + i]? = t[i]? := by
  rw [List.getElem?_append_right (by rw [List.length_map, List.length_range]; omega), List.length_map, List.length_range, Nat.add_sub_cancel_left]
theorem rgM {α : Type} {n i : Nat} {f : Nat → α} {t : List α} {x : α} : ((List.range n).map f ++ t).set (n + i) x = (List.range n).map f ++ t.set i x := by
  rw [List.set_append_right _ _ (by rw [List.length_map, List.length_range]; omega), List.length_map, List.length_range, Nat.add_sub_cancel_left]
theorem rgS {α : Type} {n i : Nat} {f g : Nat → α} {t : List α} {x : α} (h : i < n) (hx : x = g i) (he : ∀ j, j ≠ i → f j = g j) : ((List.range n).map f ++ t).set i x = (List.range n).map g ++ t := by
  rw [List.set_append_left _ _ (by rw [List.length_map, List.length_range]; exact h)]
  congr 1
  refine List.ext_getElem? (fun j => ?_)
  rw [List.getElem?_set]
  by_cases e : i = j
  · subst e
    rw [if_pos rfl, if_pos (by rw [List.length_map, List.length_range]; exact h), List.getElem?_map, List.getElem?_range h, hx]
    rfl
  · rw [if_neg e, List.getElem?_map, List.getElem?_map]
    by_cases hj : j < n
    · rw [List.getElem?_range hj]
      exact congrArg some (he j (fun q => e q.symm))
    · rw [List.getElem?_eq_none (by rw [List.length_range]; omega)]
      rfl
theorem yB_len (ca : Nat → ClassId) (ad : Nat → Nat → Nat) (u : iST) : (yB ca ad u).length = 65 := rfl
theorem ybN {ca : Nat → ClassId} {ad : Nat → Nat → Nat} {u : iST} {t : va_W} {i : Nat} : (yB ca ad u ++ t)[65 + i]? = t[i]? := by
  rw [List.getElem?_append_right (by rw [yB_len]; omega), yB_len, Nat.add_sub_cancel_left]
theorem ybM {ca : Nat → ClassId} {ad : Nat → Nat → Nat} {u : iST} {t : va_W} {i : Nat} {x : Nat × va_E} : (yB ca ad u ++ t).set (65 + i) x = yB ca ad u ++ t.set i x := by
  rw [List.set_append_right _ _ (by rw [yB_len]; omega), yB_len, Nat.add_sub_cancel_left]
set_option maxRecDepth 100000 in
theorem yGo_0 {ca : Nat → ClassId} {ad : Nat → Nat → Nat} {u : iST} : (yCl ca ad u)[0]? = some (ad 0 0, .inr (0, yF0 ad u)) := rfl
set_option maxRecDepth 100000 in
theorem yGo_2 {ca : Nat → ClassId} {ad : Nat → Nat → Nat} {u : iST} : (yCl ca ad u)[1]? = some (ad 0 1, .inr (2, yF2 ad u)) := rfl
set_option maxRecDepth 100000 in
theorem yGo_3 {ca : Nat → ClassId} {ad : Nat → Nat → Nat} {u : iST} : (yCl ca ad u)[2]? = some (ad 0 2, .inr (3, yF3 ad u)) := rfl
set_option maxRecDepth 100000 in
theorem yGo_4 {ca : Nat → ClassId} {ad : Nat → Nat → Nat} {u : iST} : (yCl ca ad u)[3]? = some (ad 0 3, .inr (4, yF4 ad u)) := rfl
set_option maxRecDepth 100000 in
theorem yGo_5 {ca : Nat → ClassId} {ad : Nat → Nat → Nat} {u : iST} : (yCl ca ad u)[4]? = some (ad 0 4, .inr (5, yF5 ad u)) := rfl
set_option maxRecDepth 100000 in
theorem yGo_6 {ca : Nat → ClassId} {ad : Nat → Nat → Nat} {u : iST} : (yCl ca ad u)[5]? = some (ad 0 5, .inr (6, yF6 ad u)) := rfl
set_option maxRecDepth 100000 in
theorem yGo_7 {ca : Nat → ClassId} {ad : Nat → Nat → Nat} {u : iST} : (yCl ca ad u)[6]? = some (ad 0 6, .inr (7, yF7 ad u)) := rfl
set_option maxRecDepth 100000 in
theorem yGo_8 {ca : Nat → ClassId} {ad : Nat → Nat → Nat} {u : iST} : (yCl ca ad u)[7]? = some (ad 0 7, .inr (8, yF8 ad u)) := rfl
set_option maxRecDepth 100000 in
theorem yGo_10 {ca : Nat → ClassId} {ad : Nat → Nat → Nat} {u : iST} : (yCl ca ad u)[8]? = some (ad 0 8, .inr (10, yF10 ad u)) := rfl
set_option maxRecDepth 100000 in
theorem yGo_11 {ca : Nat → ClassId} {ad : Nat → Nat → Nat} {u : iST} : (yCl ca ad u)[9]? = some (ad 0 9, .inr (11, yF11 ad u)) := rfl
set_option maxRecDepth 100000 in
theorem yGa_0 {ca : Nat → ClassId} {ad : Nat → Nat → Nat} {u : iST} : (yCl ca ad u)[10]? = some (ad 1 0, .inl (ca 0, 40, .inl (fun j => jI (u.2.1 0 (j : Int))))) := rfl
set_option maxRecDepth 100000 in
theorem yGa_1 {ca : Nat → ClassId} {ad : Nat → Nat → Nat} {u : iST} : (yCl ca ad u)[11]? = some (ad 1 1, .inl (ca 0, 40, .inl (fun j => jI (u.2.1 1 (j : Int))))) := rfl
set_option maxRecDepth 100000 in
theorem yGa_2 {ca : Nat → ClassId} {ad : Nat → Nat → Nat} {u : iST} : (yCl ca ad u)[12]? = some (ad 1 2, .inl (ca 0, 40, .inl (fun j => jI (u.2.1 2 (j : Int))))) := rfl
set_option maxRecDepth 100000 in
theorem yGa_3 {ca : Nat → ClassId} {ad : Nat → Nat → Nat} {u : iST} : (yCl ca ad u)[13]? = some (ad 1 3, .inl (ca 0, 40, .inl (fun j => jI (u.2.1 3 (j : Int))))) := rfl
set_option maxRecDepth 100000 in
theorem yGa_4 {ca : Nat → ClassId} {ad : Nat → Nat → Nat} {u : iST} : (yCl ca ad u)[14]? = some (ad 1 4, .inl (ca 0, 40, .inl (fun j => jI (u.2.1 4 (j : Int))))) := rfl
set_option maxRecDepth 100000 in
theorem yGa_5 {ca : Nat → ClassId} {ad : Nat → Nat → Nat} {u : iST} : (yCl ca ad u)[15]? = some (ad 1 5, .inl (ca 0, 60, .inl (fun j => jI (u.2.1 5 (j : Int))))) := rfl
set_option maxRecDepth 100000 in
theorem yGa_6 {ca : Nat → ClassId} {ad : Nat → Nat → Nat} {u : iST} : (yCl ca ad u)[16]? = some (ad 1 6, .inl (ca 0, 60, .inl (fun j => jI (u.2.1 6 (j : Int))))) := rfl
set_option maxRecDepth 100000 in
theorem yGa_7 {ca : Nat → ClassId} {ad : Nat → Nat → Nat} {u : iST} : (yCl ca ad u)[17]? = some (ad 1 7, .inl (ca 0, 60, .inl (fun j => jI (u.2.1 7 (j : Int))))) := rfl
set_option maxRecDepth 100000 in
theorem yGa_8 {ca : Nat → ClassId} {ad : Nat → Nat → Nat} {u : iST} : (yCl ca ad u)[18]? = some (ad 1 8, .inl (ca 0, 60, .inl (fun j => jI (u.2.1 8 (j : Int))))) := rfl
set_option maxRecDepth 100000 in
theorem yGa_9 {ca : Nat → ClassId} {ad : Nat → Nat → Nat} {u : iST} : (yCl ca ad u)[19]? = some (ad 1 9, .inl (ca 0, 60, .inl (fun j => jI (u.2.1 9 (j : Int))))) := rfl
set_option maxRecDepth 100000 in
theorem yGa_10 {ca : Nat → ClassId} {ad : Nat → Nat → Nat} {u : iST} : (yCl ca ad u)[20]? = some (ad 1 10, .inl (ca 1, 60, .inl (fun j => jI (u.2.1 10 (j : Int))))) := rfl
set_option maxRecDepth 100000 in
theorem yGa_11 {ca : Nat → ClassId} {ad : Nat → Nat → Nat} {u : iST} : (yCl ca ad u)[21]? = some (ad 1 11, .inl (ca 1, 60, .inl (fun j => jI (u.2.1 11 (j : Int))))) := rfl
set_option maxRecDepth 100000 in
theorem yGa_12 {ca : Nat → ClassId} {ad : Nat → Nat → Nat} {u : iST} : (yCl ca ad u)[22]? = some (ad 1 12, .inl (ca 1, 60, .inl (fun j => jI (u.2.1 12 (j : Int))))) := rfl
set_option maxRecDepth 100000 in
theorem yGa_13 {ca : Nat → ClassId} {ad : Nat → Nat → Nat} {u : iST} : (yCl ca ad u)[23]? = some (ad 1 13, .inl (ca 1, 60, .inl (fun j => jI (u.2.1 13 (j : Int))))) := rfl
set_option maxRecDepth 100000 in
theorem yGa_14 {ca : Nat → ClassId} {ad : Nat → Nat → Nat} {u : iST} : (yCl ca ad u)[24]? = some (ad 1 14, .inl (ca 0, 100, .inl (fun j => jI (u.2.1 14 (j : Int))))) := rfl
set_option maxRecDepth 100000 in
theorem yGa_15 {ca : Nat → ClassId} {ad : Nat → Nat → Nat} {u : iST} : (yCl ca ad u)[25]? = some (ad 1 15, .inl (ca 0, 100, .inl (fun j => jI (u.2.1 15 (j : Int))))) := rfl
set_option maxRecDepth 100000 in
theorem yGa_16 {ca : Nat → ClassId} {ad : Nat → Nat → Nat} {u : iST} : (yCl ca ad u)[26]? = some (ad 1 16, .inl (ca 0, 300, .inl (fun j => jI (u.2.1 16 (j : Int))))) := rfl
set_option maxRecDepth 100000 in
theorem yGa_17 {ca : Nat → ClassId} {ad : Nat → Nat → Nat} {u : iST} : (yCl ca ad u)[27]? = some (ad 1 17, .inl (ca 0, 300, .inl (fun j => jI (u.2.1 17 (j : Int))))) := rfl
set_option maxRecDepth 100000 in
theorem yGa_18 {ca : Nat → ClassId} {ad : Nat → Nat → Nat} {u : iST} : (yCl ca ad u)[28]? = some (ad 1 18, .inl (ca 0, 300, .inl (fun j => jI (u.2.1 18 (j : Int))))) := rfl
set_option maxRecDepth 100000 in
theorem yGa_19 {ca : Nat → ClassId} {ad : Nat → Nat → Nat} {u : iST} : (yCl ca ad u)[29]? = some (ad 1 19, .inl (ca 1, 300, .inl (fun j => jI (u.2.1 19 (j : Int))))) := rfl
set_option maxRecDepth 100000 in
theorem yGa_20 {ca : Nat → ClassId} {ad : Nat → Nat → Nat} {u : iST} : (yCl ca ad u)[30]? = some (ad 1 20, .inl (ca 0, 300, .inl (fun j => jI (u.2.1 20 (j : Int))))) := rfl
set_option maxRecDepth 100000 in
theorem yGa_21 {ca : Nat → ClassId} {ad : Nat → Nat → Nat} {u : iST} : (yCl ca ad u)[31]? = some (ad 1 21, .inl (ca 0, 300, .inl (fun j => jI (u.2.1 21 (j : Int))))) := rfl
set_option maxRecDepth 100000 in
theorem yGa_22 {ca : Nat → ClassId} {ad : Nat → Nat → Nat} {u : iST} : (yCl ca ad u)[32]? = some (ad 1 22, .inl (ca 0, 1803, .inl (fun j => jI (u.2.1 22 (j : Int))))) := rfl
set_option maxRecDepth 100000 in
theorem yGa_23 {ca : Nat → ClassId} {ad : Nat → Nat → Nat} {u : iST} : (yCl ca ad u)[33]? = some (ad 1 23, .inl (ca 0, 41, .inl (fun j => jI (u.2.1 23 (j : Int))))) := rfl
set_option maxRecDepth 100000 in
theorem yGa_24 {ca : Nat → ClassId} {ad : Nat → Nat → Nat} {u : iST} : (yCl ca ad u)[34]? = some (ad 1 24, .inl (ca 0, 41, .inl (fun j => jI (u.2.1 24 (j : Int))))) := rfl
set_option maxRecDepth 100000 in
theorem yGa_25 {ca : Nat → ClassId} {ad : Nat → Nat → Nat} {u : iST} : (yCl ca ad u)[35]? = some (ad 1 25, .inl (ca 0, 41, .inl (fun j => jI (u.2.1 25 (j : Int))))) := rfl
set_option maxRecDepth 100000 in
theorem yGa_26 {ca : Nat → ClassId} {ad : Nat → Nat → Nat} {u : iST} : (yCl ca ad u)[36]? = some (ad 1 26, .inl (ca 0, 1000, .inl (fun j => jI (u.2.1 26 (j : Int))))) := rfl
set_option maxRecDepth 100000 in
theorem yGa_27 {ca : Nat → ClassId} {ad : Nat → Nat → Nat} {u : iST} : (yCl ca ad u)[37]? = some (ad 1 27, .inl (ca 0, 160000, .inl (fun j => jI (u.2.1 27 (j : Int))))) := rfl
set_option maxRecDepth 100000 in
theorem yGa_28 {ca : Nat → ClassId} {ad : Nat → Nat → Nat} {u : iST} : (yCl ca ad u)[38]? = some (ad 1 28, .inl (ca 0, 160000, .inl (fun j => jI (u.2.1 28 (j : Int))))) := rfl
set_option maxRecDepth 100000 in
theorem yGa_29 {ca : Nat → ClassId} {ad : Nat → Nat → Nat} {u : iST} : (yCl ca ad u)[39]? = some (ad 1 29, .inl (ca 0, 160000, .inl (fun j => jI (u.2.1 29 (j : Int))))) := rfl
set_option maxRecDepth 100000 in
theorem yGa_30 {ca : Nat → ClassId} {ad : Nat → Nat → Nat} {u : iST} : (yCl ca ad u)[40]? = some (ad 1 30, .inl (ca 0, 32768, .inl (fun j => jI (u.2.1 30 (j : Int))))) := rfl
set_option maxRecDepth 100000 in
theorem yGa_31 {ca : Nat → ClassId} {ad : Nat → Nat → Nat} {u : iST} : (yCl ca ad u)[41]? = some (ad 1 31, .inl (ca 0, 64, .inl (fun j => jI (u.2.1 31 (j : Int))))) := rfl
set_option maxRecDepth 100000 in
theorem yGa_32 {ca : Nat → ClassId} {ad : Nat → Nat → Nat} {u : iST} : (yCl ca ad u)[42]? = some (ad 1 32, .inl (ca 1, 64, .inl (fun j => jI (u.2.1 32 (j : Int))))) := rfl
set_option maxRecDepth 100000 in
theorem yGa_33 {ca : Nat → ClassId} {ad : Nat → Nat → Nat} {u : iST} : (yCl ca ad u)[43]? = some (ad 1 33, .inl (ca 0, 128, .inl (fun j => jI (u.2.1 33 (j : Int))))) := rfl
set_option maxRecDepth 100000 in
theorem yGa_34 {ca : Nat → ClassId} {ad : Nat → Nat → Nat} {u : iST} : (yCl ca ad u)[44]? = some (ad 1 34, .inl (ca 0, 6, .inl (fun j => jI (u.2.1 34 (j : Int))))) := rfl
set_option maxRecDepth 100000 in
theorem yGa_35 {ca : Nat → ClassId} {ad : Nat → Nat → Nat} {u : iST} : (yCl ca ad u)[45]? = some (ad 1 35, .inl (ca 0, 256, .inl (fun j => jI (u.2.1 35 (j : Int))))) := rfl
set_option maxRecDepth 100000 in
theorem yGa_36 {ca : Nat → ClassId} {ad : Nat → Nat → Nat} {u : iST} : (yCl ca ad u)[46]? = some (ad 1 36, .inl (ca 0, 256, .inl (fun j => jI (u.2.1 36 (j : Int))))) := rfl
set_option maxRecDepth 100000 in
theorem yGa_37 {ca : Nat → ClassId} {ad : Nat → Nat → Nat} {u : iST} : (yCl ca ad u)[47]? = some (ad 1 37, .inl (ca 0, 128, .inl (fun j => jI (u.2.1 37 (j : Int))))) := rfl
set_option maxRecDepth 100000 in
theorem yGa_38 {ca : Nat → ClassId} {ad : Nat → Nat → Nat} {u : iST} : (yCl ca ad u)[48]? = some (ad 1 38, .inl (ca 0, 128, .inl (fun j => jI (u.2.1 38 (j : Int))))) := rfl
set_option maxRecDepth 100000 in
theorem yGa_39 {ca : Nat → ClassId} {ad : Nat → Nat → Nat} {u : iST} : (yCl ca ad u)[49]? = some (ad 1 39, .inl (ca 0, 128, .inl (fun j => jI (u.2.1 39 (j : Int))))) := rfl
set_option maxRecDepth 100000 in
theorem yGa_40 {ca : Nat → ClassId} {ad : Nat → Nat → Nat} {u : iST} : (yCl ca ad u)[50]? = some (ad 1 40, .inl (ca 0, 768, .inl (fun j => jI (u.2.1 40 (j : Int))))) := rfl
set_option maxRecDepth 100000 in
theorem yGa_41 {ca : Nat → ClassId} {ad : Nat → Nat → Nat} {u : iST} : (yCl ca ad u)[51]? = some (ad 1 41, .inl (ca 0, 128, .inl (fun j => jI (u.2.1 41 (j : Int))))) := rfl
set_option maxRecDepth 100000 in
theorem yGa_42 {ca : Nat → ClassId} {ad : Nat → Nat → Nat} {u : iST} : (yCl ca ad u)[52]? = some (ad 1 42, .inl (ca 0, 128, .inl (fun j => jI (u.2.1 42 (j : Int))))) := rfl
set_option maxRecDepth 100000 in
theorem yGa_43 {ca : Nat → ClassId} {ad : Nat → Nat → Nat} {u : iST} : (yCl ca ad u)[53]? = some (ad 1 43, .inl (ca 0, 128, .inl (fun j => jI (u.2.1 43 (j : Int))))) := rfl
set_option maxRecDepth 100000 in
theorem yGa_44 {ca : Nat → ClassId} {ad : Nat → Nat → Nat} {u : iST} : (yCl ca ad u)[54]? = some (ad 1 44, .inl (ca 2, 3000, .inl (fun j => jI (u.2.1 44 (j : Int))))) := rfl
set_option maxRecDepth 100000 in
theorem yGa_45 {ca : Nat → ClassId} {ad : Nat → Nat → Nat} {u : iST} : (yCl ca ad u)[55]? = some (ad 1 45, .inl (ca 0, 5, .inl (fun j => jI (u.2.1 45 (j : Int))))) := rfl
set_option maxRecDepth 100000 in
theorem yGl {ca : Nat → ClassId} {ad : Nat → Nat → Nat} {u : iST} : (yCl ca ad u)[56]? = some (ad 2 0, .inl (ca 3, 160000, .inr (.inl (fun j => jL (u.2.2 (j : Int)))))) := rfl
set_option maxRecDepth 100000 in
theorem yGx_0 {ca : Nat → ClassId} {ad : Nat → Nat → Nat} {u : iST} : (yCl ca ad u)[57]? = some (ad 3 0, .inl (ca 4, 60, .inr (.inr (.inr (.inr (fun j => some (ad 6 j))))))) := rfl
set_option maxRecDepth 100000 in
theorem yGx_1 {ca : Nat → ClassId} {ad : Nat → Nat → Nat} {u : iST} : (yCl ca ad u)[58]? = some (ad 3 1, .inl (ca 4, 60, .inr (.inr (.inr (.inr (fun j => some (ad 7 j))))))) := rfl
set_option maxRecDepth 100000 in
theorem yGx_2 {ca : Nat → ClassId} {ad : Nat → Nat → Nat} {u : iST} : (yCl ca ad u)[59]? = some (ad 3 2, .inl (ca 4, 1000, .inr (.inr (.inr (.inr (fun j => some (ad 8 j))))))) := rfl
set_option maxRecDepth 100000 in
theorem yGx_3 {ca : Nat → ClassId} {ad : Nat → Nat → Nat} {u : iST} : (yCl ca ad u)[60]? = some (ad 3 3, .inl (ca 4, 40, .inr (.inr (.inr (.inr (fun j => some (ad 9 j))))))) := rfl
set_option maxRecDepth 100000 in
theorem yGx_4 {ca : Nat → ClassId} {ad : Nat → Nat → Nat} {u : iST} : (yCl ca ad u)[61]? = some (ad 3 4, .inl (ca 5, 120, .inr (.inr (.inr (.inr (fun j => some (ad 4 j))))))) := rfl
set_option maxRecDepth 100000 in
theorem yGx_5 {ca : Nat → ClassId} {ad : Nat → Nat → Nat} {u : iST} : (yCl ca ad u)[62]? = some (ad 3 5, .inl (ca 5, 10, .inr (.inr (.inr (.inr (fun j => some (ad 4 (120 + j)))))))) := rfl
set_option maxRecDepth 100000 in
theorem yGx_6 {ca : Nat → ClassId} {ad : Nat → Nat → Nat} {u : iST} : (yCl ca ad u)[63]? = some (ad 3 6, .inl (ca 5, 20, .inr (.inr (.inr (.inr (fun j => some (ad 4 (130 + j)))))))) := rfl
set_option maxRecDepth 100000 in
theorem yGx_7 {ca : Nat → ClassId} {ad : Nat → Nat → Nat} {u : iST} : (yCl ca ad u)[64]? = some (ad 3 7, .inl (ca 5, 256, .inr (.inr (.inr (.inr (fun j => some (ad 4 (u.2.1 57 (j : Int)).toNat))))))) := rfl
theorem yGf_clause {ca : Nat → ClassId} {ad : Nat → Nat → Nat} {u : iST} {i : Nat} (h : i < 408) : (yCl ca ad u)[65 + i]? = some ((ad 4 i, .inr (1, yF1 ad u i))) := by
  rw [show 65 + i = 65 + i from by omega]
  unfold yCl
  rw [ybN]
  exact rgG h
theorem yGf_lits {ca : Nat → ClassId} {ad : Nat → Nat → Nat} {u : iST} {i : Nat} (h : i < 408) : (yCl ca ad u)[473 + i]? = some ((ad 5 i, .inl (ca 0, 30, .inl (fun k => jI (if k < 30 then u.2.1 49 (30 * (i : Int) + (k : Int)) else 0))))) := by
  rw [show 473 + i = 65 + (408 + i) from by omega]
  unfold yCl
  rw [ybN, rgN]
  exact rgG h
theorem yGf_hyps {ca : Nat → ClassId} {ad : Nat → Nat → Nat} {u : iST} {i : Nat} (h : i < 60) : (yCl ca ad u)[881 + i]? = some ((ad 6 i, .inl (ca 0, 60, .inl (fun k => jI (if k < 60 then u.2.1 50 (60 * (i : Int) + (k : Int)) else 0))))) := by
  rw [show 881 + i = 65 + (408 + (408 + i)) from by omega]
  unfold yCl
  rw [ybN, rgN, rgN]
  exact rgG h
theorem yGf_frames {ca : Nat → ClassId} {ad : Nat → Nat → Nat} {u : iST} {i : Nat} (h : i < 60) : (yCl ca ad u)[941 + i]? = some ((ad 7 i, .inl (ca 0, 17, .inl (fun k => jI (if k < 17 then u.2.1 51 (17 * (i : Int) + (k : Int)) else 0))))) := by
  rw [show 941 + i = 65 + (408 + (408 + (60 + i))) from by omega]
  unfold yCl
  rw [ybN, rgN, rgN, rgN]
  exact rgG h
theorem yGf_notes {ca : Nat → ClassId} {ad : Nat → Nat → Nat} {u : iST} {i : Nat} (h : i < 1000) : (yCl ca ad u)[1001 + i]? = some ((ad 8 i, .inl (ca 0, 5, .inl (fun k => jI (if k < 5 then u.2.1 52 (5 * (i : Int) + (k : Int)) else 0))))) := by
  rw [show 1001 + i = 65 + (408 + (408 + (60 + (60 + i)))) from by omega]
  unfold yCl
  rw [ybN, rgN, rgN, rgN, rgN]
  exact rgG h
theorem yGf_pframes {ca : Nat → ClassId} {ad : Nat → Nat → Nat} {u : iST} {i : Nat} (h : i < 40) : (yCl ca ad u)[2001 + i]? = some ((ad 9 i, .inl (ca 0, 4, .inl (fun k => jI (if k < 4 then u.2.1 53 (4 * (i : Int) + (k : Int)) else 0))))) := by
  rw [show 2001 + i = 65 + (408 + (408 + (60 + (60 + (1000 + i))))) from by omega]
  unfold yCl
  rw [ybN, rgN, rgN, rgN, rgN, rgN]
  exact rgG h
theorem yGf_scribe {ca : Nat → ClassId} {ad : Nat → Nat → Nat} {u : iST} {i : Nat} (h : i < 3) : (yCl ca ad u)[2041 + i]? = some ((ad 10 i, .inr (9, yF9 ad u i))) := by
  rw [show 2041 + i = 65 + (408 + (408 + (60 + (60 + (1000 + (40 + i)))))) from by omega]
  unfold yCl
  rw [ybN, rgN, rgN, rgN, rgN, rgN, rgN]
  exact rgG h
theorem yGf_letters {ca : Nat → ClassId} {ad : Nat → Nat → Nat} {u : iST} {i : Nat} (h : i < 3) : (yCl ca ad u)[2044 + i]? = some ((ad 11 i, .inl (ca 2, slen i, .inl (fun k => jI (if k < 2000 then u.2.1 55 (2000 * (i : Int) + (k : Int)) else 0))))) := by
  rw [show 2044 + i = 65 + (408 + (408 + (60 + (60 + (1000 + (40 + (3 + i))))))) from by omega]
  unfold yCl
  rw [ybN, rgN, rgN, rgN, rgN, rgN, rgN, rgN]
  exact rgG h
theorem yGf_srests {ca : Nat → ClassId} {ad : Nat → Nat → Nat} {u : iST} {i : Nat} (h : i < 3) : (yCl ca ad u)[2047 + i]? = some ((ad 12 i, .inl (ca 0, slen i, .inl (fun k => jI (if k < 2000 then u.2.1 56 (2000 * (i : Int) + (k : Int)) else 0))))) := by
  rw [show 2047 + i = 65 + (408 + (408 + (60 + (60 + (1000 + (40 + (3 + (3 + i)))))))) from by omega]
  unfold yCl
  rw [ybN, rgN, rgN, rgN, rgN, rgN, rgN, rgN, rgN]
  exact rgG h
set_option maxRecDepth 100000 in
theorem yPs_0 {ca : Nat → ClassId} {ad : Nat → Nat → Nat} {u : iST} {v : Int} : (yCl ca ad u).set 0 (ad 0 0, .inr (0, (yF0 ad u).set 5 (.int (jI v)))) = yCl ca ad (iI u 0 v) := rfl
set_option maxRecDepth 100000 in
theorem yPs_1 {ca : Nat → ClassId} {ad : Nat → Nat → Nat} {u : iST} {v : Int} : (yCl ca ad u).set 0 (ad 0 0, .inr (0, (yF0 ad u).set 16 (.int (jI v)))) = yCl ca ad (iI u 1 v) := rfl
set_option maxRecDepth 100000 in
theorem yPs_2 {ca : Nat → ClassId} {ad : Nat → Nat → Nat} {u : iST} {v : Int} : (yCl ca ad u).set 0 (ad 0 0, .inr (0, (yF0 ad u).set 19 (.int (jI v)))) = yCl ca ad (iI u 2 v) := rfl
set_option maxRecDepth 100000 in
theorem yPs_3 {ca : Nat → ClassId} {ad : Nat → Nat → Nat} {u : iST} {v : Int} : (yCl ca ad u).set 0 (ad 0 0, .inr (0, (yF0 ad u).set 20 (.int (jI v)))) = yCl ca ad (iI u 3 v) := rfl
set_option maxRecDepth 100000 in
theorem yPs_4 {ca : Nat → ClassId} {ad : Nat → Nat → Nat} {u : iST} {v : Int} : (yCl ca ad u).set 1 (ad 0 1, .inr (2, (yF2 ad u).set 9 (.int (jI v)))) = yCl ca ad (iI u 4 v) := rfl
set_option maxRecDepth 100000 in
theorem yPs_5 {ca : Nat → ClassId} {ad : Nat → Nat → Nat} {u : iST} {v : Int} : (yCl ca ad u).set 1 (ad 0 1, .inr (2, (yF2 ad u).set 10 (.int (jI v)))) = yCl ca ad (iI u 5 v) := rfl
set_option maxRecDepth 100000 in
theorem yPs_6 {ca : Nat → ClassId} {ad : Nat → Nat → Nat} {u : iST} {v : Int} : (yCl ca ad u).set 1 (ad 0 1, .inr (2, (yF2 ad u).set 11 (.int (jI v)))) = yCl ca ad (iI u 6 v) := rfl
set_option maxRecDepth 100000 in
theorem yPs_7 {ca : Nat → ClassId} {ad : Nat → Nat → Nat} {u : iST} {v : Int} : (yCl ca ad u).set 1 (ad 0 1, .inr (2, (yF2 ad u).set 12 (.int (jI v)))) = yCl ca ad (iI u 7 v) := rfl
set_option maxRecDepth 100000 in
theorem yPs_8 {ca : Nat → ClassId} {ad : Nat → Nat → Nat} {u : iST} {v : Int} : (yCl ca ad u).set 1 (ad 0 1, .inr (2, (yF2 ad u).set 13 (.int (jI v)))) = yCl ca ad (iI u 8 v) := rfl
set_option maxRecDepth 100000 in
theorem yPs_9 {ca : Nat → ClassId} {ad : Nat → Nat → Nat} {u : iST} {v : Int} : (yCl ca ad u).set 1 (ad 0 1, .inr (2, (yF2 ad u).set 14 (.int (jI v)))) = yCl ca ad (iI u 9 v) := rfl
set_option maxRecDepth 100000 in
theorem yPs_10 {ca : Nat → ClassId} {ad : Nat → Nat → Nat} {u : iST} {v : Int} : (yCl ca ad u).set 2 (ad 0 2, .inr (3, (yF3 ad u).set 6 (.int (jI v)))) = yCl ca ad (iI u 10 v) := rfl
set_option maxRecDepth 100000 in
theorem yPs_11 {ca : Nat → ClassId} {ad : Nat → Nat → Nat} {u : iST} {v : Int} : (yCl ca ad u).set 2 (ad 0 2, .inr (3, (yF3 ad u).set 8 (.int (jI v)))) = yCl ca ad (iI u 11 v) := rfl
set_option maxRecDepth 100000 in
theorem yPs_12 {ca : Nat → ClassId} {ad : Nat → Nat → Nat} {u : iST} {v : Int} : (yCl ca ad u).set 2 (ad 0 2, .inr (3, (yF3 ad u).set 10 (.int (jI v)))) = yCl ca ad (iI u 12 v) := rfl
set_option maxRecDepth 100000 in
theorem yPs_13 {ca : Nat → ClassId} {ad : Nat → Nat → Nat} {u : iST} {v : Int} : (yCl ca ad u).set 3 (ad 0 3, .inr (4, (yF4 ad u).set 4 (.int (jI v)))) = yCl ca ad (iI u 13 v) := rfl
set_option maxRecDepth 100000 in
theorem yPs_14 {ca : Nat → ClassId} {ad : Nat → Nat → Nat} {u : iST} {v : Int} : (yCl ca ad u).set 3 (ad 0 3, .inr (4, (yF4 ad u).set 6 (.int (jI v)))) = yCl ca ad (iI u 14 v) := rfl
set_option maxRecDepth 100000 in
theorem yPs_15 {ca : Nat → ClassId} {ad : Nat → Nat → Nat} {u : iST} {v : Int} : (yCl ca ad u).set 3 (ad 0 3, .inr (4, (yF4 ad u).set 8 (.int (jI v)))) = yCl ca ad (iI u 15 v) := rfl
set_option maxRecDepth 100000 in
theorem yPs_16 {ca : Nat → ClassId} {ad : Nat → Nat → Nat} {u : iST} {v : Int} : (yCl ca ad u).set 3 (ad 0 3, .inr (4, (yF4 ad u).set 10 (.int (jI v)))) = yCl ca ad (iI u 16 v) := rfl
set_option maxRecDepth 100000 in
theorem yPs_17 {ca : Nat → ClassId} {ad : Nat → Nat → Nat} {u : iST} {v : Int} : (yCl ca ad u).set 4 (ad 0 4, .inr (5, (yF5 ad u).set 5 (.int (jI v)))) = yCl ca ad (iI u 17 v) := rfl
set_option maxRecDepth 100000 in
theorem yPs_18 {ca : Nat → ClassId} {ad : Nat → Nat → Nat} {u : iST} {v : Int} : (yCl ca ad u).set 4 (ad 0 4, .inr (5, (yF5 ad u).set 6 (.int (jI v)))) = yCl ca ad (iI u 18 v) := rfl
set_option maxRecDepth 100000 in
theorem yPs_19 {ca : Nat → ClassId} {ad : Nat → Nat → Nat} {u : iST} {v : Int} : (yCl ca ad u).set 4 (ad 0 4, .inr (5, (yF5 ad u).set 7 (.int (jI v)))) = yCl ca ad (iI u 19 v) := rfl
set_option maxRecDepth 100000 in
theorem yPs_20 {ca : Nat → ClassId} {ad : Nat → Nat → Nat} {u : iST} {v : Int} : (yCl ca ad u).set 4 (ad 0 4, .inr (5, (yF5 ad u).set 8 (.int (jI v)))) = yCl ca ad (iI u 20 v) := rfl
set_option maxRecDepth 100000 in
theorem yPs_21 {ca : Nat → ClassId} {ad : Nat → Nat → Nat} {u : iST} {v : Int} : (yCl ca ad u).set 4 (ad 0 4, .inr (5, (yF5 ad u).set 9 (.int (jI v)))) = yCl ca ad (iI u 21 v) := rfl
set_option maxRecDepth 100000 in
theorem yPs_22 {ca : Nat → ClassId} {ad : Nat → Nat → Nat} {u : iST} {v : Int} : (yCl ca ad u).set 4 (ad 0 4, .inr (5, (yF5 ad u).set 10 (.int (jI v)))) = yCl ca ad (iI u 22 v) := rfl
set_option maxRecDepth 100000 in
theorem yPs_23 {ca : Nat → ClassId} {ad : Nat → Nat → Nat} {u : iST} {v : Int} : (yCl ca ad u).set 5 (ad 0 5, .inr (6, (yF6 ad u).set 7 (.int (jI v)))) = yCl ca ad (iI u 23 v) := rfl
set_option maxRecDepth 100000 in
theorem yPs_24 {ca : Nat → ClassId} {ad : Nat → Nat → Nat} {u : iST} {v : Int} : (yCl ca ad u).set 5 (ad 0 5, .inr (6, (yF6 ad u).set 8 (.int (jI v)))) = yCl ca ad (iI u 24 v) := rfl
set_option maxRecDepth 100000 in
theorem yPs_25 {ca : Nat → ClassId} {ad : Nat → Nat → Nat} {u : iST} {v : Int} : (yCl ca ad u).set 5 (ad 0 5, .inr (6, (yF6 ad u).set 9 (.int (jI v)))) = yCl ca ad (iI u 25 v) := rfl
set_option maxRecDepth 100000 in
theorem yPs_26 {ca : Nat → ClassId} {ad : Nat → Nat → Nat} {u : iST} {v : Int} : (yCl ca ad u).set 5 (ad 0 5, .inr (6, (yF6 ad u).set 11 (.int (jI v)))) = yCl ca ad (iI u 26 v) := rfl
set_option maxRecDepth 100000 in
theorem yPs_27 {ca : Nat → ClassId} {ad : Nat → Nat → Nat} {u : iST} {v : Int} : (yCl ca ad u).set 5 (ad 0 5, .inr (6, (yF6 ad u).set 12 (.int (jI v)))) = yCl ca ad (iI u 27 v) := rfl
set_option maxRecDepth 100000 in
theorem yPs_28 {ca : Nat → ClassId} {ad : Nat → Nat → Nat} {u : iST} {v : Int} : (yCl ca ad u).set 5 (ad 0 5, .inr (6, (yF6 ad u).set 13 (.int (jI v)))) = yCl ca ad (iI u 28 v) := rfl
set_option maxRecDepth 100000 in
theorem yPs_29 {ca : Nat → ClassId} {ad : Nat → Nat → Nat} {u : iST} {v : Int} : (yCl ca ad u).set 6 (ad 0 6, .inr (7, (yF7 ad u).set 5 (.int (jI v)))) = yCl ca ad (iI u 29 v) := rfl
set_option maxRecDepth 100000 in
theorem yPs_30 {ca : Nat → ClassId} {ad : Nat → Nat → Nat} {u : iST} {v : Int} : (yCl ca ad u).set 6 (ad 0 6, .inr (7, (yF7 ad u).set 6 (.int (jI v)))) = yCl ca ad (iI u 30 v) := rfl
set_option maxRecDepth 100000 in
theorem yPs_31 {ca : Nat → ClassId} {ad : Nat → Nat → Nat} {u : iST} {v : Int} : (yCl ca ad u).set 6 (ad 0 6, .inr (7, (yF7 ad u).set 7 (.int (jI v)))) = yCl ca ad (iI u 31 v) := rfl
set_option maxRecDepth 100000 in
theorem yPs_32 {ca : Nat → ClassId} {ad : Nat → Nat → Nat} {u : iST} {v : Int} : (yCl ca ad u).set 6 (ad 0 6, .inr (7, (yF7 ad u).set 8 (.int (jI v)))) = yCl ca ad (iI u 32 v) := rfl
set_option maxRecDepth 100000 in
theorem yPs_33 {ca : Nat → ClassId} {ad : Nat → Nat → Nat} {u : iST} {v : Int} : (yCl ca ad u).set 7 (ad 0 7, .inr (8, (yF8 ad u).set 5 (.int (jI v)))) = yCl ca ad (iI u 33 v) := rfl
set_option maxRecDepth 100000 in
theorem yPs_34 {ca : Nat → ClassId} {ad : Nat → Nat → Nat} {u : iST} {v : Int} : (yCl ca ad u).set 7 (ad 0 7, .inr (8, (yF8 ad u).set 6 (.int (jI v)))) = yCl ca ad (iI u 34 v) := rfl
set_option maxRecDepth 100000 in
theorem yPs_35 {ca : Nat → ClassId} {ad : Nat → Nat → Nat} {u : iST} {v : Int} : (yCl ca ad u).set 7 (ad 0 7, .inr (8, (yF8 ad u).set 8 (.int (jI v)))) = yCl ca ad (iI u 35 v) := rfl
set_option maxRecDepth 100000 in
theorem yPs_36 {ca : Nat → ClassId} {ad : Nat → Nat → Nat} {u : iST} {v : Int} : (yCl ca ad u).set 7 (ad 0 7, .inr (8, (yF8 ad u).set 10 (.int (jI v)))) = yCl ca ad (iI u 36 v) := rfl
set_option maxRecDepth 100000 in
theorem yPs_37 {ca : Nat → ClassId} {ad : Nat → Nat → Nat} {u : iST} {v : Int} : (yCl ca ad u).set 8 (ad 0 8, .inr (10, (yF10 ad u).set 2 (.int (jI v)))) = yCl ca ad (iI u 37 v) := rfl
set_option maxRecDepth 100000 in
theorem yPs_38 {ca : Nat → ClassId} {ad : Nat → Nat → Nat} {u : iST} {v : Int} : (yCl ca ad u).set 8 (ad 0 8, .inr (10, (yF10 ad u).set 3 (.int (jI v)))) = yCl ca ad (iI u 38 v) := rfl
set_option maxRecDepth 100000 in
theorem yPs_39 {ca : Nat → ClassId} {ad : Nat → Nat → Nat} {u : iST} {v : Int} : (yCl ca ad u).set 8 (ad 0 8, .inr (10, (yF10 ad u).set 6 (.int (jI v)))) = yCl ca ad (iI u 39 v) := rfl
set_option maxRecDepth 100000 in
theorem yPs_40 {ca : Nat → ClassId} {ad : Nat → Nat → Nat} {u : iST} {v : Int} : (yCl ca ad u).set 8 (ad 0 8, .inr (10, (yF10 ad u).set 7 (.int (jI v)))) = yCl ca ad (iI u 40 v) := rfl
set_option maxRecDepth 100000 in
theorem yPs_41 {ca : Nat → ClassId} {ad : Nat → Nat → Nat} {u : iST} {v : Int} : (yCl ca ad u).set 8 (ad 0 8, .inr (10, (yF10 ad u).set 8 (.int (jI v)))) = yCl ca ad (iI u 41 v) := rfl
set_option maxRecDepth 100000 in
theorem yPs_42 {ca : Nat → ClassId} {ad : Nat → Nat → Nat} {u : iST} {v : Int} : (yCl ca ad u).set 9 (ad 0 9, .inr (11, (yF11 ad u).set 11 (.int (jI v)))) = yCl ca ad (iI u 42 v) := rfl
set_option maxRecDepth 100000 in
theorem yPs_43 {ca : Nat → ClassId} {ad : Nat → Nat → Nat} {u : iST} {v : Int} : (yCl ca ad u).set 9 (ad 0 9, .inr (11, (yF11 ad u).set 13 (.int (jI v)))) = yCl ca ad (iI u 43 v) := rfl
set_option maxRecDepth 100000 in
theorem yPs_44 {ca : Nat → ClassId} {ad : Nat → Nat → Nat} {u : iST} {v : Int} : (yCl ca ad u).set 9 (ad 0 9, .inr (11, (yF11 ad u).set 14 (.int (jI v)))) = yCl ca ad (iI u 44 v) := rfl
set_option maxRecDepth 100000 in
theorem yPs_45 {ca : Nat → ClassId} {ad : Nat → Nat → Nat} {u : iST} {v : Int} : (yCl ca ad u).set 9 (ad 0 9, .inr (11, (yF11 ad u).set 15 (.int (jI v)))) = yCl ca ad (iI u 45 v) := rfl
set_option maxRecDepth 100000 in
theorem yPs_46 {ca : Nat → ClassId} {ad : Nat → Nat → Nat} {u : iST} {v : Int} : (yCl ca ad u).set 9 (ad 0 9, .inr (11, (yF11 ad u).set 16 (.int (jI v)))) = yCl ca ad (iI u 46 v) := rfl
set_option maxRecDepth 100000 in
theorem yPs_47 {ca : Nat → ClassId} {ad : Nat → Nat → Nat} {u : iST} {v : Int} : (yCl ca ad u).set 9 (ad 0 9, .inr (11, (yF11 ad u).set 17 (.int (jI v)))) = yCl ca ad (iI u 47 v) := rfl
set_option maxRecDepth 100000 in
theorem yPs_48 {ca : Nat → ClassId} {ad : Nat → Nat → Nat} {u : iST} {v : Int} : (yCl ca ad u).set 9 (ad 0 9, .inr (11, (yF11 ad u).set 18 (.int (jI v)))) = yCl ca ad (iI u 48 v) := rfl
set_option maxRecDepth 100000 in
theorem yPs_49 {ca : Nat → ClassId} {ad : Nat → Nat → Nat} {u : iST} {v : Int} : (yCl ca ad u).set 9 (ad 0 9, .inr (11, (yF11 ad u).set 19 (.int (jI v)))) = yCl ca ad (iI u 49 v) := rfl
set_option maxRecDepth 100000 in
theorem yPs_50 {ca : Nat → ClassId} {ad : Nat → Nat → Nat} {u : iST} {v : Int} : (yCl ca ad u).set 9 (ad 0 9, .inr (11, (yF11 ad u).set 20 (.int (jI v)))) = yCl ca ad (iI u 50 v) := rfl
theorem upd_i {u : iST} {r : Nat} {i v : Int} (h0 : 0 ≤ i) : upd (fun j => jI (u.2.1 r (j : Int))) i.toNat (jI v) = fun (j : Nat) => jI ((iA u r i v).2.1 r (j : Int)) := by
  funext n
  show (if n = i.toNat then jI v else jI (u.2.1 r (n : Int))) = jI ((if r = r then (fun x => if x = i then v else u.2.1 r x) else u.2.1 r) (n : Int))
  rw [if_pos rfl]
  show _ = jI (if (n : Int) = i then v else u.2.1 r (n : Int))
  by_cases hn : n = i.toNat
  · rw [if_pos hn, if_pos (by omega)]
  · rw [if_neg hn, if_neg (by omega)]
theorem upd_f {u : iST} {r S : Nat} {i : Nat} {j v : Int} (h0 : 0 ≤ j) (h1 : j < S) : upd (fun k => jI (if k < S then u.2.1 r ((S : Int) * (i : Int) + (k : Int)) else 0)) j.toNat (jI v) = fun (k : Nat) => jI (if k < S then (iA u r ((S : Int) * (i : Int) + j) v).2.1 r ((S : Int) * (i : Int) + (k : Int)) else 0) := by
  funext n
  show (if n = j.toNat then jI v else jI (if n < S then u.2.1 r ((S : Int) * (i : Int) + (n : Int)) else 0)) = jI (if n < S then ((if r = r then (fun x => if x = (S : Int) * (i : Int) + j then v else u.2.1 r x) else u.2.1 r) ((S : Int) * (i : Int) + (n : Int))) else 0)
  rw [if_pos (rfl : r = r)]
  by_cases hn : n = j.toNat
  · rw [if_pos hn, if_pos (by omega), if_pos (by omega)]
  · rw [if_neg hn]
    by_cases hs : n < S
    · rw [if_pos hs, if_pos hs, if_neg (by omega)]
    · rw [if_neg hs, if_neg hs]
theorem upd_o {u : iST} {r S : Nat} {i i' : Nat} {j v : Int} (h0 : 0 ≤ j) (h1 : j < S) (hi : i' ≠ i) : (fun (k : Nat) => jI (if k < S then u.2.1 r ((S : Int) * (i' : Int) + (k : Int)) else 0)) = fun (k : Nat) => jI (if k < S then (iA u r ((S : Int) * (i : Int) + j) v).2.1 r ((S : Int) * (i' : Int) + (k : Int)) else 0) := by
  funext n
  show jI (if n < S then u.2.1 r ((S : Int) * (i' : Int) + (n : Int)) else 0) = jI (if n < S then ((if r = r then (fun x => if x = (S : Int) * (i : Int) + j then v else u.2.1 r x) else u.2.1 r) ((S : Int) * (i' : Int) + (n : Int))) else 0)
  rw [if_pos (rfl : r = r)]
  by_cases hs : n < S
  · rw [if_pos hs, if_pos hs]
    have e : ¬ ((S : Int) * (i' : Int) + (n : Int) = (S : Int) * (i : Int) + j) := fun q => by
      have n1 : (n : Int) < S := by omega
      rcases Int.lt_or_gt_of_ne (show (i' : Int) ≠ i by omega) with z | z
      · have : (S : Int) * ((i' : Int) + 1) ≤ S * i := Int.mul_le_mul_of_nonneg_left (by omega) (by omega)
        rw [Int.mul_add] at this
        omega
      · have : (S : Int) * ((i : Int) + 1) ≤ S * i' := Int.mul_le_mul_of_nonneg_left (by omega) (by omega)
        rw [Int.mul_add] at this
        omega
    rw [if_neg e]
  · rw [if_neg hs, if_neg hs]
set_option maxRecDepth 100000 in
theorem yPa_0 {ca : Nat → ClassId} {ad : Nat → Nat → Nat} {u : iST} {i v : Int} (h0 : 0 ≤ i) : (yCl ca ad u).set 10 (ad 1 0, .inl (ca 0, 40, .inl (upd (fun j => jI (u.2.1 0 (j : Int))) i.toNat (jI v)))) = yCl ca ad (iA u 0 i v) := by
  rw [upd_i h0]
  rfl
set_option maxRecDepth 100000 in
theorem yPa_1 {ca : Nat → ClassId} {ad : Nat → Nat → Nat} {u : iST} {i v : Int} (h0 : 0 ≤ i) : (yCl ca ad u).set 11 (ad 1 1, .inl (ca 0, 40, .inl (upd (fun j => jI (u.2.1 1 (j : Int))) i.toNat (jI v)))) = yCl ca ad (iA u 1 i v) := by
  rw [upd_i h0]
  rfl
set_option maxRecDepth 100000 in
theorem yPa_2 {ca : Nat → ClassId} {ad : Nat → Nat → Nat} {u : iST} {i v : Int} (h0 : 0 ≤ i) : (yCl ca ad u).set 12 (ad 1 2, .inl (ca 0, 40, .inl (upd (fun j => jI (u.2.1 2 (j : Int))) i.toNat (jI v)))) = yCl ca ad (iA u 2 i v) := by
  rw [upd_i h0]
  rfl
set_option maxRecDepth 100000 in
theorem yPa_3 {ca : Nat → ClassId} {ad : Nat → Nat → Nat} {u : iST} {i v : Int} (h0 : 0 ≤ i) : (yCl ca ad u).set 13 (ad 1 3, .inl (ca 0, 40, .inl (upd (fun j => jI (u.2.1 3 (j : Int))) i.toNat (jI v)))) = yCl ca ad (iA u 3 i v) := by
  rw [upd_i h0]
  rfl
set_option maxRecDepth 100000 in
theorem yPa_4 {ca : Nat → ClassId} {ad : Nat → Nat → Nat} {u : iST} {i v : Int} (h0 : 0 ≤ i) : (yCl ca ad u).set 14 (ad 1 4, .inl (ca 0, 40, .inl (upd (fun j => jI (u.2.1 4 (j : Int))) i.toNat (jI v)))) = yCl ca ad (iA u 4 i v) := by
  rw [upd_i h0]
  rfl
set_option maxRecDepth 100000 in
theorem yPa_5 {ca : Nat → ClassId} {ad : Nat → Nat → Nat} {u : iST} {i v : Int} (h0 : 0 ≤ i) : (yCl ca ad u).set 15 (ad 1 5, .inl (ca 0, 60, .inl (upd (fun j => jI (u.2.1 5 (j : Int))) i.toNat (jI v)))) = yCl ca ad (iA u 5 i v) := by
  rw [upd_i h0]
  rfl
set_option maxRecDepth 100000 in
theorem yPa_6 {ca : Nat → ClassId} {ad : Nat → Nat → Nat} {u : iST} {i v : Int} (h0 : 0 ≤ i) : (yCl ca ad u).set 16 (ad 1 6, .inl (ca 0, 60, .inl (upd (fun j => jI (u.2.1 6 (j : Int))) i.toNat (jI v)))) = yCl ca ad (iA u 6 i v) := by
  rw [upd_i h0]
  rfl
set_option maxRecDepth 100000 in
theorem yPa_7 {ca : Nat → ClassId} {ad : Nat → Nat → Nat} {u : iST} {i v : Int} (h0 : 0 ≤ i) : (yCl ca ad u).set 17 (ad 1 7, .inl (ca 0, 60, .inl (upd (fun j => jI (u.2.1 7 (j : Int))) i.toNat (jI v)))) = yCl ca ad (iA u 7 i v) := by
  rw [upd_i h0]
  rfl
set_option maxRecDepth 100000 in
theorem yPa_8 {ca : Nat → ClassId} {ad : Nat → Nat → Nat} {u : iST} {i v : Int} (h0 : 0 ≤ i) : (yCl ca ad u).set 18 (ad 1 8, .inl (ca 0, 60, .inl (upd (fun j => jI (u.2.1 8 (j : Int))) i.toNat (jI v)))) = yCl ca ad (iA u 8 i v) := by
  rw [upd_i h0]
  rfl
set_option maxRecDepth 100000 in
theorem yPa_9 {ca : Nat → ClassId} {ad : Nat → Nat → Nat} {u : iST} {i v : Int} (h0 : 0 ≤ i) : (yCl ca ad u).set 19 (ad 1 9, .inl (ca 0, 60, .inl (upd (fun j => jI (u.2.1 9 (j : Int))) i.toNat (jI v)))) = yCl ca ad (iA u 9 i v) := by
  rw [upd_i h0]
  rfl
set_option maxRecDepth 100000 in
theorem yPa_10 {ca : Nat → ClassId} {ad : Nat → Nat → Nat} {u : iST} {i v : Int} (h0 : 0 ≤ i) : (yCl ca ad u).set 20 (ad 1 10, .inl (ca 1, 60, .inl (upd (fun j => jI (u.2.1 10 (j : Int))) i.toNat (jI v)))) = yCl ca ad (iA u 10 i v) := by
  rw [upd_i h0]
  rfl
set_option maxRecDepth 100000 in
theorem yPa_11 {ca : Nat → ClassId} {ad : Nat → Nat → Nat} {u : iST} {i v : Int} (h0 : 0 ≤ i) : (yCl ca ad u).set 21 (ad 1 11, .inl (ca 1, 60, .inl (upd (fun j => jI (u.2.1 11 (j : Int))) i.toNat (jI v)))) = yCl ca ad (iA u 11 i v) := by
  rw [upd_i h0]
  rfl
set_option maxRecDepth 100000 in
theorem yPa_12 {ca : Nat → ClassId} {ad : Nat → Nat → Nat} {u : iST} {i v : Int} (h0 : 0 ≤ i) : (yCl ca ad u).set 22 (ad 1 12, .inl (ca 1, 60, .inl (upd (fun j => jI (u.2.1 12 (j : Int))) i.toNat (jI v)))) = yCl ca ad (iA u 12 i v) := by
  rw [upd_i h0]
  rfl
set_option maxRecDepth 100000 in
theorem yPa_13 {ca : Nat → ClassId} {ad : Nat → Nat → Nat} {u : iST} {i v : Int} (h0 : 0 ≤ i) : (yCl ca ad u).set 23 (ad 1 13, .inl (ca 1, 60, .inl (upd (fun j => jI (u.2.1 13 (j : Int))) i.toNat (jI v)))) = yCl ca ad (iA u 13 i v) := by
  rw [upd_i h0]
  rfl
set_option maxRecDepth 100000 in
theorem yPa_14 {ca : Nat → ClassId} {ad : Nat → Nat → Nat} {u : iST} {i v : Int} (h0 : 0 ≤ i) : (yCl ca ad u).set 24 (ad 1 14, .inl (ca 0, 100, .inl (upd (fun j => jI (u.2.1 14 (j : Int))) i.toNat (jI v)))) = yCl ca ad (iA u 14 i v) := by
  rw [upd_i h0]
  rfl
set_option maxRecDepth 100000 in
theorem yPa_15 {ca : Nat → ClassId} {ad : Nat → Nat → Nat} {u : iST} {i v : Int} (h0 : 0 ≤ i) : (yCl ca ad u).set 25 (ad 1 15, .inl (ca 0, 100, .inl (upd (fun j => jI (u.2.1 15 (j : Int))) i.toNat (jI v)))) = yCl ca ad (iA u 15 i v) := by
  rw [upd_i h0]
  rfl
set_option maxRecDepth 100000 in
theorem yPa_16 {ca : Nat → ClassId} {ad : Nat → Nat → Nat} {u : iST} {i v : Int} (h0 : 0 ≤ i) : (yCl ca ad u).set 26 (ad 1 16, .inl (ca 0, 300, .inl (upd (fun j => jI (u.2.1 16 (j : Int))) i.toNat (jI v)))) = yCl ca ad (iA u 16 i v) := by
  rw [upd_i h0]
  rfl
set_option maxRecDepth 100000 in
theorem yPa_17 {ca : Nat → ClassId} {ad : Nat → Nat → Nat} {u : iST} {i v : Int} (h0 : 0 ≤ i) : (yCl ca ad u).set 27 (ad 1 17, .inl (ca 0, 300, .inl (upd (fun j => jI (u.2.1 17 (j : Int))) i.toNat (jI v)))) = yCl ca ad (iA u 17 i v) := by
  rw [upd_i h0]
  rfl
set_option maxRecDepth 100000 in
theorem yPa_18 {ca : Nat → ClassId} {ad : Nat → Nat → Nat} {u : iST} {i v : Int} (h0 : 0 ≤ i) : (yCl ca ad u).set 28 (ad 1 18, .inl (ca 0, 300, .inl (upd (fun j => jI (u.2.1 18 (j : Int))) i.toNat (jI v)))) = yCl ca ad (iA u 18 i v) := by
  rw [upd_i h0]
  rfl
set_option maxRecDepth 100000 in
theorem yPa_19 {ca : Nat → ClassId} {ad : Nat → Nat → Nat} {u : iST} {i v : Int} (h0 : 0 ≤ i) : (yCl ca ad u).set 29 (ad 1 19, .inl (ca 1, 300, .inl (upd (fun j => jI (u.2.1 19 (j : Int))) i.toNat (jI v)))) = yCl ca ad (iA u 19 i v) := by
  rw [upd_i h0]
  rfl
set_option maxRecDepth 100000 in
theorem yPa_20 {ca : Nat → ClassId} {ad : Nat → Nat → Nat} {u : iST} {i v : Int} (h0 : 0 ≤ i) : (yCl ca ad u).set 30 (ad 1 20, .inl (ca 0, 300, .inl (upd (fun j => jI (u.2.1 20 (j : Int))) i.toNat (jI v)))) = yCl ca ad (iA u 20 i v) := by
  rw [upd_i h0]
  rfl
set_option maxRecDepth 100000 in
theorem yPa_21 {ca : Nat → ClassId} {ad : Nat → Nat → Nat} {u : iST} {i v : Int} (h0 : 0 ≤ i) : (yCl ca ad u).set 31 (ad 1 21, .inl (ca 0, 300, .inl (upd (fun j => jI (u.2.1 21 (j : Int))) i.toNat (jI v)))) = yCl ca ad (iA u 21 i v) := by
  rw [upd_i h0]
  rfl
set_option maxRecDepth 100000 in
theorem yPa_22 {ca : Nat → ClassId} {ad : Nat → Nat → Nat} {u : iST} {i v : Int} (h0 : 0 ≤ i) : (yCl ca ad u).set 32 (ad 1 22, .inl (ca 0, 1803, .inl (upd (fun j => jI (u.2.1 22 (j : Int))) i.toNat (jI v)))) = yCl ca ad (iA u 22 i v) := by
  rw [upd_i h0]
  rfl
set_option maxRecDepth 100000 in
theorem yPa_23 {ca : Nat → ClassId} {ad : Nat → Nat → Nat} {u : iST} {i v : Int} (h0 : 0 ≤ i) : (yCl ca ad u).set 33 (ad 1 23, .inl (ca 0, 41, .inl (upd (fun j => jI (u.2.1 23 (j : Int))) i.toNat (jI v)))) = yCl ca ad (iA u 23 i v) := by
  rw [upd_i h0]
  rfl
set_option maxRecDepth 100000 in
theorem yPa_24 {ca : Nat → ClassId} {ad : Nat → Nat → Nat} {u : iST} {i v : Int} (h0 : 0 ≤ i) : (yCl ca ad u).set 34 (ad 1 24, .inl (ca 0, 41, .inl (upd (fun j => jI (u.2.1 24 (j : Int))) i.toNat (jI v)))) = yCl ca ad (iA u 24 i v) := by
  rw [upd_i h0]
  rfl
set_option maxRecDepth 100000 in
theorem yPa_25 {ca : Nat → ClassId} {ad : Nat → Nat → Nat} {u : iST} {i v : Int} (h0 : 0 ≤ i) : (yCl ca ad u).set 35 (ad 1 25, .inl (ca 0, 41, .inl (upd (fun j => jI (u.2.1 25 (j : Int))) i.toNat (jI v)))) = yCl ca ad (iA u 25 i v) := by
  rw [upd_i h0]
  rfl
set_option maxRecDepth 100000 in
theorem yPa_26 {ca : Nat → ClassId} {ad : Nat → Nat → Nat} {u : iST} {i v : Int} (h0 : 0 ≤ i) : (yCl ca ad u).set 36 (ad 1 26, .inl (ca 0, 1000, .inl (upd (fun j => jI (u.2.1 26 (j : Int))) i.toNat (jI v)))) = yCl ca ad (iA u 26 i v) := by
  rw [upd_i h0]
  rfl
set_option maxRecDepth 100000 in
theorem yPa_27 {ca : Nat → ClassId} {ad : Nat → Nat → Nat} {u : iST} {i v : Int} (h0 : 0 ≤ i) : (yCl ca ad u).set 37 (ad 1 27, .inl (ca 0, 160000, .inl (upd (fun j => jI (u.2.1 27 (j : Int))) i.toNat (jI v)))) = yCl ca ad (iA u 27 i v) := by
  rw [upd_i h0]
  rfl
set_option maxRecDepth 100000 in
theorem yPa_28 {ca : Nat → ClassId} {ad : Nat → Nat → Nat} {u : iST} {i v : Int} (h0 : 0 ≤ i) : (yCl ca ad u).set 38 (ad 1 28, .inl (ca 0, 160000, .inl (upd (fun j => jI (u.2.1 28 (j : Int))) i.toNat (jI v)))) = yCl ca ad (iA u 28 i v) := by
  rw [upd_i h0]
  rfl
set_option maxRecDepth 100000 in
theorem yPa_29 {ca : Nat → ClassId} {ad : Nat → Nat → Nat} {u : iST} {i v : Int} (h0 : 0 ≤ i) : (yCl ca ad u).set 39 (ad 1 29, .inl (ca 0, 160000, .inl (upd (fun j => jI (u.2.1 29 (j : Int))) i.toNat (jI v)))) = yCl ca ad (iA u 29 i v) := by
  rw [upd_i h0]
  rfl
set_option maxRecDepth 100000 in
theorem yPa_30 {ca : Nat → ClassId} {ad : Nat → Nat → Nat} {u : iST} {i v : Int} (h0 : 0 ≤ i) : (yCl ca ad u).set 40 (ad 1 30, .inl (ca 0, 32768, .inl (upd (fun j => jI (u.2.1 30 (j : Int))) i.toNat (jI v)))) = yCl ca ad (iA u 30 i v) := by
  rw [upd_i h0]
  rfl
set_option maxRecDepth 100000 in
theorem yPa_31 {ca : Nat → ClassId} {ad : Nat → Nat → Nat} {u : iST} {i v : Int} (h0 : 0 ≤ i) : (yCl ca ad u).set 41 (ad 1 31, .inl (ca 0, 64, .inl (upd (fun j => jI (u.2.1 31 (j : Int))) i.toNat (jI v)))) = yCl ca ad (iA u 31 i v) := by
  rw [upd_i h0]
  rfl
set_option maxRecDepth 100000 in
theorem yPa_32 {ca : Nat → ClassId} {ad : Nat → Nat → Nat} {u : iST} {i v : Int} (h0 : 0 ≤ i) : (yCl ca ad u).set 42 (ad 1 32, .inl (ca 1, 64, .inl (upd (fun j => jI (u.2.1 32 (j : Int))) i.toNat (jI v)))) = yCl ca ad (iA u 32 i v) := by
  rw [upd_i h0]
  rfl
set_option maxRecDepth 100000 in
theorem yPa_33 {ca : Nat → ClassId} {ad : Nat → Nat → Nat} {u : iST} {i v : Int} (h0 : 0 ≤ i) : (yCl ca ad u).set 43 (ad 1 33, .inl (ca 0, 128, .inl (upd (fun j => jI (u.2.1 33 (j : Int))) i.toNat (jI v)))) = yCl ca ad (iA u 33 i v) := by
  rw [upd_i h0]
  rfl
set_option maxRecDepth 100000 in
theorem yPa_34 {ca : Nat → ClassId} {ad : Nat → Nat → Nat} {u : iST} {i v : Int} (h0 : 0 ≤ i) : (yCl ca ad u).set 44 (ad 1 34, .inl (ca 0, 6, .inl (upd (fun j => jI (u.2.1 34 (j : Int))) i.toNat (jI v)))) = yCl ca ad (iA u 34 i v) := by
  rw [upd_i h0]
  rfl
set_option maxRecDepth 100000 in
theorem yPa_35 {ca : Nat → ClassId} {ad : Nat → Nat → Nat} {u : iST} {i v : Int} (h0 : 0 ≤ i) : (yCl ca ad u).set 45 (ad 1 35, .inl (ca 0, 256, .inl (upd (fun j => jI (u.2.1 35 (j : Int))) i.toNat (jI v)))) = yCl ca ad (iA u 35 i v) := by
  rw [upd_i h0]
  rfl
set_option maxRecDepth 100000 in
theorem yPa_36 {ca : Nat → ClassId} {ad : Nat → Nat → Nat} {u : iST} {i v : Int} (h0 : 0 ≤ i) : (yCl ca ad u).set 46 (ad 1 36, .inl (ca 0, 256, .inl (upd (fun j => jI (u.2.1 36 (j : Int))) i.toNat (jI v)))) = yCl ca ad (iA u 36 i v) := by
  rw [upd_i h0]
  rfl
set_option maxRecDepth 100000 in
theorem yPa_37 {ca : Nat → ClassId} {ad : Nat → Nat → Nat} {u : iST} {i v : Int} (h0 : 0 ≤ i) : (yCl ca ad u).set 47 (ad 1 37, .inl (ca 0, 128, .inl (upd (fun j => jI (u.2.1 37 (j : Int))) i.toNat (jI v)))) = yCl ca ad (iA u 37 i v) := by
  rw [upd_i h0]
  rfl
set_option maxRecDepth 100000 in
theorem yPa_38 {ca : Nat → ClassId} {ad : Nat → Nat → Nat} {u : iST} {i v : Int} (h0 : 0 ≤ i) : (yCl ca ad u).set 48 (ad 1 38, .inl (ca 0, 128, .inl (upd (fun j => jI (u.2.1 38 (j : Int))) i.toNat (jI v)))) = yCl ca ad (iA u 38 i v) := by
  rw [upd_i h0]
  rfl
set_option maxRecDepth 100000 in
theorem yPa_39 {ca : Nat → ClassId} {ad : Nat → Nat → Nat} {u : iST} {i v : Int} (h0 : 0 ≤ i) : (yCl ca ad u).set 49 (ad 1 39, .inl (ca 0, 128, .inl (upd (fun j => jI (u.2.1 39 (j : Int))) i.toNat (jI v)))) = yCl ca ad (iA u 39 i v) := by
  rw [upd_i h0]
  rfl
set_option maxRecDepth 100000 in
theorem yPa_40 {ca : Nat → ClassId} {ad : Nat → Nat → Nat} {u : iST} {i v : Int} (h0 : 0 ≤ i) : (yCl ca ad u).set 50 (ad 1 40, .inl (ca 0, 768, .inl (upd (fun j => jI (u.2.1 40 (j : Int))) i.toNat (jI v)))) = yCl ca ad (iA u 40 i v) := by
  rw [upd_i h0]
  rfl
set_option maxRecDepth 100000 in
theorem yPa_41 {ca : Nat → ClassId} {ad : Nat → Nat → Nat} {u : iST} {i v : Int} (h0 : 0 ≤ i) : (yCl ca ad u).set 51 (ad 1 41, .inl (ca 0, 128, .inl (upd (fun j => jI (u.2.1 41 (j : Int))) i.toNat (jI v)))) = yCl ca ad (iA u 41 i v) := by
  rw [upd_i h0]
  rfl
set_option maxRecDepth 100000 in
theorem yPa_42 {ca : Nat → ClassId} {ad : Nat → Nat → Nat} {u : iST} {i v : Int} (h0 : 0 ≤ i) : (yCl ca ad u).set 52 (ad 1 42, .inl (ca 0, 128, .inl (upd (fun j => jI (u.2.1 42 (j : Int))) i.toNat (jI v)))) = yCl ca ad (iA u 42 i v) := by
  rw [upd_i h0]
  rfl
set_option maxRecDepth 100000 in
theorem yPa_43 {ca : Nat → ClassId} {ad : Nat → Nat → Nat} {u : iST} {i v : Int} (h0 : 0 ≤ i) : (yCl ca ad u).set 53 (ad 1 43, .inl (ca 0, 128, .inl (upd (fun j => jI (u.2.1 43 (j : Int))) i.toNat (jI v)))) = yCl ca ad (iA u 43 i v) := by
  rw [upd_i h0]
  rfl
set_option maxRecDepth 100000 in
theorem yPa_44 {ca : Nat → ClassId} {ad : Nat → Nat → Nat} {u : iST} {i v : Int} (h0 : 0 ≤ i) : (yCl ca ad u).set 54 (ad 1 44, .inl (ca 2, 3000, .inl (upd (fun j => jI (u.2.1 44 (j : Int))) i.toNat (jI v)))) = yCl ca ad (iA u 44 i v) := by
  rw [upd_i h0]
  rfl
set_option maxRecDepth 100000 in
theorem yPa_45 {ca : Nat → ClassId} {ad : Nat → Nat → Nat} {u : iST} {i v : Int} (h0 : 0 ≤ i) : (yCl ca ad u).set 55 (ad 1 45, .inl (ca 0, 5, .inl (upd (fun j => jI (u.2.1 45 (j : Int))) i.toNat (jI v)))) = yCl ca ad (iA u 45 i v) := by
  rw [upd_i h0]
  rfl
theorem updL_i {u : iST} {i v : Int} (h0 : 0 ≤ i) : vp_updL (fun j => jL (u.2.2 (j : Int))) i.toNat (jL v) = fun (j : Nat) => jL ((iL u i v).2.2 (j : Int)) := by
  funext n
  show (if n = i.toNat then jL v else jL (u.2.2 (n : Int))) = jL (if (n : Int) = i then v else u.2.2 (n : Int))
  by_cases hn : n = i.toNat
  · rw [if_pos hn, if_pos (by omega)]
  · rw [if_neg hn, if_neg (by omega)]
set_option maxRecDepth 100000 in
theorem yPl {ca : Nat → ClassId} {ad : Nat → Nat → Nat} {u : iST} {i v : Int} (h0 : 0 ≤ i) : (yCl ca ad u).set 56 (ad 2 0, .inl (ca 3, 160000, .inr (.inl (vp_updL (fun j => jL (u.2.2 (j : Int))) i.toNat (jL v))))) = yCl ca ad (iL u i v) := by
  rw [updL_i h0]
  rfl
set_option maxRecDepth 100000 in
theorem yPx {ca : Nat → ClassId} {ad : Nat → Nat → Nat} {u : iST} {i v : Int} (h0 : 0 ≤ i) : (yCl ca ad u).set 64 (ad 3 7, .inl (ca 5, 256, .inr (.inr (.inr (.inr (va_up (fun j => some (ad 4 (u.2.1 57 (j : Int)).toNat)) i.toNat (some (ad 4 v.toNat)))))))) = yCl ca ad (iA u 57 i v) := by
  have e : va_up (fun j => some (ad 4 (u.2.1 57 (j : Int)).toNat)) i.toNat (some (ad 4 v.toNat)) = fun (j : Nat) => some (ad 4 ((iA u 57 i v).2.1 57 (j : Int)).toNat) := by
    funext n
    show (if n = i.toNat then some (ad 4 v.toNat) else some (ad 4 (u.2.1 57 (n : Int)).toNat)) = some (ad 4 (if (n : Int) = i then v else u.2.1 57 (n : Int)).toNat)
    by_cases hn : n = i.toNat
    · rw [if_pos hn, if_pos (by omega)]
    · rw [if_neg hn, if_neg (by omega)]
  rw [e]
  rfl
set_option maxRecDepth 100000 in
theorem yPo_46 {ca : Nat → ClassId} {ad : Nat → Nat → Nat} {u : iST} {i : Nat} {v : Int} (h : i < 408) : (yCl ca ad u).set (65 + i) (ad 4 i, .inr (1, (yF1 ad u i).set 1 (.int (jI v)))) = yCl ca ad (iA u 46 (i : Int) v) := by
  rw [show 65 + i = 65 + i from by omega]
  unfold yCl
  rw [ybM, rgS (g := yE_clause ca ad (iA u 46 (i : Int) v)) h ?_ ?_]
  · rfl
  · have q : (iA u 46 (i : Int) v).2.1 46 (i : Int) = v := if_pos rfl
    show _ = (ad 4 i, Sum.inr (1, yF1 ad (iA u 46 (i : Int) v) i))
    unfold yF1
    rw [q]
    try rfl
  · intro j1 hj1
    have q : (iA u 46 (i : Int) v).2.1 46 (j1 : Int) = u.2.1 46 (j1 : Int) := if_neg (by omega)
    show (ad 4 j1, Sum.inr (1, yF1 ad u j1)) = (ad 4 j1, Sum.inr (1, yF1 ad (iA u 46 (i : Int) v) j1))
    unfold yF1
    rw [q]
    try rfl
set_option maxRecDepth 100000 in
theorem yPo_47 {ca : Nat → ClassId} {ad : Nat → Nat → Nat} {u : iST} {i : Nat} {v : Int} (h : i < 408) : (yCl ca ad u).set (65 + i) (ad 4 i, .inr (1, (yF1 ad u i).set 2 (.int (jI v)))) = yCl ca ad (iA u 47 (i : Int) v) := by
  rw [show 65 + i = 65 + i from by omega]
  unfold yCl
  rw [ybM, rgS (g := yE_clause ca ad (iA u 47 (i : Int) v)) h ?_ ?_]
  · rfl
  · have q : (iA u 47 (i : Int) v).2.1 47 (i : Int) = v := if_pos rfl
    show _ = (ad 4 i, Sum.inr (1, yF1 ad (iA u 47 (i : Int) v) i))
    unfold yF1
    rw [q]
    try rfl
  · intro j1 hj1
    have q : (iA u 47 (i : Int) v).2.1 47 (j1 : Int) = u.2.1 47 (j1 : Int) := if_neg (by omega)
    show (ad 4 j1, Sum.inr (1, yF1 ad u j1)) = (ad 4 j1, Sum.inr (1, yF1 ad (iA u 47 (i : Int) v) j1))
    unfold yF1
    rw [q]
    try rfl
set_option maxRecDepth 100000 in
theorem yPo_48 {ca : Nat → ClassId} {ad : Nat → Nat → Nat} {u : iST} {i : Nat} {v : Int} (h : i < 408) : (yCl ca ad u).set (65 + i) (ad 4 i, .inr (1, (yF1 ad u i).set 3 (.int (jI v)))) = yCl ca ad (iA u 48 (i : Int) v) := by
  rw [show 65 + i = 65 + i from by omega]
  unfold yCl
  rw [ybM, rgS (g := yE_clause ca ad (iA u 48 (i : Int) v)) h ?_ ?_]
  · rfl
  · have q : (iA u 48 (i : Int) v).2.1 48 (i : Int) = v := if_pos rfl
    show _ = (ad 4 i, Sum.inr (1, yF1 ad (iA u 48 (i : Int) v) i))
    unfold yF1
    rw [q]
    try rfl
  · intro j1 hj1
    have q : (iA u 48 (i : Int) v).2.1 48 (j1 : Int) = u.2.1 48 (j1 : Int) := if_neg (by omega)
    show (ad 4 j1, Sum.inr (1, yF1 ad u j1)) = (ad 4 j1, Sum.inr (1, yF1 ad (iA u 48 (i : Int) v) j1))
    unfold yF1
    rw [q]
    try rfl
set_option maxRecDepth 100000 in
theorem yPf_lits {ca : Nat → ClassId} {ad : Nat → Nat → Nat} {u : iST} {i : Nat} {j v : Int} (h : i < 408) (h0 : 0 ≤ j) (h1 : j < 30) : (yCl ca ad u).set (473 + i) (ad 5 i, .inl (ca 0, 30, .inl (upd (fun k => jI (if k < 30 then u.2.1 49 (30 * (i : Int) + (k : Int)) else 0)) j.toNat (jI v)))) = yCl ca ad (iA u 49 (30 * (i : Int) + j) v) := by
  rw [show 473 + i = 65 + (408 + i) from by omega]
  unfold yCl
  rw [ybM, rgM, rgS (g := yE_lits ca ad (iA u 49 (30 * (i : Int) + j) v)) h ?_ ?_]
  · rfl
  · have q := upd_f (u := u) (r := 49) (S := 30) (i := i) (j := j) (v := v) h0 h1
    show (ad 5 i, Sum.inl (ca 0, 30, Sum.inl (upd (fun k => jI (if k < 30 then u.2.1 49 (((30 : Nat) : Int) * (i : Int) + (k : Int)) else 0)) j.toNat (jI v)))) = _
    rw [q]
    rfl
  · intro j1 hj1
    have q := upd_o (u := u) (r := 49) (S := 30) (i := i) (i' := j1) (j := j) (v := v) h0 h1 hj1
    show (ad 5 j1, Sum.inl (ca 0, 30, Sum.inl (fun (k : Nat) => jI (if k < 30 then u.2.1 49 (((30 : Nat) : Int) * (j1 : Int) + (k : Int)) else 0)))) = _
    rw [q]
    rfl
set_option maxRecDepth 100000 in
theorem yPf_hyps {ca : Nat → ClassId} {ad : Nat → Nat → Nat} {u : iST} {i : Nat} {j v : Int} (h : i < 60) (h0 : 0 ≤ j) (h1 : j < 60) : (yCl ca ad u).set (881 + i) (ad 6 i, .inl (ca 0, 60, .inl (upd (fun k => jI (if k < 60 then u.2.1 50 (60 * (i : Int) + (k : Int)) else 0)) j.toNat (jI v)))) = yCl ca ad (iA u 50 (60 * (i : Int) + j) v) := by
  rw [show 881 + i = 65 + (408 + (408 + i)) from by omega]
  unfold yCl
  rw [ybM, rgM, rgM, rgS (g := yE_hyps ca ad (iA u 50 (60 * (i : Int) + j) v)) h ?_ ?_]
  · rfl
  · have q := upd_f (u := u) (r := 50) (S := 60) (i := i) (j := j) (v := v) h0 h1
    show (ad 6 i, Sum.inl (ca 0, 60, Sum.inl (upd (fun k => jI (if k < 60 then u.2.1 50 (((60 : Nat) : Int) * (i : Int) + (k : Int)) else 0)) j.toNat (jI v)))) = _
    rw [q]
    rfl
  · intro j1 hj1
    have q := upd_o (u := u) (r := 50) (S := 60) (i := i) (i' := j1) (j := j) (v := v) h0 h1 hj1
    show (ad 6 j1, Sum.inl (ca 0, 60, Sum.inl (fun (k : Nat) => jI (if k < 60 then u.2.1 50 (((60 : Nat) : Int) * (j1 : Int) + (k : Int)) else 0)))) = _
    rw [q]
    rfl
set_option maxRecDepth 100000 in
theorem yPf_frames {ca : Nat → ClassId} {ad : Nat → Nat → Nat} {u : iST} {i : Nat} {j v : Int} (h : i < 60) (h0 : 0 ≤ j) (h1 : j < 17) : (yCl ca ad u).set (941 + i) (ad 7 i, .inl (ca 0, 17, .inl (upd (fun k => jI (if k < 17 then u.2.1 51 (17 * (i : Int) + (k : Int)) else 0)) j.toNat (jI v)))) = yCl ca ad (iA u 51 (17 * (i : Int) + j) v) := by
  rw [show 941 + i = 65 + (408 + (408 + (60 + i))) from by omega]
  unfold yCl
  rw [ybM, rgM, rgM, rgM, rgS (g := yE_frames ca ad (iA u 51 (17 * (i : Int) + j) v)) h ?_ ?_]
  · rfl
  · have q := upd_f (u := u) (r := 51) (S := 17) (i := i) (j := j) (v := v) h0 h1
    show (ad 7 i, Sum.inl (ca 0, 17, Sum.inl (upd (fun k => jI (if k < 17 then u.2.1 51 (((17 : Nat) : Int) * (i : Int) + (k : Int)) else 0)) j.toNat (jI v)))) = _
    rw [q]
    rfl
  · intro j1 hj1
    have q := upd_o (u := u) (r := 51) (S := 17) (i := i) (i' := j1) (j := j) (v := v) h0 h1 hj1
    show (ad 7 j1, Sum.inl (ca 0, 17, Sum.inl (fun (k : Nat) => jI (if k < 17 then u.2.1 51 (((17 : Nat) : Int) * (j1 : Int) + (k : Int)) else 0)))) = _
    rw [q]
    rfl
set_option maxRecDepth 100000 in
theorem yPf_notes {ca : Nat → ClassId} {ad : Nat → Nat → Nat} {u : iST} {i : Nat} {j v : Int} (h : i < 1000) (h0 : 0 ≤ j) (h1 : j < 5) : (yCl ca ad u).set (1001 + i) (ad 8 i, .inl (ca 0, 5, .inl (upd (fun k => jI (if k < 5 then u.2.1 52 (5 * (i : Int) + (k : Int)) else 0)) j.toNat (jI v)))) = yCl ca ad (iA u 52 (5 * (i : Int) + j) v) := by
  rw [show 1001 + i = 65 + (408 + (408 + (60 + (60 + i)))) from by omega]
  unfold yCl
  rw [ybM, rgM, rgM, rgM, rgM, rgS (g := yE_notes ca ad (iA u 52 (5 * (i : Int) + j) v)) h ?_ ?_]
  · rfl
  · have q := upd_f (u := u) (r := 52) (S := 5) (i := i) (j := j) (v := v) h0 h1
    show (ad 8 i, Sum.inl (ca 0, 5, Sum.inl (upd (fun k => jI (if k < 5 then u.2.1 52 (((5 : Nat) : Int) * (i : Int) + (k : Int)) else 0)) j.toNat (jI v)))) = _
    rw [q]
    rfl
  · intro j1 hj1
    have q := upd_o (u := u) (r := 52) (S := 5) (i := i) (i' := j1) (j := j) (v := v) h0 h1 hj1
    show (ad 8 j1, Sum.inl (ca 0, 5, Sum.inl (fun (k : Nat) => jI (if k < 5 then u.2.1 52 (((5 : Nat) : Int) * (j1 : Int) + (k : Int)) else 0)))) = _
    rw [q]
    rfl
set_option maxRecDepth 100000 in
theorem yPf_pframes {ca : Nat → ClassId} {ad : Nat → Nat → Nat} {u : iST} {i : Nat} {j v : Int} (h : i < 40) (h0 : 0 ≤ j) (h1 : j < 4) : (yCl ca ad u).set (2001 + i) (ad 9 i, .inl (ca 0, 4, .inl (upd (fun k => jI (if k < 4 then u.2.1 53 (4 * (i : Int) + (k : Int)) else 0)) j.toNat (jI v)))) = yCl ca ad (iA u 53 (4 * (i : Int) + j) v) := by
  rw [show 2001 + i = 65 + (408 + (408 + (60 + (60 + (1000 + i))))) from by omega]
  unfold yCl
  rw [ybM, rgM, rgM, rgM, rgM, rgM, rgS (g := yE_pframes ca ad (iA u 53 (4 * (i : Int) + j) v)) h ?_ ?_]
  · rfl
  · have q := upd_f (u := u) (r := 53) (S := 4) (i := i) (j := j) (v := v) h0 h1
    show (ad 9 i, Sum.inl (ca 0, 4, Sum.inl (upd (fun k => jI (if k < 4 then u.2.1 53 (((4 : Nat) : Int) * (i : Int) + (k : Int)) else 0)) j.toNat (jI v)))) = _
    rw [q]
    rfl
  · intro j1 hj1
    have q := upd_o (u := u) (r := 53) (S := 4) (i := i) (i' := j1) (j := j) (v := v) h0 h1 hj1
    show (ad 9 j1, Sum.inl (ca 0, 4, Sum.inl (fun (k : Nat) => jI (if k < 4 then u.2.1 53 (((4 : Nat) : Int) * (j1 : Int) + (k : Int)) else 0)))) = _
    rw [q]
    rfl
set_option maxRecDepth 100000 in
theorem yPo_54 {ca : Nat → ClassId} {ad : Nat → Nat → Nat} {u : iST} {i : Nat} {v : Int} (h : i < 3) : (yCl ca ad u).set (2041 + i) (ad 10 i, .inr (9, (yF9 ad u i).set 3 (.int (jI v)))) = yCl ca ad (iA u 54 (i : Int) v) := by
  rw [show 2041 + i = 65 + (408 + (408 + (60 + (60 + (1000 + (40 + i)))))) from by omega]
  unfold yCl
  rw [ybM, rgM, rgM, rgM, rgM, rgM, rgM, rgS (g := yE_scribe ca ad (iA u 54 (i : Int) v)) h ?_ ?_]
  · rfl
  · have q : (iA u 54 (i : Int) v).2.1 54 (i : Int) = v := if_pos rfl
    show _ = (ad 10 i, Sum.inr (9, yF9 ad (iA u 54 (i : Int) v) i))
    unfold yF9
    rw [q]
    try rfl
  · intro j1 hj1
    have q : (iA u 54 (i : Int) v).2.1 54 (j1 : Int) = u.2.1 54 (j1 : Int) := if_neg (by omega)
    show (ad 10 j1, Sum.inr (9, yF9 ad u j1)) = (ad 10 j1, Sum.inr (9, yF9 ad (iA u 54 (i : Int) v) j1))
    unfold yF9
    rw [q]
    try rfl
set_option maxRecDepth 100000 in
theorem yPf_letters {ca : Nat → ClassId} {ad : Nat → Nat → Nat} {u : iST} {i : Nat} {j v : Int} (h : i < 3) (h0 : 0 ≤ j) (h1 : j < 2000) : (yCl ca ad u).set (2044 + i) (ad 11 i, .inl (ca 2, slen i, .inl (upd (fun k => jI (if k < 2000 then u.2.1 55 (2000 * (i : Int) + (k : Int)) else 0)) j.toNat (jI v)))) = yCl ca ad (iA u 55 (2000 * (i : Int) + j) v) := by
  rw [show 2044 + i = 65 + (408 + (408 + (60 + (60 + (1000 + (40 + (3 + i))))))) from by omega]
  unfold yCl
  rw [ybM, rgM, rgM, rgM, rgM, rgM, rgM, rgM, rgS (g := yE_letters ca ad (iA u 55 (2000 * (i : Int) + j) v)) h ?_ ?_]
  · rfl
  · have q := upd_f (u := u) (r := 55) (S := 2000) (i := i) (j := j) (v := v) h0 h1
    show (ad 11 i, Sum.inl (ca 2, slen i, Sum.inl (upd (fun k => jI (if k < 2000 then u.2.1 55 (((2000 : Nat) : Int) * (i : Int) + (k : Int)) else 0)) j.toNat (jI v)))) = _
    rw [q]
    rfl
  · intro j1 hj1
    have q := upd_o (u := u) (r := 55) (S := 2000) (i := i) (i' := j1) (j := j) (v := v) h0 h1 hj1
    show (ad 11 j1, Sum.inl (ca 2, slen j1, Sum.inl (fun (k : Nat) => jI (if k < 2000 then u.2.1 55 (((2000 : Nat) : Int) * (j1 : Int) + (k : Int)) else 0)))) = _
    rw [q]
    rfl
set_option maxRecDepth 100000 in
theorem yPf_srests {ca : Nat → ClassId} {ad : Nat → Nat → Nat} {u : iST} {i : Nat} {j v : Int} (h : i < 3) (h0 : 0 ≤ j) (h1 : j < 2000) : (yCl ca ad u).set (2047 + i) (ad 12 i, .inl (ca 0, slen i, .inl (upd (fun k => jI (if k < 2000 then u.2.1 56 (2000 * (i : Int) + (k : Int)) else 0)) j.toNat (jI v)))) = yCl ca ad (iA u 56 (2000 * (i : Int) + j) v) := by
  rw [show 2047 + i = 65 + (408 + (408 + (60 + (60 + (1000 + (40 + (3 + (3 + i)))))))) from by omega]
  unfold yCl
  rw [ybM, rgM, rgM, rgM, rgM, rgM, rgM, rgM, rgM, rgS (g := yE_srests ca ad (iA u 56 (2000 * (i : Int) + j) v)) h ?_ ?_]
  · rfl
  · have q := upd_f (u := u) (r := 56) (S := 2000) (i := i) (j := j) (v := v) h0 h1
    show (ad 12 i, Sum.inl (ca 0, slen i, Sum.inl (upd (fun k => jI (if k < 2000 then u.2.1 56 (((2000 : Nat) : Int) * (i : Int) + (k : Int)) else 0)) j.toNat (jI v)))) = _
    rw [q]
    rfl
  · intro j1 hj1
    have q := upd_o (u := u) (r := 56) (S := 2000) (i := i) (i' := j1) (j := j) (v := v) h0 h1 hj1
    show (ad 12 j1, Sum.inl (ca 0, slen j1, Sum.inl (fun (k : Nat) => jI (if k < 2000 then u.2.1 56 (((2000 : Nat) : Int) * (j1 : Int) + (k : Int)) else 0)))) = _
    rw [q]
    rfl
