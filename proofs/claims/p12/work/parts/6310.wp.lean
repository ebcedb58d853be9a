/-! ProofHouse$Book.functionOf -/
theorem dX0_functionOf_0 : decode cX0_functionOf 0 = .ok (.iconst 0, 1) := by decide +kernel
theorem dX0_functionOf_1 : decode cX0_functionOf 1 = .ok (.istore_n 2, 1) := by decide +kernel
theorem dX0_functionOf_2 : decode cX0_functionOf 2 = .ok (.iload_n 2, 1) := by decide +kernel
theorem dX0_functionOf_3 : decode cX0_functionOf 3 = .ok (.aload_n 0, 1) := by decide +kernel
theorem dX0_functionOf_4 : decode cX0_functionOf 4 = .ok (.getfield 27, 3) := by decide +kernel
theorem dX0_functionOf_7 : decode cX0_functionOf 7 = .ok (.if_icmp .ge 21, 3) := by decide +kernel
theorem dX0_functionOf_10 : decode cX0_functionOf 10 = .ok (.aload_n 0, 1) := by decide +kernel
theorem dX0_functionOf_11 : decode cX0_functionOf 11 = .ok (.getfield 9, 3) := by decide +kernel
theorem dX0_functionOf_14 : decode cX0_functionOf 14 = .ok (.iload_n 2, 1) := by decide +kernel
theorem dX0_functionOf_15 : decode cX0_functionOf 15 = .ok (.iaload, 1) := by decide +kernel
theorem dX0_functionOf_16 : decode cX0_functionOf 16 = .ok (.iload_n 1, 1) := by decide +kernel
theorem dX0_functionOf_17 : decode cX0_functionOf 17 = .ok (.if_icmp .ne 5, 3) := by decide +kernel
theorem dX0_functionOf_20 : decode cX0_functionOf 20 = .ok (.iload_n 2, 1) := by decide +kernel
theorem dX0_functionOf_21 : decode cX0_functionOf 21 = .ok (.ireturn, 1) := by decide +kernel
theorem dX0_functionOf_22 : decode cX0_functionOf 22 = .ok (.iinc 2 1, 3) := by decide +kernel
theorem dX0_functionOf_25 : decode cX0_functionOf 25 = .ok (.goto (-23), 3) := by decide +kernel
theorem dX0_functionOf_28 : decode cX0_functionOf 28 = .ok (.iconst (-1), 1) := by decide +kernel
theorem dX0_functionOf_29 : decode cX0_functionOf 29 = .ok (.ireturn, 1) := by decide +kernel

section
variable {p : Program} {l : Launch} {e : Env} {R : Room} {s : State} {m : MethodId} {args : Array Value} {below : List Frame} {meth : Method} {c : Code} {H : Heap} {locs : List Loc} {Qf : State → Prop}
variable {ls : Array Slot} {D : va_G} {ca : Nat → ClassId} {A : Nat → Prop} {ad : Nat → Nat → Nat} {u : iST}
def v_0_functionOf_2b (R2 : Int → Int → iST → Prop) (Q : Int → iST → Prop) (x1 : Int) (x2 : Int) (u : iST) : Prop :=
  rd (u.1 0) (fun v1 => 
  br (v1 ≤ x2) (
    Q (-1) u) (
    bd x2 40 (rd (u.2.1 0 x2) (fun v2 => 
    br (v2 ≠ x1) (
      ov (x2 + 1) (
      R2 x1 (x2 + 1) u)) (
      Q x2 u)))))
def v_0_functionOf_2 (Q : Int → iST → Prop) (x1 : Int) (x2 : Int) (u : iST) : Prop := ∀ R2 : Int → Int → iST → Prop, (∀ (x1 : Int) (x2 : Int) (u : iST), v_0_functionOf_2b R2 Q x1 x2 u → R2 x1 x2 u) → R2 x1 x2 u
set_option maxRecDepth 20000 in
set_option maxHeartbeats 4000000 in
theorem f_0_functionOf_2 (X : yX RX0 p m c cX0_functionOf 3 s args D ca ad A) (hRf : 0 ≤ R.frames) (hRl : 0 ≤ R.locals) {Q : Int → iST → Prop} (hret : ∀ (v : Int) (u : iST) (H : Heap) (locs : List Loc) (ls : Array Slot) (pc : Nat), inR v → Q v u → yW D ca A ad s H locs u → decode cX0_functionOf pc = .ok (.ireturn, 1) → W p l e R s m args below meth c H locs 0 0 Qf (F0 m pc ls [.int (jI v)])) {x1 x2 : Int} (rx1 : inR x1) (rx2 : inR x2) (hw : yW D ca A ad s H locs u) (hl : lv_has ls 3 [(0, .ref (ad 0 0)), (1, .int (jI x1)), (2, .int (jI x2))]) (h : v_0_functionOf_2 Q x1 x2 u) : W p l e R s m args below meth c H locs 0 0 Qf (F0 m 2 ls []) := by
  refine h (fun x1 x2 u => ∀ (H : Heap) (locs : List Loc) (ls : Array Slot), inR x1 → inR x2 → yW D ca A ad s H locs u → lv_has ls 3 [(0, .ref (ad 0 0)), (1, .int (jI x1)), (2, .int (jI x2))] → W p l e R s m args below meth c H locs 0 0 Qf (F0 m 2 ls [])) ?_ H locs ls rx1 rx2 hw hl
  clear h hl hw rx1 rx2
  intro x1 x2 u h H locs ls rx1 rx2 hw hl
  have hR2 : ∀ (x1 : Int) (x2 : Int) (u : iST) (H : Heap) (locs : List Loc) (ls : Array Slot), inR x1 → inR x2 → yW D ca A ad s H locs u → lv_has ls 3 [(0, .ref (ad 0 0)), (1, .int (jI x1)), (2, .int (jI x2))] → (fun (x1 : Int) (x2 : Int) u => ∀ (H : Heap) (locs : List Loc) (ls : Array Slot), inR x1 → inR x2 → yW D ca A ad s H locs u → lv_has ls 3 [(0, .ref (ad 0 0)), (1, .int (jI x1)), (2, .int (jI x2))] → W p l e R s m args below meth c H locs 0 0 Qf (F0 m 2 ls [])) x1 x2 u → W p l e R s m args below meth c H locs 0 0 Qf (F0 m 2 ls []) := fun x1 x2 u H locs ls rx1 rx2 hw hl h => h H locs ls rx1 rx2 hw hl
  have hx := X.1.1
  have hb := X.1.2.1
  unfold v_0_functionOf_2b at h
  refine lv_iload_n hx hb dX0_functionOf_2 rfl (lv_at hl 2 rfl) ?_
  refine lv_aload_n hx hb dX0_functionOf_3 rfl (lv_at hl 0 rfl) ?_
  refine yg_0_27 X hw dX0_functionOf_4 h (fun v1 rv1 h => ?_)
  refine k_icmp_ge hx hb rx2 rv1 dX0_functionOf_7 (tgt := 28) rfl h (fun h => ?_) (fun h => ?_)
  · refine lv_iconst hx hb dX0_functionOf_28 (v := jI (-1)) rfl ?_
    exact hret _ _ _ _ _ _ (by decide) h hw dX0_functionOf_29
  · refine lv_aload_n hx hb dX0_functionOf_10 rfl (lv_at hl 0 rfl) ?_
    refine yg_0_9 X hw dX0_functionOf_11 ?_
    refine lv_iload_n hx hb dX0_functionOf_14 rfl (lv_at hl 2 rfl) ?_
    refine yl_0 X hw rx2 dX0_functionOf_15 h (fun v2 rv2 h => ?_)
    refine lv_iload_n hx hb dX0_functionOf_16 rfl (lv_at hl 1 rfl) ?_
    refine k_icmp_ne hx hb rv2 rx1 dX0_functionOf_17 (tgt := 22) rfl h (fun h => ?_) (fun h => ?_)
    · refine k_iinc (k := 2) hx hb dX0_functionOf_22 hl rfl (by decide) rfl h (fun ls r3 h hl => ?_)
      have hl : lv_has ls 3 [(2, .int (jI (x2 + 1))), (0, .ref (ad 0 0)), (1, .int (jI x1))] := hl
      refine lv_goto hx hb dX0_functionOf_25 (tgt := 2) rfl ?_
      exact hR2 _ _ _ H locs ls rx1 r3 hw (lv_sub hl [1, 2, 0] rfl) h
    · refine lv_iload_n hx hb dX0_functionOf_20 rfl (lv_at hl 2 rfl) ?_
      exact hret _ _ _ _ _ _ rx2 h hw dX0_functionOf_21

def v_0_functionOf (a0 : Int) (Q : Int → iST → Prop) (u : iST) : Prop :=
  v_0_functionOf_2 Q a0 0 u
set_option maxRecDepth 20000 in
set_option maxHeartbeats 4000000 in
theorem f_0_functionOf_s (X : yX RX0 p m c cX0_functionOf 3 s args D ca ad A) (hRf : 0 ≤ R.frames) (hRl : 0 ≤ R.locals) {Q : Int → iST → Prop} (hret : ∀ (v : Int) (u : iST) (H : Heap) (locs : List Loc) (ls : Array Slot) (pc : Nat), inR v → Q v u → yW D ca A ad s H locs u → decode cX0_functionOf pc = .ok (.ireturn, 1) → W p l e R s m args below meth c H locs 0 0 Qf (F0 m pc ls [.int (jI v)])) {a0 : Int} (ra0 : inR a0) (hw : yW D ca A ad s H locs u) (hl : lv_has ls 3 [(0, .ref (ad 0 0)), (1, .int (jI a0))]) (h : v_0_functionOf a0 Q u) : W p l e R s m args below meth c H locs 0 0 Qf (F0 m 0 ls []) := by
  have hx := X.1.1
  have hb := X.1.2.1
  unfold v_0_functionOf at h
  refine lv_iconst hx hb dX0_functionOf_0 (v := jI 0) rfl ?_
  refine lv_istore_n hx hb dX0_functionOf_1 rfl hl (by decide) rfl (fun ls hl => ?_)
  have hl : lv_has ls 3 [(2, .int (jI 0)), (0, .ref (ad 0 0)), (1, .int (jI a0))] := hl
  exact f_0_functionOf_2 X hRf hRl hret ra0 (by decide) hw (lv_sub hl [1, 2, 0] rfl) h

end
theorem e_0_functionOf {l : Launch} {a0 : Int} (ra0 : inR a0) {Q : Int → iST → Prop} {u : iST} (h : v_0_functionOf a0 Q u) : yMI l yX0_functionOf (.code yX0_functionOf cX0_functionOf 3 (some .int) :: wsN) { frames := 0, cells := 0, slots := 0, locals := 0 } (fun ad => [.ref (ad 0 0), .int (jI a0)]) Q u := yMI_of (own := RX0) rfl (by decide +kernel) (fun _ => Nat.le_of_ble_eq_true rfl) (fun X hRf hRl hret hw hl => f_0_functionOf_s X hRf hRl hret ra0 hw hl h)

/-! ProofHouse$Book.theoremOf -/
theorem dX0_theoremOf_0 : decode cX0_theoremOf 0 = .ok (.iconst 0, 1) := by decide +kernel
theorem dX0_theoremOf_1 : decode cX0_theoremOf 1 = .ok (.istore_n 2, 1) := by decide +kernel
theorem dX0_theoremOf_2 : decode cX0_theoremOf 2 = .ok (.iload_n 2, 1) := by decide +kernel
theorem dX0_theoremOf_3 : decode cX0_theoremOf 3 = .ok (.aload_n 0, 1) := by decide +kernel
theorem dX0_theoremOf_4 : decode cX0_theoremOf 4 = .ok (.getfield 64, 3) := by decide +kernel
theorem dX0_theoremOf_7 : decode cX0_theoremOf 7 = .ok (.if_icmp .ge 21, 3) := by decide +kernel
theorem dX0_theoremOf_10 : decode cX0_theoremOf 10 = .ok (.aload_n 0, 1) := by decide +kernel
theorem dX0_theoremOf_11 : decode cX0_theoremOf 11 = .ok (.getfield 31, 3) := by decide +kernel
theorem dX0_theoremOf_14 : decode cX0_theoremOf 14 = .ok (.iload_n 2, 1) := by decide +kernel
theorem dX0_theoremOf_15 : decode cX0_theoremOf 15 = .ok (.iaload, 1) := by decide +kernel
theorem dX0_theoremOf_16 : decode cX0_theoremOf 16 = .ok (.iload_n 1, 1) := by decide +kernel
theorem dX0_theoremOf_17 : decode cX0_theoremOf 17 = .ok (.if_icmp .ne 5, 3) := by decide +kernel
theorem dX0_theoremOf_20 : decode cX0_theoremOf 20 = .ok (.iload_n 2, 1) := by decide +kernel
theorem dX0_theoremOf_21 : decode cX0_theoremOf 21 = .ok (.ireturn, 1) := by decide +kernel
theorem dX0_theoremOf_22 : decode cX0_theoremOf 22 = .ok (.iinc 2 1, 3) := by decide +kernel
theorem dX0_theoremOf_25 : decode cX0_theoremOf 25 = .ok (.goto (-23), 3) := by decide +kernel
theorem dX0_theoremOf_28 : decode cX0_theoremOf 28 = .ok (.iconst (-1), 1) := by decide +kernel
theorem dX0_theoremOf_29 : decode cX0_theoremOf 29 = .ok (.ireturn, 1) := by decide +kernel

section
variable {p : Program} {l : Launch} {e : Env} {R : Room} {s : State} {m : MethodId} {args : Array Value} {below : List Frame} {meth : Method} {c : Code} {H : Heap} {locs : List Loc} {Qf : State → Prop}
variable {ls : Array Slot} {D : va_G} {ca : Nat → ClassId} {A : Nat → Prop} {ad : Nat → Nat → Nat} {u : iST}
def v_0_theoremOf_2b (R2 : Int → Int → iST → Prop) (Q : Int → iST → Prop) (x1 : Int) (x2 : Int) (u : iST) : Prop :=
  rd (u.1 1) (fun v1 => 
  br (v1 ≤ x2) (
    Q (-1) u) (
    bd x2 60 (rd (u.2.1 5 x2) (fun v2 => 
    br (v2 ≠ x1) (
      ov (x2 + 1) (
      R2 x1 (x2 + 1) u)) (
      Q x2 u)))))
def v_0_theoremOf_2 (Q : Int → iST → Prop) (x1 : Int) (x2 : Int) (u : iST) : Prop := ∀ R2 : Int → Int → iST → Prop, (∀ (x1 : Int) (x2 : Int) (u : iST), v_0_theoremOf_2b R2 Q x1 x2 u → R2 x1 x2 u) → R2 x1 x2 u
set_option maxRecDepth 20000 in
set_option maxHeartbeats 4000000 in
theorem f_0_theoremOf_2 (X : yX RX0 p m c cX0_theoremOf 3 s args D ca ad A) (hRf : 0 ≤ R.frames) (hRl : 0 ≤ R.locals) {Q : Int → iST → Prop} (hret : ∀ (v : Int) (u : iST) (H : Heap) (locs : List Loc) (ls : Array Slot) (pc : Nat), inR v → Q v u → yW D ca A ad s H locs u → decode cX0_theoremOf pc = .ok (.ireturn, 1) → W p l e R s m args below meth c H locs 0 0 Qf (F0 m pc ls [.int (jI v)])) {x1 x2 : Int} (rx1 : inR x1) (rx2 : inR x2) (hw : yW D ca A ad s H locs u) (hl : lv_has ls 3 [(0, .ref (ad 0 0)), (1, .int (jI x1)), (2, .int (jI x2))]) (h : v_0_theoremOf_2 Q x1 x2 u) : W p l e R s m args below meth c H locs 0 0 Qf (F0 m 2 ls []) := by
  refine h (fun x1 x2 u => ∀ (H : Heap) (locs : List Loc) (ls : Array Slot), inR x1 → inR x2 → yW D ca A ad s H locs u → lv_has ls 3 [(0, .ref (ad 0 0)), (1, .int (jI x1)), (2, .int (jI x2))] → W p l e R s m args below meth c H locs 0 0 Qf (F0 m 2 ls [])) ?_ H locs ls rx1 rx2 hw hl
  clear h hl hw rx1 rx2
  intro x1 x2 u h H locs ls rx1 rx2 hw hl
  have hR2 : ∀ (x1 : Int) (x2 : Int) (u : iST) (H : Heap) (locs : List Loc) (ls : Array Slot), inR x1 → inR x2 → yW D ca A ad s H locs u → lv_has ls 3 [(0, .ref (ad 0 0)), (1, .int (jI x1)), (2, .int (jI x2))] → (fun (x1 : Int) (x2 : Int) u => ∀ (H : Heap) (locs : List Loc) (ls : Array Slot), inR x1 → inR x2 → yW D ca A ad s H locs u → lv_has ls 3 [(0, .ref (ad 0 0)), (1, .int (jI x1)), (2, .int (jI x2))] → W p l e R s m args below meth c H locs 0 0 Qf (F0 m 2 ls [])) x1 x2 u → W p l e R s m args below meth c H locs 0 0 Qf (F0 m 2 ls []) := fun x1 x2 u H locs ls rx1 rx2 hw hl h => h H locs ls rx1 rx2 hw hl
  have hx := X.1.1
  have hb := X.1.2.1
  unfold v_0_theoremOf_2b at h
  refine lv_iload_n hx hb dX0_theoremOf_2 rfl (lv_at hl 2 rfl) ?_
  refine lv_aload_n hx hb dX0_theoremOf_3 rfl (lv_at hl 0 rfl) ?_
  refine yg_0_64 X hw dX0_theoremOf_4 h (fun v1 rv1 h => ?_)
  refine k_icmp_ge hx hb rx2 rv1 dX0_theoremOf_7 (tgt := 28) rfl h (fun h => ?_) (fun h => ?_)
  · refine lv_iconst hx hb dX0_theoremOf_28 (v := jI (-1)) rfl ?_
    exact hret _ _ _ _ _ _ (by decide) h hw dX0_theoremOf_29
  · refine lv_aload_n hx hb dX0_theoremOf_10 rfl (lv_at hl 0 rfl) ?_
    refine yg_0_31 X hw dX0_theoremOf_11 ?_
    refine lv_iload_n hx hb dX0_theoremOf_14 rfl (lv_at hl 2 rfl) ?_
    refine yl_5 X hw rx2 dX0_theoremOf_15 h (fun v2 rv2 h => ?_)
    refine lv_iload_n hx hb dX0_theoremOf_16 rfl (lv_at hl 1 rfl) ?_
    refine k_icmp_ne hx hb rv2 rx1 dX0_theoremOf_17 (tgt := 22) rfl h (fun h => ?_) (fun h => ?_)
    · refine k_iinc (k := 2) hx hb dX0_theoremOf_22 hl rfl (by decide) rfl h (fun ls r3 h hl => ?_)
      have hl : lv_has ls 3 [(2, .int (jI (x2 + 1))), (0, .ref (ad 0 0)), (1, .int (jI x1))] := hl
      refine lv_goto hx hb dX0_theoremOf_25 (tgt := 2) rfl ?_
      exact hR2 _ _ _ H locs ls rx1 r3 hw (lv_sub hl [1, 2, 0] rfl) h
    · refine lv_iload_n hx hb dX0_theoremOf_20 rfl (lv_at hl 2 rfl) ?_
      exact hret _ _ _ _ _ _ rx2 h hw dX0_theoremOf_21

def v_0_theoremOf (a0 : Int) (Q : Int → iST → Prop) (u : iST) : Prop :=
  v_0_theoremOf_2 Q a0 0 u
set_option maxRecDepth 20000 in
set_option maxHeartbeats 4000000 in
theorem f_0_theoremOf_s (X : yX RX0 p m c cX0_theoremOf 3 s args D ca ad A) (hRf : 0 ≤ R.frames) (hRl : 0 ≤ R.locals) {Q : Int → iST → Prop} (hret : ∀ (v : Int) (u : iST) (H : Heap) (locs : List Loc) (ls : Array Slot) (pc : Nat), inR v → Q v u → yW D ca A ad s H locs u → decode cX0_theoremOf pc = .ok (.ireturn, 1) → W p l e R s m args below meth c H locs 0 0 Qf (F0 m pc ls [.int (jI v)])) {a0 : Int} (ra0 : inR a0) (hw : yW D ca A ad s H locs u) (hl : lv_has ls 3 [(0, .ref (ad 0 0)), (1, .int (jI a0))]) (h : v_0_theoremOf a0 Q u) : W p l e R s m args below meth c H locs 0 0 Qf (F0 m 0 ls []) := by
  have hx := X.1.1
  have hb := X.1.2.1
  unfold v_0_theoremOf at h
  refine lv_iconst hx hb dX0_theoremOf_0 (v := jI 0) rfl ?_
  refine lv_istore_n hx hb dX0_theoremOf_1 rfl hl (by decide) rfl (fun ls hl => ?_)
  have hl : lv_has ls 3 [(2, .int (jI 0)), (0, .ref (ad 0 0)), (1, .int (jI a0))] := hl
  exact f_0_theoremOf_2 X hRf hRl hret ra0 (by decide) hw (lv_sub hl [1, 2, 0] rfl) h

end
theorem e_0_theoremOf {l : Launch} {a0 : Int} (ra0 : inR a0) {Q : Int → iST → Prop} {u : iST} (h : v_0_theoremOf a0 Q u) : yMI l yX0_theoremOf (.code yX0_theoremOf cX0_theoremOf 3 (some .int) :: wsN) { frames := 0, cells := 0, slots := 0, locals := 0 } (fun ad => [.ref (ad 0 0), .int (jI a0)]) Q u := yMI_of (own := RX0) rfl (by decide +kernel) (fun _ => Nat.le_of_ble_eq_true rfl) (fun X hRf hRl hret hw hl => f_0_theoremOf_s X hRf hRl hret ra0 hw hl h)

/-! ProofHouse$Book.arityOf -/
theorem dX0_arityOf_0 : decode cX0_arityOf 0 = .ok (.iload_n 1, 1) := by decide +kernel
theorem dX0_arityOf_1 : decode cX0_arityOf 1 = .ok (.iconst 3, 1) := by decide +kernel
theorem dX0_arityOf_2 : decode cX0_arityOf 2 = .ok (.if_icmp .lt 17, 3) := by decide +kernel
theorem dX0_arityOf_5 : decode cX0_arityOf 5 = .ok (.iload_n 1, 1) := by decide +kernel
theorem dX0_arityOf_6 : decode cX0_arityOf 6 = .ok (.bipush 16, 2) := by decide +kernel
theorem dX0_arityOf_8 : decode cX0_arityOf 8 = .ok (.if_icmp .gt 11, 3) := by decide +kernel
theorem dX0_arityOf_11 : decode cX0_arityOf 11 = .ok (.getstatic 79, 3) := by decide +kernel
theorem dX0_arityOf_14 : decode cX0_arityOf 14 = .ok (.iload_n 1, 1) := by decide +kernel
theorem dX0_arityOf_15 : decode cX0_arityOf 15 = .ok (.iconst 3, 1) := by decide +kernel
theorem dX0_arityOf_16 : decode cX0_arityOf 16 = .ok (.isub, 1) := by decide +kernel
theorem dX0_arityOf_17 : decode cX0_arityOf 17 = .ok (.iaload, 1) := by decide +kernel
theorem dX0_arityOf_18 : decode cX0_arityOf 18 = .ok (.ireturn, 1) := by decide +kernel
theorem dX0_arityOf_19 : decode cX0_arityOf 19 = .ok (.iconst 0, 1) := by decide +kernel
theorem dX0_arityOf_20 : decode cX0_arityOf 20 = .ok (.istore_n 2, 1) := by decide +kernel
theorem dX0_arityOf_21 : decode cX0_arityOf 21 = .ok (.iload_n 2, 1) := by decide +kernel
theorem dX0_arityOf_22 : decode cX0_arityOf 22 = .ok (.aload_n 0, 1) := by decide +kernel
theorem dX0_arityOf_23 : decode cX0_arityOf 23 = .ok (.getfield 27, 3) := by decide +kernel
theorem dX0_arityOf_26 : decode cX0_arityOf 26 = .ok (.if_icmp .ge 26, 3) := by decide +kernel
theorem dX0_arityOf_29 : decode cX0_arityOf 29 = .ok (.aload_n 0, 1) := by decide +kernel
theorem dX0_arityOf_30 : decode cX0_arityOf 30 = .ok (.getfield 9, 3) := by decide +kernel
theorem dX0_arityOf_33 : decode cX0_arityOf 33 = .ok (.iload_n 2, 1) := by decide +kernel
theorem dX0_arityOf_34 : decode cX0_arityOf 34 = .ok (.iaload, 1) := by decide +kernel
theorem dX0_arityOf_35 : decode cX0_arityOf 35 = .ok (.iload_n 1, 1) := by decide +kernel
theorem dX0_arityOf_36 : decode cX0_arityOf 36 = .ok (.if_icmp .ne 10, 3) := by decide +kernel
theorem dX0_arityOf_39 : decode cX0_arityOf 39 = .ok (.aload_n 0, 1) := by decide +kernel
theorem dX0_arityOf_40 : decode cX0_arityOf 40 = .ok (.getfield 18, 3) := by decide +kernel
theorem dX0_arityOf_43 : decode cX0_arityOf 43 = .ok (.iload_n 2, 1) := by decide +kernel
theorem dX0_arityOf_44 : decode cX0_arityOf 44 = .ok (.iaload, 1) := by decide +kernel
theorem dX0_arityOf_45 : decode cX0_arityOf 45 = .ok (.ireturn, 1) := by decide +kernel
theorem dX0_arityOf_46 : decode cX0_arityOf 46 = .ok (.iinc 2 1, 3) := by decide +kernel
theorem dX0_arityOf_49 : decode cX0_arityOf 49 = .ok (.goto (-28), 3) := by decide +kernel
theorem dX0_arityOf_52 : decode cX0_arityOf 52 = .ok (.iconst (-1), 1) := by decide +kernel
theorem dX0_arityOf_53 : decode cX0_arityOf 53 = .ok (.ireturn, 1) := by decide +kernel

section
variable {p : Program} {l : Launch} {e : Env} {R : Room} {s : State} {m : MethodId} {args : Array Value} {below : List Frame} {meth : Method} {c : Code} {H : Heap} {locs : List Loc} {Qf : State → Prop}
variable {ls : Array Slot} {D : va_G} {ca : Nat → ClassId} {A : Nat → Prop} {ad : Nat → Nat → Nat} {u : iST}
def v_0_arityOf_21b (R21 : Int → Int → iST → Prop) (Q : Int → iST → Prop) (x1 : Int) (x2 : Int) (u : iST) : Prop :=
  rd (u.1 0) (fun v1 => 
  br (v1 ≤ x2) (
    Q (-1) u) (
    bd x2 40 (rd (u.2.1 0 x2) (fun v2 => 
    br (v2 ≠ x1) (
      ov (x2 + 1) (
      R21 x1 (x2 + 1) u)) (
      bd x2 40 (rd (u.2.1 2 x2) (fun v4 => 
      Q v4 u)))))))
def v_0_arityOf_21 (Q : Int → iST → Prop) (x1 : Int) (x2 : Int) (u : iST) : Prop := ∀ R21 : Int → Int → iST → Prop, (∀ (x1 : Int) (x2 : Int) (u : iST), v_0_arityOf_21b R21 Q x1 x2 u → R21 x1 x2 u) → R21 x1 x2 u
set_option maxRecDepth 20000 in
set_option maxHeartbeats 4000000 in
theorem f_0_arityOf_21 (X : yX RX0 p m c cX0_arityOf 3 s args D ca ad A) (hRf : 0 ≤ R.frames) (hRl : 0 ≤ R.locals) {Q : Int → iST → Prop} (hret : ∀ (v : Int) (u : iST) (H : Heap) (locs : List Loc) (ls : Array Slot) (pc : Nat), inR v → Q v u → yW D ca A ad s H locs u → decode cX0_arityOf pc = .ok (.ireturn, 1) → W p l e R s m args below meth c H locs 0 0 Qf (F0 m pc ls [.int (jI v)])) {x1 x2 : Int} (rx1 : inR x1) (rx2 : inR x2) (hw : yW D ca A ad s H locs u) (hl : lv_has ls 3 [(0, .ref (ad 0 0)), (1, .int (jI x1)), (2, .int (jI x2))]) (h : v_0_arityOf_21 Q x1 x2 u) : W p l e R s m args below meth c H locs 0 0 Qf (F0 m 21 ls []) := by
  refine h (fun x1 x2 u => ∀ (H : Heap) (locs : List Loc) (ls : Array Slot), inR x1 → inR x2 → yW D ca A ad s H locs u → lv_has ls 3 [(0, .ref (ad 0 0)), (1, .int (jI x1)), (2, .int (jI x2))] → W p l e R s m args below meth c H locs 0 0 Qf (F0 m 21 ls [])) ?_ H locs ls rx1 rx2 hw hl
  clear h hl hw rx1 rx2
  intro x1 x2 u h H locs ls rx1 rx2 hw hl
  have hR21 : ∀ (x1 : Int) (x2 : Int) (u : iST) (H : Heap) (locs : List Loc) (ls : Array Slot), inR x1 → inR x2 → yW D ca A ad s H locs u → lv_has ls 3 [(0, .ref (ad 0 0)), (1, .int (jI x1)), (2, .int (jI x2))] → (fun (x1 : Int) (x2 : Int) u => ∀ (H : Heap) (locs : List Loc) (ls : Array Slot), inR x1 → inR x2 → yW D ca A ad s H locs u → lv_has ls 3 [(0, .ref (ad 0 0)), (1, .int (jI x1)), (2, .int (jI x2))] → W p l e R s m args below meth c H locs 0 0 Qf (F0 m 21 ls [])) x1 x2 u → W p l e R s m args below meth c H locs 0 0 Qf (F0 m 21 ls []) := fun x1 x2 u H locs ls rx1 rx2 hw hl h => h H locs ls rx1 rx2 hw hl
  have hx := X.1.1
  have hb := X.1.2.1
  unfold v_0_arityOf_21b at h
  refine lv_iload_n hx hb dX0_arityOf_21 rfl (lv_at hl 2 rfl) ?_
  refine lv_aload_n hx hb dX0_arityOf_22 rfl (lv_at hl 0 rfl) ?_
  refine yg_0_27 X hw dX0_arityOf_23 h (fun v1 rv1 h => ?_)
  refine k_icmp_ge hx hb rx2 rv1 dX0_arityOf_26 (tgt := 52) rfl h (fun h => ?_) (fun h => ?_)
  · refine lv_iconst hx hb dX0_arityOf_52 (v := jI (-1)) rfl ?_
    exact hret _ _ _ _ _ _ (by decide) h hw dX0_arityOf_53
  · refine lv_aload_n hx hb dX0_arityOf_29 rfl (lv_at hl 0 rfl) ?_
    refine yg_0_9 X hw dX0_arityOf_30 ?_
    refine lv_iload_n hx hb dX0_arityOf_33 rfl (lv_at hl 2 rfl) ?_
    refine yl_0 X hw rx2 dX0_arityOf_34 h (fun v2 rv2 h => ?_)
    refine lv_iload_n hx hb dX0_arityOf_35 rfl (lv_at hl 1 rfl) ?_
    refine k_icmp_ne hx hb rv2 rx1 dX0_arityOf_36 (tgt := 46) rfl h (fun h => ?_) (fun h => ?_)
    · refine k_iinc (k := 2) hx hb dX0_arityOf_46 hl rfl (by decide) rfl h (fun ls r3 h hl => ?_)
      have hl : lv_has ls 3 [(2, .int (jI (x2 + 1))), (0, .ref (ad 0 0)), (1, .int (jI x1))] := hl
      refine lv_goto hx hb dX0_arityOf_49 (tgt := 21) rfl ?_
      exact hR21 _ _ _ H locs ls rx1 r3 hw (lv_sub hl [1, 2, 0] rfl) h
    · refine lv_aload_n hx hb dX0_arityOf_39 rfl (lv_at hl 0 rfl) ?_
      refine yg_0_18 X hw dX0_arityOf_40 ?_
      refine lv_iload_n hx hb dX0_arityOf_43 rfl (lv_at hl 2 rfl) ?_
      refine yl_2 X hw rx2 dX0_arityOf_44 h (fun v4 rv4 h => ?_)
      exact hret _ _ _ _ _ _ rv4 h hw dX0_arityOf_45

def v_0_arityOf_19 (Q : Int → iST → Prop) (x1 : Int) (u : iST) : Prop :=
  v_0_arityOf_21 Q x1 0 u
set_option maxRecDepth 20000 in
set_option maxHeartbeats 4000000 in
theorem f_0_arityOf_19 (X : yX RX0 p m c cX0_arityOf 3 s args D ca ad A) (hRf : 0 ≤ R.frames) (hRl : 0 ≤ R.locals) {Q : Int → iST → Prop} (hret : ∀ (v : Int) (u : iST) (H : Heap) (locs : List Loc) (ls : Array Slot) (pc : Nat), inR v → Q v u → yW D ca A ad s H locs u → decode cX0_arityOf pc = .ok (.ireturn, 1) → W p l e R s m args below meth c H locs 0 0 Qf (F0 m pc ls [.int (jI v)])) {x1 : Int} (rx1 : inR x1) (hw : yW D ca A ad s H locs u) (hl : lv_has ls 3 [(0, .ref (ad 0 0)), (1, .int (jI x1))]) (h : v_0_arityOf_19 Q x1 u) : W p l e R s m args below meth c H locs 0 0 Qf (F0 m 19 ls []) := by
  have hx := X.1.1
  have hb := X.1.2.1
  unfold v_0_arityOf_19 at h
  refine lv_iconst hx hb dX0_arityOf_19 (v := jI 0) rfl ?_
  refine lv_istore_n hx hb dX0_arityOf_20 rfl hl (by decide) rfl (fun ls hl => ?_)
  have hl : lv_has ls 3 [(2, .int (jI 0)), (0, .ref (ad 0 0)), (1, .int (jI x1))] := hl
  exact f_0_arityOf_21 X hRf hRl hret rx1 (by decide) hw (lv_sub hl [1, 2, 0] rfl) h

def v_0_arityOf (a0 : Int) (Q : Int → iST → Prop) (u : iST) : Prop :=
  br (a0 < 3) (
    v_0_arityOf_19 Q a0 u) (
    br (16 < a0) (
      v_0_arityOf_19 Q a0 u) (
      ov (a0 - 3) (
      bd (a0 - 3) 14 (rd (yT_BASE_ARITIES.getD (a0 - 3).toNat 0) (fun v6 => 
      Q v6 u)))))
set_option maxRecDepth 20000 in
set_option maxHeartbeats 4000000 in
theorem f_0_arityOf_s (X : yX RX0 p m c cX0_arityOf 3 s args D ca ad A) (hRf : 0 ≤ R.frames) (hRl : 0 ≤ R.locals) {Q : Int → iST → Prop} (hret : ∀ (v : Int) (u : iST) (H : Heap) (locs : List Loc) (ls : Array Slot) (pc : Nat), inR v → Q v u → yW D ca A ad s H locs u → decode cX0_arityOf pc = .ok (.ireturn, 1) → W p l e R s m args below meth c H locs 0 0 Qf (F0 m pc ls [.int (jI v)])) {a0 : Int} (ra0 : inR a0) (hw : yW D ca A ad s H locs u) (hl : lv_has ls 3 [(0, .ref (ad 0 0)), (1, .int (jI a0))]) (h : v_0_arityOf a0 Q u) : W p l e R s m args below meth c H locs 0 0 Qf (F0 m 0 ls []) := by
  have hx := X.1.1
  have hb := X.1.2.1
  unfold v_0_arityOf at h
  refine lv_iload_n hx hb dX0_arityOf_0 rfl (lv_at hl 1 rfl) ?_
  refine lv_iconst hx hb dX0_arityOf_1 (v := jI 3) rfl ?_
  refine k_icmp_lt hx hb ra0 (by decide) dX0_arityOf_2 (tgt := 19) rfl h (fun h => ?_) (fun h => ?_)
  · exact f_0_arityOf_19 X hRf hRl hret ra0 hw hl h
  · refine lv_iload_n hx hb dX0_arityOf_5 rfl (lv_at hl 1 rfl) ?_
    refine lv_bipush hx hb dX0_arityOf_6 (v := jI 16) rfl ?_
    refine k_icmp_gt hx hb ra0 (by decide) dX0_arityOf_8 (tgt := 19) rfl h (fun h => ?_) (fun h => ?_)
    · exact f_0_arityOf_19 X hRf hRl hret ra0 hw hl h
    · refine ys_0_79 X hw dX0_arityOf_11 ?_
      refine lv_iload_n hx hb dX0_arityOf_14 rfl (lv_at hl 1 rfl) ?_
      refine lv_iconst hx hb dX0_arityOf_15 (v := jI 3) rfl ?_
      refine k_isub hx hb dX0_arityOf_16 h (fun r5 h => ?_)
      refine yst_0 X hw r5 dX0_arityOf_17 h (fun v6 rv6 h => ?_)
      exact hret _ _ _ _ _ _ rv6 h hw dX0_arityOf_18

end
theorem e_0_arityOf {l : Launch} {a0 : Int} (ra0 : inR a0) {Q : Int → iST → Prop} {u : iST} (h : v_0_arityOf a0 Q u) : yMI l yX0_arityOf (.code yX0_arityOf cX0_arityOf 3 (some .int) :: wsN) { frames := 0, cells := 0, slots := 0, locals := 0 } (fun ad => [.ref (ad 0 0), .int (jI a0)]) Q u := yMI_of (own := RX0) rfl (by decide +kernel) (fun _ => Nat.le_of_ble_eq_true rfl) (fun X hRf hRl hret hw hl => f_0_arityOf_s X hRf hRl hret ra0 hw hl h)

/-! ProofHouse$Book.canLook -/
theorem dX0_canLook_0 : decode cX0_canLook 0 = .ok (.aload_n 0, 1) := by decide +kernel
theorem dX0_canLook_1 : decode cX0_canLook 1 = .ok (.getfield 37, 3) := by decide +kernel
theorem dX0_canLook_4 : decode cX0_canLook 4 = .ok (.iload_n 1, 1) := by decide +kernel
theorem dX0_canLook_5 : decode cX0_canLook 5 = .ok (.iaload, 1) := by decide +kernel
theorem dX0_canLook_6 : decode cX0_canLook 6 = .ok (.iconst (-1), 1) := by decide +kernel
theorem dX0_canLook_7 : decode cX0_canLook 7 = .ok (.if_icmp .eq 39, 3) := by decide +kernel
theorem dX0_canLook_10 : decode cX0_canLook 10 = .ok (.aload_n 0, 1) := by decide +kernel
theorem dX0_canLook_11 : decode cX0_canLook 11 = .ok (.getfield 58, 3) := by decide +kernel
theorem dX0_canLook_14 : decode cX0_canLook 14 = .ok (.iload_n 1, 1) := by decide +kernel
theorem dX0_canLook_15 : decode cX0_canLook 15 = .ok (.baload, 1) := by decide +kernel
theorem dX0_canLook_16 : decode cX0_canLook 16 = .ok (.ifCond .eq 30, 3) := by decide +kernel
theorem dX0_canLook_19 : decode cX0_canLook 19 = .ok (.aload_n 0, 1) := by decide +kernel
theorem dX0_canLook_20 : decode cX0_canLook 20 = .ok (.getfield 61, 3) := by decide +kernel
theorem dX0_canLook_23 : decode cX0_canLook 23 = .ok (.iload_n 1, 1) := by decide +kernel
theorem dX0_canLook_24 : decode cX0_canLook 24 = .ok (.baload, 1) := by decide +kernel
theorem dX0_canLook_25 : decode cX0_canLook 25 = .ok (.ifCond .ne 21, 3) := by decide +kernel
theorem dX0_canLook_28 : decode cX0_canLook 28 = .ok (.iload_n 2, 1) := by decide +kernel
theorem dX0_canLook_29 : decode cX0_canLook 29 = .ok (.iconst 1, 1) := by decide +kernel
theorem dX0_canLook_30 : decode cX0_canLook 30 = .ok (.if_icmp .eq 12, 3) := by decide +kernel
theorem dX0_canLook_33 : decode cX0_canLook 33 = .ok (.aload_n 0, 1) := by decide +kernel
theorem dX0_canLook_34 : decode cX0_canLook 34 = .ok (.getfield 51, 3) := by decide +kernel
theorem dX0_canLook_37 : decode cX0_canLook 37 = .ok (.iload_n 1, 1) := by decide +kernel
theorem dX0_canLook_38 : decode cX0_canLook 38 = .ok (.baload, 1) := by decide +kernel
theorem dX0_canLook_39 : decode cX0_canLook 39 = .ok (.ifCond .ne 7, 3) := by decide +kernel
theorem dX0_canLook_42 : decode cX0_canLook 42 = .ok (.iconst 1, 1) := by decide +kernel
theorem dX0_canLook_43 : decode cX0_canLook 43 = .ok (.goto 4, 3) := by decide +kernel
theorem dX0_canLook_46 : decode cX0_canLook 46 = .ok (.iconst 0, 1) := by decide +kernel
theorem dX0_canLook_47 : decode cX0_canLook 47 = .ok (.ireturn, 1) := by decide +kernel

section
variable {p : Program} {l : Launch} {e : Env} {R : Room} {s : State} {m : MethodId} {args : Array Value} {below : List Frame} {meth : Method} {c : Code} {H : Heap} {locs : List Loc} {Qf : State → Prop}
variable {ls : Array Slot} {D : va_G} {ca : Nat → ClassId} {A : Nat → Prop} {ad : Nat → Nat → Nat} {u : iST}
def v_0_canLook (a0 : Int) (a1 : Int) (Q : Int → iST → Prop) (u : iST) : Prop :=
  bd a0 60 (rd (u.2.1 7 a0) (fun v1 => 
  br (v1 = (-1)) (
    zt 0 (Q 0 u)) (
    bd a0 60 (rz (u.2.1 12 a0) (fun v2 => 
    br (v2 = 0) (
      zt 0 (Q 0 u)) (
      bd a0 60 (rz (u.2.1 13 a0) (fun v3 => 
      br (v3 ≠ 0) (
        zt 0 (Q 0 u)) (
        br (a1 = 1) (
          zt 1 (Q 1 u)) (
          bd a0 60 (rz (u.2.1 10 a0) (fun v4 => 
          br (v4 ≠ 0) (
            zt 0 (Q 0 u)) (
            zt 1 (Q 1 u))))))))))))))
set_option maxRecDepth 20000 in
set_option maxHeartbeats 4000000 in
theorem f_0_canLook_s (X : yX RX0 p m c cX0_canLook 3 s args D ca ad A) (hRf : 0 ≤ R.frames) (hRl : 0 ≤ R.locals) {Q : Int → iST → Prop} (hret : ∀ (v : Int) (u : iST) (H : Heap) (locs : List Loc) (ls : Array Slot) (pc : Nat), bz v → Q v u → yW D ca A ad s H locs u → decode cX0_canLook pc = .ok (.ireturn, 1) → W p l e R s m args below meth c H locs 0 0 Qf (F0 m pc ls [.int (jI v)])) {a0 a1 : Int} (ra0 : inR a0) (ra1 : inR a1) (hw : yW D ca A ad s H locs u) (hl : lv_has ls 3 [(0, .ref (ad 0 0)), (1, .int (jI a0)), (2, .int (jI a1))]) (h : v_0_canLook a0 a1 Q u) : W p l e R s m args below meth c H locs 0 0 Qf (F0 m 0 ls []) := by
  have hx := X.1.1
  have hb := X.1.2.1
  unfold v_0_canLook at h
  refine lv_aload_n hx hb dX0_canLook_0 rfl (lv_at hl 0 rfl) ?_
  refine yg_0_37 X hw dX0_canLook_1 ?_
  refine lv_iload_n hx hb dX0_canLook_4 rfl (lv_at hl 1 rfl) ?_
  refine yl_7 X hw ra0 dX0_canLook_5 h (fun v1 rv1 h => ?_)
  refine lv_iconst hx hb dX0_canLook_6 (v := jI (-1)) rfl ?_
  refine k_icmp_eq hx hb rv1 (by decide) dX0_canLook_7 (tgt := 46) rfl h (fun h => ?_) (fun h => ?_)
  · refine lv_iconst hx hb dX0_canLook_46 (v := jI 0) rfl ?_
    exact hret _ _ _ _ _ _ h.1 h.2 hw dX0_canLook_47
  · refine lv_aload_n hx hb dX0_canLook_10 rfl (lv_at hl 0 rfl) ?_
    refine yg_0_58 X hw dX0_canLook_11 ?_
    refine lv_iload_n hx hb dX0_canLook_14 rfl (lv_at hl 1 rfl) ?_
    refine yl_12 X hw ra0 dX0_canLook_15 h (fun v2 rv2 h => ?_)
    refine k_if_eq hx hb (bz_in rv2) dX0_canLook_16 (tgt := 46) rfl h (fun h => ?_) (fun h => ?_)
    · refine lv_iconst hx hb dX0_canLook_46 (v := jI 0) rfl ?_
      exact hret _ _ _ _ _ _ h.1 h.2 hw dX0_canLook_47
    · refine lv_aload_n hx hb dX0_canLook_19 rfl (lv_at hl 0 rfl) ?_
      refine yg_0_61 X hw dX0_canLook_20 ?_
      refine lv_iload_n hx hb dX0_canLook_23 rfl (lv_at hl 1 rfl) ?_
      refine yl_13 X hw ra0 dX0_canLook_24 h (fun v3 rv3 h => ?_)
      refine k_if_ne hx hb (bz_in rv3) dX0_canLook_25 (tgt := 46) rfl h (fun h => ?_) (fun h => ?_)
      · refine lv_iconst hx hb dX0_canLook_46 (v := jI 0) rfl ?_
        exact hret _ _ _ _ _ _ h.1 h.2 hw dX0_canLook_47
      · refine lv_iload_n hx hb dX0_canLook_28 rfl (lv_at hl 2 rfl) ?_
        refine lv_iconst hx hb dX0_canLook_29 (v := jI 1) rfl ?_
        refine k_icmp_eq hx hb ra1 (by decide) dX0_canLook_30 (tgt := 42) rfl h (fun h => ?_) (fun h => ?_)
        · refine lv_iconst hx hb dX0_canLook_42 (v := jI 1) rfl ?_
          refine lv_goto hx hb dX0_canLook_43 (tgt := 47) rfl ?_
          exact hret _ _ _ _ _ _ h.1 h.2 hw dX0_canLook_47
        · refine lv_aload_n hx hb dX0_canLook_33 rfl (lv_at hl 0 rfl) ?_
          refine yg_0_51 X hw dX0_canLook_34 ?_
          refine lv_iload_n hx hb dX0_canLook_37 rfl (lv_at hl 1 rfl) ?_
          refine yl_10 X hw ra0 dX0_canLook_38 h (fun v4 rv4 h => ?_)
          refine k_if_ne hx hb (bz_in rv4) dX0_canLook_39 (tgt := 46) rfl h (fun h => ?_) (fun h => ?_)
          · refine lv_iconst hx hb dX0_canLook_46 (v := jI 0) rfl ?_
            exact hret _ _ _ _ _ _ h.1 h.2 hw dX0_canLook_47
          · refine lv_iconst hx hb dX0_canLook_42 (v := jI 1) rfl ?_
            refine lv_goto hx hb dX0_canLook_43 (tgt := 47) rfl ?_
            exact hret _ _ _ _ _ _ h.1 h.2 hw dX0_canLook_47

end
theorem e_0_canLook {l : Launch} {a0 : Int} {a1 : Int} (ra0 : inR a0) (ra1 : inR a1) {Q : Int → iST → Prop} {u : iST} (h : v_0_canLook a0 a1 Q u) : yMI l yX0_canLook (.code yX0_canLook cX0_canLook 3 (some .boolean) :: wsN) { frames := 0, cells := 0, slots := 0, locals := 0 } (fun ad => [.ref (ad 0 0), .int (jI a0), .int (jI a1)]) Q u := yMZ_of (own := RX0) rfl (by decide +kernel) (fun _ => Nat.le_of_ble_eq_true rfl) (fun X hRf hRl hret hw hl => f_0_canLook_s X hRf hRl hret ra0 ra1 hw hl h)

/-! ProofHouse$Book.rules -/
theorem dX0_rules_0 : decode cX0_rules 0 = .ok (.iconst 0, 1) := by decide +kernel
theorem dX0_rules_1 : decode cX0_rules 1 = .ok (.istore_n 2, 1) := by decide +kernel
theorem dX0_rules_2 : decode cX0_rules 2 = .ok (.iconst 0, 1) := by decide +kernel
theorem dX0_rules_3 : decode cX0_rules 3 = .ok (.istore_n 3, 1) := by decide +kernel
theorem dX0_rules_4 : decode cX0_rules 4 = .ok (.iload_n 3, 1) := by decide +kernel
theorem dX0_rules_5 : decode cX0_rules 5 = .ok (.aload_n 0, 1) := by decide +kernel
theorem dX0_rules_6 : decode cX0_rules 6 = .ok (.getfield 64, 3) := by decide +kernel
theorem dX0_rules_9 : decode cX0_rules 9 = .ok (.if_icmp .ge 40, 3) := by decide +kernel
theorem dX0_rules_12 : decode cX0_rules 12 = .ok (.iload_n 2, 1) := by decide +kernel
theorem dX0_rules_13 : decode cX0_rules 13 = .ok (.aload_n 0, 1) := by decide +kernel
theorem dX0_rules_14 : decode cX0_rules 14 = .ok (.getfield 37, 3) := by decide +kernel
theorem dX0_rules_17 : decode cX0_rules 17 = .ok (.iload_n 3, 1) := by decide +kernel
theorem dX0_rules_18 : decode cX0_rules 18 = .ok (.iaload, 1) := by decide +kernel
theorem dX0_rules_19 : decode cX0_rules 19 = .ok (.iconst (-1), 1) := by decide +kernel
theorem dX0_rules_20 : decode cX0_rules 20 = .ok (.if_icmp .eq 20, 3) := by decide +kernel
theorem dX0_rules_23 : decode cX0_rules 23 = .ok (.aload_n 0, 1) := by decide +kernel
theorem dX0_rules_24 : decode cX0_rules 24 = .ok (.getfield 58, 3) := by decide +kernel
theorem dX0_rules_27 : decode cX0_rules 27 = .ok (.iload_n 3, 1) := by decide +kernel
theorem dX0_rules_28 : decode cX0_rules 28 = .ok (.baload, 1) := by decide +kernel
theorem dX0_rules_29 : decode cX0_rules 29 = .ok (.ifCond .ne 7, 3) := by decide +kernel
theorem dX0_rules_32 : decode cX0_rules 32 = .ok (.iload_n 1, 1) := by decide +kernel
theorem dX0_rules_33 : decode cX0_rules 33 = .ok (.ifCond .ne 7, 3) := by decide +kernel
theorem dX0_rules_36 : decode cX0_rules 36 = .ok (.iconst 1, 1) := by decide +kernel
theorem dX0_rules_37 : decode cX0_rules 37 = .ok (.goto 4, 3) := by decide +kernel
theorem dX0_rules_40 : decode cX0_rules 40 = .ok (.iconst 0, 1) := by decide +kernel
theorem dX0_rules_41 : decode cX0_rules 41 = .ok (.iadd, 1) := by decide +kernel
theorem dX0_rules_42 : decode cX0_rules 42 = .ok (.istore_n 2, 1) := by decide +kernel
theorem dX0_rules_43 : decode cX0_rules 43 = .ok (.iinc 3 1, 3) := by decide +kernel
theorem dX0_rules_46 : decode cX0_rules 46 = .ok (.goto (-42), 3) := by decide +kernel
theorem dX0_rules_49 : decode cX0_rules 49 = .ok (.iload_n 2, 1) := by decide +kernel
theorem dX0_rules_50 : decode cX0_rules 50 = .ok (.ireturn, 1) := by decide +kernel

section
variable {p : Program} {l : Launch} {e : Env} {R : Room} {s : State} {m : MethodId} {args : Array Value} {below : List Frame} {meth : Method} {c : Code} {H : Heap} {locs : List Loc} {Qf : State → Prop}
variable {ls : Array Slot} {D : va_G} {ca : Nat → ClassId} {A : Nat → Prop} {ad : Nat → Nat → Nat} {u : iST}
def v_0_rules_40 (R4 : Int → Int → Int → iST → Prop) (Q : Int → iST → Prop) (x1 : Int) (x3 : Int) (y0 : Int) (u : iST) : Prop :=
  ov (y0 + 0) (
  ov (x3 + 1) (
  R4 x1 (y0 + 0) (x3 + 1) u))
set_option maxRecDepth 20000 in
set_option maxHeartbeats 4000000 in
theorem f_0_rules_40 (X : yX RX0 p m c cX0_rules 4 s args D ca ad A) (hRf : 0 ≤ R.frames) (hRl : 0 ≤ R.locals) {Q : Int → iST → Prop} (hret : ∀ (v : Int) (u : iST) (H : Heap) (locs : List Loc) (ls : Array Slot) (pc : Nat), inR v → Q v u → yW D ca A ad s H locs u → decode cX0_rules pc = .ok (.ireturn, 1) → W p l e R s m args below meth c H locs 0 0 Qf (F0 m pc ls [.int (jI v)])) {R4 : Int → Int → Int → iST → Prop} (hR4 : ∀ (x1 : Int) (x2 : Int) (x3 : Int) (u : iST) (H : Heap) (locs : List Loc) (ls : Array Slot), inR x1 → inR x2 → inR x3 → yW D ca A ad s H locs u → lv_has ls 4 [(0, .ref (ad 0 0)), (1, .int (jI x1)), (2, .int (jI x2)), (3, .int (jI x3))] → R4 x1 x2 x3 u → W p l e R s m args below meth c H locs 0 0 Qf (F0 m 4 ls [])) {x1 x3 y0 : Int} (rx1 : inR x1) (rx3 : inR x3) (ry0 : inR y0) (hw : yW D ca A ad s H locs u) (hl : lv_has ls 4 [(0, .ref (ad 0 0)), (1, .int (jI x1)), (3, .int (jI x3))]) (h : v_0_rules_40 R4 Q x1 x3 y0 u) : W p l e R s m args below meth c H locs 0 0 Qf (F0 m 40 ls [.int (jI y0)]) := by
  have hx := X.1.1
  have hb := X.1.2.1
  unfold v_0_rules_40 at h
  refine lv_iconst hx hb dX0_rules_40 (v := jI 0) rfl ?_
  refine k_iadd hx hb dX0_rules_41 h (fun r3 h => ?_)
  refine lv_istore_n hx hb dX0_rules_42 rfl hl (by decide) rfl (fun ls hl => ?_)
  have hl : lv_has ls 4 [(2, .int (jI (y0 + 0))), (0, .ref (ad 0 0)), (1, .int (jI x1)), (3, .int (jI x3))] := hl
  refine k_iinc (k := 3) hx hb dX0_rules_43 hl rfl (by decide) rfl h (fun ls r4 h hl => ?_)
  have hl : lv_has ls 4 [(3, .int (jI (x3 + 1))), (2, .int (jI (y0 + 0))), (0, .ref (ad 0 0)), (1, .int (jI x1))] := hl
  refine lv_goto hx hb dX0_rules_46 (tgt := 4) rfl ?_
  exact hR4 _ _ _ _ H locs ls rx1 r3 r4 hw (lv_sub hl [2, 3, 1, 0] rfl) h

def v_0_rules_36 (R4 : Int → Int → Int → iST → Prop) (Q : Int → iST → Prop) (x1 : Int) (x3 : Int) (y0 : Int) (u : iST) : Prop :=
  ov (y0 + 1) (
  ov (x3 + 1) (
  R4 x1 (y0 + 1) (x3 + 1) u))
set_option maxRecDepth 20000 in
set_option maxHeartbeats 4000000 in
theorem f_0_rules_36 (X : yX RX0 p m c cX0_rules 4 s args D ca ad A) (hRf : 0 ≤ R.frames) (hRl : 0 ≤ R.locals) {Q : Int → iST → Prop} (hret : ∀ (v : Int) (u : iST) (H : Heap) (locs : List Loc) (ls : Array Slot) (pc : Nat), inR v → Q v u → yW D ca A ad s H locs u → decode cX0_rules pc = .ok (.ireturn, 1) → W p l e R s m args below meth c H locs 0 0 Qf (F0 m pc ls [.int (jI v)])) {R4 : Int → Int → Int → iST → Prop} (hR4 : ∀ (x1 : Int) (x2 : Int) (x3 : Int) (u : iST) (H : Heap) (locs : List Loc) (ls : Array Slot), inR x1 → inR x2 → inR x3 → yW D ca A ad s H locs u → lv_has ls 4 [(0, .ref (ad 0 0)), (1, .int (jI x1)), (2, .int (jI x2)), (3, .int (jI x3))] → R4 x1 x2 x3 u → W p l e R s m args below meth c H locs 0 0 Qf (F0 m 4 ls [])) {x1 x3 y0 : Int} (rx1 : inR x1) (rx3 : inR x3) (ry0 : inR y0) (hw : yW D ca A ad s H locs u) (hl : lv_has ls 4 [(0, .ref (ad 0 0)), (1, .int (jI x1)), (3, .int (jI x3))]) (h : v_0_rules_36 R4 Q x1 x3 y0 u) : W p l e R s m args below meth c H locs 0 0 Qf (F0 m 36 ls [.int (jI y0)]) := by
  have hx := X.1.1
  have hb := X.1.2.1
  unfold v_0_rules_36 at h
  refine lv_iconst hx hb dX0_rules_36 (v := jI 1) rfl ?_
  refine lv_goto hx hb dX0_rules_37 (tgt := 41) rfl ?_
  refine k_iadd hx hb dX0_rules_41 h (fun r6 h => ?_)
  refine lv_istore_n hx hb dX0_rules_42 rfl hl (by decide) rfl (fun ls hl => ?_)
  have hl : lv_has ls 4 [(2, .int (jI (y0 + 1))), (0, .ref (ad 0 0)), (1, .int (jI x1)), (3, .int (jI x3))] := hl
  refine k_iinc (k := 3) hx hb dX0_rules_43 hl rfl (by decide) rfl h (fun ls r7 h hl => ?_)
  have hl : lv_has ls 4 [(3, .int (jI (x3 + 1))), (2, .int (jI (y0 + 1))), (0, .ref (ad 0 0)), (1, .int (jI x1))] := hl
  refine lv_goto hx hb dX0_rules_46 (tgt := 4) rfl ?_
  exact hR4 _ _ _ _ H locs ls rx1 r6 r7 hw (lv_sub hl [2, 3, 1, 0] rfl) h

def v_0_rules_4b (R4 : Int → Int → Int → iST → Prop) (Q : Int → iST → Prop) (x1 : Int) (x2 : Int) (x3 : Int) (u : iST) : Prop :=
  rd (u.1 1) (fun v1 => 
  br (v1 ≤ x3) (
    Q x2 u) (
    bd x3 60 (rd (u.2.1 7 x3) (fun v2 => 
    br (v2 = (-1)) (
      v_0_rules_40 R4 Q x1 x3 x2 u) (
      bd x3 60 (rz (u.2.1 12 x3) (fun v5 => 
      br (v5 ≠ 0) (
        v_0_rules_36 R4 Q x1 x3 x2 u) (
        br (x1 ≠ 0) (
          v_0_rules_40 R4 Q x1 x3 x2 u) (
          v_0_rules_36 R4 Q x1 x3 x2 u)))))))))
def v_0_rules_4 (Q : Int → iST → Prop) (x1 : Int) (x2 : Int) (x3 : Int) (u : iST) : Prop := ∀ R4 : Int → Int → Int → iST → Prop, (∀ (x1 : Int) (x2 : Int) (x3 : Int) (u : iST), v_0_rules_4b R4 Q x1 x2 x3 u → R4 x1 x2 x3 u) → R4 x1 x2 x3 u
set_option maxRecDepth 20000 in
set_option maxHeartbeats 4000000 in
theorem f_0_rules_4 (X : yX RX0 p m c cX0_rules 4 s args D ca ad A) (hRf : 0 ≤ R.frames) (hRl : 0 ≤ R.locals) {Q : Int → iST → Prop} (hret : ∀ (v : Int) (u : iST) (H : Heap) (locs : List Loc) (ls : Array Slot) (pc : Nat), inR v → Q v u → yW D ca A ad s H locs u → decode cX0_rules pc = .ok (.ireturn, 1) → W p l e R s m args below meth c H locs 0 0 Qf (F0 m pc ls [.int (jI v)])) {x1 x2 x3 : Int} (rx1 : inR x1) (rx2 : inR x2) (rx3 : inR x3) (hw : yW D ca A ad s H locs u) (hl : lv_has ls 4 [(0, .ref (ad 0 0)), (1, .int (jI x1)), (2, .int (jI x2)), (3, .int (jI x3))]) (h : v_0_rules_4 Q x1 x2 x3 u) : W p l e R s m args below meth c H locs 0 0 Qf (F0 m 4 ls []) := by
  refine h (fun x1 x2 x3 u => ∀ (H : Heap) (locs : List Loc) (ls : Array Slot), inR x1 → inR x2 → inR x3 → yW D ca A ad s H locs u → lv_has ls 4 [(0, .ref (ad 0 0)), (1, .int (jI x1)), (2, .int (jI x2)), (3, .int (jI x3))] → W p l e R s m args below meth c H locs 0 0 Qf (F0 m 4 ls [])) ?_ H locs ls rx1 rx2 rx3 hw hl
  clear h hl hw rx1 rx2 rx3
  intro x1 x2 x3 u h H locs ls rx1 rx2 rx3 hw hl
  have hR4 : ∀ (x1 : Int) (x2 : Int) (x3 : Int) (u : iST) (H : Heap) (locs : List Loc) (ls : Array Slot), inR x1 → inR x2 → inR x3 → yW D ca A ad s H locs u → lv_has ls 4 [(0, .ref (ad 0 0)), (1, .int (jI x1)), (2, .int (jI x2)), (3, .int (jI x3))] → (fun (x1 : Int) (x2 : Int) (x3 : Int) u => ∀ (H : Heap) (locs : List Loc) (ls : Array Slot), inR x1 → inR x2 → inR x3 → yW D ca A ad s H locs u → lv_has ls 4 [(0, .ref (ad 0 0)), (1, .int (jI x1)), (2, .int (jI x2)), (3, .int (jI x3))] → W p l e R s m args below meth c H locs 0 0 Qf (F0 m 4 ls [])) x1 x2 x3 u → W p l e R s m args below meth c H locs 0 0 Qf (F0 m 4 ls []) := fun x1 x2 x3 u H locs ls rx1 rx2 rx3 hw hl h => h H locs ls rx1 rx2 rx3 hw hl
  have hx := X.1.1
  have hb := X.1.2.1
  unfold v_0_rules_4b at h
  refine lv_iload_n hx hb dX0_rules_4 rfl (lv_at hl 3 rfl) ?_
  refine lv_aload_n hx hb dX0_rules_5 rfl (lv_at hl 0 rfl) ?_
  refine yg_0_64 X hw dX0_rules_6 h (fun v1 rv1 h => ?_)
  refine k_icmp_ge hx hb rx3 rv1 dX0_rules_9 (tgt := 49) rfl h (fun h => ?_) (fun h => ?_)
  · refine lv_iload_n hx hb dX0_rules_49 rfl (lv_at hl 2 rfl) ?_
    exact hret _ _ _ _ _ _ rx2 h hw dX0_rules_50
  · refine lv_iload_n hx hb dX0_rules_12 rfl (lv_at hl 2 rfl) ?_
    refine lv_aload_n hx hb dX0_rules_13 rfl (lv_at hl 0 rfl) ?_
    refine yg_0_37 X hw dX0_rules_14 ?_
    refine lv_iload_n hx hb dX0_rules_17 rfl (lv_at hl 3 rfl) ?_
    refine yl_7 X hw rx3 dX0_rules_18 h (fun v2 rv2 h => ?_)
    refine lv_iconst hx hb dX0_rules_19 (v := jI (-1)) rfl ?_
    refine k_icmp_eq hx hb rv2 (by decide) dX0_rules_20 (tgt := 40) rfl h (fun h => ?_) (fun h => ?_)
    · exact f_0_rules_40 X hRf hRl hret hR4 rx1 rx3 rx2 hw (lv_sub hl [0, 1, 3] rfl) h
    · refine lv_aload_n hx hb dX0_rules_23 rfl (lv_at hl 0 rfl) ?_
      refine yg_0_58 X hw dX0_rules_24 ?_
      refine lv_iload_n hx hb dX0_rules_27 rfl (lv_at hl 3 rfl) ?_
      refine yl_12 X hw rx3 dX0_rules_28 h (fun v5 rv5 h => ?_)
      refine k_if_ne hx hb (bz_in rv5) dX0_rules_29 (tgt := 36) rfl h (fun h => ?_) (fun h => ?_)
      · exact f_0_rules_36 X hRf hRl hret hR4 rx1 rx3 rx2 hw (lv_sub hl [0, 1, 3] rfl) h
      · refine lv_iload_n hx hb dX0_rules_32 rfl (lv_at hl 1 rfl) ?_
        refine k_if_ne hx hb rx1 dX0_rules_33 (tgt := 40) rfl h (fun h => ?_) (fun h => ?_)
        · exact f_0_rules_40 X hRf hRl hret hR4 rx1 rx3 rx2 hw (lv_sub hl [0, 1, 3] rfl) h
        · exact f_0_rules_36 X hRf hRl hret hR4 rx1 rx3 rx2 hw (lv_sub hl [0, 1, 3] rfl) h

def v_0_rules (a0 : Int) (Q : Int → iST → Prop) (u : iST) : Prop :=
  v_0_rules_4 Q a0 0 0 u
set_option maxRecDepth 20000 in
set_option maxHeartbeats 4000000 in
theorem f_0_rules_s (X : yX RX0 p m c cX0_rules 4 s args D ca ad A) (hRf : 0 ≤ R.frames) (hRl : 0 ≤ R.locals) {Q : Int → iST → Prop} (hret : ∀ (v : Int) (u : iST) (H : Heap) (locs : List Loc) (ls : Array Slot) (pc : Nat), inR v → Q v u → yW D ca A ad s H locs u → decode cX0_rules pc = .ok (.ireturn, 1) → W p l e R s m args below meth c H locs 0 0 Qf (F0 m pc ls [.int (jI v)])) {a0 : Int} (ra0 : inR a0) (hw : yW D ca A ad s H locs u) (hl : lv_has ls 4 [(0, .ref (ad 0 0)), (1, .int (jI a0))]) (h : v_0_rules a0 Q u) : W p l e R s m args below meth c H locs 0 0 Qf (F0 m 0 ls []) := by
  have hx := X.1.1
  have hb := X.1.2.1
  unfold v_0_rules at h
  refine lv_iconst hx hb dX0_rules_0 (v := jI 0) rfl ?_
  refine lv_istore_n hx hb dX0_rules_1 rfl hl (by decide) rfl (fun ls hl => ?_)
  have hl : lv_has ls 4 [(2, .int (jI 0)), (0, .ref (ad 0 0)), (1, .int (jI a0))] := hl
  refine lv_iconst hx hb dX0_rules_2 (v := jI 0) rfl ?_
  refine lv_istore_n hx hb dX0_rules_3 rfl hl (by decide) rfl (fun ls hl => ?_)
  have hl : lv_has ls 4 [(3, .int (jI 0)), (2, .int (jI 0)), (0, .ref (ad 0 0)), (1, .int (jI a0))] := hl
  exact f_0_rules_4 X hRf hRl hret ra0 (by decide) (by decide) hw (lv_sub hl [2, 3, 1, 0] rfl) h

end
theorem e_0_rules {l : Launch} {a0 : Int} (ra0 : inR a0) {Q : Int → iST → Prop} {u : iST} (h : v_0_rules a0 Q u) : yMI l yX0_rules (.code yX0_rules cX0_rules 4 (some .int) :: wsN) { frames := 0, cells := 0, slots := 0, locals := 0 } (fun ad => [.ref (ad 0 0), .int (jI a0)]) Q u := yMI_of (own := RX0) rfl (by decide +kernel) (fun _ => Nat.le_of_ble_eq_true rfl) (fun X hRf hRl hret hw hl => f_0_rules_s X hRf hRl hret ra0 hw hl h)

/-! ProofHouse$Book.muteNone -/
theorem dX0_muteNone_0 : decode cX0_muteNone 0 = .ok (.iconst 0, 1) := by decide +kernel
theorem dX0_muteNone_1 : decode cX0_muteNone 1 = .ok (.istore_n 1, 1) := by decide +kernel
theorem dX0_muteNone_2 : decode cX0_muteNone 2 = .ok (.iload_n 1, 1) := by decide +kernel
theorem dX0_muteNone_3 : decode cX0_muteNone 3 = .ok (.bipush 60, 2) := by decide +kernel
theorem dX0_muteNone_5 : decode cX0_muteNone 5 = .ok (.if_icmp .ge 16, 3) := by decide +kernel
theorem dX0_muteNone_8 : decode cX0_muteNone 8 = .ok (.aload_n 0, 1) := by decide +kernel
theorem dX0_muteNone_9 : decode cX0_muteNone 9 = .ok (.getfield 61, 3) := by decide +kernel
theorem dX0_muteNone_12 : decode cX0_muteNone 12 = .ok (.iload_n 1, 1) := by decide +kernel
theorem dX0_muteNone_13 : decode cX0_muteNone 13 = .ok (.iconst 0, 1) := by decide +kernel
theorem dX0_muteNone_14 : decode cX0_muteNone 14 = .ok (.bastore, 1) := by decide +kernel
theorem dX0_muteNone_15 : decode cX0_muteNone 15 = .ok (.iinc 1 1, 3) := by decide +kernel
theorem dX0_muteNone_18 : decode cX0_muteNone 18 = .ok (.goto (-16), 3) := by decide +kernel
theorem dX0_muteNone_21 : decode cX0_muteNone 21 = .ok (.return_, 1) := by decide +kernel

section
variable {p : Program} {l : Launch} {e : Env} {R : Room} {s : State} {m : MethodId} {args : Array Value} {below : List Frame} {meth : Method} {c : Code} {H : Heap} {locs : List Loc} {Qf : State → Prop}
variable {ls : Array Slot} {D : va_G} {ca : Nat → ClassId} {A : Nat → Prop} {ad : Nat → Nat → Nat} {u : iST}
def v_0_muteNone_2b (R2 : Int → iST → Prop) (Q : iST → Prop) (x1 : Int) (u : iST) : Prop :=
  br (60 ≤ x1) (
    Q u) (
    zt 0 (bd x1 60 (sw (iA u 13 x1 0) (fun u => 
    ov (x1 + 1) (
    R2 (x1 + 1) u)))))
def v_0_muteNone_2 (Q : iST → Prop) (x1 : Int) (u : iST) : Prop := ∀ R2 : Int → iST → Prop, (∀ (x1 : Int) (u : iST), v_0_muteNone_2b R2 Q x1 u → R2 x1 u) → R2 x1 u
set_option maxRecDepth 20000 in
set_option maxHeartbeats 4000000 in
theorem f_0_muteNone_2 (X : yX RX0 p m c cX0_muteNone 2 s args D ca ad A) (hRf : 0 ≤ R.frames) (hRl : 0 ≤ R.locals) {Q : iST → Prop} (hret : ∀ (u : iST) (H : Heap) (locs : List Loc) (ls : Array Slot) (pc : Nat), Q u → yW D ca A ad s H locs u → decode cX0_muteNone pc = .ok (.return_, 1) → W p l e R s m args below meth c H locs 0 0 Qf (F0 m pc ls [])) {x1 : Int} (rx1 : inR x1) (hw : yW D ca A ad s H locs u) (hl : lv_has ls 2 [(0, .ref (ad 0 0)), (1, .int (jI x1))]) (h : v_0_muteNone_2 Q x1 u) : W p l e R s m args below meth c H locs 0 0 Qf (F0 m 2 ls []) := by
  refine h (fun x1 u => ∀ (H : Heap) (locs : List Loc) (ls : Array Slot), inR x1 → yW D ca A ad s H locs u → lv_has ls 2 [(0, .ref (ad 0 0)), (1, .int (jI x1))] → W p l e R s m args below meth c H locs 0 0 Qf (F0 m 2 ls [])) ?_ H locs ls rx1 hw hl
  clear h hl hw rx1
  intro x1 u h H locs ls rx1 hw hl
  have hR2 : ∀ (x1 : Int) (u : iST) (H : Heap) (locs : List Loc) (ls : Array Slot), inR x1 → yW D ca A ad s H locs u → lv_has ls 2 [(0, .ref (ad 0 0)), (1, .int (jI x1))] → (fun (x1 : Int) u => ∀ (H : Heap) (locs : List Loc) (ls : Array Slot), inR x1 → yW D ca A ad s H locs u → lv_has ls 2 [(0, .ref (ad 0 0)), (1, .int (jI x1))] → W p l e R s m args below meth c H locs 0 0 Qf (F0 m 2 ls [])) x1 u → W p l e R s m args below meth c H locs 0 0 Qf (F0 m 2 ls []) := fun x1 u H locs ls rx1 hw hl h => h H locs ls rx1 hw hl
  have hx := X.1.1
  have hb := X.1.2.1
  unfold v_0_muteNone_2b at h
  refine lv_iload_n hx hb dX0_muteNone_2 rfl (lv_at hl 1 rfl) ?_
  refine lv_bipush hx hb dX0_muteNone_3 (v := jI 60) rfl ?_
  refine k_icmp_ge hx hb rx1 (by decide) dX0_muteNone_5 (tgt := 21) rfl h (fun h => ?_) (fun h => ?_)
  · exact hret _ _ _ _ _ h hw dX0_muteNone_21
  · refine lv_aload_n hx hb dX0_muteNone_8 rfl (lv_at hl 0 rfl) ?_
    refine yg_0_61 X hw dX0_muteNone_9 ?_
    refine lv_iload_n hx hb dX0_muteNone_12 rfl (lv_at hl 1 rfl) ?_
    refine lv_iconst hx hb dX0_muteNone_13 (v := jI 0) rfl ?_
    refine yt_13 X hw rx1 dX0_muteNone_14 h (fun H locs u hw h => ?_)
    refine k_iinc (k := 1) hx hb dX0_muteNone_15 hl rfl (by decide) rfl h (fun ls r1 h hl => ?_)
    have hl : lv_has ls 2 [(1, .int (jI (x1 + 1))), (0, .ref (ad 0 0))] := hl
    refine lv_goto hx hb dX0_muteNone_18 (tgt := 2) rfl ?_
    exact hR2 _ _ H locs ls r1 hw (lv_sub hl [1, 0] rfl) h

def v_0_muteNone (Q : iST → Prop) (u : iST) : Prop :=
  v_0_muteNone_2 Q 0 u
set_option maxRecDepth 20000 in
set_option maxHeartbeats 4000000 in
theorem f_0_muteNone_s (X : yX RX0 p m c cX0_muteNone 2 s args D ca ad A) (hRf : 0 ≤ R.frames) (hRl : 0 ≤ R.locals) {Q : iST → Prop} (hret : ∀ (u : iST) (H : Heap) (locs : List Loc) (ls : Array Slot) (pc : Nat), Q u → yW D ca A ad s H locs u → decode cX0_muteNone pc = .ok (.return_, 1) → W p l e R s m args below meth c H locs 0 0 Qf (F0 m pc ls [])) (hw : yW D ca A ad s H locs u) (hl : lv_has ls 2 [(0, .ref (ad 0 0))]) (h : v_0_muteNone Q u) : W p l e R s m args below meth c H locs 0 0 Qf (F0 m 0 ls []) := by
  have hx := X.1.1
  have hb := X.1.2.1
  unfold v_0_muteNone at h
  refine lv_iconst hx hb dX0_muteNone_0 (v := jI 0) rfl ?_
  refine lv_istore_n hx hb dX0_muteNone_1 rfl hl (by decide) rfl (fun ls hl => ?_)
  have hl : lv_has ls 2 [(1, .int (jI 0)), (0, .ref (ad 0 0))] := hl
  exact f_0_muteNone_2 X hRf hRl hret (by decide) hw (lv_sub hl [1, 0] rfl) h

end
theorem e_0_muteNone {l : Launch} {Q : iST → Prop} {u : iST} (h : v_0_muteNone Q u) : yMV l yX0_muteNone (.code yX0_muteNone cX0_muteNone 2 none :: wsN) { frames := 0, cells := 0, slots := 0, locals := 0 } (fun ad => [.ref (ad 0 0)]) Q u := yMV_of (own := RX0) rfl (by decide +kernel) (fun _ => Nat.le_of_ble_eq_true rfl) (fun X hRf hRl hret hw hl => f_0_muteNone_s X hRf hRl hret hw hl h)

/-! ProofHouse$Book.addFunction -/
theorem dX0_addFunction_0 : decode cX0_addFunction 0 = .ok (.aload_n 0, 1) := by decide +kernel
theorem dX0_addFunction_1 : decode cX0_addFunction 1 = .ok (.getfield 27, 3) := by decide +kernel
theorem dX0_addFunction_4 : decode cX0_addFunction 4 = .ok (.bipush 40, 2) := by decide +kernel
theorem dX0_addFunction_6 : decode cX0_addFunction 6 = .ok (.if_icmp .ge 65, 3) := by decide +kernel
theorem dX0_addFunction_9 : decode cX0_addFunction 9 = .ok (.aload_n 0, 1) := by decide +kernel
theorem dX0_addFunction_10 : decode cX0_addFunction 10 = .ok (.getfield 9, 3) := by decide +kernel
theorem dX0_addFunction_13 : decode cX0_addFunction 13 = .ok (.aload_n 0, 1) := by decide +kernel
theorem dX0_addFunction_14 : decode cX0_addFunction 14 = .ok (.getfield 27, 3) := by decide +kernel
theorem dX0_addFunction_17 : decode cX0_addFunction 17 = .ok (.iload_n 1, 1) := by decide +kernel
theorem dX0_addFunction_18 : decode cX0_addFunction 18 = .ok (.iastore, 1) := by decide +kernel
theorem dX0_addFunction_19 : decode cX0_addFunction 19 = .ok (.aload_n 0, 1) := by decide +kernel
theorem dX0_addFunction_20 : decode cX0_addFunction 20 = .ok (.getfield 15, 3) := by decide +kernel
theorem dX0_addFunction_23 : decode cX0_addFunction 23 = .ok (.aload_n 0, 1) := by decide +kernel
theorem dX0_addFunction_24 : decode cX0_addFunction 24 = .ok (.getfield 27, 3) := by decide +kernel
theorem dX0_addFunction_27 : decode cX0_addFunction 27 = .ok (.iload_n 2, 1) := by decide +kernel
theorem dX0_addFunction_28 : decode cX0_addFunction 28 = .ok (.iastore, 1) := by decide +kernel
theorem dX0_addFunction_29 : decode cX0_addFunction 29 = .ok (.aload_n 0, 1) := by decide +kernel
theorem dX0_addFunction_30 : decode cX0_addFunction 30 = .ok (.getfield 18, 3) := by decide +kernel
theorem dX0_addFunction_33 : decode cX0_addFunction 33 = .ok (.aload_n 0, 1) := by decide +kernel
theorem dX0_addFunction_34 : decode cX0_addFunction 34 = .ok (.getfield 27, 3) := by decide +kernel
theorem dX0_addFunction_37 : decode cX0_addFunction 37 = .ok (.iload_n 3, 1) := by decide +kernel
theorem dX0_addFunction_38 : decode cX0_addFunction 38 = .ok (.iastore, 1) := by decide +kernel
theorem dX0_addFunction_39 : decode cX0_addFunction 39 = .ok (.aload_n 0, 1) := by decide +kernel
theorem dX0_addFunction_40 : decode cX0_addFunction 40 = .ok (.getfield 21, 3) := by decide +kernel
theorem dX0_addFunction_43 : decode cX0_addFunction 43 = .ok (.aload_n 0, 1) := by decide +kernel
theorem dX0_addFunction_44 : decode cX0_addFunction 44 = .ok (.getfield 27, 3) := by decide +kernel
theorem dX0_addFunction_47 : decode cX0_addFunction 47 = .ok (.iload 4, 2) := by decide +kernel
theorem dX0_addFunction_49 : decode cX0_addFunction 49 = .ok (.iastore, 1) := by decide +kernel
theorem dX0_addFunction_50 : decode cX0_addFunction 50 = .ok (.aload_n 0, 1) := by decide +kernel
theorem dX0_addFunction_51 : decode cX0_addFunction 51 = .ok (.getfield 24, 3) := by decide +kernel
theorem dX0_addFunction_54 : decode cX0_addFunction 54 = .ok (.aload_n 0, 1) := by decide +kernel
theorem dX0_addFunction_55 : decode cX0_addFunction 55 = .ok (.getfield 27, 3) := by decide +kernel
theorem dX0_addFunction_58 : decode cX0_addFunction 58 = .ok (.iload 5, 2) := by decide +kernel
theorem dX0_addFunction_60 : decode cX0_addFunction 60 = .ok (.iastore, 1) := by decide +kernel
theorem dX0_addFunction_61 : decode cX0_addFunction 61 = .ok (.aload_n 0, 1) := by decide +kernel
theorem dX0_addFunction_62 : decode cX0_addFunction 62 = .ok (.dup, 1) := by decide +kernel
theorem dX0_addFunction_63 : decode cX0_addFunction 63 = .ok (.getfield 27, 3) := by decide +kernel
theorem dX0_addFunction_66 : decode cX0_addFunction 66 = .ok (.iconst 1, 1) := by decide +kernel
theorem dX0_addFunction_67 : decode cX0_addFunction 67 = .ok (.iadd, 1) := by decide +kernel
theorem dX0_addFunction_68 : decode cX0_addFunction 68 = .ok (.putfield 27, 3) := by decide +kernel
theorem dX0_addFunction_71 : decode cX0_addFunction 71 = .ok (.return_, 1) := by decide +kernel

section
variable {p : Program} {l : Launch} {e : Env} {R : Room} {s : State} {m : MethodId} {args : Array Value} {below : List Frame} {meth : Method} {c : Code} {H : Heap} {locs : List Loc} {Qf : State → Prop}
variable {ls : Array Slot} {D : va_G} {ca : Nat → ClassId} {A : Nat → Prop} {ad : Nat → Nat → Nat} {u : iST}
def v_0_addFunction (a0 : Int) (a1 : Int) (a2 : Int) (a3 : Int) (a4 : Int) (Q : iST → Prop) (u : iST) : Prop :=
  rd (u.1 0) (fun v1 => 
  br (40 ≤ v1) (
    Q u) (
    rd (u.1 0) (fun v2 => 
    bd v2 40 (sw (iA u 0 v2 a0) (fun u => 
    rd (u.1 0) (fun v3 => 
    bd v3 40 (sw (iA u 1 v3 a1) (fun u => 
    rd (u.1 0) (fun v4 => 
    bd v4 40 (sw (iA u 2 v4 a2) (fun u => 
    rd (u.1 0) (fun v5 => 
    bd v5 40 (sw (iA u 3 v5 a3) (fun u => 
    rd (u.1 0) (fun v6 => 
    bd v6 40 (sw (iA u 4 v6 a4) (fun u => 
    rd (u.1 0) (fun v7 => 
    ov (v7 + 1) (
    sw (iI u 0 (v7 + 1)) (fun u => 
    Q u))))))))))))))))))))
set_option maxRecDepth 20000 in
set_option maxHeartbeats 4000000 in
theorem f_0_addFunction_s (X : yX RX0 p m c cX0_addFunction 6 s args D ca ad A) (hRf : 0 ≤ R.frames) (hRl : 0 ≤ R.locals) {Q : iST → Prop} (hret : ∀ (u : iST) (H : Heap) (locs : List Loc) (ls : Array Slot) (pc : Nat), Q u → yW D ca A ad s H locs u → decode cX0_addFunction pc = .ok (.return_, 1) → W p l e R s m args below meth c H locs 0 0 Qf (F0 m pc ls [])) {a0 a1 a2 a3 a4 : Int} (ra0 : inR a0) (ra1 : inR a1) (ra2 : inR a2) (ra3 : inR a3) (ra4 : inR a4) (hw : yW D ca A ad s H locs u) (hl : lv_has ls 6 [(0, .ref (ad 0 0)), (1, .int (jI a0)), (2, .int (jI a1)), (3, .int (jI a2)), (4, .int (jI a3)), (5, .int (jI a4))]) (h : v_0_addFunction a0 a1 a2 a3 a4 Q u) : W p l e R s m args below meth c H locs 0 0 Qf (F0 m 0 ls []) := by
  have hx := X.1.1
  have hb := X.1.2.1
  unfold v_0_addFunction at h
  refine lv_aload_n hx hb dX0_addFunction_0 rfl (lv_at hl 0 rfl) ?_
  refine yg_0_27 X hw dX0_addFunction_1 h (fun v1 rv1 h => ?_)
  refine lv_bipush hx hb dX0_addFunction_4 (v := jI 40) rfl ?_
  refine k_icmp_ge hx hb rv1 (by decide) dX0_addFunction_6 (tgt := 71) rfl h (fun h => ?_) (fun h => ?_)
  · exact hret _ _ _ _ _ h hw dX0_addFunction_71
  · refine lv_aload_n hx hb dX0_addFunction_9 rfl (lv_at hl 0 rfl) ?_
    refine yg_0_9 X hw dX0_addFunction_10 ?_
    refine lv_aload_n hx hb dX0_addFunction_13 rfl (lv_at hl 0 rfl) ?_
    refine yg_0_27 X hw dX0_addFunction_14 h (fun v2 rv2 h => ?_)
    refine lv_iload_n hx hb dX0_addFunction_17 rfl (lv_at hl 1 rfl) ?_
    refine yt_0 X hw rv2 ra0 dX0_addFunction_18 h (fun H locs u hw h => ?_)
    refine lv_aload_n hx hb dX0_addFunction_19 rfl (lv_at hl 0 rfl) ?_
    refine yg_0_15 X hw dX0_addFunction_20 ?_
    refine lv_aload_n hx hb dX0_addFunction_23 rfl (lv_at hl 0 rfl) ?_
    refine yg_0_27 X hw dX0_addFunction_24 h (fun v3 rv3 h => ?_)
    refine lv_iload_n hx hb dX0_addFunction_27 rfl (lv_at hl 2 rfl) ?_
    refine yt_1 X hw rv3 ra1 dX0_addFunction_28 h (fun H locs u hw h => ?_)
    refine lv_aload_n hx hb dX0_addFunction_29 rfl (lv_at hl 0 rfl) ?_
    refine yg_0_18 X hw dX0_addFunction_30 ?_
    refine lv_aload_n hx hb dX0_addFunction_33 rfl (lv_at hl 0 rfl) ?_
    refine yg_0_27 X hw dX0_addFunction_34 h (fun v4 rv4 h => ?_)
    refine lv_iload_n hx hb dX0_addFunction_37 rfl (lv_at hl 3 rfl) ?_
    refine yt_2 X hw rv4 ra2 dX0_addFunction_38 h (fun H locs u hw h => ?_)
    refine lv_aload_n hx hb dX0_addFunction_39 rfl (lv_at hl 0 rfl) ?_
    refine yg_0_21 X hw dX0_addFunction_40 ?_
    refine lv_aload_n hx hb dX0_addFunction_43 rfl (lv_at hl 0 rfl) ?_
    refine yg_0_27 X hw dX0_addFunction_44 h (fun v5 rv5 h => ?_)
    refine lv_iload hx hb dX0_addFunction_47 (lv_at hl 4 rfl) ?_
    refine yt_3 X hw rv5 ra3 dX0_addFunction_49 h (fun H locs u hw h => ?_)
    refine lv_aload_n hx hb dX0_addFunction_50 rfl (lv_at hl 0 rfl) ?_
    refine yg_0_24 X hw dX0_addFunction_51 ?_
    refine lv_aload_n hx hb dX0_addFunction_54 rfl (lv_at hl 0 rfl) ?_
    refine yg_0_27 X hw dX0_addFunction_55 h (fun v6 rv6 h => ?_)
    refine lv_iload hx hb dX0_addFunction_58 (lv_at hl 5 rfl) ?_
    refine yt_4 X hw rv6 ra4 dX0_addFunction_60 h (fun H locs u hw h => ?_)
    refine lv_aload_n hx hb dX0_addFunction_61 rfl (lv_at hl 0 rfl) ?_
    refine lv_dup hx hb dX0_addFunction_62 rfl ?_
    refine yg_0_27 X hw dX0_addFunction_63 h (fun v7 rv7 h => ?_)
    refine lv_iconst hx hb dX0_addFunction_66 (v := jI 1) rfl ?_
    refine k_iadd hx hb dX0_addFunction_67 h (fun r8 h => ?_)
    refine yp_0_27 X hw r8 dX0_addFunction_68 h (fun H locs u hw h => ?_)
    exact hret _ _ _ _ _ h hw dX0_addFunction_71

end
theorem e_0_addFunction {l : Launch} {a0 : Int} {a1 : Int} {a2 : Int} {a3 : Int} {a4 : Int} (ra0 : inR a0) (ra1 : inR a1) (ra2 : inR a2) (ra3 : inR a3) (ra4 : inR a4) {Q : iST → Prop} {u : iST} (h : v_0_addFunction a0 a1 a2 a3 a4 Q u) : yMV l yX0_addFunction (.code yX0_addFunction cX0_addFunction 6 none :: wsN) { frames := 0, cells := 0, slots := 0, locals := 0 } (fun ad => [.ref (ad 0 0), .int (jI a0), .int (jI a1), .int (jI a2), .int (jI a3), .int (jI a4)]) Q u := yMV_of (own := RX0) rfl (by decide +kernel) (fun _ => Nat.le_of_ble_eq_true rfl) (fun X hRf hRl hret hw hl => f_0_addFunction_s X hRf hRl hret ra0 ra1 ra2 ra3 ra4 hw hl h)

/-! ProofHouse$Book.addTheorem -/
theorem dX0_addTheorem_0 : decode cX0_addTheorem 0 = .ok (.aload_n 0, 1) := by decide +kernel
theorem dX0_addTheorem_1 : decode cX0_addTheorem 1 = .ok (.getfield 64, 3) := by decide +kernel
theorem dX0_addTheorem_4 : decode cX0_addTheorem 4 = .ok (.bipush 60, 2) := by decide +kernel
theorem dX0_addTheorem_6 : decode cX0_addTheorem 6 = .ok (.if_icmp .ge 53, 3) := by decide +kernel
theorem dX0_addTheorem_9 : decode cX0_addTheorem 9 = .ok (.aload_n 0, 1) := by decide +kernel
theorem dX0_addTheorem_10 : decode cX0_addTheorem 10 = .ok (.getfield 31, 3) := by decide +kernel
theorem dX0_addTheorem_13 : decode cX0_addTheorem 13 = .ok (.aload_n 0, 1) := by decide +kernel
theorem dX0_addTheorem_14 : decode cX0_addTheorem 14 = .ok (.getfield 64, 3) := by decide +kernel
theorem dX0_addTheorem_17 : decode cX0_addTheorem 17 = .ok (.iload_n 1, 1) := by decide +kernel
theorem dX0_addTheorem_18 : decode cX0_addTheorem 18 = .ok (.iastore, 1) := by decide +kernel
theorem dX0_addTheorem_19 : decode cX0_addTheorem 19 = .ok (.aload_n 0, 1) := by decide +kernel
theorem dX0_addTheorem_20 : decode cX0_addTheorem 20 = .ok (.getfield 34, 3) := by decide +kernel
theorem dX0_addTheorem_23 : decode cX0_addTheorem 23 = .ok (.aload_n 0, 1) := by decide +kernel
theorem dX0_addTheorem_24 : decode cX0_addTheorem 24 = .ok (.getfield 64, 3) := by decide +kernel
theorem dX0_addTheorem_27 : decode cX0_addTheorem 27 = .ok (.iload_n 2, 1) := by decide +kernel
theorem dX0_addTheorem_28 : decode cX0_addTheorem 28 = .ok (.iastore, 1) := by decide +kernel
theorem dX0_addTheorem_29 : decode cX0_addTheorem 29 = .ok (.aload_n 0, 1) := by decide +kernel
theorem dX0_addTheorem_30 : decode cX0_addTheorem 30 = .ok (.getfield 37, 3) := by decide +kernel
theorem dX0_addTheorem_33 : decode cX0_addTheorem 33 = .ok (.aload_n 0, 1) := by decide +kernel
theorem dX0_addTheorem_34 : decode cX0_addTheorem 34 = .ok (.getfield 64, 3) := by decide +kernel
theorem dX0_addTheorem_37 : decode cX0_addTheorem 37 = .ok (.iconst (-1), 1) := by decide +kernel
theorem dX0_addTheorem_38 : decode cX0_addTheorem 38 = .ok (.iastore, 1) := by decide +kernel
theorem dX0_addTheorem_39 : decode cX0_addTheorem 39 = .ok (.aload_n 0, 1) := by decide +kernel
theorem dX0_addTheorem_40 : decode cX0_addTheorem 40 = .ok (.getfield 58, 3) := by decide +kernel
theorem dX0_addTheorem_43 : decode cX0_addTheorem 43 = .ok (.aload_n 0, 1) := by decide +kernel
theorem dX0_addTheorem_44 : decode cX0_addTheorem 44 = .ok (.getfield 64, 3) := by decide +kernel
theorem dX0_addTheorem_47 : decode cX0_addTheorem 47 = .ok (.iconst 0, 1) := by decide +kernel
theorem dX0_addTheorem_48 : decode cX0_addTheorem 48 = .ok (.bastore, 1) := by decide +kernel
theorem dX0_addTheorem_49 : decode cX0_addTheorem 49 = .ok (.aload_n 0, 1) := by decide +kernel
theorem dX0_addTheorem_50 : decode cX0_addTheorem 50 = .ok (.dup, 1) := by decide +kernel
theorem dX0_addTheorem_51 : decode cX0_addTheorem 51 = .ok (.getfield 64, 3) := by decide +kernel
theorem dX0_addTheorem_54 : decode cX0_addTheorem 54 = .ok (.iconst 1, 1) := by decide +kernel
theorem dX0_addTheorem_55 : decode cX0_addTheorem 55 = .ok (.iadd, 1) := by decide +kernel
theorem dX0_addTheorem_56 : decode cX0_addTheorem 56 = .ok (.putfield 64, 3) := by decide +kernel
theorem dX0_addTheorem_59 : decode cX0_addTheorem 59 = .ok (.return_, 1) := by decide +kernel

section
variable {p : Program} {l : Launch} {e : Env} {R : Room} {s : State} {m : MethodId} {args : Array Value} {below : List Frame} {meth : Method} {c : Code} {H : Heap} {locs : List Loc} {Qf : State → Prop}
variable {ls : Array Slot} {D : va_G} {ca : Nat → ClassId} {A : Nat → Prop} {ad : Nat → Nat → Nat} {u : iST}
def v_0_addTheorem (a0 : Int) (a1 : Int) (Q : iST → Prop) (u : iST) : Prop :=
  rd (u.1 1) (fun v1 => 
  br (60 ≤ v1) (
    Q u) (
    rd (u.1 1) (fun v2 => 
    bd v2 60 (sw (iA u 5 v2 a0) (fun u => 
    rd (u.1 1) (fun v3 => 
    bd v3 60 (sw (iA u 6 v3 a1) (fun u => 
    rd (u.1 1) (fun v4 => 
    bd v4 60 (sw (iA u 7 v4 (-1)) (fun u => 
    rd (u.1 1) (fun v5 => 
    zt 0 (bd v5 60 (sw (iA u 12 v5 0) (fun u => 
    rd (u.1 1) (fun v6 => 
    ov (v6 + 1) (
    sw (iI u 1 (v6 + 1)) (fun u => 
    Q u))))))))))))))))))
set_option maxRecDepth 20000 in
set_option maxHeartbeats 4000000 in
theorem f_0_addTheorem_s (X : yX RX0 p m c cX0_addTheorem 3 s args D ca ad A) (hRf : 0 ≤ R.frames) (hRl : 0 ≤ R.locals) {Q : iST → Prop} (hret : ∀ (u : iST) (H : Heap) (locs : List Loc) (ls : Array Slot) (pc : Nat), Q u → yW D ca A ad s H locs u → decode cX0_addTheorem pc = .ok (.return_, 1) → W p l e R s m args below meth c H locs 0 0 Qf (F0 m pc ls [])) {a0 a1 : Int} (ra0 : inR a0) (ra1 : inR a1) (hw : yW D ca A ad s H locs u) (hl : lv_has ls 3 [(0, .ref (ad 0 0)), (1, .int (jI a0)), (2, .int (jI a1))]) (h : v_0_addTheorem a0 a1 Q u) : W p l e R s m args below meth c H locs 0 0 Qf (F0 m 0 ls []) := by
  have hx := X.1.1
  have hb := X.1.2.1
  unfold v_0_addTheorem at h
  refine lv_aload_n hx hb dX0_addTheorem_0 rfl (lv_at hl 0 rfl) ?_
  refine yg_0_64 X hw dX0_addTheorem_1 h (fun v1 rv1 h => ?_)
  refine lv_bipush hx hb dX0_addTheorem_4 (v := jI 60) rfl ?_
  refine k_icmp_ge hx hb rv1 (by decide) dX0_addTheorem_6 (tgt := 59) rfl h (fun h => ?_) (fun h => ?_)
  · exact hret _ _ _ _ _ h hw dX0_addTheorem_59
  · refine lv_aload_n hx hb dX0_addTheorem_9 rfl (lv_at hl 0 rfl) ?_
    refine yg_0_31 X hw dX0_addTheorem_10 ?_
    refine lv_aload_n hx hb dX0_addTheorem_13 rfl (lv_at hl 0 rfl) ?_
    refine yg_0_64 X hw dX0_addTheorem_14 h (fun v2 rv2 h => ?_)
    refine lv_iload_n hx hb dX0_addTheorem_17 rfl (lv_at hl 1 rfl) ?_
    refine yt_5 X hw rv2 ra0 dX0_addTheorem_18 h (fun H locs u hw h => ?_)
    refine lv_aload_n hx hb dX0_addTheorem_19 rfl (lv_at hl 0 rfl) ?_
    refine yg_0_34 X hw dX0_addTheorem_20 ?_
    refine lv_aload_n hx hb dX0_addTheorem_23 rfl (lv_at hl 0 rfl) ?_
    refine yg_0_64 X hw dX0_addTheorem_24 h (fun v3 rv3 h => ?_)
    refine lv_iload_n hx hb dX0_addTheorem_27 rfl (lv_at hl 2 rfl) ?_
    refine yt_6 X hw rv3 ra1 dX0_addTheorem_28 h (fun H locs u hw h => ?_)
    refine lv_aload_n hx hb dX0_addTheorem_29 rfl (lv_at hl 0 rfl) ?_
    refine yg_0_37 X hw dX0_addTheorem_30 ?_
    refine lv_aload_n hx hb dX0_addTheorem_33 rfl (lv_at hl 0 rfl) ?_
    refine yg_0_64 X hw dX0_addTheorem_34 h (fun v4 rv4 h => ?_)
    refine lv_iconst hx hb dX0_addTheorem_37 (v := jI (-1)) rfl ?_
    refine yt_7 X hw rv4 (by decide) dX0_addTheorem_38 h (fun H locs u hw h => ?_)
    refine lv_aload_n hx hb dX0_addTheorem_39 rfl (lv_at hl 0 rfl) ?_
    refine yg_0_58 X hw dX0_addTheorem_40 ?_
    refine lv_aload_n hx hb dX0_addTheorem_43 rfl (lv_at hl 0 rfl) ?_
    refine yg_0_64 X hw dX0_addTheorem_44 h (fun v5 rv5 h => ?_)
    refine lv_iconst hx hb dX0_addTheorem_47 (v := jI 0) rfl ?_
    refine yt_12 X hw rv5 dX0_addTheorem_48 h (fun H locs u hw h => ?_)
    refine lv_aload_n hx hb dX0_addTheorem_49 rfl (lv_at hl 0 rfl) ?_
    refine lv_dup hx hb dX0_addTheorem_50 rfl ?_
    refine yg_0_64 X hw dX0_addTheorem_51 h (fun v6 rv6 h => ?_)
    refine lv_iconst hx hb dX0_addTheorem_54 (v := jI 1) rfl ?_
    refine k_iadd hx hb dX0_addTheorem_55 h (fun r7 h => ?_)
    refine yp_0_64 X hw r7 dX0_addTheorem_56 h (fun H locs u hw h => ?_)
    exact hret _ _ _ _ _ h hw dX0_addTheorem_59

end
theorem e_0_addTheorem {l : Launch} {a0 : Int} {a1 : Int} (ra0 : inR a0) (ra1 : inR a1) {Q : iST → Prop} {u : iST} (h : v_0_addTheorem a0 a1 Q u) : yMV l yX0_addTheorem (.code yX0_addTheorem cX0_addTheorem 3 none :: wsN) { frames := 0, cells := 0, slots := 0, locals := 0 } (fun ad => [.ref (ad 0 0), .int (jI a0), .int (jI a1)]) Q u := yMV_of (own := RX0) rfl (by decide +kernel) (fun _ => Nat.le_of_ble_eq_true rfl) (fun X hRf hRl hret hw hl => f_0_addTheorem_s X hRf hRl hret ra0 ra1 hw hl h)

/-! ProofHouse$Book.enter -/
theorem dX0_enter_0 : decode cX0_enter 0 = .ok (.aload_n 0, 1) := by decide +kernel
theorem dX0_enter_1 : decode cX0_enter 1 = .ok (.getfield 73, 3) := by decide +kernel
theorem dX0_enter_4 : decode cX0_enter 4 = .ok (.bipush 100, 2) := by decide +kernel
theorem dX0_enter_6 : decode cX0_enter 6 = .ok (.if_icmp .ge 41, 3) := by decide +kernel
theorem dX0_enter_9 : decode cX0_enter 9 = .ok (.aload_n 0, 1) := by decide +kernel
theorem dX0_enter_10 : decode cX0_enter 10 = .ok (.getfield 67, 3) := by decide +kernel
theorem dX0_enter_13 : decode cX0_enter 13 = .ok (.aload_n 0, 1) := by decide +kernel
theorem dX0_enter_14 : decode cX0_enter 14 = .ok (.getfield 73, 3) := by decide +kernel
theorem dX0_enter_17 : decode cX0_enter 17 = .ok (.iload_n 1, 1) := by decide +kernel
theorem dX0_enter_18 : decode cX0_enter 18 = .ok (.iastore, 1) := by decide +kernel
theorem dX0_enter_19 : decode cX0_enter 19 = .ok (.aload_n 0, 1) := by decide +kernel
theorem dX0_enter_20 : decode cX0_enter 20 = .ok (.getfield 70, 3) := by decide +kernel
theorem dX0_enter_23 : decode cX0_enter 23 = .ok (.aload_n 0, 1) := by decide +kernel
theorem dX0_enter_24 : decode cX0_enter 24 = .ok (.getfield 73, 3) := by decide +kernel
theorem dX0_enter_27 : decode cX0_enter 27 = .ok (.aload_n 0, 1) := by decide +kernel
theorem dX0_enter_28 : decode cX0_enter 28 = .ok (.getfield 76, 3) := by decide +kernel
theorem dX0_enter_31 : decode cX0_enter 31 = .ok (.iastore, 1) := by decide +kernel
theorem dX0_enter_32 : decode cX0_enter 32 = .ok (.aload_n 0, 1) := by decide +kernel
theorem dX0_enter_33 : decode cX0_enter 33 = .ok (.dup, 1) := by decide +kernel
theorem dX0_enter_34 : decode cX0_enter 34 = .ok (.getfield 73, 3) := by decide +kernel
theorem dX0_enter_37 : decode cX0_enter 37 = .ok (.iconst 1, 1) := by decide +kernel
theorem dX0_enter_38 : decode cX0_enter 38 = .ok (.iadd, 1) := by decide +kernel
theorem dX0_enter_39 : decode cX0_enter 39 = .ok (.putfield 73, 3) := by decide +kernel
theorem dX0_enter_42 : decode cX0_enter 42 = .ok (.aload_n 0, 1) := by decide +kernel
theorem dX0_enter_43 : decode cX0_enter 43 = .ok (.iload_n 2, 1) := by decide +kernel
theorem dX0_enter_44 : decode cX0_enter 44 = .ok (.putfield 76, 3) := by decide +kernel
theorem dX0_enter_47 : decode cX0_enter 47 = .ok (.return_, 1) := by decide +kernel

section
variable {p : Program} {l : Launch} {e : Env} {R : Room} {s : State} {m : MethodId} {args : Array Value} {below : List Frame} {meth : Method} {c : Code} {H : Heap} {locs : List Loc} {Qf : State → Prop}
variable {ls : Array Slot} {D : va_G} {ca : Nat → ClassId} {A : Nat → Prop} {ad : Nat → Nat → Nat} {u : iST}
def v_0_enter (a0 : Int) (a1 : Int) (Q : iST → Prop) (u : iST) : Prop :=
  rd (u.1 2) (fun v1 => 
  br (100 ≤ v1) (
    Q u) (
    rd (u.1 2) (fun v2 => 
    bd v2 100 (sw (iA u 14 v2 a0) (fun u => 
    rd (u.1 2) (fun v3 => 
    rd (u.1 3) (fun v4 => 
    bd v3 100 (sw (iA u 15 v3 v4) (fun u => 
    rd (u.1 2) (fun v5 => 
    ov (v5 + 1) (
    sw (iI u 2 (v5 + 1)) (fun u => 
    sw (iI u 3 a1) (fun u => 
    Q u)))))))))))))
set_option maxRecDepth 20000 in
set_option maxHeartbeats 4000000 in
theorem f_0_enter_s (X : yX RX0 p m c cX0_enter 3 s args D ca ad A) (hRf : 0 ≤ R.frames) (hRl : 0 ≤ R.locals) {Q : iST → Prop} (hret : ∀ (u : iST) (H : Heap) (locs : List Loc) (ls : Array Slot) (pc : Nat), Q u → yW D ca A ad s H locs u → decode cX0_enter pc = .ok (.return_, 1) → W p l e R s m args below meth c H locs 0 0 Qf (F0 m pc ls [])) {a0 a1 : Int} (ra0 : inR a0) (ra1 : inR a1) (hw : yW D ca A ad s H locs u) (hl : lv_has ls 3 [(0, .ref (ad 0 0)), (1, .int (jI a0)), (2, .int (jI a1))]) (h : v_0_enter a0 a1 Q u) : W p l e R s m args below meth c H locs 0 0 Qf (F0 m 0 ls []) := by
  have hx := X.1.1
  have hb := X.1.2.1
  unfold v_0_enter at h
  refine lv_aload_n hx hb dX0_enter_0 rfl (lv_at hl 0 rfl) ?_
  refine yg_0_73 X hw dX0_enter_1 h (fun v1 rv1 h => ?_)
  refine lv_bipush hx hb dX0_enter_4 (v := jI 100) rfl ?_
  refine k_icmp_ge hx hb rv1 (by decide) dX0_enter_6 (tgt := 47) rfl h (fun h => ?_) (fun h => ?_)
  · exact hret _ _ _ _ _ h hw dX0_enter_47
  · refine lv_aload_n hx hb dX0_enter_9 rfl (lv_at hl 0 rfl) ?_
    refine yg_0_67 X hw dX0_enter_10 ?_
    refine lv_aload_n hx hb dX0_enter_13 rfl (lv_at hl 0 rfl) ?_
    refine yg_0_73 X hw dX0_enter_14 h (fun v2 rv2 h => ?_)
    refine lv_iload_n hx hb dX0_enter_17 rfl (lv_at hl 1 rfl) ?_
    refine yt_14 X hw rv2 ra0 dX0_enter_18 h (fun H locs u hw h => ?_)
    refine lv_aload_n hx hb dX0_enter_19 rfl (lv_at hl 0 rfl) ?_
    refine yg_0_70 X hw dX0_enter_20 ?_
    refine lv_aload_n hx hb dX0_enter_23 rfl (lv_at hl 0 rfl) ?_
    refine yg_0_73 X hw dX0_enter_24 h (fun v3 rv3 h => ?_)
    refine lv_aload_n hx hb dX0_enter_27 rfl (lv_at hl 0 rfl) ?_
    refine yg_0_76 X hw dX0_enter_28 h (fun v4 rv4 h => ?_)
    refine yt_15 X hw rv3 rv4 dX0_enter_31 h (fun H locs u hw h => ?_)
    refine lv_aload_n hx hb dX0_enter_32 rfl (lv_at hl 0 rfl) ?_
    refine lv_dup hx hb dX0_enter_33 rfl ?_
    refine yg_0_73 X hw dX0_enter_34 h (fun v5 rv5 h => ?_)
    refine lv_iconst hx hb dX0_enter_37 (v := jI 1) rfl ?_
    refine k_iadd hx hb dX0_enter_38 h (fun r6 h => ?_)
    refine yp_0_73 X hw r6 dX0_enter_39 h (fun H locs u hw h => ?_)
    refine lv_aload_n hx hb dX0_enter_42 rfl (lv_at hl 0 rfl) ?_
    refine lv_iload_n hx hb dX0_enter_43 rfl (lv_at hl 2 rfl) ?_
    refine yp_0_76 X hw ra1 dX0_enter_44 h (fun H locs u hw h => ?_)
    exact hret _ _ _ _ _ h hw dX0_enter_47

end
theorem e_0_enter {l : Launch} {a0 : Int} {a1 : Int} (ra0 : inR a0) (ra1 : inR a1) {Q : iST → Prop} {u : iST} (h : v_0_enter a0 a1 Q u) : yMV l yX0_enter (.code yX0_enter cX0_enter 3 none :: wsN) { frames := 0, cells := 0, slots := 0, locals := 0 } (fun ad => [.ref (ad 0 0), .int (jI a0), .int (jI a1)]) Q u := yMV_of (own := RX0) rfl (by decide +kernel) (fun _ => Nat.le_of_ble_eq_true rfl) (fun X hRf hRl hret hw hl => f_0_enter_s X hRf hRl hret ra0 ra1 hw hl h)

/-! ProofHouse$Book.takeBack -/
theorem dX0_takeBack_0 : decode cX0_takeBack 0 = .ok (.aload_n 0, 1) := by decide +kernel
theorem dX0_takeBack_1 : decode cX0_takeBack 1 = .ok (.getfield 73, 3) := by decide +kernel
theorem dX0_takeBack_4 : decode cX0_takeBack 4 = .ok (.ifCond .le 62, 3) := by decide +kernel
theorem dX0_takeBack_7 : decode cX0_takeBack 7 = .ok (.aload_n 0, 1) := by decide +kernel
theorem dX0_takeBack_8 : decode cX0_takeBack 8 = .ok (.dup, 1) := by decide +kernel
theorem dX0_takeBack_9 : decode cX0_takeBack 9 = .ok (.getfield 73, 3) := by decide +kernel
theorem dX0_takeBack_12 : decode cX0_takeBack 12 = .ok (.iconst 1, 1) := by decide +kernel
theorem dX0_takeBack_13 : decode cX0_takeBack 13 = .ok (.isub, 1) := by decide +kernel
theorem dX0_takeBack_14 : decode cX0_takeBack 14 = .ok (.putfield 73, 3) := by decide +kernel
theorem dX0_takeBack_17 : decode cX0_takeBack 17 = .ok (.aload_n 0, 1) := by decide +kernel
theorem dX0_takeBack_18 : decode cX0_takeBack 18 = .ok (.aload_n 0, 1) := by decide +kernel
theorem dX0_takeBack_19 : decode cX0_takeBack 19 = .ok (.getfield 70, 3) := by decide +kernel
theorem dX0_takeBack_22 : decode cX0_takeBack 22 = .ok (.aload_n 0, 1) := by decide +kernel
theorem dX0_takeBack_23 : decode cX0_takeBack 23 = .ok (.getfield 73, 3) := by decide +kernel
theorem dX0_takeBack_26 : decode cX0_takeBack 26 = .ok (.iaload, 1) := by decide +kernel
theorem dX0_takeBack_27 : decode cX0_takeBack 27 = .ok (.putfield 76, 3) := by decide +kernel
theorem dX0_takeBack_30 : decode cX0_takeBack 30 = .ok (.aload_n 0, 1) := by decide +kernel
theorem dX0_takeBack_31 : decode cX0_takeBack 31 = .ok (.getfield 67, 3) := by decide +kernel
theorem dX0_takeBack_34 : decode cX0_takeBack 34 = .ok (.aload_n 0, 1) := by decide +kernel
theorem dX0_takeBack_35 : decode cX0_takeBack 35 = .ok (.getfield 73, 3) := by decide +kernel
theorem dX0_takeBack_38 : decode cX0_takeBack 38 = .ok (.iaload, 1) := by decide +kernel
theorem dX0_takeBack_39 : decode cX0_takeBack 39 = .ok (.iconst 1, 1) := by decide +kernel
theorem dX0_takeBack_40 : decode cX0_takeBack 40 = .ok (.if_icmp .ne 16, 3) := by decide +kernel
theorem dX0_takeBack_43 : decode cX0_takeBack 43 = .ok (.aload_n 0, 1) := by decide +kernel
theorem dX0_takeBack_44 : decode cX0_takeBack 44 = .ok (.dup, 1) := by decide +kernel
theorem dX0_takeBack_45 : decode cX0_takeBack 45 = .ok (.getfield 27, 3) := by decide +kernel
theorem dX0_takeBack_48 : decode cX0_takeBack 48 = .ok (.iconst 1, 1) := by decide +kernel
theorem dX0_takeBack_49 : decode cX0_takeBack 49 = .ok (.isub, 1) := by decide +kernel
theorem dX0_takeBack_50 : decode cX0_takeBack 50 = .ok (.putfield 27, 3) := by decide +kernel
theorem dX0_takeBack_53 : decode cX0_takeBack 53 = .ok (.goto 13, 3) := by decide +kernel
theorem dX0_takeBack_56 : decode cX0_takeBack 56 = .ok (.aload_n 0, 1) := by decide +kernel
theorem dX0_takeBack_57 : decode cX0_takeBack 57 = .ok (.dup, 1) := by decide +kernel
theorem dX0_takeBack_58 : decode cX0_takeBack 58 = .ok (.getfield 64, 3) := by decide +kernel
theorem dX0_takeBack_61 : decode cX0_takeBack 61 = .ok (.iconst 1, 1) := by decide +kernel
theorem dX0_takeBack_62 : decode cX0_takeBack 62 = .ok (.isub, 1) := by decide +kernel
theorem dX0_takeBack_63 : decode cX0_takeBack 63 = .ok (.putfield 64, 3) := by decide +kernel
theorem dX0_takeBack_66 : decode cX0_takeBack 66 = .ok (.return_, 1) := by decide +kernel

section
variable {p : Program} {l : Launch} {e : Env} {R : Room} {s : State} {m : MethodId} {args : Array Value} {below : List Frame} {meth : Method} {c : Code} {H : Heap} {locs : List Loc} {Qf : State → Prop}
variable {ls : Array Slot} {D : va_G} {ca : Nat → ClassId} {A : Nat → Prop} {ad : Nat → Nat → Nat} {u : iST}
def v_0_takeBack (Q : iST → Prop) (u : iST) : Prop :=
  rd (u.1 2) (fun v1 => 
  br (v1 ≤ 0) (
    Q u) (
    rd (u.1 2) (fun v2 => 
    ov (v2 - 1) (
    sw (iI u 2 (v2 - 1)) (fun u => 
    rd (u.1 2) (fun v4 => 
    bd v4 100 (rd (u.2.1 15 v4) (fun v5 => 
    sw (iI u 3 v5) (fun u => 
    rd (u.1 2) (fun v6 => 
    bd v6 100 (rd (u.2.1 14 v6) (fun v7 => 
    br (v7 ≠ 1) (
      rd (u.1 1) (fun v8 => 
      ov (v8 - 1) (
      sw (iI u 1 (v8 - 1)) (fun u => 
      Q u)))) (
      rd (u.1 0) (fun v10 => 
      ov (v10 - 1) (
      sw (iI u 0 (v10 - 1)) (fun u => 
      Q u))))))))))))))))
set_option maxRecDepth 20000 in
set_option maxHeartbeats 4000000 in
theorem f_0_takeBack_s (X : yX RX0 p m c cX0_takeBack 1 s args D ca ad A) (hRf : 0 ≤ R.frames) (hRl : 0 ≤ R.locals) {Q : iST → Prop} (hret : ∀ (u : iST) (H : Heap) (locs : List Loc) (ls : Array Slot) (pc : Nat), Q u → yW D ca A ad s H locs u → decode cX0_takeBack pc = .ok (.return_, 1) → W p l e R s m args below meth c H locs 0 0 Qf (F0 m pc ls [])) (hw : yW D ca A ad s H locs u) (hl : lv_has ls 1 [(0, .ref (ad 0 0))]) (h : v_0_takeBack Q u) : W p l e R s m args below meth c H locs 0 0 Qf (F0 m 0 ls []) := by
  have hx := X.1.1
  have hb := X.1.2.1
  unfold v_0_takeBack at h
  refine lv_aload_n hx hb dX0_takeBack_0 rfl (lv_at hl 0 rfl) ?_
  refine yg_0_73 X hw dX0_takeBack_1 h (fun v1 rv1 h => ?_)
  refine k_if_le hx hb rv1 dX0_takeBack_4 (tgt := 66) rfl h (fun h => ?_) (fun h => ?_)
  · exact hret _ _ _ _ _ h hw dX0_takeBack_66
  · refine lv_aload_n hx hb dX0_takeBack_7 rfl (lv_at hl 0 rfl) ?_
    refine lv_dup hx hb dX0_takeBack_8 rfl ?_
    refine yg_0_73 X hw dX0_takeBack_9 h (fun v2 rv2 h => ?_)
    refine lv_iconst hx hb dX0_takeBack_12 (v := jI 1) rfl ?_
    refine k_isub hx hb dX0_takeBack_13 h (fun r3 h => ?_)
    refine yp_0_73 X hw r3 dX0_takeBack_14 h (fun H locs u hw h => ?_)
    refine lv_aload_n hx hb dX0_takeBack_17 rfl (lv_at hl 0 rfl) ?_
    refine lv_aload_n hx hb dX0_takeBack_18 rfl (lv_at hl 0 rfl) ?_
    refine yg_0_70 X hw dX0_takeBack_19 ?_
    refine lv_aload_n hx hb dX0_takeBack_22 rfl (lv_at hl 0 rfl) ?_
    refine yg_0_73 X hw dX0_takeBack_23 h (fun v4 rv4 h => ?_)
    refine yl_15 X hw rv4 dX0_takeBack_26 h (fun v5 rv5 h => ?_)
    refine yp_0_76 X hw rv5 dX0_takeBack_27 h (fun H locs u hw h => ?_)
    refine lv_aload_n hx hb dX0_takeBack_30 rfl (lv_at hl 0 rfl) ?_
    refine yg_0_67 X hw dX0_takeBack_31 ?_
    refine lv_aload_n hx hb dX0_takeBack_34 rfl (lv_at hl 0 rfl) ?_
    refine yg_0_73 X hw dX0_takeBack_35 h (fun v6 rv6 h => ?_)
    refine yl_14 X hw rv6 dX0_takeBack_38 h (fun v7 rv7 h => ?_)
    refine lv_iconst hx hb dX0_takeBack_39 (v := jI 1) rfl ?_
    refine k_icmp_ne hx hb rv7 (by decide) dX0_takeBack_40 (tgt := 56) rfl h (fun h => ?_) (fun h => ?_)
    · refine lv_aload_n hx hb dX0_takeBack_56 rfl (lv_at hl 0 rfl) ?_
      refine lv_dup hx hb dX0_takeBack_57 rfl ?_
      refine yg_0_64 X hw dX0_takeBack_58 h (fun v8 rv8 h => ?_)
      refine lv_iconst hx hb dX0_takeBack_61 (v := jI 1) rfl ?_
      refine k_isub hx hb dX0_takeBack_62 h (fun r9 h => ?_)
      refine yp_0_64 X hw r9 dX0_takeBack_63 h (fun H locs u hw h => ?_)
      exact hret _ _ _ _ _ h hw dX0_takeBack_66
    · refine lv_aload_n hx hb dX0_takeBack_43 rfl (lv_at hl 0 rfl) ?_
      refine lv_dup hx hb dX0_takeBack_44 rfl ?_
      refine yg_0_27 X hw dX0_takeBack_45 h (fun v10 rv10 h => ?_)
      refine lv_iconst hx hb dX0_takeBack_48 (v := jI 1) rfl ?_
      refine k_isub hx hb dX0_takeBack_49 h (fun r11 h => ?_)
      refine yp_0_27 X hw r11 dX0_takeBack_50 h (fun H locs u hw h => ?_)
      refine lv_goto hx hb dX0_takeBack_53 (tgt := 66) rfl ?_
      exact hret _ _ _ _ _ h hw dX0_takeBack_66

end
theorem e_0_takeBack {l : Launch} {Q : iST → Prop} {u : iST} (h : v_0_takeBack Q u) : yMV l yX0_takeBack (.code yX0_takeBack cX0_takeBack 1 none :: wsN) { frames := 0, cells := 0, slots := 0, locals := 0 } (fun ad => [.ref (ad 0 0)]) Q u := yMV_of (own := RX0) rfl (by decide +kernel) (fun _ => Nat.le_of_ble_eq_true rfl) (fun X hRf hRl hret hw hl => f_0_takeBack_s X hRf hRl hret hw hl h)

/-! ProofHouse$Book.placeOf -/
theorem dX0_placeOf_0 : decode cX0_placeOf 0 = .ok (.iconst 0, 1) := by decide +kernel
theorem dX0_placeOf_1 : decode cX0_placeOf 1 = .ok (.istore_n 2, 1) := by decide +kernel
theorem dX0_placeOf_2 : decode cX0_placeOf 2 = .ok (.iconst 0, 1) := by decide +kernel
theorem dX0_placeOf_3 : decode cX0_placeOf 3 = .ok (.istore_n 3, 1) := by decide +kernel
theorem dX0_placeOf_4 : decode cX0_placeOf 4 = .ok (.iload_n 3, 1) := by decide +kernel
theorem dX0_placeOf_5 : decode cX0_placeOf 5 = .ok (.iload_n 1, 1) := by decide +kernel
theorem dX0_placeOf_6 : decode cX0_placeOf 6 = .ok (.if_icmp .ge 58, 3) := by decide +kernel
theorem dX0_placeOf_9 : decode cX0_placeOf 9 = .ok (.iload_n 3, 1) := by decide +kernel
theorem dX0_placeOf_10 : decode cX0_placeOf 10 = .ok (.aload_n 0, 1) := by decide +kernel
theorem dX0_placeOf_11 : decode cX0_placeOf 11 = .ok (.getfield 73, 3) := by decide +kernel
theorem dX0_placeOf_14 : decode cX0_placeOf 14 = .ok (.if_icmp .ge 50, 3) := by decide +kernel
theorem dX0_placeOf_17 : decode cX0_placeOf 17 = .ok (.iload_n 2, 1) := by decide +kernel
theorem dX0_placeOf_18 : decode cX0_placeOf 18 = .ok (.aload_n 0, 1) := by decide +kernel
theorem dX0_placeOf_19 : decode cX0_placeOf 19 = .ok (.getfield 67, 3) := by decide +kernel
theorem dX0_placeOf_22 : decode cX0_placeOf 22 = .ok (.iload_n 3, 1) := by decide +kernel
theorem dX0_placeOf_23 : decode cX0_placeOf 23 = .ok (.iaload, 1) := by decide +kernel
theorem dX0_placeOf_24 : decode cX0_placeOf 24 = .ok (.iconst 1, 1) := by decide +kernel
theorem dX0_placeOf_25 : decode cX0_placeOf 25 = .ok (.if_icmp .ne 7, 3) := by decide +kernel
theorem dX0_placeOf_28 : decode cX0_placeOf 28 = .ok (.iconst 1, 1) := by decide +kernel
theorem dX0_placeOf_29 : decode cX0_placeOf 29 = .ok (.goto 4, 3) := by decide +kernel
theorem dX0_placeOf_32 : decode cX0_placeOf 32 = .ok (.iconst 0, 1) := by decide +kernel
theorem dX0_placeOf_33 : decode cX0_placeOf 33 = .ok (.aload_n 0, 1) := by decide +kernel
theorem dX0_placeOf_34 : decode cX0_placeOf 34 = .ok (.getfield 67, 3) := by decide +kernel
theorem dX0_placeOf_37 : decode cX0_placeOf 37 = .ok (.iload_n 1, 1) := by decide +kernel
theorem dX0_placeOf_38 : decode cX0_placeOf 38 = .ok (.iaload, 1) := by decide +kernel
theorem dX0_placeOf_39 : decode cX0_placeOf 39 = .ok (.iconst 1, 1) := by decide +kernel
theorem dX0_placeOf_40 : decode cX0_placeOf 40 = .ok (.if_icmp .ne 7, 3) := by decide +kernel
theorem dX0_placeOf_43 : decode cX0_placeOf 43 = .ok (.iconst 1, 1) := by decide +kernel
theorem dX0_placeOf_44 : decode cX0_placeOf 44 = .ok (.goto 4, 3) := by decide +kernel
theorem dX0_placeOf_47 : decode cX0_placeOf 47 = .ok (.iconst 0, 1) := by decide +kernel
theorem dX0_placeOf_48 : decode cX0_placeOf 48 = .ok (.if_icmp .ne 7, 3) := by decide +kernel
theorem dX0_placeOf_51 : decode cX0_placeOf 51 = .ok (.iconst 1, 1) := by decide +kernel
theorem dX0_placeOf_52 : decode cX0_placeOf 52 = .ok (.goto 4, 3) := by decide +kernel
theorem dX0_placeOf_55 : decode cX0_placeOf 55 = .ok (.iconst 0, 1) := by decide +kernel
theorem dX0_placeOf_56 : decode cX0_placeOf 56 = .ok (.iadd, 1) := by decide +kernel
theorem dX0_placeOf_57 : decode cX0_placeOf 57 = .ok (.istore_n 2, 1) := by decide +kernel
theorem dX0_placeOf_58 : decode cX0_placeOf 58 = .ok (.iinc 3 1, 3) := by decide +kernel
theorem dX0_placeOf_61 : decode cX0_placeOf 61 = .ok (.goto (-57), 3) := by decide +kernel
theorem dX0_placeOf_64 : decode cX0_placeOf 64 = .ok (.iload_n 2, 1) := by decide +kernel
theorem dX0_placeOf_65 : decode cX0_placeOf 65 = .ok (.ireturn, 1) := by decide +kernel

section
variable {p : Program} {l : Launch} {e : Env} {R : Room} {s : State} {m : MethodId} {args : Array Value} {below : List Frame} {meth : Method} {c : Code} {H : Heap} {locs : List Loc} {Qf : State → Prop}
variable {ls : Array Slot} {D : va_G} {ca : Nat → ClassId} {A : Nat → Prop} {ad : Nat → Nat → Nat} {u : iST}
def v_0_placeOf_48 (R4 : Int → Int → Int → iST → Prop) (Q : Int → iST → Prop) (x1 : Int) (x3 : Int) (y0 : Int) (y1 : Int) (y2 : Int) (u : iST) : Prop :=
  br (y1 ≠ y2) (
    ov (y0 + 0) (
    ov (x3 + 1) (
    R4 x1 (y0 + 0) (x3 + 1) u))) (
    ov (y0 + 1) (
    ov (x3 + 1) (
    R4 x1 (y0 + 1) (x3 + 1) u)))
set_option maxRecDepth 20000 in
set_option maxHeartbeats 4000000 in
theorem f_0_placeOf_48 (X : yX RX0 p m c cX0_placeOf 4 s args D ca ad A) (hRf : 0 ≤ R.frames) (hRl : 0 ≤ R.locals) {Q : Int → iST → Prop} (hret : ∀ (v : Int) (u : iST) (H : Heap) (locs : List Loc) (ls : Array Slot) (pc : Nat), inR v → Q v u → yW D ca A ad s H locs u → decode cX0_placeOf pc = .ok (.ireturn, 1) → W p l e R s m args below meth c H locs 0 0 Qf (F0 m pc ls [.int (jI v)])) {R4 : Int → Int → Int → iST → Prop} (hR4 : ∀ (x1 : Int) (x2 : Int) (x3 : Int) (u : iST) (H : Heap) (locs : List Loc) (ls : Array Slot), inR x1 → inR x2 → inR x3 → yW D ca A ad s H locs u → lv_has ls 4 [(0, .ref (ad 0 0)), (1, .int (jI x1)), (2, .int (jI x2)), (3, .int (jI x3))] → R4 x1 x2 x3 u → W p l e R s m args below meth c H locs 0 0 Qf (F0 m 4 ls [])) {x1 x3 y0 y1 y2 : Int} (rx1 : inR x1) (rx3 : inR x3) (ry0 : inR y0) (ry1 : inR y1) (ry2 : inR y2) (hw : yW D ca A ad s H locs u) (hl : lv_has ls 4 [(0, .ref (ad 0 0)), (1, .int (jI x1)), (3, .int (jI x3))]) (h : v_0_placeOf_48 R4 Q x1 x3 y0 y1 y2 u) : W p l e R s m args below meth c H locs 0 0 Qf (F0 m 48 ls [.int (jI y2), .int (jI y1), .int (jI y0)]) := by
  have hx := X.1.1
  have hb := X.1.2.1
  unfold v_0_placeOf_48 at h
  refine k_icmp_ne hx hb ry1 ry2 dX0_placeOf_48 (tgt := 55) rfl h (fun h => ?_) (fun h => ?_)
  · refine lv_iconst hx hb dX0_placeOf_55 (v := jI 0) rfl ?_
    refine k_iadd hx hb dX0_placeOf_56 h (fun r4 h => ?_)
    refine lv_istore_n hx hb dX0_placeOf_57 rfl hl (by decide) rfl (fun ls hl => ?_)
    have hl : lv_has ls 4 [(2, .int (jI (y0 + 0))), (0, .ref (ad 0 0)), (1, .int (jI x1)), (3, .int (jI x3))] := hl
    refine k_iinc (k := 3) hx hb dX0_placeOf_58 hl rfl (by decide) rfl h (fun ls r5 h hl => ?_)
    have hl : lv_has ls 4 [(3, .int (jI (x3 + 1))), (2, .int (jI (y0 + 0))), (0, .ref (ad 0 0)), (1, .int (jI x1))] := hl
    refine lv_goto hx hb dX0_placeOf_61 (tgt := 4) rfl ?_
    exact hR4 _ _ _ _ H locs ls rx1 r4 r5 hw (lv_sub hl [2, 3, 1, 0] rfl) h
  · refine lv_iconst hx hb dX0_placeOf_51 (v := jI 1) rfl ?_
    refine lv_goto hx hb dX0_placeOf_52 (tgt := 56) rfl ?_
    refine k_iadd hx hb dX0_placeOf_56 h (fun r6 h => ?_)
    refine lv_istore_n hx hb dX0_placeOf_57 rfl hl (by decide) rfl (fun ls hl => ?_)
    have hl : lv_has ls 4 [(2, .int (jI (y0 + 1))), (0, .ref (ad 0 0)), (1, .int (jI x1)), (3, .int (jI x3))] := hl
    refine k_iinc (k := 3) hx hb dX0_placeOf_58 hl rfl (by decide) rfl h (fun ls r7 h hl => ?_)
    have hl : lv_has ls 4 [(3, .int (jI (x3 + 1))), (2, .int (jI (y0 + 1))), (0, .ref (ad 0 0)), (1, .int (jI x1))] := hl
    refine lv_goto hx hb dX0_placeOf_61 (tgt := 4) rfl ?_
    exact hR4 _ _ _ _ H locs ls rx1 r6 r7 hw (lv_sub hl [2, 3, 1, 0] rfl) h

def v_0_placeOf_33 (R4 : Int → Int → Int → iST → Prop) (Q : Int → iST → Prop) (x1 : Int) (x3 : Int) (y0 : Int) (y1 : Int) (u : iST) : Prop :=
  bd x1 100 (rd (u.2.1 14 x1) (fun v3 => 
  br (v3 ≠ 1) (
    v_0_placeOf_48 R4 Q x1 x3 y0 y1 0 u) (
    v_0_placeOf_48 R4 Q x1 x3 y0 y1 1 u)))
set_option maxRecDepth 20000 in
set_option maxHeartbeats 4000000 in
theorem f_0_placeOf_33 (X : yX RX0 p m c cX0_placeOf 4 s args D ca ad A) (hRf : 0 ≤ R.frames) (hRl : 0 ≤ R.locals) {Q : Int → iST → Prop} (hret : ∀ (v : Int) (u : iST) (H : Heap) (locs : List Loc) (ls : Array Slot) (pc : Nat), inR v → Q v u → yW D ca A ad s H locs u → decode cX0_placeOf pc = .ok (.ireturn, 1) → W p l e R s m args below meth c H locs 0 0 Qf (F0 m pc ls [.int (jI v)])) {R4 : Int → Int → Int → iST → Prop} (hR4 : ∀ (x1 : Int) (x2 : Int) (x3 : Int) (u : iST) (H : Heap) (locs : List Loc) (ls : Array Slot), inR x1 → inR x2 → inR x3 → yW D ca A ad s H locs u → lv_has ls 4 [(0, .ref (ad 0 0)), (1, .int (jI x1)), (2, .int (jI x2)), (3, .int (jI x3))] → R4 x1 x2 x3 u → W p l e R s m args below meth c H locs 0 0 Qf (F0 m 4 ls [])) {x1 x3 y0 y1 : Int} (rx1 : inR x1) (rx3 : inR x3) (ry0 : inR y0) (ry1 : inR y1) (hw : yW D ca A ad s H locs u) (hl : lv_has ls 4 [(0, .ref (ad 0 0)), (1, .int (jI x1)), (3, .int (jI x3))]) (h : v_0_placeOf_33 R4 Q x1 x3 y0 y1 u) : W p l e R s m args below meth c H locs 0 0 Qf (F0 m 33 ls [.int (jI y1), .int (jI y0)]) := by
  have hx := X.1.1
  have hb := X.1.2.1
  unfold v_0_placeOf_33 at h
  refine lv_aload_n hx hb dX0_placeOf_33 rfl (lv_at hl 0 rfl) ?_
  refine yg_0_67 X hw dX0_placeOf_34 ?_
  refine lv_iload_n hx hb dX0_placeOf_37 rfl (lv_at hl 1 rfl) ?_
  refine yl_14 X hw rx1 dX0_placeOf_38 h (fun v3 rv3 h => ?_)
  refine lv_iconst hx hb dX0_placeOf_39 (v := jI 1) rfl ?_
  refine k_icmp_ne hx hb rv3 (by decide) dX0_placeOf_40 (tgt := 47) rfl h (fun h => ?_) (fun h => ?_)
  · refine lv_iconst hx hb dX0_placeOf_47 (v := jI 0) rfl ?_
    exact f_0_placeOf_48 X hRf hRl hret hR4 rx1 rx3 ry0 ry1 (by decide) hw hl h
  · refine lv_iconst hx hb dX0_placeOf_43 (v := jI 1) rfl ?_
    refine lv_goto hx hb dX0_placeOf_44 (tgt := 48) rfl ?_
    exact f_0_placeOf_48 X hRf hRl hret hR4 rx1 rx3 ry0 ry1 (by decide) hw hl h

def v_0_placeOf_4b (R4 : Int → Int → Int → iST → Prop) (Q : Int → iST → Prop) (x1 : Int) (x2 : Int) (x3 : Int) (u : iST) : Prop :=
  br (x1 ≤ x3) (
    Q x2 u) (
    rd (u.1 2) (fun v1 => 
    br (v1 ≤ x3) (
      Q x2 u) (
      bd x3 100 (rd (u.2.1 14 x3) (fun v2 => 
      br (v2 ≠ 1) (
        v_0_placeOf_33 R4 Q x1 x3 x2 0 u) (
        v_0_placeOf_33 R4 Q x1 x3 x2 1 u))))))
def v_0_placeOf_4 (Q : Int → iST → Prop) (x1 : Int) (x2 : Int) (x3 : Int) (u : iST) : Prop := ∀ R4 : Int → Int → Int → iST → Prop, (∀ (x1 : Int) (x2 : Int) (x3 : Int) (u : iST), v_0_placeOf_4b R4 Q x1 x2 x3 u → R4 x1 x2 x3 u) → R4 x1 x2 x3 u
set_option maxRecDepth 20000 in
set_option maxHeartbeats 4000000 in
theorem f_0_placeOf_4 (X : yX RX0 p m c cX0_placeOf 4 s args D ca ad A) (hRf : 0 ≤ R.frames) (hRl : 0 ≤ R.locals) {Q : Int → iST → Prop} (hret : ∀ (v : Int) (u : iST) (H : Heap) (locs : List Loc) (ls : Array Slot) (pc : Nat), inR v → Q v u → yW D ca A ad s H locs u → decode cX0_placeOf pc = .ok (.ireturn, 1) → W p l e R s m args below meth c H locs 0 0 Qf (F0 m pc ls [.int (jI v)])) {x1 x2 x3 : Int} (rx1 : inR x1) (rx2 : inR x2) (rx3 : inR x3) (hw : yW D ca A ad s H locs u) (hl : lv_has ls 4 [(0, .ref (ad 0 0)), (1, .int (jI x1)), (2, .int (jI x2)), (3, .int (jI x3))]) (h : v_0_placeOf_4 Q x1 x2 x3 u) : W p l e R s m args below meth c H locs 0 0 Qf (F0 m 4 ls []) := by
  refine h (fun x1 x2 x3 u => ∀ (H : Heap) (locs : List Loc) (ls : Array Slot), inR x1 → inR x2 → inR x3 → yW D ca A ad s H locs u → lv_has ls 4 [(0, .ref (ad 0 0)), (1, .int (jI x1)), (2, .int (jI x2)), (3, .int (jI x3))] → W p l e R s m args below meth c H locs 0 0 Qf (F0 m 4 ls [])) ?_ H locs ls rx1 rx2 rx3 hw hl
  clear h hl hw rx1 rx2 rx3
  intro x1 x2 x3 u h H locs ls rx1 rx2 rx3 hw hl
  have hR4 : ∀ (x1 : Int) (x2 : Int) (x3 : Int) (u : iST) (H : Heap) (locs : List Loc) (ls : Array Slot), inR x1 → inR x2 → inR x3 → yW D ca A ad s H locs u → lv_has ls 4 [(0, .ref (ad 0 0)), (1, .int (jI x1)), (2, .int (jI x2)), (3, .int (jI x3))] → (fun (x1 : Int) (x2 : Int) (x3 : Int) u => ∀ (H : Heap) (locs : List Loc) (ls : Array Slot), inR x1 → inR x2 → inR x3 → yW D ca A ad s H locs u → lv_has ls 4 [(0, .ref (ad 0 0)), (1, .int (jI x1)), (2, .int (jI x2)), (3, .int (jI x3))] → W p l e R s m args below meth c H locs 0 0 Qf (F0 m 4 ls [])) x1 x2 x3 u → W p l e R s m args below meth c H locs 0 0 Qf (F0 m 4 ls []) := fun x1 x2 x3 u H locs ls rx1 rx2 rx3 hw hl h => h H locs ls rx1 rx2 rx3 hw hl
  have hx := X.1.1
  have hb := X.1.2.1
  unfold v_0_placeOf_4b at h
  refine lv_iload_n hx hb dX0_placeOf_4 rfl (lv_at hl 3 rfl) ?_
  refine lv_iload_n hx hb dX0_placeOf_5 rfl (lv_at hl 1 rfl) ?_
  refine k_icmp_ge hx hb rx3 rx1 dX0_placeOf_6 (tgt := 64) rfl h (fun h => ?_) (fun h => ?_)
  · refine lv_iload_n hx hb dX0_placeOf_64 rfl (lv_at hl 2 rfl) ?_
    exact hret _ _ _ _ _ _ rx2 h hw dX0_placeOf_65
  · refine lv_iload_n hx hb dX0_placeOf_9 rfl (lv_at hl 3 rfl) ?_
    refine lv_aload_n hx hb dX0_placeOf_10 rfl (lv_at hl 0 rfl) ?_
    refine yg_0_73 X hw dX0_placeOf_11 h (fun v1 rv1 h => ?_)
    refine k_icmp_ge hx hb rx3 rv1 dX0_placeOf_14 (tgt := 64) rfl h (fun h => ?_) (fun h => ?_)
    · refine lv_iload_n hx hb dX0_placeOf_64 rfl (lv_at hl 2 rfl) ?_
      exact hret _ _ _ _ _ _ rx2 h hw dX0_placeOf_65
    · refine lv_iload_n hx hb dX0_placeOf_17 rfl (lv_at hl 2 rfl) ?_
      refine lv_aload_n hx hb dX0_placeOf_18 rfl (lv_at hl 0 rfl) ?_
      refine yg_0_67 X hw dX0_placeOf_19 ?_
      refine lv_iload_n hx hb dX0_placeOf_22 rfl (lv_at hl 3 rfl) ?_
      refine yl_14 X hw rx3 dX0_placeOf_23 h (fun v2 rv2 h => ?_)
      refine lv_iconst hx hb dX0_placeOf_24 (v := jI 1) rfl ?_
      refine k_icmp_ne hx hb rv2 (by decide) dX0_placeOf_25 (tgt := 32) rfl h (fun h => ?_) (fun h => ?_)
      · refine lv_iconst hx hb dX0_placeOf_32 (v := jI 0) rfl ?_
        exact f_0_placeOf_33 X hRf hRl hret hR4 rx1 rx3 rx2 (by decide) hw (lv_sub hl [0, 1, 3] rfl) h
      · refine lv_iconst hx hb dX0_placeOf_28 (v := jI 1) rfl ?_
        refine lv_goto hx hb dX0_placeOf_29 (tgt := 33) rfl ?_
        exact f_0_placeOf_33 X hRf hRl hret hR4 rx1 rx3 rx2 (by decide) hw (lv_sub hl [0, 1, 3] rfl) h

def v_0_placeOf (a0 : Int) (Q : Int → iST → Prop) (u : iST) : Prop :=
  v_0_placeOf_4 Q a0 0 0 u
set_option maxRecDepth 20000 in
set_option maxHeartbeats 4000000 in
theorem f_0_placeOf_s (X : yX RX0 p m c cX0_placeOf 4 s args D ca ad A) (hRf : 0 ≤ R.frames) (hRl : 0 ≤ R.locals) {Q : Int → iST → Prop} (hret : ∀ (v : Int) (u : iST) (H : Heap) (locs : List Loc) (ls : Array Slot) (pc : Nat), inR v → Q v u → yW D ca A ad s H locs u → decode cX0_placeOf pc = .ok (.ireturn, 1) → W p l e R s m args below meth c H locs 0 0 Qf (F0 m pc ls [.int (jI v)])) {a0 : Int} (ra0 : inR a0) (hw : yW D ca A ad s H locs u) (hl : lv_has ls 4 [(0, .ref (ad 0 0)), (1, .int (jI a0))]) (h : v_0_placeOf a0 Q u) : W p l e R s m args below meth c H locs 0 0 Qf (F0 m 0 ls []) := by
  have hx := X.1.1
  have hb := X.1.2.1
  unfold v_0_placeOf at h
  refine lv_iconst hx hb dX0_placeOf_0 (v := jI 0) rfl ?_
  refine lv_istore_n hx hb dX0_placeOf_1 rfl hl (by decide) rfl (fun ls hl => ?_)
  have hl : lv_has ls 4 [(2, .int (jI 0)), (0, .ref (ad 0 0)), (1, .int (jI a0))] := hl
  refine lv_iconst hx hb dX0_placeOf_2 (v := jI 0) rfl ?_
  refine lv_istore_n hx hb dX0_placeOf_3 rfl hl (by decide) rfl (fun ls hl => ?_)
  have hl : lv_has ls 4 [(3, .int (jI 0)), (2, .int (jI 0)), (0, .ref (ad 0 0)), (1, .int (jI a0))] := hl
  exact f_0_placeOf_4 X hRf hRl hret ra0 (by decide) (by decide) hw (lv_sub hl [2, 3, 1, 0] rfl) h

end
theorem e_0_placeOf {l : Launch} {a0 : Int} (ra0 : inR a0) {Q : Int → iST → Prop} {u : iST} (h : v_0_placeOf a0 Q u) : yMI l yX0_placeOf (.code yX0_placeOf cX0_placeOf 4 (some .int) :: wsN) { frames := 0, cells := 0, slots := 0, locals := 0 } (fun ad => [.ref (ad 0 0), .int (jI a0)]) Q u := yMI_of (own := RX0) rfl (by decide +kernel) (fun _ => Nat.le_of_ble_eq_true rfl) (fun X hRf hRl hret hw hl => f_0_placeOf_s X hRf hRl hret ra0 hw hl h)

/-! ProofHouse$Clause.clear -/
theorem dX1_clear_0 : decode cX1_clear 0 = .ok (.aload_n 0, 1) := by decide +kernel
theorem dX1_clear_1 : decode cX1_clear 1 = .ok (.iconst 0, 1) := by decide +kernel
theorem dX1_clear_2 : decode cX1_clear 2 = .ok (.putfield 15, 3) := by decide +kernel
theorem dX1_clear_5 : decode cX1_clear 5 = .ok (.aload_n 0, 1) := by decide +kernel
theorem dX1_clear_6 : decode cX1_clear 6 = .ok (.iconst 0, 1) := by decide +kernel
theorem dX1_clear_7 : decode cX1_clear 7 = .ok (.putfield 19, 3) := by decide +kernel
theorem dX1_clear_10 : decode cX1_clear 10 = .ok (.aload_n 0, 1) := by decide +kernel
theorem dX1_clear_11 : decode cX1_clear 11 = .ok (.iconst 0, 1) := by decide +kernel
theorem dX1_clear_12 : decode cX1_clear 12 = .ok (.putfield 22, 3) := by decide +kernel
theorem dX1_clear_15 : decode cX1_clear 15 = .ok (.return_, 1) := by decide +kernel

section
variable {p : Program} {l : Launch} {e : Env} {R : Room} {s : State} {m : MethodId} {args : Array Value} {below : List Frame} {meth : Method} {c : Code} {H : Heap} {locs : List Loc} {Qf : State → Prop}
variable {ls : Array Slot} {D : va_G} {ca : Nat → ClassId} {A : Nat → Prop} {ad : Nat → Nat → Nat} {u : iST}
def v_1_clear (th : Int) (Q : iST → Prop) (u : iST) : Prop :=
  sw (iA u 46 th 0) (fun u => 
  sw (iA u 47 th 0) (fun u => 
  sw (iA u 48 th 0) (fun u => 
  Q u)))
set_option maxRecDepth 20000 in
set_option maxHeartbeats 4000000 in
theorem f_1_clear_s (X : yX RX1 p m c cX1_clear 1 s args D ca ad A) (hRf : 0 ≤ R.frames) (hRl : 0 ≤ R.locals) {Q : iST → Prop} (hret : ∀ (u : iST) (H : Heap) (locs : List Loc) (ls : Array Slot) (pc : Nat), Q u → yW D ca A ad s H locs u → decode cX1_clear pc = .ok (.return_, 1) → W p l e R s m args below meth c H locs 0 0 Qf (F0 m pc ls [])) {th : Int} (rth : (0 ≤ th ∧ th < 408)) (hw : yW D ca A ad s H locs u) (hl : lv_has ls 1 [(0, .ref (ad 4 th.toNat))]) (h : v_1_clear th Q u) : W p l e R s m args below meth c H locs 0 0 Qf (F0 m 0 ls []) := by
  have hx := X.1.1
  have hb := X.1.2.1
  unfold v_1_clear at h
  refine lv_aload_n hx hb dX1_clear_0 rfl (lv_at hl 0 rfl) ?_
  refine lv_iconst hx hb dX1_clear_1 (v := jI 0) rfl ?_
  refine yp_1_15 X hw (by decide) dX1_clear_2 rth h (fun H locs u hw h => ?_)
  refine lv_aload_n hx hb dX1_clear_5 rfl (lv_at hl 0 rfl) ?_
  refine lv_iconst hx hb dX1_clear_6 (v := jI 0) rfl ?_
  refine yp_1_19 X hw (by decide) dX1_clear_7 rth h (fun H locs u hw h => ?_)
  refine lv_aload_n hx hb dX1_clear_10 rfl (lv_at hl 0 rfl) ?_
  refine lv_iconst hx hb dX1_clear_11 (v := jI 0) rfl ?_
  refine yp_1_22 X hw (by decide) dX1_clear_12 rth h (fun H locs u hw h => ?_)
  exact hret _ _ _ _ _ h hw dX1_clear_15

end
theorem e_1_clear {l : Launch} {th : Int} (rth : (0 ≤ th ∧ th < 408)) {Q : iST → Prop} {u : iST} (h : v_1_clear th Q u) : yMV l yX1_clear (.code yX1_clear cX1_clear 1 none :: wsN) { frames := 0, cells := 0, slots := 0, locals := 0 } (fun ad => [.ref (ad 4 th.toNat)]) Q u := yMV_of (own := RX1) rfl (by decide +kernel) (fun _ => Nat.le_of_ble_eq_true rfl) (fun X hRf hRl hret hw hl => f_1_clear_s X hRf hRl hret rth hw hl h)

/-! ProofHouse$Clause.copy -/
theorem dX1_copy_0 : decode cX1_copy 0 = .ok (.aload_n 1, 1) := by decide +kernel
theorem dX1_copy_1 : decode cX1_copy 1 = .ok (.getfield 11, 3) := by decide +kernel
theorem dX1_copy_4 : decode cX1_copy 4 = .ok (.iconst 0, 1) := by decide +kernel
theorem dX1_copy_5 : decode cX1_copy 5 = .ok (.aload_n 0, 1) := by decide +kernel
theorem dX1_copy_6 : decode cX1_copy 6 = .ok (.getfield 11, 3) := by decide +kernel
theorem dX1_copy_9 : decode cX1_copy 9 = .ok (.iconst 0, 1) := by decide +kernel
theorem dX1_copy_10 : decode cX1_copy 10 = .ok (.bipush 30, 2) := by decide +kernel
theorem dX1_copy_12 : decode cX1_copy 12 = .ok (.invokestatic 25, 3) := by decide +kernel
theorem dX1_copy_15 : decode cX1_copy 15 = .ok (.aload_n 0, 1) := by decide +kernel
theorem dX1_copy_16 : decode cX1_copy 16 = .ok (.aload_n 1, 1) := by decide +kernel
theorem dX1_copy_17 : decode cX1_copy 17 = .ok (.getfield 15, 3) := by decide +kernel
theorem dX1_copy_20 : decode cX1_copy 20 = .ok (.putfield 15, 3) := by decide +kernel
theorem dX1_copy_23 : decode cX1_copy 23 = .ok (.aload_n 0, 1) := by decide +kernel
theorem dX1_copy_24 : decode cX1_copy 24 = .ok (.aload_n 1, 1) := by decide +kernel
theorem dX1_copy_25 : decode cX1_copy 25 = .ok (.getfield 19, 3) := by decide +kernel
theorem dX1_copy_28 : decode cX1_copy 28 = .ok (.putfield 19, 3) := by decide +kernel
theorem dX1_copy_31 : decode cX1_copy 31 = .ok (.aload_n 0, 1) := by decide +kernel
theorem dX1_copy_32 : decode cX1_copy 32 = .ok (.aload_n 1, 1) := by decide +kernel
theorem dX1_copy_33 : decode cX1_copy 33 = .ok (.getfield 22, 3) := by decide +kernel
theorem dX1_copy_36 : decode cX1_copy 36 = .ok (.putfield 22, 3) := by decide +kernel
theorem dX1_copy_39 : decode cX1_copy 39 = .ok (.return_, 1) := by decide +kernel

section
variable {p : Program} {l : Launch} {e : Env} {R : Room} {s : State} {m : MethodId} {args : Array Value} {below : List Frame} {meth : Method} {c : Code} {H : Heap} {locs : List Loc} {Qf : State → Prop}
variable {ls : Array Slot} {D : va_G} {ca : Nat → ClassId} {A : Nat → Prop} {ad : Nat → Nat → Nat} {u : iST}
def v_1_copy (th : Int) (a0 : Int) (Q : iST → Prop) (u : iST) : Prop :=
  sw (iCp u 49 49 (30 * th) (30 * a0) 30) (fun u => 
  rd (u.2.1 46 a0) (fun v1 => 
  sw (iA u 46 th v1) (fun u => 
  rd (u.2.1 47 a0) (fun v2 => 
  sw (iA u 47 th v2) (fun u => 
  rd (u.2.1 48 a0) (fun v3 => 
  sw (iA u 48 th v3) (fun u => 
  Q u)))))))
set_option maxRecDepth 20000 in
set_option maxHeartbeats 4000000 in
theorem f_1_copy_s (X : yX RX1 p m c cX1_copy 2 s args D ca ad A) (hRf : 1 ≤ R.frames) (hRl : 60 ≤ R.locals) {Q : iST → Prop} (hret : ∀ (u : iST) (H : Heap) (locs : List Loc) (ls : Array Slot) (pc : Nat), Q u → yW D ca A ad s H locs u → decode cX1_copy pc = .ok (.return_, 1) → W p l e R s m args below meth c H locs 0 0 Qf (F0 m pc ls [])) {th a0 : Int} (rth : (0 ≤ th ∧ th < 408)) (ra0 : (0 ≤ a0 ∧ a0 < 408)) (hw : yW D ca A ad s H locs u) (hl : lv_has ls 2 [(0, .ref (ad 4 th.toNat)), (1, .ref (ad 4 a0.toNat))]) (h : v_1_copy th a0 Q u) : W p l e R s m args below meth c H locs 0 0 Qf (F0 m 0 ls []) := by
  have hx := X.1.1
  have hb := X.1.2.1
  unfold v_1_copy at h
  refine lv_aload_n hx hb dX1_copy_0 rfl (lv_at hl 1 rfl) ?_
  refine yg_1_11 X hw dX1_copy_1 ra0 ?_
  refine lv_iconst hx hb dX1_copy_4 (v := jI 0) rfl ?_
  refine lv_aload_n hx hb dX1_copy_5 rfl (lv_at hl 0 rfl) ?_
  refine yg_1_11 X hw dX1_copy_6 rth ?_
  refine lv_iconst hx hb dX1_copy_9 (v := jI 0) rfl ?_
  refine lv_bipush hx hb dX1_copy_10 (v := jI 30) rfl ?_
  refine yCp_lits X hw ra0 rth hl.1 (Nat.le_trans (Nat.le_of_ble_eq_true rfl) hRf) (Nat.le_trans (Nat.le_of_ble_eq_true rfl) hRl) dX1_copy_12 h (fun H locs u hw h => ?_)
  refine lv_aload_n hx hb dX1_copy_15 rfl (lv_at hl 0 rfl) ?_
  refine lv_aload_n hx hb dX1_copy_16 rfl (lv_at hl 1 rfl) ?_
  refine yg_1_15 X hw dX1_copy_17 ra0 h (fun v1 rv1 h => ?_)
  refine yp_1_15 X hw rv1 dX1_copy_20 rth h (fun H locs u hw h => ?_)
  refine lv_aload_n hx hb dX1_copy_23 rfl (lv_at hl 0 rfl) ?_
  refine lv_aload_n hx hb dX1_copy_24 rfl (lv_at hl 1 rfl) ?_
  refine yg_1_19 X hw dX1_copy_25 ra0 h (fun v2 rv2 h => ?_)
  refine yp_1_19 X hw rv2 dX1_copy_28 rth h (fun H locs u hw h => ?_)
  refine lv_aload_n hx hb dX1_copy_31 rfl (lv_at hl 0 rfl) ?_
  refine lv_aload_n hx hb dX1_copy_32 rfl (lv_at hl 1 rfl) ?_
  refine yg_1_22 X hw dX1_copy_33 ra0 h (fun v3 rv3 h => ?_)
  refine yp_1_22 X hw rv3 dX1_copy_36 rth h (fun H locs u hw h => ?_)
  exact hret _ _ _ _ _ h hw dX1_copy_39

end
theorem e_1_copy {l : Launch} {th : Int} {a0 : Int} (rth : (0 ≤ th ∧ th < 408)) (ra0 : (0 ≤ a0 ∧ a0 < 408)) {Q : iST → Prop} {u : iST} (h : v_1_copy th a0 Q u) : yMV l yX1_copy (.code yX1_copy cX1_copy 2 none :: wsN) { frames := 1, cells := 0, slots := 0, locals := 60 } (fun ad => [.ref (ad 4 th.toNat), .ref (ad 4 a0.toNat)]) Q u := yMV_of (own := RX1) rfl (by decide +kernel) (fun _ => Nat.le_of_ble_eq_true rfl) (fun X hRf hRl hret hw hl => f_1_copy_s X hRf hRl hret rth ra0 hw hl h)

/-! ProofHouse$Clause.placeOf -/
theorem dX1_placeOf_0 : decode cX1_placeOf 0 = .ok (.iconst 0, 1) := by decide +kernel
theorem dX1_placeOf_1 : decode cX1_placeOf 1 = .ok (.istore_n 2, 1) := by decide +kernel
theorem dX1_placeOf_2 : decode cX1_placeOf 2 = .ok (.iload_n 2, 1) := by decide +kernel
theorem dX1_placeOf_3 : decode cX1_placeOf 3 = .ok (.aload_n 0, 1) := by decide +kernel
theorem dX1_placeOf_4 : decode cX1_placeOf 4 = .ok (.getfield 15, 3) := by decide +kernel
theorem dX1_placeOf_7 : decode cX1_placeOf 7 = .ok (.if_icmp .ge 21, 3) := by decide +kernel
theorem dX1_placeOf_10 : decode cX1_placeOf 10 = .ok (.aload_n 0, 1) := by decide +kernel
theorem dX1_placeOf_11 : decode cX1_placeOf 11 = .ok (.getfield 11, 3) := by decide +kernel
theorem dX1_placeOf_14 : decode cX1_placeOf 14 = .ok (.iload_n 2, 1) := by decide +kernel
theorem dX1_placeOf_15 : decode cX1_placeOf 15 = .ok (.iaload, 1) := by decide +kernel
theorem dX1_placeOf_16 : decode cX1_placeOf 16 = .ok (.iload_n 1, 1) := by decide +kernel
theorem dX1_placeOf_17 : decode cX1_placeOf 17 = .ok (.if_icmp .ne 5, 3) := by decide +kernel
theorem dX1_placeOf_20 : decode cX1_placeOf 20 = .ok (.iload_n 2, 1) := by decide +kernel
theorem dX1_placeOf_21 : decode cX1_placeOf 21 = .ok (.ireturn, 1) := by decide +kernel
theorem dX1_placeOf_22 : decode cX1_placeOf 22 = .ok (.iinc 2 1, 3) := by decide +kernel
theorem dX1_placeOf_25 : decode cX1_placeOf 25 = .ok (.goto (-23), 3) := by decide +kernel
theorem dX1_placeOf_28 : decode cX1_placeOf 28 = .ok (.iconst (-1), 1) := by decide +kernel
theorem dX1_placeOf_29 : decode cX1_placeOf 29 = .ok (.ireturn, 1) := by decide +kernel

section
variable {p : Program} {l : Launch} {e : Env} {R : Room} {s : State} {m : MethodId} {args : Array Value} {below : List Frame} {meth : Method} {c : Code} {H : Heap} {locs : List Loc} {Qf : State → Prop}
variable {ls : Array Slot} {D : va_G} {ca : Nat → ClassId} {A : Nat → Prop} {ad : Nat → Nat → Nat} {u : iST}
def v_1_placeOf_2b (R2 : Int → Int → Int → iST → Prop) (Q : Int → iST → Prop) (x0 : Int) (x1 : Int) (x2 : Int) (u : iST) : Prop :=
  rd (u.2.1 46 x0) (fun v1 => 
  br (v1 ≤ x2) (
    Q (-1) u) (
    bd x2 30 (rd (u.2.1 49 (30 * x0 + x2)) (fun v2 => 
    br (v2 ≠ x1) (
      ov (x2 + 1) (
      R2 x0 x1 (x2 + 1) u)) (
      Q x2 u)))))
def v_1_placeOf_2 (Q : Int → iST → Prop) (x0 : Int) (x1 : Int) (x2 : Int) (u : iST) : Prop := ∀ R2 : Int → Int → Int → iST → Prop, (∀ (x0 : Int) (x1 : Int) (x2 : Int) (u : iST), v_1_placeOf_2b R2 Q x0 x1 x2 u → R2 x0 x1 x2 u) → R2 x0 x1 x2 u
set_option maxRecDepth 20000 in
set_option maxHeartbeats 4000000 in
theorem f_1_placeOf_2 (X : yX RX1 p m c cX1_placeOf 3 s args D ca ad A) (hRf : 0 ≤ R.frames) (hRl : 0 ≤ R.locals) {Q : Int → iST → Prop} (hret : ∀ (v : Int) (u : iST) (H : Heap) (locs : List Loc) (ls : Array Slot) (pc : Nat), inR v → Q v u → yW D ca A ad s H locs u → decode cX1_placeOf pc = .ok (.ireturn, 1) → W p l e R s m args below meth c H locs 0 0 Qf (F0 m pc ls [.int (jI v)])) {x0 x1 x2 : Int} (rx0 : (0 ≤ x0 ∧ x0 < 408)) (rx1 : inR x1) (rx2 : inR x2) (hw : yW D ca A ad s H locs u) (hl : lv_has ls 3 [(0, .ref (ad 4 x0.toNat)), (1, .int (jI x1)), (2, .int (jI x2))]) (h : v_1_placeOf_2 Q x0 x1 x2 u) : W p l e R s m args below meth c H locs 0 0 Qf (F0 m 2 ls []) := by
  refine h (fun x0 x1 x2 u => ∀ (H : Heap) (locs : List Loc) (ls : Array Slot), (0 ≤ x0 ∧ x0 < 408) → inR x1 → inR x2 → yW D ca A ad s H locs u → lv_has ls 3 [(0, .ref (ad 4 x0.toNat)), (1, .int (jI x1)), (2, .int (jI x2))] → W p l e R s m args below meth c H locs 0 0 Qf (F0 m 2 ls [])) ?_ H locs ls rx0 rx1 rx2 hw hl
  clear h hl hw rx0 rx1 rx2
  intro x0 x1 x2 u h H locs ls rx0 rx1 rx2 hw hl
  have hR2 : ∀ (x0 : Int) (x1 : Int) (x2 : Int) (u : iST) (H : Heap) (locs : List Loc) (ls : Array Slot), (0 ≤ x0 ∧ x0 < 408) → inR x1 → inR x2 → yW D ca A ad s H locs u → lv_has ls 3 [(0, .ref (ad 4 x0.toNat)), (1, .int (jI x1)), (2, .int (jI x2))] → (fun (x0 : Int) (x1 : Int) (x2 : Int) u => ∀ (H : Heap) (locs : List Loc) (ls : Array Slot), (0 ≤ x0 ∧ x0 < 408) → inR x1 → inR x2 → yW D ca A ad s H locs u → lv_has ls 3 [(0, .ref (ad 4 x0.toNat)), (1, .int (jI x1)), (2, .int (jI x2))] → W p l e R s m args below meth c H locs 0 0 Qf (F0 m 2 ls [])) x0 x1 x2 u → W p l e R s m args below meth c H locs 0 0 Qf (F0 m 2 ls []) := fun x0 x1 x2 u H locs ls rx0 rx1 rx2 hw hl h => h H locs ls rx0 rx1 rx2 hw hl
  have hx := X.1.1
  have hb := X.1.2.1
  unfold v_1_placeOf_2b at h
  refine lv_iload_n hx hb dX1_placeOf_2 rfl (lv_at hl 2 rfl) ?_
  refine lv_aload_n hx hb dX1_placeOf_3 rfl (lv_at hl 0 rfl) ?_
  refine yg_1_15 X hw dX1_placeOf_4 rx0 h (fun v1 rv1 h => ?_)
  refine k_icmp_ge hx hb rx2 rv1 dX1_placeOf_7 (tgt := 28) rfl h (fun h => ?_) (fun h => ?_)
  · refine lv_iconst hx hb dX1_placeOf_28 (v := jI (-1)) rfl ?_
    exact hret _ _ _ _ _ _ (by decide) h hw dX1_placeOf_29
  · refine lv_aload_n hx hb dX1_placeOf_10 rfl (lv_at hl 0 rfl) ?_
    refine yg_1_11 X hw dX1_placeOf_11 rx0 ?_
    refine lv_iload_n hx hb dX1_placeOf_14 rfl (lv_at hl 2 rfl) ?_
    refine yfl_lits X hw rx0 rx2 dX1_placeOf_15 h (fun v2 rv2 h => ?_)
    refine lv_iload_n hx hb dX1_placeOf_16 rfl (lv_at hl 1 rfl) ?_
    refine k_icmp_ne hx hb rv2 rx1 dX1_placeOf_17 (tgt := 22) rfl h (fun h => ?_) (fun h => ?_)
    · refine k_iinc (k := 2) hx hb dX1_placeOf_22 hl rfl (by decide) rfl h (fun ls r3 h hl => ?_)
      have hl : lv_has ls 3 [(2, .int (jI (x2 + 1))), (0, .ref (ad 4 x0.toNat)), (1, .int (jI x1))] := hl
      refine lv_goto hx hb dX1_placeOf_25 (tgt := 2) rfl ?_
      exact hR2 _ _ _ _ H locs ls rx0 rx1 r3 hw (lv_sub hl [1, 2, 0] rfl) h
    · refine lv_iload_n hx hb dX1_placeOf_20 rfl (lv_at hl 2 rfl) ?_
      exact hret _ _ _ _ _ _ rx2 h hw dX1_placeOf_21

def v_1_placeOf (th : Int) (a0 : Int) (Q : Int → iST → Prop) (u : iST) : Prop :=
  v_1_placeOf_2 Q th a0 0 u
set_option maxRecDepth 20000 in
set_option maxHeartbeats 4000000 in
theorem f_1_placeOf_s (X : yX RX1 p m c cX1_placeOf 3 s args D ca ad A) (hRf : 0 ≤ R.frames) (hRl : 0 ≤ R.locals) {Q : Int → iST → Prop} (hret : ∀ (v : Int) (u : iST) (H : Heap) (locs : List Loc) (ls : Array Slot) (pc : Nat), inR v → Q v u → yW D ca A ad s H locs u → decode cX1_placeOf pc = .ok (.ireturn, 1) → W p l e R s m args below meth c H locs 0 0 Qf (F0 m pc ls [.int (jI v)])) {th a0 : Int} (rth : (0 ≤ th ∧ th < 408)) (ra0 : inR a0) (hw : yW D ca A ad s H locs u) (hl : lv_has ls 3 [(0, .ref (ad 4 th.toNat)), (1, .int (jI a0))]) (h : v_1_placeOf th a0 Q u) : W p l e R s m args below meth c H locs 0 0 Qf (F0 m 0 ls []) := by
  have hx := X.1.1
  have hb := X.1.2.1
  unfold v_1_placeOf at h
  refine lv_iconst hx hb dX1_placeOf_0 (v := jI 0) rfl ?_
  refine lv_istore_n hx hb dX1_placeOf_1 rfl hl (by decide) rfl (fun ls hl => ?_)
  have hl : lv_has ls 3 [(2, .int (jI 0)), (0, .ref (ad 4 th.toNat)), (1, .int (jI a0))] := hl
  exact f_1_placeOf_2 X hRf hRl hret rth ra0 (by decide) hw (lv_sub hl [1, 2, 0] rfl) h

end
theorem e_1_placeOf {l : Launch} {th : Int} {a0 : Int} (rth : (0 ≤ th ∧ th < 408)) (ra0 : inR a0) {Q : Int → iST → Prop} {u : iST} (h : v_1_placeOf th a0 Q u) : yMI l yX1_placeOf (.code yX1_placeOf cX1_placeOf 3 (some .int) :: wsN) { frames := 0, cells := 0, slots := 0, locals := 0 } (fun ad => [.ref (ad 4 th.toNat), .int (jI a0)]) Q u := yMI_of (own := RX1) rfl (by decide +kernel) (fun _ => Nat.le_of_ble_eq_true rfl) (fun X hRf hRl hret hw hl => f_1_placeOf_s X hRf hRl hret rth ra0 hw hl h)

/-! ProofHouse$Clause.insert -/
theorem dX1_insert_0 : decode cX1_insert 0 = .ok (.iconst 0, 1) := by decide +kernel
theorem dX1_insert_1 : decode cX1_insert 1 = .ok (.istore 4, 2) := by decide +kernel
theorem dX1_insert_3 : decode cX1_insert 3 = .ok (.iload 4, 2) := by decide +kernel
theorem dX1_insert_5 : decode cX1_insert 5 = .ok (.aload_n 0, 1) := by decide +kernel
theorem dX1_insert_6 : decode cX1_insert 6 = .ok (.getfield 15, 3) := by decide +kernel
theorem dX1_insert_9 : decode cX1_insert 9 = .ok (.if_icmp .ge 22, 3) := by decide +kernel
theorem dX1_insert_12 : decode cX1_insert 12 = .ok (.aload_n 0, 1) := by decide +kernel
theorem dX1_insert_13 : decode cX1_insert 13 = .ok (.getfield 11, 3) := by decide +kernel
theorem dX1_insert_16 : decode cX1_insert 16 = .ok (.iload 4, 2) := by decide +kernel
theorem dX1_insert_18 : decode cX1_insert 18 = .ok (.iaload, 1) := by decide +kernel
theorem dX1_insert_19 : decode cX1_insert 19 = .ok (.iload_n 2, 1) := by decide +kernel
theorem dX1_insert_20 : decode cX1_insert 20 = .ok (.if_icmp .ne 5, 3) := by decide +kernel
theorem dX1_insert_23 : decode cX1_insert 23 = .ok (.iconst 1, 1) := by decide +kernel
theorem dX1_insert_24 : decode cX1_insert 24 = .ok (.ireturn, 1) := by decide +kernel
theorem dX1_insert_25 : decode cX1_insert 25 = .ok (.iinc 4 1, 3) := by decide +kernel
theorem dX1_insert_28 : decode cX1_insert 28 = .ok (.goto (-25), 3) := by decide +kernel
theorem dX1_insert_31 : decode cX1_insert 31 = .ok (.iload_n 1, 1) := by decide +kernel
theorem dX1_insert_32 : decode cX1_insert 32 = .ok (.ifCond .lt 20, 3) := by decide +kernel
theorem dX1_insert_35 : decode cX1_insert 35 = .ok (.iload_n 1, 1) := by decide +kernel
theorem dX1_insert_36 : decode cX1_insert 36 = .ok (.aload_n 0, 1) := by decide +kernel
theorem dX1_insert_37 : decode cX1_insert 37 = .ok (.getfield 15, 3) := by decide +kernel
theorem dX1_insert_40 : decode cX1_insert 40 = .ok (.if_icmp .gt 12, 3) := by decide +kernel
theorem dX1_insert_43 : decode cX1_insert 43 = .ok (.aload_n 0, 1) := by decide +kernel
theorem dX1_insert_44 : decode cX1_insert 44 = .ok (.getfield 15, 3) := by decide +kernel
theorem dX1_insert_47 : decode cX1_insert 47 = .ok (.bipush 30, 2) := by decide +kernel
theorem dX1_insert_49 : decode cX1_insert 49 = .ok (.if_icmp .lt 5, 3) := by decide +kernel
theorem dX1_insert_52 : decode cX1_insert 52 = .ok (.iconst 0, 1) := by decide +kernel
theorem dX1_insert_53 : decode cX1_insert 53 = .ok (.ireturn, 1) := by decide +kernel
theorem dX1_insert_54 : decode cX1_insert 54 = .ok (.aload_n 0, 1) := by decide +kernel
theorem dX1_insert_55 : decode cX1_insert 55 = .ok (.getfield 15, 3) := by decide +kernel
theorem dX1_insert_58 : decode cX1_insert 58 = .ok (.istore 4, 2) := by decide +kernel
theorem dX1_insert_60 : decode cX1_insert 60 = .ok (.iload 4, 2) := by decide +kernel
theorem dX1_insert_62 : decode cX1_insert 62 = .ok (.iload_n 1, 1) := by decide +kernel
theorem dX1_insert_63 : decode cX1_insert 63 = .ok (.if_icmp .le 25, 3) := by decide +kernel
theorem dX1_insert_66 : decode cX1_insert 66 = .ok (.aload_n 0, 1) := by decide +kernel
theorem dX1_insert_67 : decode cX1_insert 67 = .ok (.getfield 11, 3) := by decide +kernel
theorem dX1_insert_70 : decode cX1_insert 70 = .ok (.iload 4, 2) := by decide +kernel
theorem dX1_insert_72 : decode cX1_insert 72 = .ok (.aload_n 0, 1) := by decide +kernel
theorem dX1_insert_73 : decode cX1_insert 73 = .ok (.getfield 11, 3) := by decide +kernel
theorem dX1_insert_76 : decode cX1_insert 76 = .ok (.iload 4, 2) := by decide +kernel
theorem dX1_insert_78 : decode cX1_insert 78 = .ok (.iconst 1, 1) := by decide +kernel
theorem dX1_insert_79 : decode cX1_insert 79 = .ok (.isub, 1) := by decide +kernel
theorem dX1_insert_80 : decode cX1_insert 80 = .ok (.iaload, 1) := by decide +kernel
theorem dX1_insert_81 : decode cX1_insert 81 = .ok (.iastore, 1) := by decide +kernel
theorem dX1_insert_82 : decode cX1_insert 82 = .ok (.iinc 4 (-1), 3) := by decide +kernel
theorem dX1_insert_85 : decode cX1_insert 85 = .ok (.goto (-25), 3) := by decide +kernel
theorem dX1_insert_88 : decode cX1_insert 88 = .ok (.aload_n 0, 1) := by decide +kernel
theorem dX1_insert_89 : decode cX1_insert 89 = .ok (.getfield 11, 3) := by decide +kernel
theorem dX1_insert_92 : decode cX1_insert 92 = .ok (.iload_n 1, 1) := by decide +kernel
theorem dX1_insert_93 : decode cX1_insert 93 = .ok (.iload_n 2, 1) := by decide +kernel
theorem dX1_insert_94 : decode cX1_insert 94 = .ok (.iastore, 1) := by decide +kernel
theorem dX1_insert_95 : decode cX1_insert 95 = .ok (.aload_n 0, 1) := by decide +kernel
theorem dX1_insert_96 : decode cX1_insert 96 = .ok (.dup, 1) := by decide +kernel
theorem dX1_insert_97 : decode cX1_insert 97 = .ok (.getfield 15, 3) := by decide +kernel
theorem dX1_insert_100 : decode cX1_insert 100 = .ok (.iconst 1, 1) := by decide +kernel
theorem dX1_insert_101 : decode cX1_insert 101 = .ok (.iadd, 1) := by decide +kernel
theorem dX1_insert_102 : decode cX1_insert 102 = .ok (.putfield 15, 3) := by decide +kernel
theorem dX1_insert_105 : decode cX1_insert 105 = .ok (.aload_n 0, 1) := by decide +kernel
theorem dX1_insert_106 : decode cX1_insert 106 = .ok (.dup, 1) := by decide +kernel
theorem dX1_insert_107 : decode cX1_insert 107 = .ok (.getfield 19, 3) := by decide +kernel
theorem dX1_insert_110 : decode cX1_insert 110 = .ok (.iload_n 3, 1) := by decide +kernel
theorem dX1_insert_111 : decode cX1_insert 111 = .ok (.iadd, 1) := by decide +kernel
theorem dX1_insert_112 : decode cX1_insert 112 = .ok (.putfield 19, 3) := by decide +kernel
theorem dX1_insert_115 : decode cX1_insert 115 = .ok (.aload_n 0, 1) := by decide +kernel
theorem dX1_insert_116 : decode cX1_insert 116 = .ok (.getfield 19, 3) := by decide +kernel
theorem dX1_insert_119 : decode cX1_insert 119 = .ok (.sipush 400, 3) := by decide +kernel
theorem dX1_insert_122 : decode cX1_insert 122 = .ok (.if_icmp .gt 7, 3) := by decide +kernel
theorem dX1_insert_125 : decode cX1_insert 125 = .ok (.iconst 1, 1) := by decide +kernel
theorem dX1_insert_126 : decode cX1_insert 126 = .ok (.goto 4, 3) := by decide +kernel
theorem dX1_insert_129 : decode cX1_insert 129 = .ok (.iconst 0, 1) := by decide +kernel
theorem dX1_insert_130 : decode cX1_insert 130 = .ok (.ireturn, 1) := by decide +kernel

section
variable {p : Program} {l : Launch} {e : Env} {R : Room} {s : State} {m : MethodId} {args : Array Value} {below : List Frame} {meth : Method} {c : Code} {H : Heap} {locs : List Loc} {Qf : State → Prop}
variable {ls : Array Slot} {D : va_G} {ca : Nat → ClassId} {A : Nat → Prop} {ad : Nat → Nat → Nat} {u : iST}
def v_1_insert_60b (R60 : Int → Int → Int → Int → Int → iST → Prop) (Q : Int → iST → Prop) (x0 : Int) (x1 : Int) (x2 : Int) (x3 : Int) (x4 : Int) (u : iST) : Prop :=
  br (x4 ≤ x1) (
    bd x1 30 (sw (iA u 49 (30 * x0 + x1) x2) (fun u => 
    rd (u.2.1 46 x0) (fun v5 => 
    ov (v5 + 1) (
    sw (iA u 46 x0 (v5 + 1)) (fun u => 
    rd (u.2.1 47 x0) (fun v7 => 
    rd (wadd v7 x3) (fun v8 => 
    sw (iA u 47 x0 v8) (fun u => 
    rd (u.2.1 47 x0) (fun v9 => 
    br (400 < v9) (
      zt 0 (Q 0 u)) (
      zt 1 (Q 1 u)))))))))))) (
    ov (x4 - 1) (
    bd (x4 - 1) 30 (rd (u.2.1 49 (30 * x0 + (x4 - 1))) (fun v11 => 
    bd x4 30 (sw (iA u 49 (30 * x0 + x4) v11) (fun u => 
    ov (x4 + (-1)) (
    R60 x0 x1 x2 x3 (x4 + (-1)) u)))))))
def v_1_insert_60 (Q : Int → iST → Prop) (x0 : Int) (x1 : Int) (x2 : Int) (x3 : Int) (x4 : Int) (u : iST) : Prop := ∀ R60 : Int → Int → Int → Int → Int → iST → Prop, (∀ (x0 : Int) (x1 : Int) (x2 : Int) (x3 : Int) (x4 : Int) (u : iST), v_1_insert_60b R60 Q x0 x1 x2 x3 x4 u → R60 x0 x1 x2 x3 x4 u) → R60 x0 x1 x2 x3 x4 u
set_option maxRecDepth 20000 in
set_option maxHeartbeats 4000000 in
theorem f_1_insert_60 (X : yX RX1 p m c cX1_insert 5 s args D ca ad A) (hRf : 0 ≤ R.frames) (hRl : 0 ≤ R.locals) {Q : Int → iST → Prop} (hret : ∀ (v : Int) (u : iST) (H : Heap) (locs : List Loc) (ls : Array Slot) (pc : Nat), bz v → Q v u → yW D ca A ad s H locs u → decode cX1_insert pc = .ok (.ireturn, 1) → W p l e R s m args below meth c H locs 0 0 Qf (F0 m pc ls [.int (jI v)])) {x0 x1 x2 x3 x4 : Int} (rx0 : (0 ≤ x0 ∧ x0 < 408)) (rx1 : inR x1) (rx2 : inR x2) (rx3 : inR x3) (rx4 : inR x4) (hw : yW D ca A ad s H locs u) (hl : lv_has ls 5 [(0, .ref (ad 4 x0.toNat)), (1, .int (jI x1)), (2, .int (jI x2)), (3, .int (jI x3)), (4, .int (jI x4))]) (h : v_1_insert_60 Q x0 x1 x2 x3 x4 u) : W p l e R s m args below meth c H locs 0 0 Qf (F0 m 60 ls []) := by
  refine h (fun x0 x1 x2 x3 x4 u => ∀ (H : Heap) (locs : List Loc) (ls : Array Slot), (0 ≤ x0 ∧ x0 < 408) → inR x1 → inR x2 → inR x3 → inR x4 → yW D ca A ad s H locs u → lv_has ls 5 [(0, .ref (ad 4 x0.toNat)), (1, .int (jI x1)), (2, .int (jI x2)), (3, .int (jI x3)), (4, .int (jI x4))] → W p l e R s m args below meth c H locs 0 0 Qf (F0 m 60 ls [])) ?_ H locs ls rx0 rx1 rx2 rx3 rx4 hw hl
  clear h hl hw rx0 rx1 rx2 rx3 rx4
  intro x0 x1 x2 x3 x4 u h H locs ls rx0 rx1 rx2 rx3 rx4 hw hl
  have hR60 : ∀ (x0 : Int) (x1 : Int) (x2 : Int) (x3 : Int) (x4 : Int) (u : iST) (H : Heap) (locs : List Loc) (ls : Array Slot), (0 ≤ x0 ∧ x0 < 408) → inR x1 → inR x2 → inR x3 → inR x4 → yW D ca A ad s H locs u → lv_has ls 5 [(0, .ref (ad 4 x0.toNat)), (1, .int (jI x1)), (2, .int (jI x2)), (3, .int (jI x3)), (4, .int (jI x4))] → (fun (x0 : Int) (x1 : Int) (x2 : Int) (x3 : Int) (x4 : Int) u => ∀ (H : Heap) (locs : List Loc) (ls : Array Slot), (0 ≤ x0 ∧ x0 < 408) → inR x1 → inR x2 → inR x3 → inR x4 → yW D ca A ad s H locs u → lv_has ls 5 [(0, .ref (ad 4 x0.toNat)), (1, .int (jI x1)), (2, .int (jI x2)), (3, .int (jI x3)), (4, .int (jI x4))] → W p l e R s m args below meth c H locs 0 0 Qf (F0 m 60 ls [])) x0 x1 x2 x3 x4 u → W p l e R s m args below meth c H locs 0 0 Qf (F0 m 60 ls []) := fun x0 x1 x2 x3 x4 u H locs ls rx0 rx1 rx2 rx3 rx4 hw hl h => h H locs ls rx0 rx1 rx2 rx3 rx4 hw hl
  have hx := X.1.1
  have hb := X.1.2.1
  unfold v_1_insert_60b at h
  refine lv_iload hx hb dX1_insert_60 (lv_at hl 4 rfl) ?_
  refine lv_iload_n hx hb dX1_insert_62 rfl (lv_at hl 1 rfl) ?_
  refine k_icmp_le hx hb rx4 rx1 dX1_insert_63 (tgt := 88) rfl h (fun h => ?_) (fun h => ?_)
  · refine lv_aload_n hx hb dX1_insert_88 rfl (lv_at hl 0 rfl) ?_
    refine yg_1_11 X hw dX1_insert_89 rx0 ?_
    refine lv_iload_n hx hb dX1_insert_92 rfl (lv_at hl 1 rfl) ?_
    refine lv_iload_n hx hb dX1_insert_93 rfl (lv_at hl 2 rfl) ?_
    refine yft_lits X hw rx0 rx1 rx2 dX1_insert_94 h (fun H locs u hw h => ?_)
    refine lv_aload_n hx hb dX1_insert_95 rfl (lv_at hl 0 rfl) ?_
    refine lv_dup hx hb dX1_insert_96 rfl ?_
    refine yg_1_15 X hw dX1_insert_97 rx0 h (fun v5 rv5 h => ?_)
    refine lv_iconst hx hb dX1_insert_100 (v := jI 1) rfl ?_
    refine k_iadd hx hb dX1_insert_101 h (fun r6 h => ?_)
    refine yp_1_15 X hw r6 dX1_insert_102 rx0 h (fun H locs u hw h => ?_)
    refine lv_aload_n hx hb dX1_insert_105 rfl (lv_at hl 0 rfl) ?_
    refine lv_dup hx hb dX1_insert_106 rfl ?_
    refine yg_1_19 X hw dX1_insert_107 rx0 h (fun v7 rv7 h => ?_)
    refine lv_iload_n hx hb dX1_insert_110 rfl (lv_at hl 3 rfl) ?_
    refine k_wadd hx hb dX1_insert_111 h (fun v8 rv8 h => ?_)
    refine yp_1_19 X hw rv8 dX1_insert_112 rx0 h (fun H locs u hw h => ?_)
    refine lv_aload_n hx hb dX1_insert_115 rfl (lv_at hl 0 rfl) ?_
    refine yg_1_19 X hw dX1_insert_116 rx0 h (fun v9 rv9 h => ?_)
    refine lv_sipush hx hb dX1_insert_119 (v := jI 400) rfl ?_
    refine k_icmp_gt hx hb rv9 (by decide) dX1_insert_122 (tgt := 129) rfl h (fun h => ?_) (fun h => ?_)
    · refine lv_iconst hx hb dX1_insert_129 (v := jI 0) rfl ?_
      exact hret _ _ _ _ _ _ h.1 h.2 hw dX1_insert_130
    · refine lv_iconst hx hb dX1_insert_125 (v := jI 1) rfl ?_
      refine lv_goto hx hb dX1_insert_126 (tgt := 130) rfl ?_
      exact hret _ _ _ _ _ _ h.1 h.2 hw dX1_insert_130
  · refine lv_aload_n hx hb dX1_insert_66 rfl (lv_at hl 0 rfl) ?_
    refine yg_1_11 X hw dX1_insert_67 rx0 ?_
    refine lv_iload hx hb dX1_insert_70 (lv_at hl 4 rfl) ?_
    refine lv_aload_n hx hb dX1_insert_72 rfl (lv_at hl 0 rfl) ?_
    refine yg_1_11 X hw dX1_insert_73 rx0 ?_
    refine lv_iload hx hb dX1_insert_76 (lv_at hl 4 rfl) ?_
    refine lv_iconst hx hb dX1_insert_78 (v := jI 1) rfl ?_
    refine k_isub hx hb dX1_insert_79 h (fun r10 h => ?_)
    refine yfl_lits X hw rx0 r10 dX1_insert_80 h (fun v11 rv11 h => ?_)
    refine yft_lits X hw rx0 rx4 rv11 dX1_insert_81 h (fun H locs u hw h => ?_)
    refine k_iinc (k := 4) hx hb dX1_insert_82 hl rfl (by decide) rfl h (fun ls r12 h hl => ?_)
    have hl : lv_has ls 5 [(4, .int (jI (x4 + (-1)))), (0, .ref (ad 4 x0.toNat)), (1, .int (jI x1)), (2, .int (jI x2)), (3, .int (jI x3))] := hl
    refine lv_goto hx hb dX1_insert_85 (tgt := 60) rfl ?_
    exact hR60 _ _ _ _ _ _ H locs ls rx0 rx1 rx2 rx3 r12 hw (lv_sub hl [1, 2, 3, 4, 0] rfl) h

def v_1_insert_3b (R3 : Int → Int → Int → Int → Int → iST → Prop) (Q : Int → iST → Prop) (x0 : Int) (x1 : Int) (x2 : Int) (x3 : Int) (x4 : Int) (u : iST) : Prop :=
  rd (u.2.1 46 x0) (fun v1 => 
  br (v1 ≤ x4) (
    br (x1 < 0) (
      zt 0 (Q 0 u)) (
      rd (u.2.1 46 x0) (fun v2 => 
      br (v2 < x1) (
        zt 0 (Q 0 u)) (
        rd (u.2.1 46 x0) (fun v3 => 
        br (v3 < 30) (
          rd (u.2.1 46 x0) (fun v4 => 
          v_1_insert_60 Q x0 x1 x2 x3 v4 u)) (
          zt 0 (Q 0 u))))))) (
    bd x4 30 (rd (u.2.1 49 (30 * x0 + x4)) (fun v13 => 
    br (v13 ≠ x2) (
      ov (x4 + 1) (
      R3 x0 x1 x2 x3 (x4 + 1) u)) (
      zt 1 (Q 1 u))))))
def v_1_insert_3 (Q : Int → iST → Prop) (x0 : Int) (x1 : Int) (x2 : Int) (x3 : Int) (x4 : Int) (u : iST) : Prop := ∀ R3 : Int → Int → Int → Int → Int → iST → Prop, (∀ (x0 : Int) (x1 : Int) (x2 : Int) (x3 : Int) (x4 : Int) (u : iST), v_1_insert_3b R3 Q x0 x1 x2 x3 x4 u → R3 x0 x1 x2 x3 x4 u) → R3 x0 x1 x2 x3 x4 u
set_option maxRecDepth 20000 in
set_option maxHeartbeats 4000000 in
theorem f_1_insert_3 (X : yX RX1 p m c cX1_insert 5 s args D ca ad A) (hRf : 0 ≤ R.frames) (hRl : 0 ≤ R.locals) {Q : Int → iST → Prop} (hret : ∀ (v : Int) (u : iST) (H : Heap) (locs : List Loc) (ls : Array Slot) (pc : Nat), bz v → Q v u → yW D ca A ad s H locs u → decode cX1_insert pc = .ok (.ireturn, 1) → W p l e R s m args below meth c H locs 0 0 Qf (F0 m pc ls [.int (jI v)])) {x0 x1 x2 x3 x4 : Int} (rx0 : (0 ≤ x0 ∧ x0 < 408)) (rx1 : inR x1) (rx2 : inR x2) (rx3 : inR x3) (rx4 : inR x4) (hw : yW D ca A ad s H locs u) (hl : lv_has ls 5 [(0, .ref (ad 4 x0.toNat)), (1, .int (jI x1)), (2, .int (jI x2)), (3, .int (jI x3)), (4, .int (jI x4))]) (h : v_1_insert_3 Q x0 x1 x2 x3 x4 u) : W p l e R s m args below meth c H locs 0 0 Qf (F0 m 3 ls []) := by
  refine h (fun x0 x1 x2 x3 x4 u => ∀ (H : Heap) (locs : List Loc) (ls : Array Slot), (0 ≤ x0 ∧ x0 < 408) → inR x1 → inR x2 → inR x3 → inR x4 → yW D ca A ad s H locs u → lv_has ls 5 [(0, .ref (ad 4 x0.toNat)), (1, .int (jI x1)), (2, .int (jI x2)), (3, .int (jI x3)), (4, .int (jI x4))] → W p l e R s m args below meth c H locs 0 0 Qf (F0 m 3 ls [])) ?_ H locs ls rx0 rx1 rx2 rx3 rx4 hw hl
  clear h hl hw rx0 rx1 rx2 rx3 rx4
  intro x0 x1 x2 x3 x4 u h H locs ls rx0 rx1 rx2 rx3 rx4 hw hl
  have hR3 : ∀ (x0 : Int) (x1 : Int) (x2 : Int) (x3 : Int) (x4 : Int) (u : iST) (H : Heap) (locs : List Loc) (ls : Array Slot), (0 ≤ x0 ∧ x0 < 408) → inR x1 → inR x2 → inR x3 → inR x4 → yW D ca A ad s H locs u → lv_has ls 5 [(0, .ref (ad 4 x0.toNat)), (1, .int (jI x1)), (2, .int (jI x2)), (3, .int (jI x3)), (4, .int (jI x4))] → (fun (x0 : Int) (x1 : Int) (x2 : Int) (x3 : Int) (x4 : Int) u => ∀ (H : Heap) (locs : List Loc) (ls : Array Slot), (0 ≤ x0 ∧ x0 < 408) → inR x1 → inR x2 → inR x3 → inR x4 → yW D ca A ad s H locs u → lv_has ls 5 [(0, .ref (ad 4 x0.toNat)), (1, .int (jI x1)), (2, .int (jI x2)), (3, .int (jI x3)), (4, .int (jI x4))] → W p l e R s m args below meth c H locs 0 0 Qf (F0 m 3 ls [])) x0 x1 x2 x3 x4 u → W p l e R s m args below meth c H locs 0 0 Qf (F0 m 3 ls []) := fun x0 x1 x2 x3 x4 u H locs ls rx0 rx1 rx2 rx3 rx4 hw hl h => h H locs ls rx0 rx1 rx2 rx3 rx4 hw hl
  have hx := X.1.1
  have hb := X.1.2.1
  unfold v_1_insert_3b at h
  refine lv_iload hx hb dX1_insert_3 (lv_at hl 4 rfl) ?_
  refine lv_aload_n hx hb dX1_insert_5 rfl (lv_at hl 0 rfl) ?_
  refine yg_1_15 X hw dX1_insert_6 rx0 h (fun v1 rv1 h => ?_)
  refine k_icmp_ge hx hb rx4 rv1 dX1_insert_9 (tgt := 31) rfl h (fun h => ?_) (fun h => ?_)
  · refine lv_iload_n hx hb dX1_insert_31 rfl (lv_at hl 1 rfl) ?_
    refine k_if_lt hx hb rx1 dX1_insert_32 (tgt := 52) rfl h (fun h => ?_) (fun h => ?_)
    · refine lv_iconst hx hb dX1_insert_52 (v := jI 0) rfl ?_
      exact hret _ _ _ _ _ _ h.1 h.2 hw dX1_insert_53
    · refine lv_iload_n hx hb dX1_insert_35 rfl (lv_at hl 1 rfl) ?_
      refine lv_aload_n hx hb dX1_insert_36 rfl (lv_at hl 0 rfl) ?_
      refine yg_1_15 X hw dX1_insert_37 rx0 h (fun v2 rv2 h => ?_)
      refine k_icmp_gt hx hb rx1 rv2 dX1_insert_40 (tgt := 52) rfl h (fun h => ?_) (fun h => ?_)
      · refine lv_iconst hx hb dX1_insert_52 (v := jI 0) rfl ?_
        exact hret _ _ _ _ _ _ h.1 h.2 hw dX1_insert_53
      · refine lv_aload_n hx hb dX1_insert_43 rfl (lv_at hl 0 rfl) ?_
        refine yg_1_15 X hw dX1_insert_44 rx0 h (fun v3 rv3 h => ?_)
        refine lv_bipush hx hb dX1_insert_47 (v := jI 30) rfl ?_
        refine k_icmp_lt hx hb rv3 (by decide) dX1_insert_49 (tgt := 54) rfl h (fun h => ?_) (fun h => ?_)
        · refine lv_aload_n hx hb dX1_insert_54 rfl (lv_at hl 0 rfl) ?_
          refine yg_1_15 X hw dX1_insert_55 rx0 h (fun v4 rv4 h => ?_)
          refine lv_istore hx hb dX1_insert_58 hl (by decide) rfl (fun ls hl => ?_)
          have hl : lv_has ls 5 [(4, .int (jI v4)), (0, .ref (ad 4 x0.toNat)), (1, .int (jI x1)), (2, .int (jI x2)), (3, .int (jI x3))] := hl
          exact f_1_insert_60 X hRf hRl hret rx0 rx1 rx2 rx3 rv4 hw (lv_sub hl [1, 2, 3, 4, 0] rfl) h
        · refine lv_iconst hx hb dX1_insert_52 (v := jI 0) rfl ?_
          exact hret _ _ _ _ _ _ h.1 h.2 hw dX1_insert_53
  · refine lv_aload_n hx hb dX1_insert_12 rfl (lv_at hl 0 rfl) ?_
    refine yg_1_11 X hw dX1_insert_13 rx0 ?_
    refine lv_iload hx hb dX1_insert_16 (lv_at hl 4 rfl) ?_
    refine yfl_lits X hw rx0 rx4 dX1_insert_18 h (fun v13 rv13 h => ?_)
    refine lv_iload_n hx hb dX1_insert_19 rfl (lv_at hl 2 rfl) ?_
    refine k_icmp_ne hx hb rv13 rx2 dX1_insert_20 (tgt := 25) rfl h (fun h => ?_) (fun h => ?_)
    · refine k_iinc (k := 4) hx hb dX1_insert_25 hl rfl (by decide) rfl h (fun ls r14 h hl => ?_)
      have hl : lv_has ls 5 [(4, .int (jI (x4 + 1))), (0, .ref (ad 4 x0.toNat)), (1, .int (jI x1)), (2, .int (jI x2)), (3, .int (jI x3))] := hl
      refine lv_goto hx hb dX1_insert_28 (tgt := 3) rfl ?_
      exact hR3 _ _ _ _ _ _ H locs ls rx0 rx1 rx2 rx3 r14 hw (lv_sub hl [1, 2, 3, 4, 0] rfl) h
    · refine lv_iconst hx hb dX1_insert_23 (v := jI 1) rfl ?_
      exact hret _ _ _ _ _ _ h.1 h.2 hw dX1_insert_24

def v_1_insert (th : Int) (a0 : Int) (a1 : Int) (a2 : Int) (Q : Int → iST → Prop) (u : iST) : Prop :=
  v_1_insert_3 Q th a0 a1 a2 0 u
set_option maxRecDepth 20000 in
set_option maxHeartbeats 4000000 in
theorem f_1_insert_s (X : yX RX1 p m c cX1_insert 5 s args D ca ad A) (hRf : 0 ≤ R.frames) (hRl : 0 ≤ R.locals) {Q : Int → iST → Prop} (hret : ∀ (v : Int) (u : iST) (H : Heap) (locs : List Loc) (ls : Array Slot) (pc : Nat), bz v → Q v u → yW D ca A ad s H locs u → decode cX1_insert pc = .ok (.ireturn, 1) → W p l e R s m args below meth c H locs 0 0 Qf (F0 m pc ls [.int (jI v)])) {th a0 a1 a2 : Int} (rth : (0 ≤ th ∧ th < 408)) (ra0 : inR a0) (ra1 : inR a1) (ra2 : inR a2) (hw : yW D ca A ad s H locs u) (hl : lv_has ls 5 [(0, .ref (ad 4 th.toNat)), (1, .int (jI a0)), (2, .int (jI a1)), (3, .int (jI a2))]) (h : v_1_insert th a0 a1 a2 Q u) : W p l e R s m args below meth c H locs 0 0 Qf (F0 m 0 ls []) := by
  have hx := X.1.1
  have hb := X.1.2.1
  unfold v_1_insert at h
  refine lv_iconst hx hb dX1_insert_0 (v := jI 0) rfl ?_
  refine lv_istore hx hb dX1_insert_1 hl (by decide) rfl (fun ls hl => ?_)
  have hl : lv_has ls 5 [(4, .int (jI 0)), (0, .ref (ad 4 th.toNat)), (1, .int (jI a0)), (2, .int (jI a1)), (3, .int (jI a2))] := hl
  exact f_1_insert_3 X hRf hRl hret rth ra0 ra1 ra2 (by decide) hw (lv_sub hl [1, 2, 3, 4, 0] rfl) h

end
theorem e_1_insert {l : Launch} {th : Int} {a0 : Int} {a1 : Int} {a2 : Int} (rth : (0 ≤ th ∧ th < 408)) (ra0 : inR a0) (ra1 : inR a1) (ra2 : inR a2) {Q : Int → iST → Prop} {u : iST} (h : v_1_insert th a0 a1 a2 Q u) : yMI l yX1_insert (.code yX1_insert cX1_insert 5 (some .boolean) :: wsN) { frames := 0, cells := 0, slots := 0, locals := 0 } (fun ad => [.ref (ad 4 th.toNat), .int (jI a0), .int (jI a1), .int (jI a2)]) Q u := yMZ_of (own := RX1) rfl (by decide +kernel) (fun _ => Nat.le_of_ble_eq_true rfl) (fun X hRf hRl hret hw hl => f_1_insert_s X hRf hRl hret rth ra0 ra1 ra2 hw hl h)

/-! ProofHouse$Clause.isTooBig -/
theorem dX1_isTooBig_0 : decode cX1_isTooBig 0 = .ok (.aload_n 0, 1) := by decide +kernel
theorem dX1_isTooBig_1 : decode cX1_isTooBig 1 = .ok (.getfield 19, 3) := by decide +kernel
theorem dX1_isTooBig_4 : decode cX1_isTooBig 4 = .ok (.sipush 400, 3) := by decide +kernel
theorem dX1_isTooBig_7 : decode cX1_isTooBig 7 = .ok (.if_icmp .le 7, 3) := by decide +kernel
theorem dX1_isTooBig_10 : decode cX1_isTooBig 10 = .ok (.iconst 1, 1) := by decide +kernel
theorem dX1_isTooBig_11 : decode cX1_isTooBig 11 = .ok (.goto 4, 3) := by decide +kernel
theorem dX1_isTooBig_14 : decode cX1_isTooBig 14 = .ok (.iconst 0, 1) := by decide +kernel
theorem dX1_isTooBig_15 : decode cX1_isTooBig 15 = .ok (.ireturn, 1) := by decide +kernel

section
variable {p : Program} {l : Launch} {e : Env} {R : Room} {s : State} {m : MethodId} {args : Array Value} {below : List Frame} {meth : Method} {c : Code} {H : Heap} {locs : List Loc} {Qf : State → Prop}
variable {ls : Array Slot} {D : va_G} {ca : Nat → ClassId} {A : Nat → Prop} {ad : Nat → Nat → Nat} {u : iST}
def v_1_isTooBig (th : Int) (Q : Int → iST → Prop) (u : iST) : Prop :=
  rd (u.2.1 47 th) (fun v1 => 
  br (v1 ≤ 400) (
    zt 0 (Q 0 u)) (
    zt 1 (Q 1 u)))
set_option maxRecDepth 20000 in
set_option maxHeartbeats 4000000 in
theorem f_1_isTooBig_s (X : yX RX1 p m c cX1_isTooBig 1 s args D ca ad A) (hRf : 0 ≤ R.frames) (hRl : 0 ≤ R.locals) {Q : Int → iST → Prop} (hret : ∀ (v : Int) (u : iST) (H : Heap) (locs : List Loc) (ls : Array Slot) (pc : Nat), bz v → Q v u → yW D ca A ad s H locs u → decode cX1_isTooBig pc = .ok (.ireturn, 1) → W p l e R s m args below meth c H locs 0 0 Qf (F0 m pc ls [.int (jI v)])) {th : Int} (rth : (0 ≤ th ∧ th < 408)) (hw : yW D ca A ad s H locs u) (hl : lv_has ls 1 [(0, .ref (ad 4 th.toNat))]) (h : v_1_isTooBig th Q u) : W p l e R s m args below meth c H locs 0 0 Qf (F0 m 0 ls []) := by
  have hx := X.1.1
  have hb := X.1.2.1
  unfold v_1_isTooBig at h
  refine lv_aload_n hx hb dX1_isTooBig_0 rfl (lv_at hl 0 rfl) ?_
  refine yg_1_19 X hw dX1_isTooBig_1 rth h (fun v1 rv1 h => ?_)
  refine lv_sipush hx hb dX1_isTooBig_4 (v := jI 400) rfl ?_
  refine k_icmp_le hx hb rv1 (by decide) dX1_isTooBig_7 (tgt := 14) rfl h (fun h => ?_) (fun h => ?_)
  · refine lv_iconst hx hb dX1_isTooBig_14 (v := jI 0) rfl ?_
    exact hret _ _ _ _ _ _ h.1 h.2 hw dX1_isTooBig_15
  · refine lv_iconst hx hb dX1_isTooBig_10 (v := jI 1) rfl ?_
    refine lv_goto hx hb dX1_isTooBig_11 (tgt := 15) rfl ?_
    exact hret _ _ _ _ _ _ h.1 h.2 hw dX1_isTooBig_15

end
theorem e_1_isTooBig {l : Launch} {th : Int} (rth : (0 ≤ th ∧ th < 408)) {Q : Int → iST → Prop} {u : iST} (h : v_1_isTooBig th Q u) : yMI l yX1_isTooBig (.code yX1_isTooBig cX1_isTooBig 1 (some .boolean) :: wsN) { frames := 0, cells := 0, slots := 0, locals := 0 } (fun ad => [.ref (ad 4 th.toNat)]) Q u := yMZ_of (own := RX1) rfl (by decide +kernel) (fun _ => Nat.le_of_ble_eq_true rfl) (fun X hRf hRl hret hw hl => f_1_isTooBig_s X hRf hRl hret rth hw hl h)

/-! ProofHouse$Clause.remove -/
theorem dX1_remove_0 : decode cX1_remove 0 = .ok (.iload_n 1, 1) := by decide +kernel
theorem dX1_remove_1 : decode cX1_remove 1 = .ok (.ifCond .lt 11, 3) := by decide +kernel
theorem dX1_remove_4 : decode cX1_remove 4 = .ok (.iload_n 1, 1) := by decide +kernel
theorem dX1_remove_5 : decode cX1_remove 5 = .ok (.aload_n 0, 1) := by decide +kernel
theorem dX1_remove_6 : decode cX1_remove 6 = .ok (.getfield 15, 3) := by decide +kernel
theorem dX1_remove_9 : decode cX1_remove 9 = .ok (.if_icmp .lt 4, 3) := by decide +kernel
theorem dX1_remove_12 : decode cX1_remove 12 = .ok (.return_, 1) := by decide +kernel
theorem dX1_remove_13 : decode cX1_remove 13 = .ok (.iload_n 1, 1) := by decide +kernel
theorem dX1_remove_14 : decode cX1_remove 14 = .ok (.iconst 1, 1) := by decide +kernel
theorem dX1_remove_15 : decode cX1_remove 15 = .ok (.iadd, 1) := by decide +kernel
theorem dX1_remove_16 : decode cX1_remove 16 = .ok (.istore_n 3, 1) := by decide +kernel
theorem dX1_remove_17 : decode cX1_remove 17 = .ok (.iload_n 3, 1) := by decide +kernel
theorem dX1_remove_18 : decode cX1_remove 18 = .ok (.aload_n 0, 1) := by decide +kernel
theorem dX1_remove_19 : decode cX1_remove 19 = .ok (.getfield 15, 3) := by decide +kernel
theorem dX1_remove_22 : decode cX1_remove 22 = .ok (.if_icmp .ge 23, 3) := by decide +kernel
theorem dX1_remove_25 : decode cX1_remove 25 = .ok (.aload_n 0, 1) := by decide +kernel
theorem dX1_remove_26 : decode cX1_remove 26 = .ok (.getfield 11, 3) := by decide +kernel
theorem dX1_remove_29 : decode cX1_remove 29 = .ok (.iload_n 3, 1) := by decide +kernel
theorem dX1_remove_30 : decode cX1_remove 30 = .ok (.iconst 1, 1) := by decide +kernel
theorem dX1_remove_31 : decode cX1_remove 31 = .ok (.isub, 1) := by decide +kernel
theorem dX1_remove_32 : decode cX1_remove 32 = .ok (.aload_n 0, 1) := by decide +kernel
theorem dX1_remove_33 : decode cX1_remove 33 = .ok (.getfield 11, 3) := by decide +kernel
theorem dX1_remove_36 : decode cX1_remove 36 = .ok (.iload_n 3, 1) := by decide +kernel
theorem dX1_remove_37 : decode cX1_remove 37 = .ok (.iaload, 1) := by decide +kernel
theorem dX1_remove_38 : decode cX1_remove 38 = .ok (.iastore, 1) := by decide +kernel
theorem dX1_remove_39 : decode cX1_remove 39 = .ok (.iinc 3 1, 3) := by decide +kernel
theorem dX1_remove_42 : decode cX1_remove 42 = .ok (.goto (-25), 3) := by decide +kernel
theorem dX1_remove_45 : decode cX1_remove 45 = .ok (.aload_n 0, 1) := by decide +kernel
theorem dX1_remove_46 : decode cX1_remove 46 = .ok (.dup, 1) := by decide +kernel
theorem dX1_remove_47 : decode cX1_remove 47 = .ok (.getfield 15, 3) := by decide +kernel
theorem dX1_remove_50 : decode cX1_remove 50 = .ok (.iconst 1, 1) := by decide +kernel
theorem dX1_remove_51 : decode cX1_remove 51 = .ok (.isub, 1) := by decide +kernel
theorem dX1_remove_52 : decode cX1_remove 52 = .ok (.putfield 15, 3) := by decide +kernel
theorem dX1_remove_55 : decode cX1_remove 55 = .ok (.aload_n 0, 1) := by decide +kernel
theorem dX1_remove_56 : decode cX1_remove 56 = .ok (.dup, 1) := by decide +kernel
theorem dX1_remove_57 : decode cX1_remove 57 = .ok (.getfield 19, 3) := by decide +kernel
theorem dX1_remove_60 : decode cX1_remove 60 = .ok (.iload_n 2, 1) := by decide +kernel
theorem dX1_remove_61 : decode cX1_remove 61 = .ok (.isub, 1) := by decide +kernel
theorem dX1_remove_62 : decode cX1_remove 62 = .ok (.putfield 19, 3) := by decide +kernel
theorem dX1_remove_65 : decode cX1_remove 65 = .ok (.return_, 1) := by decide +kernel

section
variable {p : Program} {l : Launch} {e : Env} {R : Room} {s : State} {m : MethodId} {args : Array Value} {below : List Frame} {meth : Method} {c : Code} {H : Heap} {locs : List Loc} {Qf : State → Prop}
variable {ls : Array Slot} {D : va_G} {ca : Nat → ClassId} {A : Nat → Prop} {ad : Nat → Nat → Nat} {u : iST}
def v_1_remove_17b (R17 : Int → Int → Int → iST → Prop) (Q : iST → Prop) (x0 : Int) (x2 : Int) (x3 : Int) (u : iST) : Prop :=
  rd (u.2.1 46 x0) (fun v3 => 
  br (v3 ≤ x3) (
    rd (u.2.1 46 x0) (fun v4 => 
    ov (v4 - 1) (
    sw (iA u 46 x0 (v4 - 1)) (fun u => 
    rd (u.2.1 47 x0) (fun v6 => 
    rd (wsub v6 x2) (fun v7 => 
    sw (iA u 47 x0 v7) (fun u => 
    Q u))))))) (
    ov (x3 - 1) (
    bd x3 30 (rd (u.2.1 49 (30 * x0 + x3)) (fun v9 => 
    bd (x3 - 1) 30 (sw (iA u 49 (30 * x0 + (x3 - 1)) v9) (fun u => 
    ov (x3 + 1) (
    R17 x0 x2 (x3 + 1) u))))))))
def v_1_remove_17 (Q : iST → Prop) (x0 : Int) (x2 : Int) (x3 : Int) (u : iST) : Prop := ∀ R17 : Int → Int → Int → iST → Prop, (∀ (x0 : Int) (x2 : Int) (x3 : Int) (u : iST), v_1_remove_17b R17 Q x0 x2 x3 u → R17 x0 x2 x3 u) → R17 x0 x2 x3 u
set_option maxRecDepth 20000 in
set_option maxHeartbeats 4000000 in
theorem f_1_remove_17 (X : yX RX1 p m c cX1_remove 4 s args D ca ad A) (hRf : 0 ≤ R.frames) (hRl : 0 ≤ R.locals) {Q : iST → Prop} (hret : ∀ (u : iST) (H : Heap) (locs : List Loc) (ls : Array Slot) (pc : Nat), Q u → yW D ca A ad s H locs u → decode cX1_remove pc = .ok (.return_, 1) → W p l e R s m args below meth c H locs 0 0 Qf (F0 m pc ls [])) {x0 x2 x3 : Int} (rx0 : (0 ≤ x0 ∧ x0 < 408)) (rx2 : inR x2) (rx3 : inR x3) (hw : yW D ca A ad s H locs u) (hl : lv_has ls 4 [(0, .ref (ad 4 x0.toNat)), (2, .int (jI x2)), (3, .int (jI x3))]) (h : v_1_remove_17 Q x0 x2 x3 u) : W p l e R s m args below meth c H locs 0 0 Qf (F0 m 17 ls []) := by
  refine h (fun x0 x2 x3 u => ∀ (H : Heap) (locs : List Loc) (ls : Array Slot), (0 ≤ x0 ∧ x0 < 408) → inR x2 → inR x3 → yW D ca A ad s H locs u → lv_has ls 4 [(0, .ref (ad 4 x0.toNat)), (2, .int (jI x2)), (3, .int (jI x3))] → W p l e R s m args below meth c H locs 0 0 Qf (F0 m 17 ls [])) ?_ H locs ls rx0 rx2 rx3 hw hl
  clear h hl hw rx0 rx2 rx3
  intro x0 x2 x3 u h H locs ls rx0 rx2 rx3 hw hl
  have hR17 : ∀ (x0 : Int) (x2 : Int) (x3 : Int) (u : iST) (H : Heap) (locs : List Loc) (ls : Array Slot), (0 ≤ x0 ∧ x0 < 408) → inR x2 → inR x3 → yW D ca A ad s H locs u → lv_has ls 4 [(0, .ref (ad 4 x0.toNat)), (2, .int (jI x2)), (3, .int (jI x3))] → (fun (x0 : Int) (x2 : Int) (x3 : Int) u => ∀ (H : Heap) (locs : List Loc) (ls : Array Slot), (0 ≤ x0 ∧ x0 < 408) → inR x2 → inR x3 → yW D ca A ad s H locs u → lv_has ls 4 [(0, .ref (ad 4 x0.toNat)), (2, .int (jI x2)), (3, .int (jI x3))] → W p l e R s m args below meth c H locs 0 0 Qf (F0 m 17 ls [])) x0 x2 x3 u → W p l e R s m args below meth c H locs 0 0 Qf (F0 m 17 ls []) := fun x0 x2 x3 u H locs ls rx0 rx2 rx3 hw hl h => h H locs ls rx0 rx2 rx3 hw hl
  have hx := X.1.1
  have hb := X.1.2.1
  unfold v_1_remove_17b at h
  refine lv_iload_n hx hb dX1_remove_17 rfl (lv_at hl 2 rfl) ?_
  refine lv_aload_n hx hb dX1_remove_18 rfl (lv_at hl 0 rfl) ?_
  refine yg_1_15 X hw dX1_remove_19 rx0 h (fun v3 rv3 h => ?_)
  refine k_icmp_ge hx hb rx3 rv3 dX1_remove_22 (tgt := 45) rfl h (fun h => ?_) (fun h => ?_)
  · refine lv_aload_n hx hb dX1_remove_45 rfl (lv_at hl 0 rfl) ?_
    refine lv_dup hx hb dX1_remove_46 rfl ?_
    refine yg_1_15 X hw dX1_remove_47 rx0 h (fun v4 rv4 h => ?_)
    refine lv_iconst hx hb dX1_remove_50 (v := jI 1) rfl ?_
    refine k_isub hx hb dX1_remove_51 h (fun r5 h => ?_)
    refine yp_1_15 X hw r5 dX1_remove_52 rx0 h (fun H locs u hw h => ?_)
    refine lv_aload_n hx hb dX1_remove_55 rfl (lv_at hl 0 rfl) ?_
    refine lv_dup hx hb dX1_remove_56 rfl ?_
    refine yg_1_19 X hw dX1_remove_57 rx0 h (fun v6 rv6 h => ?_)
    refine lv_iload_n hx hb dX1_remove_60 rfl (lv_at hl 1 rfl) ?_
    refine k_wsub hx hb dX1_remove_61 h (fun v7 rv7 h => ?_)
    refine yp_1_19 X hw rv7 dX1_remove_62 rx0 h (fun H locs u hw h => ?_)
    exact hret _ _ _ _ _ h hw dX1_remove_65
  · refine lv_aload_n hx hb dX1_remove_25 rfl (lv_at hl 0 rfl) ?_
    refine yg_1_11 X hw dX1_remove_26 rx0 ?_
    refine lv_iload_n hx hb dX1_remove_29 rfl (lv_at hl 2 rfl) ?_
    refine lv_iconst hx hb dX1_remove_30 (v := jI 1) rfl ?_
    refine k_isub hx hb dX1_remove_31 h (fun r8 h => ?_)
    refine lv_aload_n hx hb dX1_remove_32 rfl (lv_at hl 0 rfl) ?_
    refine yg_1_11 X hw dX1_remove_33 rx0 ?_
    refine lv_iload_n hx hb dX1_remove_36 rfl (lv_at hl 2 rfl) ?_
    refine yfl_lits X hw rx0 rx3 dX1_remove_37 h (fun v9 rv9 h => ?_)
    refine yft_lits X hw rx0 r8 rv9 dX1_remove_38 h (fun H locs u hw h => ?_)
    refine k_iinc (k := 2) hx hb dX1_remove_39 hl rfl (by decide) rfl h (fun ls r10 h hl => ?_)
    have hl : lv_has ls 4 [(3, .int (jI (x3 + 1))), (0, .ref (ad 4 x0.toNat)), (2, .int (jI x2))] := hl
    refine lv_goto hx hb dX1_remove_42 (tgt := 17) rfl ?_
    exact hR17 _ _ _ _ H locs ls rx0 rx2 r10 hw (lv_sub hl [1, 2, 0] rfl) h

def v_1_remove (th : Int) (a0 : Int) (a1 : Int) (Q : iST → Prop) (u : iST) : Prop :=
  br (a0 < 0) (
    Q u) (
    rd (u.2.1 46 th) (fun v1 => 
    br (a0 < v1) (
      ov (a0 + 1) (
      v_1_remove_17 Q th a1 (a0 + 1) u)) (
      Q u)))
set_option maxRecDepth 20000 in
set_option maxHeartbeats 4000000 in
theorem f_1_remove_s (X : yX RX1 p m c cX1_remove 4 s args D ca ad A) (hRf : 0 ≤ R.frames) (hRl : 0 ≤ R.locals) {Q : iST → Prop} (hret : ∀ (u : iST) (H : Heap) (locs : List Loc) (ls : Array Slot) (pc : Nat), Q u → yW D ca A ad s H locs u → decode cX1_remove pc = .ok (.return_, 1) → W p l e R s m args below meth c H locs 0 0 Qf (F0 m pc ls [])) {th a0 a1 : Int} (rth : (0 ≤ th ∧ th < 408)) (ra0 : inR a0) (ra1 : inR a1) (hw : yW D ca A ad s H locs u) (hl : lv_has ls 4 [(0, .ref (ad 4 th.toNat)), (1, .int (jI a0)), (2, .int (jI a1))]) (h : v_1_remove th a0 a1 Q u) : W p l e R s m args below meth c H locs 0 0 Qf (F0 m 0 ls []) := by
  have hx := X.1.1
  have hb := X.1.2.1
  unfold v_1_remove at h
  refine lv_iload_n hx hb dX1_remove_0 rfl (lv_at hl 1 rfl) ?_
  refine k_if_lt hx hb ra0 dX1_remove_1 (tgt := 12) rfl h (fun h => ?_) (fun h => ?_)
  · exact hret _ _ _ _ _ h hw dX1_remove_12
  · refine lv_iload_n hx hb dX1_remove_4 rfl (lv_at hl 1 rfl) ?_
    refine lv_aload_n hx hb dX1_remove_5 rfl (lv_at hl 0 rfl) ?_
    refine yg_1_15 X hw dX1_remove_6 rth h (fun v1 rv1 h => ?_)
    refine k_icmp_lt hx hb ra0 rv1 dX1_remove_9 (tgt := 13) rfl h (fun h => ?_) (fun h => ?_)
    · refine lv_iload_n hx hb dX1_remove_13 rfl (lv_at hl 1 rfl) ?_
      refine lv_iconst hx hb dX1_remove_14 (v := jI 1) rfl ?_
      refine k_iadd hx hb dX1_remove_15 h (fun r2 h => ?_)
      refine lv_istore_n hx hb dX1_remove_16 rfl hl (by decide) rfl (fun ls hl => ?_)
      have hl : lv_has ls 4 [(3, .int (jI (a0 + 1))), (0, .ref (ad 4 th.toNat)), (1, .int (jI a0)), (2, .int (jI a1))] := hl
      exact f_1_remove_17 X hRf hRl hret rth ra1 r2 hw (lv_sub hl [1, 3, 0] rfl) h
    · exact hret _ _ _ _ _ h hw dX1_remove_12

end
theorem e_1_remove {l : Launch} {th : Int} {a0 : Int} {a1 : Int} (rth : (0 ≤ th ∧ th < 408)) (ra0 : inR a0) (ra1 : inR a1) {Q : iST → Prop} {u : iST} (h : v_1_remove th a0 a1 Q u) : yMV l yX1_remove (.code yX1_remove cX1_remove 4 none :: wsN) { frames := 0, cells := 0, slots := 0, locals := 0 } (fun ad => [.ref (ad 4 th.toNat), .int (jI a0), .int (jI a1)]) Q u := yMV_of (own := RX1) rfl (by decide +kernel) (fun _ => Nat.le_of_ble_eq_true rfl) (fun X hRf hRl hret hw hl => f_1_remove_s X hRf hRl hret rth ra0 ra1 hw hl h)
