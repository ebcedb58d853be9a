/-! ProofHouse$Room.blame -/
theorem dX7_blame_0 : decode cX7_blame 0 = .ok (.aload_n 0, 1) := by decide +kernel
theorem dX7_blame_1 : decode cX7_blame 1 = .ok (.getfield 40, 3) := by decide +kernel
theorem dX7_blame_4 : decode cX7_blame 4 = .ok (.ifCond .ne 8, 3) := by decide +kernel
theorem dX7_blame_7 : decode cX7_blame 7 = .ok (.aload_n 0, 1) := by decide +kernel
theorem dX7_blame_8 : decode cX7_blame 8 = .ok (.iload_n 1, 1) := by decide +kernel
theorem dX7_blame_9 : decode cX7_blame 9 = .ok (.putfield 40, 3) := by decide +kernel
theorem dX7_blame_12 : decode cX7_blame 12 = .ok (.return_, 1) := by decide +kernel

section
variable {p : Program} {l : Launch} {e : Env} {R : Room} {s : State} {m : MethodId} {args : Array Value} {below : List Frame} {meth : Method} {c : Code} {H : Heap} {locs : List Loc} {Qf : State → Prop}
variable {ls : Array Slot} {D : va_G} {ca : Nat → ClassId} {A : Nat → Prop} {ad : Nat → Nat → Nat} {u : iST}
def v_7_blame (a0 : Int) (Q : iST → Prop) (u : iST) : Prop :=
  rd (u.1 32) (fun v1 => 
  br (v1 ≠ 0) (
    Q u) (
    sw (iI u 32 a0) (fun u => 
    Q u)))
set_option maxRecDepth 20000 in
set_option maxHeartbeats 4000000 in
theorem f_7_blame_s (X : yX RX7 p m c cX7_blame 2 s args D ca ad A) (hRf : 0 ≤ R.frames) (hRl : 0 ≤ R.locals) {Q : iST → Prop} (hret : ∀ (u : iST) (H : Heap) (locs : List Loc) (ls : Array Slot) (pc : Nat), Q u → yW D ca A ad s H locs u → decode cX7_blame pc = .ok (.return_, 1) → W p l e R s m args below meth c H locs 0 0 Qf (F0 m pc ls [])) {a0 : Int} (ra0 : inR a0) (hw : yW D ca A ad s H locs u) (hl : lv_has ls 2 [(0, .ref (ad 0 6)), (1, .int (jI a0))]) (h : v_7_blame a0 Q u) : W p l e R s m args below meth c H locs 0 0 Qf (F0 m 0 ls []) := by
  have hx := X.1.1
  have hb := X.1.2.1
  unfold v_7_blame at h
  refine lv_aload_n hx hb dX7_blame_0 rfl (lv_at hl 0 rfl) ?_
  refine yg_7_40 X hw dX7_blame_1 h (fun v1 rv1 h => ?_)
  refine k_if_ne hx hb rv1 dX7_blame_4 (tgt := 12) rfl h (fun h => ?_) (fun h => ?_)
  · exact hret _ _ _ _ _ h hw dX7_blame_12
  · refine lv_aload_n hx hb dX7_blame_7 rfl (lv_at hl 0 rfl) ?_
    refine lv_iload_n hx hb dX7_blame_8 rfl (lv_at hl 1 rfl) ?_
    refine yp_7_40 X hw ra0 dX7_blame_9 h (fun H locs u hw h => ?_)
    exact hret _ _ _ _ _ h hw dX7_blame_12

end
theorem e_7_blame {l : Launch} {a0 : Int} (ra0 : inR a0) {Q : iST → Prop} {u : iST} (h : v_7_blame a0 Q u) : yMV l yX7_blame (.code yX7_blame cX7_blame 2 none :: wsN) { frames := 0, cells := 0, slots := 0, locals := 0 } (fun ad => [.ref (ad 0 6), .int (jI a0)]) Q u := yMV_of (own := RX7) rfl (by decide +kernel) (fun _ => Nat.le_of_ble_eq_true rfl) (fun X hRf hRl hret hw hl => f_7_blame_s X hRf hRl hret ra0 hw hl h)

/-! ProofHouse$Room.lengthOf -/
theorem dX7_lengthOf_0 : decode cX7_lengthOf 0 = .ok (.iconst 0, 1) := by decide +kernel
theorem dX7_lengthOf_1 : decode cX7_lengthOf 1 = .ok (.istore_n 2, 1) := by decide +kernel
theorem dX7_lengthOf_2 : decode cX7_lengthOf 2 = .ok (.iload_n 1, 1) := by decide +kernel
theorem dX7_lengthOf_3 : decode cX7_lengthOf 3 = .ok (.istore_n 3, 1) := by decide +kernel
theorem dX7_lengthOf_4 : decode cX7_lengthOf 4 = .ok (.iload_n 3, 1) := by decide +kernel
theorem dX7_lengthOf_5 : decode cX7_lengthOf 5 = .ok (.ifCond .lt 39, 3) := by decide +kernel
theorem dX7_lengthOf_8 : decode cX7_lengthOf 8 = .ok (.iload_n 3, 1) := by decide +kernel
theorem dX7_lengthOf_9 : decode cX7_lengthOf 9 = .ok (.aload_n 0, 1) := by decide +kernel
theorem dX7_lengthOf_10 : decode cX7_lengthOf 10 = .ok (.getfield 30, 3) := by decide +kernel
theorem dX7_lengthOf_13 : decode cX7_lengthOf 13 = .ok (.if_icmp .ge 31, 3) := by decide +kernel
theorem dX7_lengthOf_16 : decode cX7_lengthOf 16 = .ok (.aload_n 0, 1) := by decide +kernel
theorem dX7_lengthOf_17 : decode cX7_lengthOf 17 = .ok (.getfield 12, 3) := by decide +kernel
theorem dX7_lengthOf_20 : decode cX7_lengthOf 20 = .ok (.iload_n 3, 1) := by decide +kernel
theorem dX7_lengthOf_21 : decode cX7_lengthOf 21 = .ok (.laload, 1) := by decide +kernel
theorem dX7_lengthOf_22 : decode cX7_lengthOf 22 = .ok (.lconst 0, 1) := by decide +kernel
theorem dX7_lengthOf_23 : decode cX7_lengthOf 23 = .ok (.lcmp, 1) := by decide +kernel
theorem dX7_lengthOf_24 : decode cX7_lengthOf 24 = .ok (.ifCond .ge 20, 3) := by decide +kernel
theorem dX7_lengthOf_27 : decode cX7_lengthOf 27 = .ok (.aload_n 0, 1) := by decide +kernel
theorem dX7_lengthOf_28 : decode cX7_lengthOf 28 = .ok (.getfield 12, 3) := by decide +kernel
theorem dX7_lengthOf_31 : decode cX7_lengthOf 31 = .ok (.iload_n 3, 1) := by decide +kernel
theorem dX7_lengthOf_32 : decode cX7_lengthOf 32 = .ok (.laload, 1) := by decide +kernel
theorem dX7_lengthOf_33 : decode cX7_lengthOf 33 = .ok (.l2i, 1) := by decide +kernel
theorem dX7_lengthOf_34 : decode cX7_lengthOf 34 = .ok (.ldc 77, 2) := by decide +kernel
theorem dX7_lengthOf_36 : decode cX7_lengthOf 36 = .ok (.iand, 1) := by decide +kernel
theorem dX7_lengthOf_37 : decode cX7_lengthOf 37 = .ok (.istore_n 3, 1) := by decide +kernel
theorem dX7_lengthOf_38 : decode cX7_lengthOf 38 = .ok (.iinc 2 1, 3) := by decide +kernel
theorem dX7_lengthOf_41 : decode cX7_lengthOf 41 = .ok (.goto (-37), 3) := by decide +kernel
theorem dX7_lengthOf_44 : decode cX7_lengthOf 44 = .ok (.iload_n 3, 1) := by decide +kernel
theorem dX7_lengthOf_45 : decode cX7_lengthOf 45 = .ok (.ifCond .ne 7, 3) := by decide +kernel
theorem dX7_lengthOf_48 : decode cX7_lengthOf 48 = .ok (.iload_n 2, 1) := by decide +kernel
theorem dX7_lengthOf_49 : decode cX7_lengthOf 49 = .ok (.goto 4, 3) := by decide +kernel
theorem dX7_lengthOf_52 : decode cX7_lengthOf 52 = .ok (.iconst (-1), 1) := by decide +kernel
theorem dX7_lengthOf_53 : decode cX7_lengthOf 53 = .ok (.ireturn, 1) := by decide +kernel

section
variable {p : Program} {l : Launch} {e : Env} {R : Room} {s : State} {m : MethodId} {args : Array Value} {below : List Frame} {meth : Method} {c : Code} {H : Heap} {locs : List Loc} {Qf : State → Prop}
variable {ls : Array Slot} {D : va_G} {ca : Nat → ClassId} {A : Nat → Prop} {ad : Nat → Nat → Nat} {u : iST}
def v_7_lengthOf_44 (Q : Int → iST → Prop) (x2 : Int) (x3 : Int) (u : iST) : Prop :=
  br (x3 ≠ 0) (
    Q (-1) u) (
    Q x2 u)
set_option maxRecDepth 20000 in
set_option maxHeartbeats 4000000 in
theorem f_7_lengthOf_44 (X : yX RX7 p m c cX7_lengthOf 4 s args D ca ad A) (hRf : 0 ≤ R.frames) (hRl : 0 ≤ R.locals) {Q : Int → iST → Prop} (hret : ∀ (v : Int) (u : iST) (H : Heap) (locs : List Loc) (ls : Array Slot) (pc : Nat), inR v → Q v u → yW D ca A ad s H locs u → decode cX7_lengthOf pc = .ok (.ireturn, 1) → W p l e R s m args below meth c H locs 0 0 Qf (F0 m pc ls [.int (jI v)])) {x2 x3 : Int} (rx2 : inR x2) (rx3 : inR x3) (hw : yW D ca A ad s H locs u) (hl : lv_has ls 4 [(0, .ref (ad 0 6)), (2, .int (jI x2)), (3, .int (jI x3))]) (h : v_7_lengthOf_44 Q x2 x3 u) : W p l e R s m args below meth c H locs 0 0 Qf (F0 m 44 ls []) := by
  have hx := X.1.1
  have hb := X.1.2.1
  unfold v_7_lengthOf_44 at h
  refine lv_iload_n hx hb dX7_lengthOf_44 rfl (lv_at hl 2 rfl) ?_
  refine k_if_ne hx hb rx3 dX7_lengthOf_45 (tgt := 52) rfl h (fun h => ?_) (fun h => ?_)
  · refine lv_iconst hx hb dX7_lengthOf_52 (v := jI (-1)) rfl ?_
    exact hret _ _ _ _ _ _ (by decide) h hw dX7_lengthOf_53
  · refine lv_iload_n hx hb dX7_lengthOf_48 rfl (lv_at hl 1 rfl) ?_
    refine lv_goto hx hb dX7_lengthOf_49 (tgt := 53) rfl ?_
    exact hret _ _ _ _ _ _ rx2 h hw dX7_lengthOf_53

def v_7_lengthOf_4b (R4 : Int → Int → iST → Prop) (Q : Int → iST → Prop) (x2 : Int) (x3 : Int) (u : iST) : Prop :=
  br (x3 < 0) (
    v_7_lengthOf_44 Q x2 x3 u) (
    rd (u.1 29) (fun v1 => 
    br (v1 ≤ x3) (
      v_7_lengthOf_44 Q x2 x3 u) (
      bd x3 160000 (rl (u.2.2 x3) (fun v2 => 
      br (0 ≤ v2) (
        v_7_lengthOf_44 Q x2 x3 u) (
        bd x3 160000 (rl (u.2.2 x3) (fun v3 => 
        rd (wl2i v3) (fun v4 => 
        rd (wand v4 2147483647) (fun v5 => 
        ov (x2 + 1) (
        R4 (x2 + 1) v5 u)))))))))))
def v_7_lengthOf_4 (Q : Int → iST → Prop) (x2 : Int) (x3 : Int) (u : iST) : Prop := ∀ R4 : Int → Int → iST → Prop, (∀ (x2 : Int) (x3 : Int) (u : iST), v_7_lengthOf_4b R4 Q x2 x3 u → R4 x2 x3 u) → R4 x2 x3 u
set_option maxRecDepth 20000 in
set_option maxHeartbeats 4000000 in
theorem f_7_lengthOf_4 (X : yX RX7 p m c cX7_lengthOf 4 s args D ca ad A) (hRf : 0 ≤ R.frames) (hRl : 0 ≤ R.locals) {Q : Int → iST → Prop} (hret : ∀ (v : Int) (u : iST) (H : Heap) (locs : List Loc) (ls : Array Slot) (pc : Nat), inR v → Q v u → yW D ca A ad s H locs u → decode cX7_lengthOf pc = .ok (.ireturn, 1) → W p l e R s m args below meth c H locs 0 0 Qf (F0 m pc ls [.int (jI v)])) {x2 x3 : Int} (rx2 : inR x2) (rx3 : inR x3) (hw : yW D ca A ad s H locs u) (hl : lv_has ls 4 [(0, .ref (ad 0 6)), (2, .int (jI x2)), (3, .int (jI x3))]) (h : v_7_lengthOf_4 Q x2 x3 u) : W p l e R s m args below meth c H locs 0 0 Qf (F0 m 4 ls []) := by
  refine h (fun x2 x3 u => ∀ (H : Heap) (locs : List Loc) (ls : Array Slot), inR x2 → inR x3 → yW D ca A ad s H locs u → lv_has ls 4 [(0, .ref (ad 0 6)), (2, .int (jI x2)), (3, .int (jI x3))] → W p l e R s m args below meth c H locs 0 0 Qf (F0 m 4 ls [])) ?_ H locs ls rx2 rx3 hw hl
  clear h hl hw rx2 rx3
  intro x2 x3 u h H locs ls rx2 rx3 hw hl
  have hR4 : ∀ (x2 : Int) (x3 : Int) (u : iST) (H : Heap) (locs : List Loc) (ls : Array Slot), inR x2 → inR x3 → yW D ca A ad s H locs u → lv_has ls 4 [(0, .ref (ad 0 6)), (2, .int (jI x2)), (3, .int (jI x3))] → (fun (x2 : Int) (x3 : Int) u => ∀ (H : Heap) (locs : List Loc) (ls : Array Slot), inR x2 → inR x3 → yW D ca A ad s H locs u → lv_has ls 4 [(0, .ref (ad 0 6)), (2, .int (jI x2)), (3, .int (jI x3))] → W p l e R s m args below meth c H locs 0 0 Qf (F0 m 4 ls [])) x2 x3 u → W p l e R s m args below meth c H locs 0 0 Qf (F0 m 4 ls []) := fun x2 x3 u H locs ls rx2 rx3 hw hl h => h H locs ls rx2 rx3 hw hl
  have hx := X.1.1
  have hb := X.1.2.1
  unfold v_7_lengthOf_4b at h
  refine lv_iload_n hx hb dX7_lengthOf_4 rfl (lv_at hl 2 rfl) ?_
  refine k_if_lt hx hb rx3 dX7_lengthOf_5 (tgt := 44) rfl h (fun h => ?_) (fun h => ?_)
  · exact f_7_lengthOf_44 X hRf hRl hret rx2 rx3 hw hl h
  · refine lv_iload_n hx hb dX7_lengthOf_8 rfl (lv_at hl 2 rfl) ?_
    refine lv_aload_n hx hb dX7_lengthOf_9 rfl (lv_at hl 0 rfl) ?_
    refine yg_7_30 X hw dX7_lengthOf_10 h (fun v1 rv1 h => ?_)
    refine k_icmp_ge hx hb rx3 rv1 dX7_lengthOf_13 (tgt := 44) rfl h (fun h => ?_) (fun h => ?_)
    · exact f_7_lengthOf_44 X hRf hRl hret rx2 rx3 hw hl h
    · refine lv_aload_n hx hb dX7_lengthOf_16 rfl (lv_at hl 0 rfl) ?_
      refine yg_7_12 X hw dX7_lengthOf_17 ?_
      refine lv_iload_n hx hb dX7_lengthOf_20 rfl (lv_at hl 2 rfl) ?_
      refine yJl X hw rx3 dX7_lengthOf_21 h (fun v2 rv2 h => ?_)
      refine lv_lconst hx hb dX7_lengthOf_22 (v := jL 0) rfl ?_
      refine k_lcmp_ge hx hb rv2 (by decide) dX7_lengthOf_23 dX7_lengthOf_24 (tgt := 44) rfl h (fun h => ?_) (fun h => ?_)
      · exact f_7_lengthOf_44 X hRf hRl hret rx2 rx3 hw hl h
      · refine lv_aload_n hx hb dX7_lengthOf_27 rfl (lv_at hl 0 rfl) ?_
        refine yg_7_12 X hw dX7_lengthOf_28 ?_
        refine lv_iload_n hx hb dX7_lengthOf_31 rfl (lv_at hl 2 rfl) ?_
        refine yJl X hw rx3 dX7_lengthOf_32 h (fun v3 rv3 h => ?_)
        refine k_l2i hx hb dX7_lengthOf_33 h (fun v4 rv4 h => ?_)
        refine yld 77 yK_7_77 X dX7_lengthOf_34 ?_
        refine k_iand hx hb dX7_lengthOf_36 h (fun v5 rv5 h => ?_)
        refine lv_istore_n hx hb dX7_lengthOf_37 rfl hl (by decide) rfl (fun ls hl => ?_)
        have hl : lv_has ls 4 [(3, .int (jI v5)), (0, .ref (ad 0 6)), (2, .int (jI x2))] := hl
        refine k_iinc (k := 2) hx hb dX7_lengthOf_38 hl rfl (by decide) rfl h (fun ls r6 h hl => ?_)
        have hl : lv_has ls 4 [(2, .int (jI (x2 + 1))), (3, .int (jI v5)), (0, .ref (ad 0 6))] := hl
        refine lv_goto hx hb dX7_lengthOf_41 (tgt := 4) rfl ?_
        exact hR4 _ _ _ H locs ls r6 rv5 hw (lv_sub hl [2, 0, 1] rfl) h

def v_7_lengthOf (a0 : Int) (Q : Int → iST → Prop) (u : iST) : Prop :=
  v_7_lengthOf_4 Q 0 a0 u
set_option maxRecDepth 20000 in
set_option maxHeartbeats 4000000 in
theorem f_7_lengthOf_s (X : yX RX7 p m c cX7_lengthOf 4 s args D ca ad A) (hRf : 0 ≤ R.frames) (hRl : 0 ≤ R.locals) {Q : Int → iST → Prop} (hret : ∀ (v : Int) (u : iST) (H : Heap) (locs : List Loc) (ls : Array Slot) (pc : Nat), inR v → Q v u → yW D ca A ad s H locs u → decode cX7_lengthOf pc = .ok (.ireturn, 1) → W p l e R s m args below meth c H locs 0 0 Qf (F0 m pc ls [.int (jI v)])) {a0 : Int} (ra0 : inR a0) (hw : yW D ca A ad s H locs u) (hl : lv_has ls 4 [(0, .ref (ad 0 6)), (1, .int (jI a0))]) (h : v_7_lengthOf a0 Q u) : W p l e R s m args below meth c H locs 0 0 Qf (F0 m 0 ls []) := by
  have hx := X.1.1
  have hb := X.1.2.1
  unfold v_7_lengthOf at h
  refine lv_iconst hx hb dX7_lengthOf_0 (v := jI 0) rfl ?_
  refine lv_istore_n hx hb dX7_lengthOf_1 rfl hl (by decide) rfl (fun ls hl => ?_)
  have hl : lv_has ls 4 [(2, .int (jI 0)), (0, .ref (ad 0 6)), (1, .int (jI a0))] := hl
  refine lv_iload_n hx hb dX7_lengthOf_2 rfl (lv_at hl 2 rfl) ?_
  refine lv_istore_n hx hb dX7_lengthOf_3 rfl hl (by decide) rfl (fun ls hl => ?_)
  have hl : lv_has ls 4 [(3, .int (jI a0)), (2, .int (jI 0)), (0, .ref (ad 0 6)), (1, .int (jI a0))] := hl
  exact f_7_lengthOf_4 X hRf hRl hret (by decide) ra0 hw (lv_sub hl [2, 1, 0] rfl) h

end
theorem e_7_lengthOf {l : Launch} {a0 : Int} (ra0 : inR a0) {Q : Int → iST → Prop} {u : iST} (h : v_7_lengthOf a0 Q u) : yMI l yX7_lengthOf (.code yX7_lengthOf cX7_lengthOf 4 (some .int) :: wsN) { frames := 0, cells := 0, slots := 0, locals := 0 } (fun ad => [.ref (ad 0 6), .int (jI a0)]) Q u := yMI_of (own := RX7) rfl (by decide +kernel) (fun _ => Nat.le_of_ble_eq_true rfl) (fun X hRf hRl hret hw hl => f_7_lengthOf_s X hRf hRl hret ra0 hw hl h)

/-! ProofHouse$Room.item -/
theorem dX7_item_0 : decode cX7_item 0 = .ok (.iload_n 1, 1) := by decide +kernel
theorem dX7_item_1 : decode cX7_item 1 = .ok (.istore_n 3, 1) := by decide +kernel
theorem dX7_item_2 : decode cX7_item 2 = .ok (.iconst 0, 1) := by decide +kernel
theorem dX7_item_3 : decode cX7_item 3 = .ok (.istore 4, 2) := by decide +kernel
theorem dX7_item_5 : decode cX7_item 5 = .ok (.iload 4, 2) := by decide +kernel
theorem dX7_item_7 : decode cX7_item 7 = .ok (.iload_n 2, 1) := by decide +kernel
theorem dX7_item_8 : decode cX7_item 8 = .ok (.if_icmp .ge 47, 3) := by decide +kernel
theorem dX7_item_11 : decode cX7_item 11 = .ok (.iload_n 3, 1) := by decide +kernel
theorem dX7_item_12 : decode cX7_item 12 = .ok (.ifCond .lt 35, 3) := by decide +kernel
theorem dX7_item_15 : decode cX7_item 15 = .ok (.iload_n 3, 1) := by decide +kernel
theorem dX7_item_16 : decode cX7_item 16 = .ok (.aload_n 0, 1) := by decide +kernel
theorem dX7_item_17 : decode cX7_item 17 = .ok (.getfield 30, 3) := by decide +kernel
theorem dX7_item_20 : decode cX7_item 20 = .ok (.if_icmp .ge 27, 3) := by decide +kernel
theorem dX7_item_23 : decode cX7_item 23 = .ok (.aload_n 0, 1) := by decide +kernel
theorem dX7_item_24 : decode cX7_item 24 = .ok (.getfield 12, 3) := by decide +kernel
theorem dX7_item_27 : decode cX7_item 27 = .ok (.iload_n 3, 1) := by decide +kernel
theorem dX7_item_28 : decode cX7_item 28 = .ok (.laload, 1) := by decide +kernel
theorem dX7_item_29 : decode cX7_item 29 = .ok (.lconst 0, 1) := by decide +kernel
theorem dX7_item_30 : decode cX7_item 30 = .ok (.lcmp, 1) := by decide +kernel
theorem dX7_item_31 : decode cX7_item 31 = .ok (.ifCond .ge 16, 3) := by decide +kernel
theorem dX7_item_34 : decode cX7_item 34 = .ok (.aload_n 0, 1) := by decide +kernel
theorem dX7_item_35 : decode cX7_item 35 = .ok (.getfield 12, 3) := by decide +kernel
theorem dX7_item_38 : decode cX7_item 38 = .ok (.iload_n 3, 1) := by decide +kernel
theorem dX7_item_39 : decode cX7_item 39 = .ok (.laload, 1) := by decide +kernel
theorem dX7_item_40 : decode cX7_item 40 = .ok (.l2i, 1) := by decide +kernel
theorem dX7_item_41 : decode cX7_item 41 = .ok (.ldc 77, 2) := by decide +kernel
theorem dX7_item_43 : decode cX7_item 43 = .ok (.iand, 1) := by decide +kernel
theorem dX7_item_44 : decode cX7_item 44 = .ok (.goto 4, 3) := by decide +kernel
theorem dX7_item_47 : decode cX7_item 47 = .ok (.iconst 0, 1) := by decide +kernel
theorem dX7_item_48 : decode cX7_item 48 = .ok (.istore_n 3, 1) := by decide +kernel
theorem dX7_item_49 : decode cX7_item 49 = .ok (.iinc 4 1, 3) := by decide +kernel
theorem dX7_item_52 : decode cX7_item 52 = .ok (.goto (-47), 3) := by decide +kernel
theorem dX7_item_55 : decode cX7_item 55 = .ok (.iload_n 3, 1) := by decide +kernel
theorem dX7_item_56 : decode cX7_item 56 = .ok (.ifCond .lt 38, 3) := by decide +kernel
theorem dX7_item_59 : decode cX7_item 59 = .ok (.iload_n 3, 1) := by decide +kernel
theorem dX7_item_60 : decode cX7_item 60 = .ok (.aload_n 0, 1) := by decide +kernel
theorem dX7_item_61 : decode cX7_item 61 = .ok (.getfield 30, 3) := by decide +kernel
theorem dX7_item_64 : decode cX7_item 64 = .ok (.if_icmp .ge 30, 3) := by decide +kernel
theorem dX7_item_67 : decode cX7_item 67 = .ok (.aload_n 0, 1) := by decide +kernel
theorem dX7_item_68 : decode cX7_item 68 = .ok (.getfield 12, 3) := by decide +kernel
theorem dX7_item_71 : decode cX7_item 71 = .ok (.iload_n 3, 1) := by decide +kernel
theorem dX7_item_72 : decode cX7_item 72 = .ok (.laload, 1) := by decide +kernel
theorem dX7_item_73 : decode cX7_item 73 = .ok (.lconst 0, 1) := by decide +kernel
theorem dX7_item_74 : decode cX7_item 74 = .ok (.lcmp, 1) := by decide +kernel
theorem dX7_item_75 : decode cX7_item 75 = .ok (.ifCond .ge 19, 3) := by decide +kernel
theorem dX7_item_78 : decode cX7_item 78 = .ok (.aload_n 0, 1) := by decide +kernel
theorem dX7_item_79 : decode cX7_item 79 = .ok (.getfield 12, 3) := by decide +kernel
theorem dX7_item_82 : decode cX7_item 82 = .ok (.iload_n 3, 1) := by decide +kernel
theorem dX7_item_83 : decode cX7_item 83 = .ok (.laload, 1) := by decide +kernel
theorem dX7_item_84 : decode cX7_item 84 = .ok (.bipush 31, 2) := by decide +kernel
theorem dX7_item_86 : decode cX7_item 86 = .ok (.lushr, 1) := by decide +kernel
theorem dX7_item_87 : decode cX7_item 87 = .ok (.l2i, 1) := by decide +kernel
theorem dX7_item_88 : decode cX7_item 88 = .ok (.ldc 77, 2) := by decide +kernel
theorem dX7_item_90 : decode cX7_item 90 = .ok (.iand, 1) := by decide +kernel
theorem dX7_item_91 : decode cX7_item 91 = .ok (.goto 4, 3) := by decide +kernel
theorem dX7_item_94 : decode cX7_item 94 = .ok (.iconst 0, 1) := by decide +kernel
theorem dX7_item_95 : decode cX7_item 95 = .ok (.ireturn, 1) := by decide +kernel

section
variable {p : Program} {l : Launch} {e : Env} {R : Room} {s : State} {m : MethodId} {args : Array Value} {below : List Frame} {meth : Method} {c : Code} {H : Heap} {locs : List Loc} {Qf : State → Prop}
variable {ls : Array Slot} {D : va_G} {ca : Nat → ClassId} {A : Nat → Prop} {ad : Nat → Nat → Nat} {u : iST}
def v_7_item_5b (R5 : Int → Int → Int → iST → Prop) (Q : Int → iST → Prop) (x2 : Int) (x3 : Int) (x4 : Int) (u : iST) : Prop :=
  br (x2 ≤ x4) (
    br (x3 < 0) (
      Q 0 u) (
      rd (u.1 29) (fun v1 => 
      br (v1 ≤ x3) (
        Q 0 u) (
        bd x3 160000 (rl (u.2.2 x3) (fun v2 => 
        br (0 ≤ v2) (
          Q 0 u) (
          bd x3 160000 (rl (u.2.2 x3) (fun v3 => 
          rl (wlushr v3 31) (fun v4 => 
          rd (wl2i v4) (fun v5 => 
          rd (wand v5 2147483647) (fun v6 => 
          Q v6 u)))))))))))) (
    br (x3 < 0) (
      ov (x4 + 1) (
      R5 x2 0 (x4 + 1) u)) (
      rd (u.1 29) (fun v8 => 
      br (v8 ≤ x3) (
        ov (x4 + 1) (
        R5 x2 0 (x4 + 1) u)) (
        bd x3 160000 (rl (u.2.2 x3) (fun v10 => 
        br (0 ≤ v10) (
          ov (x4 + 1) (
          R5 x2 0 (x4 + 1) u)) (
          bd x3 160000 (rl (u.2.2 x3) (fun v12 => 
          rd (wl2i v12) (fun v13 => 
          rd (wand v13 2147483647) (fun v14 => 
          ov (x4 + 1) (
          R5 x2 v14 (x4 + 1) u))))))))))))
def v_7_item_5 (Q : Int → iST → Prop) (x2 : Int) (x3 : Int) (x4 : Int) (u : iST) : Prop := ∀ R5 : Int → Int → Int → iST → Prop, (∀ (x2 : Int) (x3 : Int) (x4 : Int) (u : iST), v_7_item_5b R5 Q x2 x3 x4 u → R5 x2 x3 x4 u) → R5 x2 x3 x4 u
set_option maxRecDepth 20000 in
set_option maxHeartbeats 4000000 in
theorem f_7_item_5 (X : yX RX7 p m c cX7_item 5 s args D ca ad A) (hRf : 0 ≤ R.frames) (hRl : 0 ≤ R.locals) {Q : Int → iST → Prop} (hret : ∀ (v : Int) (u : iST) (H : Heap) (locs : List Loc) (ls : Array Slot) (pc : Nat), inR v → Q v u → yW D ca A ad s H locs u → decode cX7_item pc = .ok (.ireturn, 1) → W p l e R s m args below meth c H locs 0 0 Qf (F0 m pc ls [.int (jI v)])) {x2 x3 x4 : Int} (rx2 : inR x2) (rx3 : inR x3) (rx4 : inR x4) (hw : yW D ca A ad s H locs u) (hl : lv_has ls 5 [(0, .ref (ad 0 6)), (2, .int (jI x2)), (3, .int (jI x3)), (4, .int (jI x4))]) (h : v_7_item_5 Q x2 x3 x4 u) : W p l e R s m args below meth c H locs 0 0 Qf (F0 m 5 ls []) := by
  refine h (fun x2 x3 x4 u => ∀ (H : Heap) (locs : List Loc) (ls : Array Slot), inR x2 → inR x3 → inR x4 → yW D ca A ad s H locs u → lv_has ls 5 [(0, .ref (ad 0 6)), (2, .int (jI x2)), (3, .int (jI x3)), (4, .int (jI x4))] → W p l e R s m args below meth c H locs 0 0 Qf (F0 m 5 ls [])) ?_ H locs ls rx2 rx3 rx4 hw hl
  clear h hl hw rx2 rx3 rx4
  intro x2 x3 x4 u h H locs ls rx2 rx3 rx4 hw hl
  have hR5 : ∀ (x2 : Int) (x3 : Int) (x4 : Int) (u : iST) (H : Heap) (locs : List Loc) (ls : Array Slot), inR x2 → inR x3 → inR x4 → yW D ca A ad s H locs u → lv_has ls 5 [(0, .ref (ad 0 6)), (2, .int (jI x2)), (3, .int (jI x3)), (4, .int (jI x4))] → (fun (x2 : Int) (x3 : Int) (x4 : Int) u => ∀ (H : Heap) (locs : List Loc) (ls : Array Slot), inR x2 → inR x3 → inR x4 → yW D ca A ad s H locs u → lv_has ls 5 [(0, .ref (ad 0 6)), (2, .int (jI x2)), (3, .int (jI x3)), (4, .int (jI x4))] → W p l e R s m args below meth c H locs 0 0 Qf (F0 m 5 ls [])) x2 x3 x4 u → W p l e R s m args below meth c H locs 0 0 Qf (F0 m 5 ls []) := fun x2 x3 x4 u H locs ls rx2 rx3 rx4 hw hl h => h H locs ls rx2 rx3 rx4 hw hl
  have hx := X.1.1
  have hb := X.1.2.1
  unfold v_7_item_5b at h
  refine lv_iload hx hb dX7_item_5 (lv_at hl 3 rfl) ?_
  refine lv_iload_n hx hb dX7_item_7 rfl (lv_at hl 1 rfl) ?_
  refine k_icmp_ge hx hb rx4 rx2 dX7_item_8 (tgt := 55) rfl h (fun h => ?_) (fun h => ?_)
  · refine lv_iload_n hx hb dX7_item_55 rfl (lv_at hl 2 rfl) ?_
    refine k_if_lt hx hb rx3 dX7_item_56 (tgt := 94) rfl h (fun h => ?_) (fun h => ?_)
    · refine lv_iconst hx hb dX7_item_94 (v := jI 0) rfl ?_
      exact hret _ _ _ _ _ _ (by decide) h hw dX7_item_95
    · refine lv_iload_n hx hb dX7_item_59 rfl (lv_at hl 2 rfl) ?_
      refine lv_aload_n hx hb dX7_item_60 rfl (lv_at hl 0 rfl) ?_
      refine yg_7_30 X hw dX7_item_61 h (fun v1 rv1 h => ?_)
      refine k_icmp_ge hx hb rx3 rv1 dX7_item_64 (tgt := 94) rfl h (fun h => ?_) (fun h => ?_)
      · refine lv_iconst hx hb dX7_item_94 (v := jI 0) rfl ?_
        exact hret _ _ _ _ _ _ (by decide) h hw dX7_item_95
      · refine lv_aload_n hx hb dX7_item_67 rfl (lv_at hl 0 rfl) ?_
        refine yg_7_12 X hw dX7_item_68 ?_
        refine lv_iload_n hx hb dX7_item_71 rfl (lv_at hl 2 rfl) ?_
        refine yJl X hw rx3 dX7_item_72 h (fun v2 rv2 h => ?_)
        refine lv_lconst hx hb dX7_item_73 (v := jL 0) rfl ?_
        refine k_lcmp_ge hx hb rv2 (by decide) dX7_item_74 dX7_item_75 (tgt := 94) rfl h (fun h => ?_) (fun h => ?_)
        · refine lv_iconst hx hb dX7_item_94 (v := jI 0) rfl ?_
          exact hret _ _ _ _ _ _ (by decide) h hw dX7_item_95
        · refine lv_aload_n hx hb dX7_item_78 rfl (lv_at hl 0 rfl) ?_
          refine yg_7_12 X hw dX7_item_79 ?_
          refine lv_iload_n hx hb dX7_item_82 rfl (lv_at hl 2 rfl) ?_
          refine yJl X hw rx3 dX7_item_83 h (fun v3 rv3 h => ?_)
          refine lv_bipush hx hb dX7_item_84 (v := jI 31) rfl ?_
          refine k_wlushr hx hb dX7_item_86 h (fun v4 rv4 h => ?_)
          refine k_l2i hx hb dX7_item_87 h (fun v5 rv5 h => ?_)
          refine yld 77 yK_7_77 X dX7_item_88 ?_
          refine k_iand hx hb dX7_item_90 h (fun v6 rv6 h => ?_)
          refine lv_goto hx hb dX7_item_91 (tgt := 95) rfl ?_
          exact hret _ _ _ _ _ _ rv6 h hw dX7_item_95
  · refine lv_iload_n hx hb dX7_item_11 rfl (lv_at hl 2 rfl) ?_
    refine k_if_lt hx hb rx3 dX7_item_12 (tgt := 47) rfl h (fun h => ?_) (fun h => ?_)
    · refine lv_iconst hx hb dX7_item_47 (v := jI 0) rfl ?_
      refine lv_istore_n hx hb dX7_item_48 rfl hl (by decide) rfl (fun ls hl => ?_)
      have hl : lv_has ls 5 [(3, .int (jI 0)), (0, .ref (ad 0 6)), (2, .int (jI x2)), (4, .int (jI x4))] := hl
      refine k_iinc (k := 3) hx hb dX7_item_49 hl rfl (by decide) rfl h (fun ls r7 h hl => ?_)
      have hl : lv_has ls 5 [(4, .int (jI (x4 + 1))), (3, .int (jI 0)), (0, .ref (ad 0 6)), (2, .int (jI x2))] := hl
      refine lv_goto hx hb dX7_item_52 (tgt := 5) rfl ?_
      exact hR5 _ _ _ _ H locs ls rx2 (by decide) r7 hw (lv_sub hl [2, 3, 1, 0] rfl) h
    · refine lv_iload_n hx hb dX7_item_15 rfl (lv_at hl 2 rfl) ?_
      refine lv_aload_n hx hb dX7_item_16 rfl (lv_at hl 0 rfl) ?_
      refine yg_7_30 X hw dX7_item_17 h (fun v8 rv8 h => ?_)
      refine k_icmp_ge hx hb rx3 rv8 dX7_item_20 (tgt := 47) rfl h (fun h => ?_) (fun h => ?_)
      · refine lv_iconst hx hb dX7_item_47 (v := jI 0) rfl ?_
        refine lv_istore_n hx hb dX7_item_48 rfl hl (by decide) rfl (fun ls hl => ?_)
        have hl : lv_has ls 5 [(3, .int (jI 0)), (0, .ref (ad 0 6)), (2, .int (jI x2)), (4, .int (jI x4))] := hl
        refine k_iinc (k := 3) hx hb dX7_item_49 hl rfl (by decide) rfl h (fun ls r9 h hl => ?_)
        have hl : lv_has ls 5 [(4, .int (jI (x4 + 1))), (3, .int (jI 0)), (0, .ref (ad 0 6)), (2, .int (jI x2))] := hl
        refine lv_goto hx hb dX7_item_52 (tgt := 5) rfl ?_
        exact hR5 _ _ _ _ H locs ls rx2 (by decide) r9 hw (lv_sub hl [2, 3, 1, 0] rfl) h
      · refine lv_aload_n hx hb dX7_item_23 rfl (lv_at hl 0 rfl) ?_
        refine yg_7_12 X hw dX7_item_24 ?_
        refine lv_iload_n hx hb dX7_item_27 rfl (lv_at hl 2 rfl) ?_
        refine yJl X hw rx3 dX7_item_28 h (fun v10 rv10 h => ?_)
        refine lv_lconst hx hb dX7_item_29 (v := jL 0) rfl ?_
        refine k_lcmp_ge hx hb rv10 (by decide) dX7_item_30 dX7_item_31 (tgt := 47) rfl h (fun h => ?_) (fun h => ?_)
        · refine lv_iconst hx hb dX7_item_47 (v := jI 0) rfl ?_
          refine lv_istore_n hx hb dX7_item_48 rfl hl (by decide) rfl (fun ls hl => ?_)
          have hl : lv_has ls 5 [(3, .int (jI 0)), (0, .ref (ad 0 6)), (2, .int (jI x2)), (4, .int (jI x4))] := hl
          refine k_iinc (k := 3) hx hb dX7_item_49 hl rfl (by decide) rfl h (fun ls r11 h hl => ?_)
          have hl : lv_has ls 5 [(4, .int (jI (x4 + 1))), (3, .int (jI 0)), (0, .ref (ad 0 6)), (2, .int (jI x2))] := hl
          refine lv_goto hx hb dX7_item_52 (tgt := 5) rfl ?_
          exact hR5 _ _ _ _ H locs ls rx2 (by decide) r11 hw (lv_sub hl [2, 3, 1, 0] rfl) h
        · refine lv_aload_n hx hb dX7_item_34 rfl (lv_at hl 0 rfl) ?_
          refine yg_7_12 X hw dX7_item_35 ?_
          refine lv_iload_n hx hb dX7_item_38 rfl (lv_at hl 2 rfl) ?_
          refine yJl X hw rx3 dX7_item_39 h (fun v12 rv12 h => ?_)
          refine k_l2i hx hb dX7_item_40 h (fun v13 rv13 h => ?_)
          refine yld 77 yK_7_77 X dX7_item_41 ?_
          refine k_iand hx hb dX7_item_43 h (fun v14 rv14 h => ?_)
          refine lv_goto hx hb dX7_item_44 (tgt := 48) rfl ?_
          refine lv_istore_n hx hb dX7_item_48 rfl hl (by decide) rfl (fun ls hl => ?_)
          have hl : lv_has ls 5 [(3, .int (jI v14)), (0, .ref (ad 0 6)), (2, .int (jI x2)), (4, .int (jI x4))] := hl
          refine k_iinc (k := 3) hx hb dX7_item_49 hl rfl (by decide) rfl h (fun ls r15 h hl => ?_)
          have hl : lv_has ls 5 [(4, .int (jI (x4 + 1))), (3, .int (jI v14)), (0, .ref (ad 0 6)), (2, .int (jI x2))] := hl
          refine lv_goto hx hb dX7_item_52 (tgt := 5) rfl ?_
          exact hR5 _ _ _ _ H locs ls rx2 rv14 r15 hw (lv_sub hl [2, 3, 1, 0] rfl) h

def v_7_item (a0 : Int) (a1 : Int) (Q : Int → iST → Prop) (u : iST) : Prop :=
  v_7_item_5 Q a1 a0 0 u
set_option maxRecDepth 20000 in
set_option maxHeartbeats 4000000 in
theorem f_7_item_s (X : yX RX7 p m c cX7_item 5 s args D ca ad A) (hRf : 0 ≤ R.frames) (hRl : 0 ≤ R.locals) {Q : Int → iST → Prop} (hret : ∀ (v : Int) (u : iST) (H : Heap) (locs : List Loc) (ls : Array Slot) (pc : Nat), inR v → Q v u → yW D ca A ad s H locs u → decode cX7_item pc = .ok (.ireturn, 1) → W p l e R s m args below meth c H locs 0 0 Qf (F0 m pc ls [.int (jI v)])) {a0 a1 : Int} (ra0 : inR a0) (ra1 : inR a1) (hw : yW D ca A ad s H locs u) (hl : lv_has ls 5 [(0, .ref (ad 0 6)), (1, .int (jI a0)), (2, .int (jI a1))]) (h : v_7_item a0 a1 Q u) : W p l e R s m args below meth c H locs 0 0 Qf (F0 m 0 ls []) := by
  have hx := X.1.1
  have hb := X.1.2.1
  unfold v_7_item at h
  refine lv_iload_n hx hb dX7_item_0 rfl (lv_at hl 1 rfl) ?_
  refine lv_istore_n hx hb dX7_item_1 rfl hl (by decide) rfl (fun ls hl => ?_)
  have hl : lv_has ls 5 [(3, .int (jI a0)), (0, .ref (ad 0 6)), (1, .int (jI a0)), (2, .int (jI a1))] := hl
  refine lv_iconst hx hb dX7_item_2 (v := jI 0) rfl ?_
  refine lv_istore hx hb dX7_item_3 hl (by decide) rfl (fun ls hl => ?_)
  have hl : lv_has ls 5 [(4, .int (jI 0)), (3, .int (jI a0)), (0, .ref (ad 0 6)), (1, .int (jI a0)), (2, .int (jI a1))] := hl
  exact f_7_item_5 X hRf hRl hret ra1 ra0 (by decide) hw (lv_sub hl [2, 4, 1, 0] rfl) h

end
theorem e_7_item {l : Launch} {a0 : Int} {a1 : Int} (ra0 : inR a0) (ra1 : inR a1) {Q : Int → iST → Prop} {u : iST} (h : v_7_item a0 a1 Q u) : yMI l yX7_item (.code yX7_item cX7_item 5 (some .int) :: wsN) { frames := 0, cells := 0, slots := 0, locals := 0 } (fun ad => [.ref (ad 0 6), .int (jI a0), .int (jI a1)]) Q u := yMI_of (own := RX7) rfl (by decide +kernel) (fun _ => Nat.le_of_ble_eq_true rfl) (fun X hRf hRl hret hw hl => f_7_item_s X hRf hRl hret ra0 ra1 hw hl h)

/-! ProofHouse$Room.isQuoted -/
theorem dX7_isQuoted_0 : decode cX7_isQuoted 0 = .ok (.iload_n 1, 1) := by decide +kernel
theorem dX7_isQuoted_1 : decode cX7_isQuoted 1 = .ok (.ifCond .lt 39, 3) := by decide +kernel
theorem dX7_isQuoted_4 : decode cX7_isQuoted 4 = .ok (.iload_n 1, 1) := by decide +kernel
theorem dX7_isQuoted_5 : decode cX7_isQuoted 5 = .ok (.aload_n 0, 1) := by decide +kernel
theorem dX7_isQuoted_6 : decode cX7_isQuoted 6 = .ok (.getfield 30, 3) := by decide +kernel
theorem dX7_isQuoted_9 : decode cX7_isQuoted 9 = .ok (.if_icmp .ge 31, 3) := by decide +kernel
theorem dX7_isQuoted_12 : decode cX7_isQuoted 12 = .ok (.aload_n 0, 1) := by decide +kernel
theorem dX7_isQuoted_13 : decode cX7_isQuoted 13 = .ok (.getfield 12, 3) := by decide +kernel
theorem dX7_isQuoted_16 : decode cX7_isQuoted 16 = .ok (.iload_n 1, 1) := by decide +kernel
theorem dX7_isQuoted_17 : decode cX7_isQuoted 17 = .ok (.laload, 1) := by decide +kernel
theorem dX7_isQuoted_18 : decode cX7_isQuoted 18 = .ok (.lconst 0, 1) := by decide +kernel
theorem dX7_isQuoted_19 : decode cX7_isQuoted 19 = .ok (.lcmp, 1) := by decide +kernel
theorem dX7_isQuoted_20 : decode cX7_isQuoted 20 = .ok (.ifCond .ge 20, 3) := by decide +kernel
theorem dX7_isQuoted_23 : decode cX7_isQuoted 23 = .ok (.aload_n 0, 1) := by decide +kernel
theorem dX7_isQuoted_24 : decode cX7_isQuoted 24 = .ok (.getfield 12, 3) := by decide +kernel
theorem dX7_isQuoted_27 : decode cX7_isQuoted 27 = .ok (.iload_n 1, 1) := by decide +kernel
theorem dX7_isQuoted_28 : decode cX7_isQuoted 28 = .ok (.laload, 1) := by decide +kernel
theorem dX7_isQuoted_29 : decode cX7_isQuoted 29 = .ok (.bipush 31, 2) := by decide +kernel
theorem dX7_isQuoted_31 : decode cX7_isQuoted 31 = .ok (.lushr, 1) := by decide +kernel
theorem dX7_isQuoted_32 : decode cX7_isQuoted 32 = .ok (.l2i, 1) := by decide +kernel
theorem dX7_isQuoted_33 : decode cX7_isQuoted 33 = .ok (.ldc 77, 2) := by decide +kernel
theorem dX7_isQuoted_35 : decode cX7_isQuoted 35 = .ok (.iand, 1) := by decide +kernel
theorem dX7_isQuoted_36 : decode cX7_isQuoted 36 = .ok (.iconst 2, 1) := by decide +kernel
theorem dX7_isQuoted_37 : decode cX7_isQuoted 37 = .ok (.if_icmp .eq 5, 3) := by decide +kernel
theorem dX7_isQuoted_40 : decode cX7_isQuoted 40 = .ok (.iconst 0, 1) := by decide +kernel
theorem dX7_isQuoted_41 : decode cX7_isQuoted 41 = .ok (.ireturn, 1) := by decide +kernel
theorem dX7_isQuoted_42 : decode cX7_isQuoted 42 = .ok (.aload_n 0, 1) := by decide +kernel
theorem dX7_isQuoted_43 : decode cX7_isQuoted 43 = .ok (.getfield 12, 3) := by decide +kernel
theorem dX7_isQuoted_46 : decode cX7_isQuoted 46 = .ok (.aload_n 0, 1) := by decide +kernel
theorem dX7_isQuoted_47 : decode cX7_isQuoted 47 = .ok (.getfield 12, 3) := by decide +kernel
theorem dX7_isQuoted_50 : decode cX7_isQuoted 50 = .ok (.iload_n 1, 1) := by decide +kernel
theorem dX7_isQuoted_51 : decode cX7_isQuoted 51 = .ok (.laload, 1) := by decide +kernel
theorem dX7_isQuoted_52 : decode cX7_isQuoted 52 = .ok (.l2i, 1) := by decide +kernel
theorem dX7_isQuoted_53 : decode cX7_isQuoted 53 = .ok (.ldc 77, 2) := by decide +kernel
theorem dX7_isQuoted_55 : decode cX7_isQuoted 55 = .ok (.iand, 1) := by decide +kernel
theorem dX7_isQuoted_56 : decode cX7_isQuoted 56 = .ok (.laload, 1) := by decide +kernel
theorem dX7_isQuoted_57 : decode cX7_isQuoted 57 = .ok (.lstore_n 2, 1) := by decide +kernel
theorem dX7_isQuoted_58 : decode cX7_isQuoted 58 = .ok (.lload_n 2, 1) := by decide +kernel
theorem dX7_isQuoted_59 : decode cX7_isQuoted 59 = .ok (.lconst 0, 1) := by decide +kernel
theorem dX7_isQuoted_60 : decode cX7_isQuoted 60 = .ok (.lcmp, 1) := by decide +kernel
theorem dX7_isQuoted_61 : decode cX7_isQuoted 61 = .ok (.ifCond .ge 15, 3) := by decide +kernel
theorem dX7_isQuoted_64 : decode cX7_isQuoted 64 = .ok (.lload_n 2, 1) := by decide +kernel
theorem dX7_isQuoted_65 : decode cX7_isQuoted 65 = .ok (.l2i, 1) := by decide +kernel
theorem dX7_isQuoted_66 : decode cX7_isQuoted 66 = .ok (.ldc 77, 2) := by decide +kernel
theorem dX7_isQuoted_68 : decode cX7_isQuoted 68 = .ok (.iand, 1) := by decide +kernel
theorem dX7_isQuoted_69 : decode cX7_isQuoted 69 = .ok (.ifCond .ne 7, 3) := by decide +kernel
theorem dX7_isQuoted_72 : decode cX7_isQuoted 72 = .ok (.iconst 1, 1) := by decide +kernel
theorem dX7_isQuoted_73 : decode cX7_isQuoted 73 = .ok (.goto 4, 3) := by decide +kernel
theorem dX7_isQuoted_76 : decode cX7_isQuoted 76 = .ok (.iconst 0, 1) := by decide +kernel
theorem dX7_isQuoted_77 : decode cX7_isQuoted 77 = .ok (.ireturn, 1) := by decide +kernel

section
variable {p : Program} {l : Launch} {e : Env} {R : Room} {s : State} {m : MethodId} {args : Array Value} {below : List Frame} {meth : Method} {c : Code} {H : Heap} {locs : List Loc} {Qf : State → Prop}
variable {ls : Array Slot} {D : va_G} {ca : Nat → ClassId} {A : Nat → Prop} {ad : Nat → Nat → Nat} {u : iST}
def v_7_isQuoted (a0 : Int) (Q : Int → iST → Prop) (u : iST) : Prop :=
  br (a0 < 0) (
    zt 0 (Q 0 u)) (
    rd (u.1 29) (fun v1 => 
    br (v1 ≤ a0) (
      zt 0 (Q 0 u)) (
      bd a0 160000 (rl (u.2.2 a0) (fun v2 => 
      br (0 ≤ v2) (
        zt 0 (Q 0 u)) (
        bd a0 160000 (rl (u.2.2 a0) (fun v3 => 
        rl (wlushr v3 31) (fun v4 => 
        rd (wl2i v4) (fun v5 => 
        rd (wand v5 2147483647) (fun v6 => 
        br (v6 = 2) (
          bd a0 160000 (rl (u.2.2 a0) (fun v7 => 
          rd (wl2i v7) (fun v8 => 
          rd (wand v8 2147483647) (fun v9 => 
          bd v9 160000 (rl (u.2.2 v9) (fun v10 => 
          br (0 ≤ v10) (
            zt 0 (Q 0 u)) (
            rd (wl2i v10) (fun v11 => 
            rd (wand v11 2147483647) (fun v12 => 
            br (v12 ≠ 0) (
              zt 0 (Q 0 u)) (
              zt 1 (Q 1 u)))))))))))) (
          zt 0 (Q 0 u)))))))))))))
set_option maxRecDepth 20000 in
set_option maxHeartbeats 4000000 in
theorem f_7_isQuoted_s (X : yX RX7 p m c cX7_isQuoted 4 s args D ca ad A) (hRf : 0 ≤ R.frames) (hRl : 0 ≤ R.locals) {Q : Int → iST → Prop} (hret : ∀ (v : Int) (u : iST) (H : Heap) (locs : List Loc) (ls : Array Slot) (pc : Nat), bz v → Q v u → yW D ca A ad s H locs u → decode cX7_isQuoted pc = .ok (.ireturn, 1) → W p l e R s m args below meth c H locs 0 0 Qf (F0 m pc ls [.int (jI v)])) {a0 : Int} (ra0 : inR a0) (hw : yW D ca A ad s H locs u) (hl : lv_has ls 4 [(0, .ref (ad 0 6)), (1, .int (jI a0))]) (h : v_7_isQuoted a0 Q u) : W p l e R s m args below meth c H locs 0 0 Qf (F0 m 0 ls []) := by
  have hx := X.1.1
  have hb := X.1.2.1
  unfold v_7_isQuoted at h
  refine lv_iload_n hx hb dX7_isQuoted_0 rfl (lv_at hl 1 rfl) ?_
  refine k_if_lt hx hb ra0 dX7_isQuoted_1 (tgt := 40) rfl h (fun h => ?_) (fun h => ?_)
  · refine lv_iconst hx hb dX7_isQuoted_40 (v := jI 0) rfl ?_
    exact hret _ _ _ _ _ _ h.1 h.2 hw dX7_isQuoted_41
  · refine lv_iload_n hx hb dX7_isQuoted_4 rfl (lv_at hl 1 rfl) ?_
    refine lv_aload_n hx hb dX7_isQuoted_5 rfl (lv_at hl 0 rfl) ?_
    refine yg_7_30 X hw dX7_isQuoted_6 h (fun v1 rv1 h => ?_)
    refine k_icmp_ge hx hb ra0 rv1 dX7_isQuoted_9 (tgt := 40) rfl h (fun h => ?_) (fun h => ?_)
    · refine lv_iconst hx hb dX7_isQuoted_40 (v := jI 0) rfl ?_
      exact hret _ _ _ _ _ _ h.1 h.2 hw dX7_isQuoted_41
    · refine lv_aload_n hx hb dX7_isQuoted_12 rfl (lv_at hl 0 rfl) ?_
      refine yg_7_12 X hw dX7_isQuoted_13 ?_
      refine lv_iload_n hx hb dX7_isQuoted_16 rfl (lv_at hl 1 rfl) ?_
      refine yJl X hw ra0 dX7_isQuoted_17 h (fun v2 rv2 h => ?_)
      refine lv_lconst hx hb dX7_isQuoted_18 (v := jL 0) rfl ?_
      refine k_lcmp_ge hx hb rv2 (by decide) dX7_isQuoted_19 dX7_isQuoted_20 (tgt := 40) rfl h (fun h => ?_) (fun h => ?_)
      · refine lv_iconst hx hb dX7_isQuoted_40 (v := jI 0) rfl ?_
        exact hret _ _ _ _ _ _ h.1 h.2 hw dX7_isQuoted_41
      · refine lv_aload_n hx hb dX7_isQuoted_23 rfl (lv_at hl 0 rfl) ?_
        refine yg_7_12 X hw dX7_isQuoted_24 ?_
        refine lv_iload_n hx hb dX7_isQuoted_27 rfl (lv_at hl 1 rfl) ?_
        refine yJl X hw ra0 dX7_isQuoted_28 h (fun v3 rv3 h => ?_)
        refine lv_bipush hx hb dX7_isQuoted_29 (v := jI 31) rfl ?_
        refine k_wlushr hx hb dX7_isQuoted_31 h (fun v4 rv4 h => ?_)
        refine k_l2i hx hb dX7_isQuoted_32 h (fun v5 rv5 h => ?_)
        refine yld 77 yK_7_77 X dX7_isQuoted_33 ?_
        refine k_iand hx hb dX7_isQuoted_35 h (fun v6 rv6 h => ?_)
        refine lv_iconst hx hb dX7_isQuoted_36 (v := jI 2) rfl ?_
        refine k_icmp_eq hx hb rv6 (by decide) dX7_isQuoted_37 (tgt := 42) rfl h (fun h => ?_) (fun h => ?_)
        · refine lv_aload_n hx hb dX7_isQuoted_42 rfl (lv_at hl 0 rfl) ?_
          refine yg_7_12 X hw dX7_isQuoted_43 ?_
          refine lv_aload_n hx hb dX7_isQuoted_46 rfl (lv_at hl 0 rfl) ?_
          refine yg_7_12 X hw dX7_isQuoted_47 ?_
          refine lv_iload_n hx hb dX7_isQuoted_50 rfl (lv_at hl 1 rfl) ?_
          refine yJl X hw ra0 dX7_isQuoted_51 h (fun v7 rv7 h => ?_)
          refine k_l2i hx hb dX7_isQuoted_52 h (fun v8 rv8 h => ?_)
          refine yld 77 yK_7_77 X dX7_isQuoted_53 ?_
          refine k_iand hx hb dX7_isQuoted_55 h (fun v9 rv9 h => ?_)
          refine yJl X hw rv9 dX7_isQuoted_56 h (fun v10 rv10 h => ?_)
          refine lv_lstore_n hx hb dX7_isQuoted_57 rfl hl (by decide) rfl (fun ls hl => ?_)
          have hl : lv_has ls 4 [(2, .long (jL v10)), (0, .ref (ad 0 6)), (1, .int (jI a0))] := hl
          refine lv_lload_n hx hb dX7_isQuoted_58 rfl (lv_at hl 0 rfl) ?_
          refine lv_lconst hx hb dX7_isQuoted_59 (v := jL 0) rfl ?_
          refine k_lcmp_ge hx hb rv10 (by decide) dX7_isQuoted_60 dX7_isQuoted_61 (tgt := 76) rfl h (fun h => ?_) (fun h => ?_)
          · refine lv_iconst hx hb dX7_isQuoted_76 (v := jI 0) rfl ?_
            exact hret _ _ _ _ _ _ h.1 h.2 hw dX7_isQuoted_77
          · refine lv_lload_n hx hb dX7_isQuoted_64 rfl (lv_at hl 0 rfl) ?_
            refine k_l2i hx hb dX7_isQuoted_65 h (fun v11 rv11 h => ?_)
            refine yld 77 yK_7_77 X dX7_isQuoted_66 ?_
            refine k_iand hx hb dX7_isQuoted_68 h (fun v12 rv12 h => ?_)
            refine k_if_ne hx hb rv12 dX7_isQuoted_69 (tgt := 76) rfl h (fun h => ?_) (fun h => ?_)
            · refine lv_iconst hx hb dX7_isQuoted_76 (v := jI 0) rfl ?_
              exact hret _ _ _ _ _ _ h.1 h.2 hw dX7_isQuoted_77
            · refine lv_iconst hx hb dX7_isQuoted_72 (v := jI 1) rfl ?_
              refine lv_goto hx hb dX7_isQuoted_73 (tgt := 77) rfl ?_
              exact hret _ _ _ _ _ _ h.1 h.2 hw dX7_isQuoted_77
        · refine lv_iconst hx hb dX7_isQuoted_40 (v := jI 0) rfl ?_
          exact hret _ _ _ _ _ _ h.1 h.2 hw dX7_isQuoted_41

end
theorem e_7_isQuoted {l : Launch} {a0 : Int} (ra0 : inR a0) {Q : Int → iST → Prop} {u : iST} (h : v_7_isQuoted a0 Q u) : yMI l yX7_isQuoted (.code yX7_isQuoted cX7_isQuoted 4 (some .boolean) :: wsN) { frames := 0, cells := 0, slots := 0, locals := 0 } (fun ad => [.ref (ad 0 6), .int (jI a0)]) Q u := yMZ_of (own := RX7) rfl (by decide +kernel) (fun _ => Nat.le_of_ble_eq_true rfl) (fun X hRf hRl hret hw hl => f_7_isQuoted_s X hRf hRl hret ra0 hw hl h)

/-! ProofHouse$Terms.readMeaning -/
theorem dX10_readMeaning_0 : decode cX10_readMeaning 0 = .ok (.aload_n 0, 1) := by decide +kernel
theorem dX10_readMeaning_1 : decode cX10_readMeaning 1 = .ok (.getfield 55, 3) := by decide +kernel
theorem dX10_readMeaning_4 : decode cX10_readMeaning 4 = .ok (.iload_n 1, 1) := by decide +kernel
theorem dX10_readMeaning_5 : decode cX10_readMeaning 5 = .ok (.invokevirtual 80, 3) := by decide +kernel
theorem dX10_readMeaning_8 : decode cX10_readMeaning 8 = .ok (.ifCond .ne 5, 3) := by decide +kernel
theorem dX10_readMeaning_11 : decode cX10_readMeaning 11 = .ok (.iload_n 1, 1) := by decide +kernel
theorem dX10_readMeaning_12 : decode cX10_readMeaning 12 = .ok (.ireturn, 1) := by decide +kernel
theorem dX10_readMeaning_13 : decode cX10_readMeaning 13 = .ok (.aload_n 0, 1) := by decide +kernel
theorem dX10_readMeaning_14 : decode cX10_readMeaning 14 = .ok (.getfield 55, 3) := by decide +kernel
theorem dX10_readMeaning_17 : decode cX10_readMeaning 17 = .ok (.iload_n 1, 1) := by decide +kernel
theorem dX10_readMeaning_18 : decode cX10_readMeaning 18 = .ok (.invokevirtual 72, 3) := by decide +kernel
theorem dX10_readMeaning_21 : decode cX10_readMeaning 21 = .ok (.istore_n 2, 1) := by decide +kernel
theorem dX10_readMeaning_22 : decode cX10_readMeaning 22 = .ok (.iload_n 2, 1) := by decide +kernel
theorem dX10_readMeaning_23 : decode cX10_readMeaning 23 = .ok (.iconst 2, 1) := by decide +kernel
theorem dX10_readMeaning_24 : decode cX10_readMeaning 24 = .ok (.if_icmp .ne 61, 3) := by decide +kernel
theorem dX10_readMeaning_27 : decode cX10_readMeaning 27 = .ok (.aload_n 0, 1) := by decide +kernel
theorem dX10_readMeaning_28 : decode cX10_readMeaning 28 = .ok (.getfield 55, 3) := by decide +kernel
theorem dX10_readMeaning_31 : decode cX10_readMeaning 31 = .ok (.iload_n 1, 1) := by decide +kernel
theorem dX10_readMeaning_32 : decode cX10_readMeaning 32 = .ok (.invokevirtual 112, 3) := by decide +kernel
theorem dX10_readMeaning_35 : decode cX10_readMeaning 35 = .ok (.istore_n 3, 1) := by decide +kernel
theorem dX10_readMeaning_36 : decode cX10_readMeaning 36 = .ok (.iload_n 3, 1) := by decide +kernel
theorem dX10_readMeaning_37 : decode cX10_readMeaning 37 = .ok (.iconst 1, 1) := by decide +kernel
theorem dX10_readMeaning_38 : decode cX10_readMeaning 38 = .ok (.if_icmp .le 14, 3) := by decide +kernel
theorem dX10_readMeaning_41 : decode cX10_readMeaning 41 = .ok (.aload_n 0, 1) := by decide +kernel
theorem dX10_readMeaning_42 : decode cX10_readMeaning 42 = .ok (.getfield 55, 3) := by decide +kernel
theorem dX10_readMeaning_45 : decode cX10_readMeaning 45 = .ok (.iload_n 3, 1) := by decide +kernel
theorem dX10_readMeaning_46 : decode cX10_readMeaning 46 = .ok (.invokevirtual 115, 3) := by decide +kernel
theorem dX10_readMeaning_49 : decode cX10_readMeaning 49 = .ok (.ifCond .eq 7, 3) := by decide +kernel
theorem dX10_readMeaning_52 : decode cX10_readMeaning 52 = .ok (.iconst 1, 1) := by decide +kernel
theorem dX10_readMeaning_53 : decode cX10_readMeaning 53 = .ok (.goto 4, 3) := by decide +kernel
theorem dX10_readMeaning_56 : decode cX10_readMeaning 56 = .ok (.iconst 0, 1) := by decide +kernel
theorem dX10_readMeaning_57 : decode cX10_readMeaning 57 = .ok (.istore 4, 2) := by decide +kernel
theorem dX10_readMeaning_59 : decode cX10_readMeaning 59 = .ok (.aload_n 0, 1) := by decide +kernel
theorem dX10_readMeaning_60 : decode cX10_readMeaning 60 = .ok (.getfield 55, 3) := by decide +kernel
theorem dX10_readMeaning_63 : decode cX10_readMeaning 63 = .ok (.iload_n 1, 1) := by decide +kernel
theorem dX10_readMeaning_64 : decode cX10_readMeaning 64 = .ok (.invokevirtual 118, 3) := by decide +kernel
theorem dX10_readMeaning_67 : decode cX10_readMeaning 67 = .ok (.ifCond .ne 7, 3) := by decide +kernel
theorem dX10_readMeaning_70 : decode cX10_readMeaning 70 = .ok (.iconst (-1), 1) := by decide +kernel
theorem dX10_readMeaning_71 : decode cX10_readMeaning 71 = .ok (.goto 13, 3) := by decide +kernel
theorem dX10_readMeaning_74 : decode cX10_readMeaning 74 = .ok (.iload 4, 2) := by decide +kernel
theorem dX10_readMeaning_76 : decode cX10_readMeaning 76 = .ok (.ifCond .eq 7, 3) := by decide +kernel
theorem dX10_readMeaning_79 : decode cX10_readMeaning 79 = .ok (.iload_n 3, 1) := by decide +kernel
theorem dX10_readMeaning_80 : decode cX10_readMeaning 80 = .ok (.goto 4, 3) := by decide +kernel
theorem dX10_readMeaning_83 : decode cX10_readMeaning 83 = .ok (.iload_n 1, 1) := by decide +kernel
theorem dX10_readMeaning_84 : decode cX10_readMeaning 84 = .ok (.ireturn, 1) := by decide +kernel
theorem dX10_readMeaning_85 : decode cX10_readMeaning 85 = .ok (.iload_n 2, 1) := by decide +kernel
theorem dX10_readMeaning_86 : decode cX10_readMeaning 86 = .ok (.aload_n 0, 1) := by decide +kernel
theorem dX10_readMeaning_87 : decode cX10_readMeaning 87 = .ok (.getfield 9, 3) := by decide +kernel
theorem dX10_readMeaning_90 : decode cX10_readMeaning 90 = .ok (.if_icmp .ne 10, 3) := by decide +kernel
theorem dX10_readMeaning_93 : decode cX10_readMeaning 93 = .ok (.aload_n 0, 1) := by decide +kernel
theorem dX10_readMeaning_94 : decode cX10_readMeaning 94 = .ok (.getfield 15, 3) := by decide +kernel
theorem dX10_readMeaning_97 : decode cX10_readMeaning 97 = .ok (.goto 11, 3) := by decide +kernel
theorem dX10_readMeaning_100 : decode cX10_readMeaning 100 = .ok (.aload_n 0, 1) := by decide +kernel
theorem dX10_readMeaning_101 : decode cX10_readMeaning 101 = .ok (.getfield 59, 3) := by decide +kernel
theorem dX10_readMeaning_104 : decode cX10_readMeaning 104 = .ok (.iload_n 2, 1) := by decide +kernel
theorem dX10_readMeaning_105 : decode cX10_readMeaning 105 = .ok (.invokevirtual 121, 3) := by decide +kernel
theorem dX10_readMeaning_108 : decode cX10_readMeaning 108 = .ok (.istore_n 3, 1) := by decide +kernel
theorem dX10_readMeaning_109 : decode cX10_readMeaning 109 = .ok (.iload_n 3, 1) := by decide +kernel
theorem dX10_readMeaning_110 : decode cX10_readMeaning 110 = .ok (.iconst (-1), 1) := by decide +kernel
theorem dX10_readMeaning_111 : decode cX10_readMeaning 111 = .ok (.if_icmp .eq 27, 3) := by decide +kernel
theorem dX10_readMeaning_114 : decode cX10_readMeaning 114 = .ok (.aload_n 0, 1) := by decide +kernel
theorem dX10_readMeaning_115 : decode cX10_readMeaning 115 = .ok (.getfield 55, 3) := by decide +kernel
theorem dX10_readMeaning_118 : decode cX10_readMeaning 118 = .ok (.aload_n 0, 1) := by decide +kernel
theorem dX10_readMeaning_119 : decode cX10_readMeaning 119 = .ok (.getfield 55, 3) := by decide +kernel
theorem dX10_readMeaning_122 : decode cX10_readMeaning 122 = .ok (.iload_n 1, 1) := by decide +kernel
theorem dX10_readMeaning_123 : decode cX10_readMeaning 123 = .ok (.invokevirtual 77, 3) := by decide +kernel
theorem dX10_readMeaning_126 : decode cX10_readMeaning 126 = .ok (.invokevirtual 126, 3) := by decide +kernel
theorem dX10_readMeaning_129 : decode cX10_readMeaning 129 = .ok (.iload_n 3, 1) := by decide +kernel
theorem dX10_readMeaning_130 : decode cX10_readMeaning 130 = .ok (.if_icmp .ne 8, 3) := by decide +kernel
theorem dX10_readMeaning_133 : decode cX10_readMeaning 133 = .ok (.bipush (-2), 2) := by decide +kernel
theorem dX10_readMeaning_135 : decode cX10_readMeaning 135 = .ok (.goto 4, 3) := by decide +kernel
theorem dX10_readMeaning_138 : decode cX10_readMeaning 138 = .ok (.iconst (-1), 1) := by decide +kernel
theorem dX10_readMeaning_139 : decode cX10_readMeaning 139 = .ok (.ireturn, 1) := by decide +kernel

section
variable {p : Program} {l : Launch} {e : Env} {R : Room} {s : State} {m : MethodId} {args : Array Value} {below : List Frame} {meth : Method} {c : Code} {H : Heap} {locs : List Loc} {Qf : State → Prop}
variable {ls : Array Slot} {D : va_G} {ca : Nat → ClassId} {A : Nat → Prop} {ad : Nat → Nat → Nat} {u : iST}
def v_10_readMeaning_108 (Q : Int → iST → Prop) (x1 : Int) (y0 : Int) (u : iST) : Prop :=
  br (y0 = (-1)) (
    Q (-1) u) (
    v_7_right x1 (fun v5 u => 
    v_7_lengthOf v5 (fun v6 u => 
    br (v6 ≠ y0) (
      Q (-1) u) (
      Q (-2) u)) u) u)
set_option maxRecDepth 20000 in
set_option maxHeartbeats 4000000 in
theorem f_10_readMeaning_108 (X : yX RX10 p m c cX10_readMeaning 5 s args D ca ad A) (hRf : 1 ≤ R.frames) (hRl : 23 ≤ R.locals) {Q : Int → iST → Prop} (hret : ∀ (v : Int) (u : iST) (H : Heap) (locs : List Loc) (ls : Array Slot) (pc : Nat), inR v → Q v u → yW D ca A ad s H locs u → decode cX10_readMeaning pc = .ok (.ireturn, 1) → W p l e R s m args below meth c H locs 0 0 Qf (F0 m pc ls [.int (jI v)])) {x1 y0 : Int} (rx1 : inR x1) (ry0 : inR y0) (hw : yW D ca A ad s H locs u) (hl : lv_has ls 5 [(0, .ref (ad 0 8)), (1, .int (jI x1))]) (h : v_10_readMeaning_108 Q x1 y0 u) : W p l e R s m args below meth c H locs 0 0 Qf (F0 m 108 ls [.int (jI y0)]) := by
  have hx := X.1.1
  have hb := X.1.2.1
  unfold v_10_readMeaning_108 at h
  refine lv_istore_n hx hb dX10_readMeaning_108 rfl hl (by decide) rfl (fun ls hl => ?_)
  have hl : lv_has ls 5 [(3, .int (jI y0)), (0, .ref (ad 0 8)), (1, .int (jI x1))] := hl
  refine lv_iload_n hx hb dX10_readMeaning_109 rfl (lv_at hl 0 rfl) ?_
  refine lv_iconst hx hb dX10_readMeaning_110 (v := jI (-1)) rfl ?_
  refine k_icmp_eq hx hb ry0 (by decide) dX10_readMeaning_111 (tgt := 138) rfl h (fun h => ?_) (fun h => ?_)
  · refine lv_iconst hx hb dX10_readMeaning_138 (v := jI (-1)) rfl ?_
    exact hret _ _ _ _ _ _ (by decide) h hw dX10_readMeaning_139
  · refine lv_aload_n hx hb dX10_readMeaning_114 rfl (lv_at hl 1 rfl) ?_
    refine yg_10_55 X hw dX10_readMeaning_115 ?_
    refine lv_aload_n hx hb dX10_readMeaning_118 rfl (lv_at hl 1 rfl) ?_
    refine yg_10_55 X hw dX10_readMeaning_119 ?_
    refine lv_iload_n hx hb dX10_readMeaning_122 rfl (lv_at hl 2 rfl) ?_
    refine ycI (n := 1) (e_7_right rx1 h) 7 6 (r := (RX7, TX7, 9)) rfl yG_10_77 yD_7_right X hw rfl yGo_7 (Nat.le_trans (Nat.le_of_ble_eq_true rfl) hRf) (Nat.le_trans (Nat.le_of_ble_eq_true rfl) hRl) rfl hl.1 (Nat.le_of_ble_eq_true rfl) rfl dX10_readMeaning_123 (fun v5 u H locs rv5 h hw => ?_)
    refine ycI (n := 1) (e_7_lengthOf rv5 h) 7 6 (r := (RX7, TX7, 9)) rfl yG_10_126 yD_7_lengthOf X hw rfl yGo_7 (Nat.le_trans (Nat.le_of_ble_eq_true rfl) hRf) (Nat.le_trans (Nat.le_of_ble_eq_true rfl) hRl) rfl hl.1 (Nat.le_of_ble_eq_true rfl) rfl dX10_readMeaning_126 (fun v6 u H locs rv6 h hw => ?_)
    refine lv_iload_n hx hb dX10_readMeaning_129 rfl (lv_at hl 0 rfl) ?_
    refine k_icmp_ne hx hb rv6 ry0 dX10_readMeaning_130 (tgt := 138) rfl h (fun h => ?_) (fun h => ?_)
    · refine lv_iconst hx hb dX10_readMeaning_138 (v := jI (-1)) rfl ?_
      exact hret _ _ _ _ _ _ (by decide) h hw dX10_readMeaning_139
    · refine lv_bipush hx hb dX10_readMeaning_133 (v := jI (-2)) rfl ?_
      refine lv_goto hx hb dX10_readMeaning_135 (tgt := 139) rfl ?_
      exact hret _ _ _ _ _ _ (by decide) h hw dX10_readMeaning_139

def v_10_readMeaning_57 (Q : Int → iST → Prop) (x1 : Int) (x3 : Int) (y0 : Int) (u : iST) : Prop :=
  v_7_isQuoted x1 (fun v9 u => 
  br (v9 ≠ 0) (
    br (y0 = 0) (
      Q x1 u) (
      Q x3 u)) (
    Q (-1) u)) u
set_option maxRecDepth 20000 in
set_option maxHeartbeats 4000000 in
theorem f_10_readMeaning_57 (X : yX RX10 p m c cX10_readMeaning 5 s args D ca ad A) (hRf : 1 ≤ R.frames) (hRl : 23 ≤ R.locals) {Q : Int → iST → Prop} (hret : ∀ (v : Int) (u : iST) (H : Heap) (locs : List Loc) (ls : Array Slot) (pc : Nat), inR v → Q v u → yW D ca A ad s H locs u → decode cX10_readMeaning pc = .ok (.ireturn, 1) → W p l e R s m args below meth c H locs 0 0 Qf (F0 m pc ls [.int (jI v)])) {x1 x3 y0 : Int} (rx1 : inR x1) (rx3 : inR x3) (ry0 : inR y0) (hw : yW D ca A ad s H locs u) (hl : lv_has ls 5 [(0, .ref (ad 0 8)), (1, .int (jI x1)), (3, .int (jI x3))]) (h : v_10_readMeaning_57 Q x1 x3 y0 u) : W p l e R s m args below meth c H locs 0 0 Qf (F0 m 57 ls [.int (jI y0)]) := by
  have hx := X.1.1
  have hb := X.1.2.1
  unfold v_10_readMeaning_57 at h
  refine lv_istore hx hb dX10_readMeaning_57 hl (by decide) rfl (fun ls hl => ?_)
  have hl : lv_has ls 5 [(4, .int (jI y0)), (0, .ref (ad 0 8)), (1, .int (jI x1)), (3, .int (jI x3))] := hl
  refine lv_aload_n hx hb dX10_readMeaning_59 rfl (lv_at hl 1 rfl) ?_
  refine yg_10_55 X hw dX10_readMeaning_60 ?_
  refine lv_iload_n hx hb dX10_readMeaning_63 rfl (lv_at hl 2 rfl) ?_
  refine ycI (n := 1) (e_7_isQuoted rx1 h) 7 6 (r := (RX7, TX7, 9)) rfl yG_10_118 yD_7_isQuoted X hw rfl yGo_7 (Nat.le_trans (Nat.le_of_ble_eq_true rfl) hRf) (Nat.le_trans (Nat.le_of_ble_eq_true rfl) hRl) rfl hl.1 (Nat.le_of_ble_eq_true rfl) rfl dX10_readMeaning_64 (fun v9 u H locs rv9 h hw => ?_)
  refine k_if_ne hx hb rv9 dX10_readMeaning_67 (tgt := 74) rfl h (fun h => ?_) (fun h => ?_)
  · refine lv_iload hx hb dX10_readMeaning_74 (lv_at hl 0 rfl) ?_
    refine k_if_eq hx hb ry0 dX10_readMeaning_76 (tgt := 83) rfl h (fun h => ?_) (fun h => ?_)
    · refine lv_iload_n hx hb dX10_readMeaning_83 rfl (lv_at hl 2 rfl) ?_
      exact hret _ _ _ _ _ _ rx1 h hw dX10_readMeaning_84
    · refine lv_iload_n hx hb dX10_readMeaning_79 rfl (lv_at hl 3 rfl) ?_
      refine lv_goto hx hb dX10_readMeaning_80 (tgt := 84) rfl ?_
      exact hret _ _ _ _ _ _ rx3 h hw dX10_readMeaning_84
  · refine lv_iconst hx hb dX10_readMeaning_70 (v := jI (-1)) rfl ?_
    refine lv_goto hx hb dX10_readMeaning_71 (tgt := 84) rfl ?_
    exact hret _ _ _ _ _ _ (by decide) h hw dX10_readMeaning_84

def v_10_readMeaning_52 (Q : Int → iST → Prop) (x1 : Int) (x3 : Int) (u : iST) : Prop :=
  v_10_readMeaning_57 Q x1 x3 1 u
set_option maxRecDepth 20000 in
set_option maxHeartbeats 4000000 in
theorem f_10_readMeaning_52 (X : yX RX10 p m c cX10_readMeaning 5 s args D ca ad A) (hRf : 1 ≤ R.frames) (hRl : 23 ≤ R.locals) {Q : Int → iST → Prop} (hret : ∀ (v : Int) (u : iST) (H : Heap) (locs : List Loc) (ls : Array Slot) (pc : Nat), inR v → Q v u → yW D ca A ad s H locs u → decode cX10_readMeaning pc = .ok (.ireturn, 1) → W p l e R s m args below meth c H locs 0 0 Qf (F0 m pc ls [.int (jI v)])) {x1 x3 : Int} (rx1 : inR x1) (rx3 : inR x3) (hw : yW D ca A ad s H locs u) (hl : lv_has ls 5 [(0, .ref (ad 0 8)), (1, .int (jI x1)), (3, .int (jI x3))]) (h : v_10_readMeaning_52 Q x1 x3 u) : W p l e R s m args below meth c H locs 0 0 Qf (F0 m 52 ls []) := by
  have hx := X.1.1
  have hb := X.1.2.1
  unfold v_10_readMeaning_52 at h
  refine lv_iconst hx hb dX10_readMeaning_52 (v := jI 1) rfl ?_
  refine lv_goto hx hb dX10_readMeaning_53 (tgt := 57) rfl ?_
  exact f_10_readMeaning_57 X hRf hRl hret rx1 rx3 (by decide) hw hl h

def v_10_readMeaning (a0 : Int) (Q : Int → iST → Prop) (u : iST) : Prop :=
  v_7_isPair a0 (fun v1 u => 
  br (v1 ≠ 0) (
    v_7_left a0 (fun v2 u => 
    br (v2 ≠ 2) (
      rd (u.1 37) (fun v3 => 
      br (v2 ≠ v3) (
        v_0_arityOf v2 (fun v4 u => 
        v_10_readMeaning_108 Q a0 v4 u) u) (
        rd (u.1 38) (fun v7 => 
        v_10_readMeaning_108 Q a0 v7 u)))) (
      v_7_valueOf a0 (fun v8 u => 
      br (v8 ≤ 1) (
        v_10_readMeaning_52 Q a0 v8 u) (
        v_7_isNatural v8 (fun v10 u => 
        br (v10 = 0) (
          v_10_readMeaning_57 Q a0 v8 0 u) (
          v_10_readMeaning_52 Q a0 v8 u)) u)) u)) u) (
    Q a0 u)) u
set_option maxRecDepth 20000 in
set_option maxHeartbeats 4000000 in
theorem f_10_readMeaning_s (X : yX RX10 p m c cX10_readMeaning 5 s args D ca ad A) (hRf : 1 ≤ R.frames) (hRl : 23 ≤ R.locals) {Q : Int → iST → Prop} (hret : ∀ (v : Int) (u : iST) (H : Heap) (locs : List Loc) (ls : Array Slot) (pc : Nat), inR v → Q v u → yW D ca A ad s H locs u → decode cX10_readMeaning pc = .ok (.ireturn, 1) → W p l e R s m args below meth c H locs 0 0 Qf (F0 m pc ls [.int (jI v)])) {a0 : Int} (ra0 : inR a0) (hw : yW D ca A ad s H locs u) (hl : lv_has ls 5 [(0, .ref (ad 0 8)), (1, .int (jI a0))]) (h : v_10_readMeaning a0 Q u) : W p l e R s m args below meth c H locs 0 0 Qf (F0 m 0 ls []) := by
  have hx := X.1.1
  have hb := X.1.2.1
  unfold v_10_readMeaning at h
  refine lv_aload_n hx hb dX10_readMeaning_0 rfl (lv_at hl 0 rfl) ?_
  refine yg_10_55 X hw dX10_readMeaning_1 ?_
  refine lv_iload_n hx hb dX10_readMeaning_4 rfl (lv_at hl 1 rfl) ?_
  refine ycI (n := 1) (e_7_isPair ra0 h) 7 6 (r := (RX7, TX7, 9)) rfl yG_10_80 yD_7_isPair X hw rfl yGo_7 (Nat.le_trans (Nat.le_of_ble_eq_true rfl) hRf) (Nat.le_trans (Nat.le_of_ble_eq_true rfl) hRl) rfl hl.1 (Nat.le_of_ble_eq_true rfl) rfl dX10_readMeaning_5 (fun v1 u H locs rv1 h hw => ?_)
  refine k_if_ne hx hb rv1 dX10_readMeaning_8 (tgt := 13) rfl h (fun h => ?_) (fun h => ?_)
  · refine lv_aload_n hx hb dX10_readMeaning_13 rfl (lv_at hl 0 rfl) ?_
    refine yg_10_55 X hw dX10_readMeaning_14 ?_
    refine lv_iload_n hx hb dX10_readMeaning_17 rfl (lv_at hl 1 rfl) ?_
    refine ycI (n := 1) (e_7_left ra0 h) 7 6 (r := (RX7, TX7, 9)) rfl yG_10_72 yD_7_left X hw rfl yGo_7 (Nat.le_trans (Nat.le_of_ble_eq_true rfl) hRf) (Nat.le_trans (Nat.le_of_ble_eq_true rfl) hRl) rfl hl.1 (Nat.le_of_ble_eq_true rfl) rfl dX10_readMeaning_18 (fun v2 u H locs rv2 h hw => ?_)
    refine lv_istore_n hx hb dX10_readMeaning_21 rfl hl (by decide) rfl (fun ls hl => ?_)
    have hl : lv_has ls 5 [(2, .int (jI v2)), (0, .ref (ad 0 8)), (1, .int (jI a0))] := hl
    refine lv_iload_n hx hb dX10_readMeaning_22 rfl (lv_at hl 0 rfl) ?_
    refine lv_iconst hx hb dX10_readMeaning_23 (v := jI 2) rfl ?_
    refine k_icmp_ne hx hb rv2 (by decide) dX10_readMeaning_24 (tgt := 85) rfl h (fun h => ?_) (fun h => ?_)
    · refine lv_iload_n hx hb dX10_readMeaning_85 rfl (lv_at hl 0 rfl) ?_
      refine lv_aload_n hx hb dX10_readMeaning_86 rfl (lv_at hl 1 rfl) ?_
      refine yg_10_9 X hw dX10_readMeaning_87 h (fun v3 rv3 h => ?_)
      refine k_icmp_ne hx hb rv2 rv3 dX10_readMeaning_90 (tgt := 100) rfl h (fun h => ?_) (fun h => ?_)
      · refine lv_aload_n hx hb dX10_readMeaning_100 rfl (lv_at hl 1 rfl) ?_
        refine yg_10_59 X hw dX10_readMeaning_101 ?_
        refine lv_iload_n hx hb dX10_readMeaning_104 rfl (lv_at hl 0 rfl) ?_
        refine ycI (n := 1) (e_0_arityOf rv2 h) 0 0 (r := (RX0, TX0, 21)) rfl yG_10_121 yD_0_arityOf X hw rfl yGo_0 (Nat.le_trans (Nat.le_of_ble_eq_true rfl) hRf) (Nat.le_trans (Nat.le_of_ble_eq_true rfl) hRl) rfl hl.1 (Nat.le_of_ble_eq_true rfl) rfl dX10_readMeaning_105 (fun v4 u H locs rv4 h hw => ?_)
        exact f_10_readMeaning_108 X hRf hRl hret ra0 rv4 hw (lv_sub hl [1, 2] rfl) h
      · refine lv_aload_n hx hb dX10_readMeaning_93 rfl (lv_at hl 1 rfl) ?_
        refine yg_10_15 X hw dX10_readMeaning_94 h (fun v7 rv7 h => ?_)
        refine lv_goto hx hb dX10_readMeaning_97 (tgt := 108) rfl ?_
        exact f_10_readMeaning_108 X hRf hRl hret ra0 rv7 hw (lv_sub hl [1, 2] rfl) h
    · refine lv_aload_n hx hb dX10_readMeaning_27 rfl (lv_at hl 1 rfl) ?_
      refine yg_10_55 X hw dX10_readMeaning_28 ?_
      refine lv_iload_n hx hb dX10_readMeaning_31 rfl (lv_at hl 2 rfl) ?_
      refine ycI (n := 1) (e_7_valueOf ra0 h) 7 6 (r := (RX7, TX7, 9)) rfl yG_10_112 yD_7_valueOf X hw rfl yGo_7 (Nat.le_trans (Nat.le_of_ble_eq_true rfl) hRf) (Nat.le_trans (Nat.le_of_ble_eq_true rfl) hRl) rfl hl.1 (Nat.le_of_ble_eq_true rfl) rfl dX10_readMeaning_32 (fun v8 u H locs rv8 h hw => ?_)
      refine lv_istore_n hx hb dX10_readMeaning_35 rfl hl (by decide) rfl (fun ls hl => ?_)
      have hl : lv_has ls 5 [(3, .int (jI v8)), (2, .int (jI v2)), (0, .ref (ad 0 8)), (1, .int (jI a0))] := hl
      refine lv_iload_n hx hb dX10_readMeaning_36 rfl (lv_at hl 0 rfl) ?_
      refine lv_iconst hx hb dX10_readMeaning_37 (v := jI 1) rfl ?_
      refine k_icmp_le hx hb rv8 (by decide) dX10_readMeaning_38 (tgt := 52) rfl h (fun h => ?_) (fun h => ?_)
      · exact f_10_readMeaning_52 X hRf hRl hret ra0 rv8 hw (lv_sub hl [2, 3, 0] rfl) h
      · refine lv_aload_n hx hb dX10_readMeaning_41 rfl (lv_at hl 2 rfl) ?_
        refine yg_10_55 X hw dX10_readMeaning_42 ?_
        refine lv_iload_n hx hb dX10_readMeaning_45 rfl (lv_at hl 0 rfl) ?_
        refine ycI (n := 1) (e_7_isNatural rv8 h) 7 6 (r := (RX7, TX7, 9)) rfl yG_10_115 yD_7_isNatural X hw rfl yGo_7 (Nat.le_trans (Nat.le_of_ble_eq_true rfl) hRf) (Nat.le_trans (Nat.le_of_ble_eq_true rfl) hRl) rfl hl.1 (Nat.le_of_ble_eq_true rfl) rfl dX10_readMeaning_46 (fun v10 u H locs rv10 h hw => ?_)
        refine k_if_eq hx hb rv10 dX10_readMeaning_49 (tgt := 56) rfl h (fun h => ?_) (fun h => ?_)
        · refine lv_iconst hx hb dX10_readMeaning_56 (v := jI 0) rfl ?_
          exact f_10_readMeaning_57 X hRf hRl hret ra0 rv8 (by decide) hw (lv_sub hl [2, 3, 0] rfl) h
        · exact f_10_readMeaning_52 X hRf hRl hret ra0 rv8 hw (lv_sub hl [2, 3, 0] rfl) h
  · refine lv_iload_n hx hb dX10_readMeaning_11 rfl (lv_at hl 1 rfl) ?_
    exact hret _ _ _ _ _ _ ra0 h hw dX10_readMeaning_12

end
theorem e_10_readMeaning {l : Launch} {a0 : Int} (ra0 : inR a0) {Q : Int → iST → Prop} {u : iST} (h : v_10_readMeaning a0 Q u) : yMI l yX10_readMeaning (.code yX10_readMeaning cX10_readMeaning 5 (some .int) :: wsN) { frames := 1, cells := 0, slots := 0, locals := 23 } (fun ad => [.ref (ad 0 8), .int (jI a0)]) Q u := yMI_of (own := RX10) rfl (by decide +kernel) (fun _ => Nat.le_of_ble_eq_true rfl) (fun X hRf hRl hret hw hl => f_10_readMeaning_s X hRf hRl hret ra0 hw hl h)

/-! ProofHouse$Terms.standsFor -/
theorem dX10_standsFor_0 : decode cX10_standsFor 0 = .ok (.iconst 0, 1) := by decide +kernel
theorem dX10_standsFor_1 : decode cX10_standsFor 1 = .ok (.istore_n 2, 1) := by decide +kernel
theorem dX10_standsFor_2 : decode cX10_standsFor 2 = .ok (.iload_n 2, 1) := by decide +kernel
theorem dX10_standsFor_3 : decode cX10_standsFor 3 = .ok (.aload_n 0, 1) := by decide +kernel
theorem dX10_standsFor_4 : decode cX10_standsFor 4 = .ok (.getfield 25, 3) := by decide +kernel
theorem dX10_standsFor_7 : decode cX10_standsFor 7 = .ok (.if_icmp .ge 26, 3) := by decide +kernel
theorem dX10_standsFor_10 : decode cX10_standsFor 10 = .ok (.aload_n 0, 1) := by decide +kernel
theorem dX10_standsFor_11 : decode cX10_standsFor 11 = .ok (.getfield 18, 3) := by decide +kernel
theorem dX10_standsFor_14 : decode cX10_standsFor 14 = .ok (.iload_n 2, 1) := by decide +kernel
theorem dX10_standsFor_15 : decode cX10_standsFor 15 = .ok (.iaload, 1) := by decide +kernel
theorem dX10_standsFor_16 : decode cX10_standsFor 16 = .ok (.iload_n 1, 1) := by decide +kernel
theorem dX10_standsFor_17 : decode cX10_standsFor 17 = .ok (.if_icmp .ne 10, 3) := by decide +kernel
theorem dX10_standsFor_20 : decode cX10_standsFor 20 = .ok (.aload_n 0, 1) := by decide +kernel
theorem dX10_standsFor_21 : decode cX10_standsFor 21 = .ok (.getfield 22, 3) := by decide +kernel
theorem dX10_standsFor_24 : decode cX10_standsFor 24 = .ok (.iload_n 2, 1) := by decide +kernel
theorem dX10_standsFor_25 : decode cX10_standsFor 25 = .ok (.iaload, 1) := by decide +kernel
theorem dX10_standsFor_26 : decode cX10_standsFor 26 = .ok (.ireturn, 1) := by decide +kernel
theorem dX10_standsFor_27 : decode cX10_standsFor 27 = .ok (.iinc 2 1, 3) := by decide +kernel
theorem dX10_standsFor_30 : decode cX10_standsFor 30 = .ok (.goto (-28), 3) := by decide +kernel
theorem dX10_standsFor_33 : decode cX10_standsFor 33 = .ok (.iconst (-1), 1) := by decide +kernel
theorem dX10_standsFor_34 : decode cX10_standsFor 34 = .ok (.ireturn, 1) := by decide +kernel

section
variable {p : Program} {l : Launch} {e : Env} {R : Room} {s : State} {m : MethodId} {args : Array Value} {below : List Frame} {meth : Method} {c : Code} {H : Heap} {locs : List Loc} {Qf : State → Prop}
variable {ls : Array Slot} {D : va_G} {ca : Nat → ClassId} {A : Nat → Prop} {ad : Nat → Nat → Nat} {u : iST}
def v_10_standsFor_2b (R2 : Int → Int → iST → Prop) (Q : Int → iST → Prop) (x1 : Int) (x2 : Int) (u : iST) : Prop :=
  rd (u.1 39) (fun v1 => 
  br (v1 ≤ x2) (
    Q (-1) u) (
    bd x2 256 (rd (u.2.1 35 x2) (fun v2 => 
    br (v2 ≠ x1) (
      ov (x2 + 1) (
      R2 x1 (x2 + 1) u)) (
      bd x2 256 (rd (u.2.1 36 x2) (fun v4 => 
      Q v4 u)))))))
def v_10_standsFor_2 (Q : Int → iST → Prop) (x1 : Int) (x2 : Int) (u : iST) : Prop := ∀ R2 : Int → Int → iST → Prop, (∀ (x1 : Int) (x2 : Int) (u : iST), v_10_standsFor_2b R2 Q x1 x2 u → R2 x1 x2 u) → R2 x1 x2 u
set_option maxRecDepth 20000 in
set_option maxHeartbeats 4000000 in
theorem f_10_standsFor_2 (X : yX RX10 p m c cX10_standsFor 3 s args D ca ad A) (hRf : 0 ≤ R.frames) (hRl : 0 ≤ R.locals) {Q : Int → iST → Prop} (hret : ∀ (v : Int) (u : iST) (H : Heap) (locs : List Loc) (ls : Array Slot) (pc : Nat), inR v → Q v u → yW D ca A ad s H locs u → decode cX10_standsFor pc = .ok (.ireturn, 1) → W p l e R s m args below meth c H locs 0 0 Qf (F0 m pc ls [.int (jI v)])) {x1 x2 : Int} (rx1 : inR x1) (rx2 : inR x2) (hw : yW D ca A ad s H locs u) (hl : lv_has ls 3 [(0, .ref (ad 0 8)), (1, .int (jI x1)), (2, .int (jI x2))]) (h : v_10_standsFor_2 Q x1 x2 u) : W p l e R s m args below meth c H locs 0 0 Qf (F0 m 2 ls []) := by
  refine h (fun x1 x2 u => ∀ (H : Heap) (locs : List Loc) (ls : Array Slot), inR x1 → inR x2 → yW D ca A ad s H locs u → lv_has ls 3 [(0, .ref (ad 0 8)), (1, .int (jI x1)), (2, .int (jI x2))] → W p l e R s m args below meth c H locs 0 0 Qf (F0 m 2 ls [])) ?_ H locs ls rx1 rx2 hw hl
  clear h hl hw rx1 rx2
  intro x1 x2 u h H locs ls rx1 rx2 hw hl
  have hR2 : ∀ (x1 : Int) (x2 : Int) (u : iST) (H : Heap) (locs : List Loc) (ls : Array Slot), inR x1 → inR x2 → yW D ca A ad s H locs u → lv_has ls 3 [(0, .ref (ad 0 8)), (1, .int (jI x1)), (2, .int (jI x2))] → (fun (x1 : Int) (x2 : Int) u => ∀ (H : Heap) (locs : List Loc) (ls : Array Slot), inR x1 → inR x2 → yW D ca A ad s H locs u → lv_has ls 3 [(0, .ref (ad 0 8)), (1, .int (jI x1)), (2, .int (jI x2))] → W p l e R s m args below meth c H locs 0 0 Qf (F0 m 2 ls [])) x1 x2 u → W p l e R s m args below meth c H locs 0 0 Qf (F0 m 2 ls []) := fun x1 x2 u H locs ls rx1 rx2 hw hl h => h H locs ls rx1 rx2 hw hl
  have hx := X.1.1
  have hb := X.1.2.1
  unfold v_10_standsFor_2b at h
  refine lv_iload_n hx hb dX10_standsFor_2 rfl (lv_at hl 2 rfl) ?_
  refine lv_aload_n hx hb dX10_standsFor_3 rfl (lv_at hl 0 rfl) ?_
  refine yg_10_25 X hw dX10_standsFor_4 h (fun v1 rv1 h => ?_)
  refine k_icmp_ge hx hb rx2 rv1 dX10_standsFor_7 (tgt := 33) rfl h (fun h => ?_) (fun h => ?_)
  · refine lv_iconst hx hb dX10_standsFor_33 (v := jI (-1)) rfl ?_
    exact hret _ _ _ _ _ _ (by decide) h hw dX10_standsFor_34
  · refine lv_aload_n hx hb dX10_standsFor_10 rfl (lv_at hl 0 rfl) ?_
    refine yg_10_18 X hw dX10_standsFor_11 ?_
    refine lv_iload_n hx hb dX10_standsFor_14 rfl (lv_at hl 2 rfl) ?_
    refine yl_35 X hw rx2 dX10_standsFor_15 h (fun v2 rv2 h => ?_)
    refine lv_iload_n hx hb dX10_standsFor_16 rfl (lv_at hl 1 rfl) ?_
    refine k_icmp_ne hx hb rv2 rx1 dX10_standsFor_17 (tgt := 27) rfl h (fun h => ?_) (fun h => ?_)
    · refine k_iinc (k := 2) hx hb dX10_standsFor_27 hl rfl (by decide) rfl h (fun ls r3 h hl => ?_)
      have hl : lv_has ls 3 [(2, .int (jI (x2 + 1))), (0, .ref (ad 0 8)), (1, .int (jI x1))] := hl
      refine lv_goto hx hb dX10_standsFor_30 (tgt := 2) rfl ?_
      exact hR2 _ _ _ H locs ls rx1 r3 hw (lv_sub hl [1, 2, 0] rfl) h
    · refine lv_aload_n hx hb dX10_standsFor_20 rfl (lv_at hl 0 rfl) ?_
      refine yg_10_22 X hw dX10_standsFor_21 ?_
      refine lv_iload_n hx hb dX10_standsFor_24 rfl (lv_at hl 2 rfl) ?_
      refine yl_36 X hw rx2 dX10_standsFor_25 h (fun v4 rv4 h => ?_)
      exact hret _ _ _ _ _ _ rv4 h hw dX10_standsFor_26

def v_10_standsFor (a0 : Int) (Q : Int → iST → Prop) (u : iST) : Prop :=
  v_10_standsFor_2 Q a0 0 u
set_option maxRecDepth 20000 in
set_option maxHeartbeats 4000000 in
theorem f_10_standsFor_s (X : yX RX10 p m c cX10_standsFor 3 s args D ca ad A) (hRf : 0 ≤ R.frames) (hRl : 0 ≤ R.locals) {Q : Int → iST → Prop} (hret : ∀ (v : Int) (u : iST) (H : Heap) (locs : List Loc) (ls : Array Slot) (pc : Nat), inR v → Q v u → yW D ca A ad s H locs u → decode cX10_standsFor pc = .ok (.ireturn, 1) → W p l e R s m args below meth c H locs 0 0 Qf (F0 m pc ls [.int (jI v)])) {a0 : Int} (ra0 : inR a0) (hw : yW D ca A ad s H locs u) (hl : lv_has ls 3 [(0, .ref (ad 0 8)), (1, .int (jI a0))]) (h : v_10_standsFor a0 Q u) : W p l e R s m args below meth c H locs 0 0 Qf (F0 m 0 ls []) := by
  have hx := X.1.1
  have hb := X.1.2.1
  unfold v_10_standsFor at h
  refine lv_iconst hx hb dX10_standsFor_0 (v := jI 0) rfl ?_
  refine lv_istore_n hx hb dX10_standsFor_1 rfl hl (by decide) rfl (fun ls hl => ?_)
  have hl : lv_has ls 3 [(2, .int (jI 0)), (0, .ref (ad 0 8)), (1, .int (jI a0))] := hl
  exact f_10_standsFor_2 X hRf hRl hret ra0 (by decide) hw (lv_sub hl [1, 2, 0] rfl) h

end
theorem e_10_standsFor {l : Launch} {a0 : Int} (ra0 : inR a0) {Q : Int → iST → Prop} {u : iST} (h : v_10_standsFor a0 Q u) : yMI l yX10_standsFor (.code yX10_standsFor cX10_standsFor 3 (some .int) :: wsN) { frames := 0, cells := 0, slots := 0, locals := 0 } (fun ad => [.ref (ad 0 8), .int (jI a0)]) Q u := yMI_of (own := RX10) rfl (by decide +kernel) (fun _ => Nat.le_of_ble_eq_true rfl) (fun X hRf hRl hret hw hl => f_10_standsFor_s X hRf hRl hret ra0 hw hl h)

/-! ProofHouse$Terms.meaningOf -/
theorem dX10_meaningOf_0 : decode cX10_meaningOf 0 = .ok (.iload_n 2, 1) := by decide +kernel
theorem dX10_meaningOf_1 : decode cX10_meaningOf 1 = .ok (.iconst 2, 1) := by decide +kernel
theorem dX10_meaningOf_2 : decode cX10_meaningOf 2 = .ok (.if_icmp .ne 16, 3) := by decide +kernel
theorem dX10_meaningOf_5 : decode cX10_meaningOf 5 = .ok (.iload_n 1, 1) := by decide +kernel
theorem dX10_meaningOf_6 : decode cX10_meaningOf 6 = .ok (.aload_n 0, 1) := by decide +kernel
theorem dX10_meaningOf_7 : decode cX10_meaningOf 7 = .ok (.getfield 28, 3) := by decide +kernel
theorem dX10_meaningOf_10 : decode cX10_meaningOf 10 = .ok (.if_icmp .ne 8, 3) := by decide +kernel
theorem dX10_meaningOf_13 : decode cX10_meaningOf 13 = .ok (.aload_n 0, 1) := by decide +kernel
theorem dX10_meaningOf_14 : decode cX10_meaningOf 14 = .ok (.getfield 31, 3) := by decide +kernel
theorem dX10_meaningOf_17 : decode cX10_meaningOf 17 = .ok (.ireturn, 1) := by decide +kernel
theorem dX10_meaningOf_18 : decode cX10_meaningOf 18 = .ok (.aload_n 0, 1) := by decide +kernel
theorem dX10_meaningOf_19 : decode cX10_meaningOf 19 = .ok (.getfield 55, 3) := by decide +kernel
theorem dX10_meaningOf_22 : decode cX10_meaningOf 22 = .ok (.iload_n 1, 1) := by decide +kernel
theorem dX10_meaningOf_23 : decode cX10_meaningOf 23 = .ok (.invokevirtual 103, 3) := by decide +kernel
theorem dX10_meaningOf_26 : decode cX10_meaningOf 26 = .ok (.ifCond .eq 6, 3) := by decide +kernel
theorem dX10_meaningOf_29 : decode cX10_meaningOf 29 = .ok (.bipush (-2), 2) := by decide +kernel
theorem dX10_meaningOf_31 : decode cX10_meaningOf 31 = .ok (.ireturn, 1) := by decide +kernel
theorem dX10_meaningOf_32 : decode cX10_meaningOf 32 = .ok (.iload_n 2, 1) := by decide +kernel
theorem dX10_meaningOf_33 : decode cX10_meaningOf 33 = .ok (.iconst 1, 1) := by decide +kernel
theorem dX10_meaningOf_34 : decode cX10_meaningOf 34 = .ok (.if_icmp .ne 31, 3) := by decide +kernel
theorem dX10_meaningOf_37 : decode cX10_meaningOf 37 = .ok (.aload_n 0, 1) := by decide +kernel
theorem dX10_meaningOf_38 : decode cX10_meaningOf 38 = .ok (.getfield 55, 3) := by decide +kernel
theorem dX10_meaningOf_41 : decode cX10_meaningOf 41 = .ok (.iload_n 1, 1) := by decide +kernel
theorem dX10_meaningOf_42 : decode cX10_meaningOf 42 = .ok (.invokevirtual 106, 3) := by decide +kernel
theorem dX10_meaningOf_45 : decode cX10_meaningOf 45 = .ok (.ifCond .eq 20, 3) := by decide +kernel
theorem dX10_meaningOf_48 : decode cX10_meaningOf 48 = .ok (.aload_n 0, 1) := by decide +kernel
theorem dX10_meaningOf_49 : decode cX10_meaningOf 49 = .ok (.iload_n 1, 1) := by decide +kernel
theorem dX10_meaningOf_50 : decode cX10_meaningOf 50 = .ok (.invokevirtual 109, 3) := by decide +kernel
theorem dX10_meaningOf_53 : decode cX10_meaningOf 53 = .ok (.istore_n 3, 1) := by decide +kernel
theorem dX10_meaningOf_54 : decode cX10_meaningOf 54 = .ok (.iload_n 3, 1) := by decide +kernel
theorem dX10_meaningOf_55 : decode cX10_meaningOf 55 = .ok (.iconst (-1), 1) := by decide +kernel
theorem dX10_meaningOf_56 : decode cX10_meaningOf 56 = .ok (.if_icmp .ne 7, 3) := by decide +kernel
theorem dX10_meaningOf_59 : decode cX10_meaningOf 59 = .ok (.iload_n 1, 1) := by decide +kernel
theorem dX10_meaningOf_60 : decode cX10_meaningOf 60 = .ok (.goto 4, 3) := by decide +kernel
theorem dX10_meaningOf_63 : decode cX10_meaningOf 63 = .ok (.iload_n 3, 1) := by decide +kernel
theorem dX10_meaningOf_64 : decode cX10_meaningOf 64 = .ok (.ireturn, 1) := by decide +kernel
theorem dX10_meaningOf_65 : decode cX10_meaningOf 65 = .ok (.iload_n 1, 1) := by decide +kernel
theorem dX10_meaningOf_66 : decode cX10_meaningOf 66 = .ok (.ireturn, 1) := by decide +kernel

section
variable {p : Program} {l : Launch} {e : Env} {R : Room} {s : State} {m : MethodId} {args : Array Value} {below : List Frame} {meth : Method} {c : Code} {H : Heap} {locs : List Loc} {Qf : State → Prop}
variable {ls : Array Slot} {D : va_G} {ca : Nat → ClassId} {A : Nat → Prop} {ad : Nat → Nat → Nat} {u : iST}
def v_10_meaningOf_18 (Q : Int → iST → Prop) (x1 : Int) (x2 : Int) (u : iST) : Prop :=
  v_7_isCall x1 (fun v1 u => 
  br (v1 = 0) (
    br (x2 ≠ 1) (
      Q x1 u) (
      v_7_isVariable x1 (fun v2 u => 
      br (v2 = 0) (
        Q x1 u) (
        v_10_standsFor x1 (fun v3 u => 
        br (v3 ≠ (-1)) (
          Q v3 u) (
          Q x1 u)) u)) u)) (
    Q (-2) u)) u
set_option maxRecDepth 20000 in
set_option maxHeartbeats 4000000 in
theorem f_10_meaningOf_18 (X : yX RX10 p m c cX10_meaningOf 4 s args D ca ad A) (hRf : 1 ≤ R.frames) (hRl : 22 ≤ R.locals) {Q : Int → iST → Prop} (hret : ∀ (v : Int) (u : iST) (H : Heap) (locs : List Loc) (ls : Array Slot) (pc : Nat), inR v → Q v u → yW D ca A ad s H locs u → decode cX10_meaningOf pc = .ok (.ireturn, 1) → W p l e R s m args below meth c H locs 0 0 Qf (F0 m pc ls [.int (jI v)])) {x1 x2 : Int} (rx1 : inR x1) (rx2 : inR x2) (hw : yW D ca A ad s H locs u) (hl : lv_has ls 4 [(0, .ref (ad 0 8)), (1, .int (jI x1)), (2, .int (jI x2))]) (h : v_10_meaningOf_18 Q x1 x2 u) : W p l e R s m args below meth c H locs 0 0 Qf (F0 m 18 ls []) := by
  have hx := X.1.1
  have hb := X.1.2.1
  unfold v_10_meaningOf_18 at h
  refine lv_aload_n hx hb dX10_meaningOf_18 rfl (lv_at hl 0 rfl) ?_
  refine yg_10_55 X hw dX10_meaningOf_19 ?_
  refine lv_iload_n hx hb dX10_meaningOf_22 rfl (lv_at hl 1 rfl) ?_
  refine ycI (n := 1) (e_7_isCall rx1 h) 7 6 (r := (RX7, TX7, 9)) rfl yG_10_103 yD_7_isCall X hw rfl yGo_7 (Nat.le_trans (Nat.le_of_ble_eq_true rfl) hRf) (Nat.le_trans (Nat.le_of_ble_eq_true rfl) hRl) rfl hl.1 (Nat.le_of_ble_eq_true rfl) rfl dX10_meaningOf_23 (fun v1 u H locs rv1 h hw => ?_)
  refine k_if_eq hx hb rv1 dX10_meaningOf_26 (tgt := 32) rfl h (fun h => ?_) (fun h => ?_)
  · refine lv_iload_n hx hb dX10_meaningOf_32 rfl (lv_at hl 2 rfl) ?_
    refine lv_iconst hx hb dX10_meaningOf_33 (v := jI 1) rfl ?_
    refine k_icmp_ne hx hb rx2 (by decide) dX10_meaningOf_34 (tgt := 65) rfl h (fun h => ?_) (fun h => ?_)
    · refine lv_iload_n hx hb dX10_meaningOf_65 rfl (lv_at hl 1 rfl) ?_
      exact hret _ _ _ _ _ _ rx1 h hw dX10_meaningOf_66
    · refine lv_aload_n hx hb dX10_meaningOf_37 rfl (lv_at hl 0 rfl) ?_
      refine yg_10_55 X hw dX10_meaningOf_38 ?_
      refine lv_iload_n hx hb dX10_meaningOf_41 rfl (lv_at hl 1 rfl) ?_
      refine ycI (n := 1) (e_7_isVariable rx1 h) 7 6 (r := (RX7, TX7, 9)) rfl yG_10_106 yD_7_isVariable X hw rfl yGo_7 (Nat.le_trans (Nat.le_of_ble_eq_true rfl) hRf) (Nat.le_trans (Nat.le_of_ble_eq_true rfl) hRl) rfl hl.1 (Nat.le_of_ble_eq_true rfl) rfl dX10_meaningOf_42 (fun v2 u H locs rv2 h hw => ?_)
      refine k_if_eq hx hb rv2 dX10_meaningOf_45 (tgt := 65) rfl h (fun h => ?_) (fun h => ?_)
      · refine lv_iload_n hx hb dX10_meaningOf_65 rfl (lv_at hl 1 rfl) ?_
        exact hret _ _ _ _ _ _ rx1 h hw dX10_meaningOf_66
      · refine lv_aload_n hx hb dX10_meaningOf_48 rfl (lv_at hl 0 rfl) ?_
        refine lv_iload_n hx hb dX10_meaningOf_49 rfl (lv_at hl 1 rfl) ?_
        refine ycI (n := 1) (e_10_standsFor rx1 h) 10 8 (r := (RX10, TX10, 16)) rfl yG_10_109 yD_10_standsFor X hw rfl yGo_10 (Nat.le_trans (Nat.le_of_ble_eq_true rfl) hRf) (Nat.le_trans (Nat.le_of_ble_eq_true rfl) hRl) rfl hl.1 (Nat.le_of_ble_eq_true rfl) rfl dX10_meaningOf_50 (fun v3 u H locs rv3 h hw => ?_)
        refine lv_istore_n hx hb dX10_meaningOf_53 rfl hl (by decide) rfl (fun ls hl => ?_)
        have hl : lv_has ls 4 [(3, .int (jI v3)), (0, .ref (ad 0 8)), (1, .int (jI x1)), (2, .int (jI x2))] := hl
        refine lv_iload_n hx hb dX10_meaningOf_54 rfl (lv_at hl 0 rfl) ?_
        refine lv_iconst hx hb dX10_meaningOf_55 (v := jI (-1)) rfl ?_
        refine k_icmp_ne hx hb rv3 (by decide) dX10_meaningOf_56 (tgt := 63) rfl h (fun h => ?_) (fun h => ?_)
        · refine lv_iload_n hx hb dX10_meaningOf_63 rfl (lv_at hl 0 rfl) ?_
          exact hret _ _ _ _ _ _ rv3 h hw dX10_meaningOf_64
        · refine lv_iload_n hx hb dX10_meaningOf_59 rfl (lv_at hl 2 rfl) ?_
          refine lv_goto hx hb dX10_meaningOf_60 (tgt := 64) rfl ?_
          exact hret _ _ _ _ _ _ rx1 h hw dX10_meaningOf_64
  · refine lv_bipush hx hb dX10_meaningOf_29 (v := jI (-2)) rfl ?_
    exact hret _ _ _ _ _ _ (by decide) h hw dX10_meaningOf_31

def v_10_meaningOf (a0 : Int) (a1 : Int) (Q : Int → iST → Prop) (u : iST) : Prop :=
  br (a1 ≠ 2) (
    v_10_meaningOf_18 Q a0 a1 u) (
    rd (u.1 40) (fun v4 => 
    br (a0 ≠ v4) (
      v_10_meaningOf_18 Q a0 a1 u) (
      rd (u.1 41) (fun v5 => 
      Q v5 u))))
set_option maxRecDepth 20000 in
set_option maxHeartbeats 4000000 in
theorem f_10_meaningOf_s (X : yX RX10 p m c cX10_meaningOf 4 s args D ca ad A) (hRf : 1 ≤ R.frames) (hRl : 22 ≤ R.locals) {Q : Int → iST → Prop} (hret : ∀ (v : Int) (u : iST) (H : Heap) (locs : List Loc) (ls : Array Slot) (pc : Nat), inR v → Q v u → yW D ca A ad s H locs u → decode cX10_meaningOf pc = .ok (.ireturn, 1) → W p l e R s m args below meth c H locs 0 0 Qf (F0 m pc ls [.int (jI v)])) {a0 a1 : Int} (ra0 : inR a0) (ra1 : inR a1) (hw : yW D ca A ad s H locs u) (hl : lv_has ls 4 [(0, .ref (ad 0 8)), (1, .int (jI a0)), (2, .int (jI a1))]) (h : v_10_meaningOf a0 a1 Q u) : W p l e R s m args below meth c H locs 0 0 Qf (F0 m 0 ls []) := by
  have hx := X.1.1
  have hb := X.1.2.1
  unfold v_10_meaningOf at h
  refine lv_iload_n hx hb dX10_meaningOf_0 rfl (lv_at hl 2 rfl) ?_
  refine lv_iconst hx hb dX10_meaningOf_1 (v := jI 2) rfl ?_
  refine k_icmp_ne hx hb ra1 (by decide) dX10_meaningOf_2 (tgt := 18) rfl h (fun h => ?_) (fun h => ?_)
  · exact f_10_meaningOf_18 X hRf hRl hret ra0 ra1 hw hl h
  · refine lv_iload_n hx hb dX10_meaningOf_5 rfl (lv_at hl 1 rfl) ?_
    refine lv_aload_n hx hb dX10_meaningOf_6 rfl (lv_at hl 0 rfl) ?_
    refine yg_10_28 X hw dX10_meaningOf_7 h (fun v4 rv4 h => ?_)
    refine k_icmp_ne hx hb ra0 rv4 dX10_meaningOf_10 (tgt := 18) rfl h (fun h => ?_) (fun h => ?_)
    · exact f_10_meaningOf_18 X hRf hRl hret ra0 ra1 hw hl h
    · refine lv_aload_n hx hb dX10_meaningOf_13 rfl (lv_at hl 0 rfl) ?_
      refine yg_10_31 X hw dX10_meaningOf_14 h (fun v5 rv5 h => ?_)
      exact hret _ _ _ _ _ _ rv5 h hw dX10_meaningOf_17

end
theorem e_10_meaningOf {l : Launch} {a0 : Int} {a1 : Int} (ra0 : inR a0) (ra1 : inR a1) {Q : Int → iST → Prop} {u : iST} (h : v_10_meaningOf a0 a1 Q u) : yMI l yX10_meaningOf (.code yX10_meaningOf cX10_meaningOf 4 (some .int) :: wsN) { frames := 1, cells := 0, slots := 0, locals := 22 } (fun ad => [.ref (ad 0 8), .int (jI a0), .int (jI a1)]) Q u := yMI_of (own := RX10) rfl (by decide +kernel) (fun _ => Nat.le_of_ble_eq_true rfl) (fun X hRf hRl hret hw hl => f_10_meaningOf_s X hRf hRl hret ra0 ra1 hw hl h)

/-! ProofHouse$Room.sizeOf -/
theorem dX7_sizeOf_0 : decode cX7_sizeOf 0 = .ok (.iload_n 1, 1) := by decide +kernel
theorem dX7_sizeOf_1 : decode cX7_sizeOf 1 = .ok (.ifCond .lt 39, 3) := by decide +kernel
theorem dX7_sizeOf_4 : decode cX7_sizeOf 4 = .ok (.iload_n 1, 1) := by decide +kernel
theorem dX7_sizeOf_5 : decode cX7_sizeOf 5 = .ok (.aload_n 0, 1) := by decide +kernel
theorem dX7_sizeOf_6 : decode cX7_sizeOf 6 = .ok (.getfield 30, 3) := by decide +kernel
theorem dX7_sizeOf_9 : decode cX7_sizeOf 9 = .ok (.if_icmp .ge 31, 3) := by decide +kernel
theorem dX7_sizeOf_12 : decode cX7_sizeOf 12 = .ok (.aload_n 0, 1) := by decide +kernel
theorem dX7_sizeOf_13 : decode cX7_sizeOf 13 = .ok (.getfield 12, 3) := by decide +kernel
theorem dX7_sizeOf_16 : decode cX7_sizeOf 16 = .ok (.iload_n 1, 1) := by decide +kernel
theorem dX7_sizeOf_17 : decode cX7_sizeOf 17 = .ok (.laload, 1) := by decide +kernel
theorem dX7_sizeOf_18 : decode cX7_sizeOf 18 = .ok (.lconst 0, 1) := by decide +kernel
theorem dX7_sizeOf_19 : decode cX7_sizeOf 19 = .ok (.lcmp, 1) := by decide +kernel
theorem dX7_sizeOf_20 : decode cX7_sizeOf 20 = .ok (.ifCond .ge 20, 3) := by decide +kernel
theorem dX7_sizeOf_23 : decode cX7_sizeOf 23 = .ok (.aload_n 0, 1) := by decide +kernel
theorem dX7_sizeOf_24 : decode cX7_sizeOf 24 = .ok (.getfield 12, 3) := by decide +kernel
theorem dX7_sizeOf_27 : decode cX7_sizeOf 27 = .ok (.iload_n 1, 1) := by decide +kernel
theorem dX7_sizeOf_28 : decode cX7_sizeOf 28 = .ok (.laload, 1) := by decide +kernel
theorem dX7_sizeOf_29 : decode cX7_sizeOf 29 = .ok (.bipush 31, 2) := by decide +kernel
theorem dX7_sizeOf_31 : decode cX7_sizeOf 31 = .ok (.lushr, 1) := by decide +kernel
theorem dX7_sizeOf_32 : decode cX7_sizeOf 32 = .ok (.l2i, 1) := by decide +kernel
theorem dX7_sizeOf_33 : decode cX7_sizeOf 33 = .ok (.ldc 77, 2) := by decide +kernel
theorem dX7_sizeOf_35 : decode cX7_sizeOf 35 = .ok (.iand, 1) := by decide +kernel
theorem dX7_sizeOf_36 : decode cX7_sizeOf 36 = .ok (.iconst 2, 1) := by decide +kernel
theorem dX7_sizeOf_37 : decode cX7_sizeOf 37 = .ok (.if_icmp .ne 5, 3) := by decide +kernel
theorem dX7_sizeOf_40 : decode cX7_sizeOf 40 = .ok (.iconst 1, 1) := by decide +kernel
theorem dX7_sizeOf_41 : decode cX7_sizeOf 41 = .ok (.ireturn, 1) := by decide +kernel
theorem dX7_sizeOf_42 : decode cX7_sizeOf 42 = .ok (.iconst 1, 1) := by decide +kernel
theorem dX7_sizeOf_43 : decode cX7_sizeOf 43 = .ok (.aload_n 0, 1) := by decide +kernel
theorem dX7_sizeOf_44 : decode cX7_sizeOf 44 = .ok (.getfield 20, 3) := by decide +kernel
theorem dX7_sizeOf_47 : decode cX7_sizeOf 47 = .ok (.aload_n 0, 1) := by decide +kernel
theorem dX7_sizeOf_48 : decode cX7_sizeOf 48 = .ok (.getfield 12, 3) := by decide +kernel
theorem dX7_sizeOf_51 : decode cX7_sizeOf 51 = .ok (.iload_n 1, 1) := by decide +kernel
theorem dX7_sizeOf_52 : decode cX7_sizeOf 52 = .ok (.laload, 1) := by decide +kernel
theorem dX7_sizeOf_53 : decode cX7_sizeOf 53 = .ok (.l2i, 1) := by decide +kernel
theorem dX7_sizeOf_54 : decode cX7_sizeOf 54 = .ok (.ldc 77, 2) := by decide +kernel
theorem dX7_sizeOf_56 : decode cX7_sizeOf 56 = .ok (.iand, 1) := by decide +kernel
theorem dX7_sizeOf_57 : decode cX7_sizeOf 57 = .ok (.iaload, 1) := by decide +kernel
theorem dX7_sizeOf_58 : decode cX7_sizeOf 58 = .ok (.iadd, 1) := by decide +kernel
theorem dX7_sizeOf_59 : decode cX7_sizeOf 59 = .ok (.ireturn, 1) := by decide +kernel

section
variable {p : Program} {l : Launch} {e : Env} {R : Room} {s : State} {m : MethodId} {args : Array Value} {below : List Frame} {meth : Method} {c : Code} {H : Heap} {locs : List Loc} {Qf : State → Prop}
variable {ls : Array Slot} {D : va_G} {ca : Nat → ClassId} {A : Nat → Prop} {ad : Nat → Nat → Nat} {u : iST}
def v_7_sizeOf (a0 : Int) (Q : Int → iST → Prop) (u : iST) : Prop :=
  br (a0 < 0) (
    Q 1 u) (
    rd (u.1 29) (fun v1 => 
    br (v1 ≤ a0) (
      Q 1 u) (
      bd a0 160000 (rl (u.2.2 a0) (fun v2 => 
      br (0 ≤ v2) (
        Q 1 u) (
        bd a0 160000 (rl (u.2.2 a0) (fun v3 => 
        rl (wlushr v3 31) (fun v4 => 
        rd (wl2i v4) (fun v5 => 
        rd (wand v5 2147483647) (fun v6 => 
        br (v6 ≠ 2) (
          bd a0 160000 (rl (u.2.2 a0) (fun v7 => 
          rd (wl2i v7) (fun v8 => 
          rd (wand v8 2147483647) (fun v9 => 
          bd v9 160000 (rd (u.2.1 28 v9) (fun v10 => 
          ov (1 + v10) (
          Q (1 + v10) u)))))))) (
          Q 1 u))))))))))))
set_option maxRecDepth 20000 in
set_option maxHeartbeats 4000000 in
theorem f_7_sizeOf_s (X : yX RX7 p m c cX7_sizeOf 2 s args D ca ad A) (hRf : 0 ≤ R.frames) (hRl : 0 ≤ R.locals) {Q : Int → iST → Prop} (hret : ∀ (v : Int) (u : iST) (H : Heap) (locs : List Loc) (ls : Array Slot) (pc : Nat), inR v → Q v u → yW D ca A ad s H locs u → decode cX7_sizeOf pc = .ok (.ireturn, 1) → W p l e R s m args below meth c H locs 0 0 Qf (F0 m pc ls [.int (jI v)])) {a0 : Int} (ra0 : inR a0) (hw : yW D ca A ad s H locs u) (hl : lv_has ls 2 [(0, .ref (ad 0 6)), (1, .int (jI a0))]) (h : v_7_sizeOf a0 Q u) : W p l e R s m args below meth c H locs 0 0 Qf (F0 m 0 ls []) := by
  have hx := X.1.1
  have hb := X.1.2.1
  unfold v_7_sizeOf at h
  refine lv_iload_n hx hb dX7_sizeOf_0 rfl (lv_at hl 1 rfl) ?_
  refine k_if_lt hx hb ra0 dX7_sizeOf_1 (tgt := 40) rfl h (fun h => ?_) (fun h => ?_)
  · refine lv_iconst hx hb dX7_sizeOf_40 (v := jI 1) rfl ?_
    exact hret _ _ _ _ _ _ (by decide) h hw dX7_sizeOf_41
  · refine lv_iload_n hx hb dX7_sizeOf_4 rfl (lv_at hl 1 rfl) ?_
    refine lv_aload_n hx hb dX7_sizeOf_5 rfl (lv_at hl 0 rfl) ?_
    refine yg_7_30 X hw dX7_sizeOf_6 h (fun v1 rv1 h => ?_)
    refine k_icmp_ge hx hb ra0 rv1 dX7_sizeOf_9 (tgt := 40) rfl h (fun h => ?_) (fun h => ?_)
    · refine lv_iconst hx hb dX7_sizeOf_40 (v := jI 1) rfl ?_
      exact hret _ _ _ _ _ _ (by decide) h hw dX7_sizeOf_41
    · refine lv_aload_n hx hb dX7_sizeOf_12 rfl (lv_at hl 0 rfl) ?_
      refine yg_7_12 X hw dX7_sizeOf_13 ?_
      refine lv_iload_n hx hb dX7_sizeOf_16 rfl (lv_at hl 1 rfl) ?_
      refine yJl X hw ra0 dX7_sizeOf_17 h (fun v2 rv2 h => ?_)
      refine lv_lconst hx hb dX7_sizeOf_18 (v := jL 0) rfl ?_
      refine k_lcmp_ge hx hb rv2 (by decide) dX7_sizeOf_19 dX7_sizeOf_20 (tgt := 40) rfl h (fun h => ?_) (fun h => ?_)
      · refine lv_iconst hx hb dX7_sizeOf_40 (v := jI 1) rfl ?_
        exact hret _ _ _ _ _ _ (by decide) h hw dX7_sizeOf_41
      · refine lv_aload_n hx hb dX7_sizeOf_23 rfl (lv_at hl 0 rfl) ?_
        refine yg_7_12 X hw dX7_sizeOf_24 ?_
        refine lv_iload_n hx hb dX7_sizeOf_27 rfl (lv_at hl 1 rfl) ?_
        refine yJl X hw ra0 dX7_sizeOf_28 h (fun v3 rv3 h => ?_)
        refine lv_bipush hx hb dX7_sizeOf_29 (v := jI 31) rfl ?_
        refine k_wlushr hx hb dX7_sizeOf_31 h (fun v4 rv4 h => ?_)
        refine k_l2i hx hb dX7_sizeOf_32 h (fun v5 rv5 h => ?_)
        refine yld 77 yK_7_77 X dX7_sizeOf_33 ?_
        refine k_iand hx hb dX7_sizeOf_35 h (fun v6 rv6 h => ?_)
        refine lv_iconst hx hb dX7_sizeOf_36 (v := jI 2) rfl ?_
        refine k_icmp_ne hx hb rv6 (by decide) dX7_sizeOf_37 (tgt := 42) rfl h (fun h => ?_) (fun h => ?_)
        · refine lv_iconst hx hb dX7_sizeOf_42 (v := jI 1) rfl ?_
          refine lv_aload_n hx hb dX7_sizeOf_43 rfl (lv_at hl 0 rfl) ?_
          refine yg_7_20 X hw dX7_sizeOf_44 ?_
          refine lv_aload_n hx hb dX7_sizeOf_47 rfl (lv_at hl 0 rfl) ?_
          refine yg_7_12 X hw dX7_sizeOf_48 ?_
          refine lv_iload_n hx hb dX7_sizeOf_51 rfl (lv_at hl 1 rfl) ?_
          refine yJl X hw ra0 dX7_sizeOf_52 h (fun v7 rv7 h => ?_)
          refine k_l2i hx hb dX7_sizeOf_53 h (fun v8 rv8 h => ?_)
          refine yld 77 yK_7_77 X dX7_sizeOf_54 ?_
          refine k_iand hx hb dX7_sizeOf_56 h (fun v9 rv9 h => ?_)
          refine yl_28 X hw rv9 dX7_sizeOf_57 h (fun v10 rv10 h => ?_)
          refine k_iadd hx hb dX7_sizeOf_58 h (fun r11 h => ?_)
          exact hret _ _ _ _ _ _ r11 h hw dX7_sizeOf_59
        · refine lv_iconst hx hb dX7_sizeOf_40 (v := jI 1) rfl ?_
          exact hret _ _ _ _ _ _ (by decide) h hw dX7_sizeOf_41

end
theorem e_7_sizeOf {l : Launch} {a0 : Int} (ra0 : inR a0) {Q : Int → iST → Prop} {u : iST} (h : v_7_sizeOf a0 Q u) : yMI l yX7_sizeOf (.code yX7_sizeOf cX7_sizeOf 2 (some .int) :: wsN) { frames := 0, cells := 0, slots := 0, locals := 0 } (fun ad => [.ref (ad 0 6), .int (jI a0)]) Q u := yMI_of (own := RX7) rfl (by decide +kernel) (fun _ => Nat.le_of_ble_eq_true rfl) (fun X hRf hRl hret hw hl => f_7_sizeOf_s X hRf hRl hret ra0 hw hl h)

/-! ProofHouse$Terms.isTooBig -/
theorem dX10_isTooBig_0 : decode cX10_isTooBig 0 = .ok (.aload_n 0, 1) := by decide +kernel
theorem dX10_isTooBig_1 : decode cX10_isTooBig 1 = .ok (.getfield 55, 3) := by decide +kernel
theorem dX10_isTooBig_4 : decode cX10_isTooBig 4 = .ok (.iload_n 1, 1) := by decide +kernel
theorem dX10_isTooBig_5 : decode cX10_isTooBig 5 = .ok (.invokevirtual 96, 3) := by decide +kernel
theorem dX10_isTooBig_8 : decode cX10_isTooBig 8 = .ok (.bipush 120, 2) := by decide +kernel
theorem dX10_isTooBig_10 : decode cX10_isTooBig 10 = .ok (.if_icmp .le 7, 3) := by decide +kernel
theorem dX10_isTooBig_13 : decode cX10_isTooBig 13 = .ok (.iconst 1, 1) := by decide +kernel
theorem dX10_isTooBig_14 : decode cX10_isTooBig 14 = .ok (.goto 4, 3) := by decide +kernel
theorem dX10_isTooBig_17 : decode cX10_isTooBig 17 = .ok (.iconst 0, 1) := by decide +kernel
theorem dX10_isTooBig_18 : decode cX10_isTooBig 18 = .ok (.istore_n 3, 1) := by decide +kernel
theorem dX10_isTooBig_19 : decode cX10_isTooBig 19 = .ok (.iload_n 3, 1) := by decide +kernel
theorem dX10_isTooBig_20 : decode cX10_isTooBig 20 = .ok (.ifCond .eq 15, 3) := by decide +kernel
theorem dX10_isTooBig_23 : decode cX10_isTooBig 23 = .ok (.iload_n 2, 1) := by decide +kernel
theorem dX10_isTooBig_24 : decode cX10_isTooBig 24 = .ok (.ifCond .eq 11, 3) := by decide +kernel
theorem dX10_isTooBig_27 : decode cX10_isTooBig 27 = .ok (.aload_n 0, 1) := by decide +kernel
theorem dX10_isTooBig_28 : decode cX10_isTooBig 28 = .ok (.getfield 55, 3) := by decide +kernel
theorem dX10_isTooBig_31 : decode cX10_isTooBig 31 = .ok (.iconst 4, 1) := by decide +kernel
theorem dX10_isTooBig_32 : decode cX10_isTooBig 32 = .ok (.invokevirtual 99, 3) := by decide +kernel
theorem dX10_isTooBig_35 : decode cX10_isTooBig 35 = .ok (.iload_n 3, 1) := by decide +kernel
theorem dX10_isTooBig_36 : decode cX10_isTooBig 36 = .ok (.ireturn, 1) := by decide +kernel

section
variable {p : Program} {l : Launch} {e : Env} {R : Room} {s : State} {m : MethodId} {args : Array Value} {below : List Frame} {meth : Method} {c : Code} {H : Heap} {locs : List Loc} {Qf : State → Prop}
variable {ls : Array Slot} {D : va_G} {ca : Nat → ClassId} {A : Nat → Prop} {ad : Nat → Nat → Nat} {u : iST}
def v_10_isTooBig_18 (Q : Int → iST → Prop) (x2 : Int) (y0 : Int) (u : iST) : Prop :=
  br (y0 = 0) (
    zt y0 (Q y0 u)) (
    br (x2 = 0) (
      zt y0 (Q y0 u)) (
      v_7_blame 4 (fun u => 
      zt y0 (Q y0 u)) u))
set_option maxRecDepth 20000 in
set_option maxHeartbeats 4000000 in
theorem f_10_isTooBig_18 (X : yX RX10 p m c cX10_isTooBig 4 s args D ca ad A) (hRf : 1 ≤ R.frames) (hRl : 21 ≤ R.locals) {Q : Int → iST → Prop} (hret : ∀ (v : Int) (u : iST) (H : Heap) (locs : List Loc) (ls : Array Slot) (pc : Nat), bz v → Q v u → yW D ca A ad s H locs u → decode cX10_isTooBig pc = .ok (.ireturn, 1) → W p l e R s m args below meth c H locs 0 0 Qf (F0 m pc ls [.int (jI v)])) {x2 y0 : Int} (rx2 : inR x2) (ry0 : inR y0) (hw : yW D ca A ad s H locs u) (hl : lv_has ls 4 [(0, .ref (ad 0 8)), (2, .int (jI x2))]) (h : v_10_isTooBig_18 Q x2 y0 u) : W p l e R s m args below meth c H locs 0 0 Qf (F0 m 18 ls [.int (jI y0)]) := by
  have hx := X.1.1
  have hb := X.1.2.1
  unfold v_10_isTooBig_18 at h
  refine lv_istore_n hx hb dX10_isTooBig_18 rfl hl (by decide) rfl (fun ls hl => ?_)
  have hl : lv_has ls 4 [(3, .int (jI y0)), (0, .ref (ad 0 8)), (2, .int (jI x2))] := hl
  refine lv_iload_n hx hb dX10_isTooBig_19 rfl (lv_at hl 0 rfl) ?_
  refine k_if_eq hx hb ry0 dX10_isTooBig_20 (tgt := 35) rfl h (fun h => ?_) (fun h => ?_)
  · refine lv_iload_n hx hb dX10_isTooBig_35 rfl (lv_at hl 0 rfl) ?_
    exact hret _ _ _ _ _ _ h.1 h.2 hw dX10_isTooBig_36
  · refine lv_iload_n hx hb dX10_isTooBig_23 rfl (lv_at hl 2 rfl) ?_
    refine k_if_eq hx hb rx2 dX10_isTooBig_24 (tgt := 35) rfl h (fun h => ?_) (fun h => ?_)
    · refine lv_iload_n hx hb dX10_isTooBig_35 rfl (lv_at hl 0 rfl) ?_
      exact hret _ _ _ _ _ _ h.1 h.2 hw dX10_isTooBig_36
    · refine lv_aload_n hx hb dX10_isTooBig_27 rfl (lv_at hl 1 rfl) ?_
      refine yg_10_55 X hw dX10_isTooBig_28 ?_
      refine lv_iconst hx hb dX10_isTooBig_31 (v := jI 4) rfl ?_
      refine ycV (n := 1) (e_7_blame (by decide) h) 7 6 (r := (RX7, TX7, 9)) rfl yG_10_99 yD_7_blame X hw rfl yGo_7 (Nat.le_trans (Nat.le_of_ble_eq_true rfl) hRf) (Nat.le_trans (Nat.le_of_ble_eq_true rfl) hRl) rfl hl.1 (Nat.le_of_ble_eq_true rfl) rfl dX10_isTooBig_32 (fun u H locs h hw => ?_)
      refine lv_iload_n hx hb dX10_isTooBig_35 rfl (lv_at hl 0 rfl) ?_
      exact hret _ _ _ _ _ _ h.1 h.2 hw dX10_isTooBig_36

def v_10_isTooBig (a0 : Int) (a1 : Int) (Q : Int → iST → Prop) (u : iST) : Prop :=
  v_7_sizeOf a0 (fun v1 u => 
  br (v1 ≤ 120) (
    v_10_isTooBig_18 Q a1 0 u) (
    v_10_isTooBig_18 Q a1 1 u)) u
set_option maxRecDepth 20000 in
set_option maxHeartbeats 4000000 in
theorem f_10_isTooBig_s (X : yX RX10 p m c cX10_isTooBig 4 s args D ca ad A) (hRf : 1 ≤ R.frames) (hRl : 21 ≤ R.locals) {Q : Int → iST → Prop} (hret : ∀ (v : Int) (u : iST) (H : Heap) (locs : List Loc) (ls : Array Slot) (pc : Nat), bz v → Q v u → yW D ca A ad s H locs u → decode cX10_isTooBig pc = .ok (.ireturn, 1) → W p l e R s m args below meth c H locs 0 0 Qf (F0 m pc ls [.int (jI v)])) {a0 a1 : Int} (ra0 : inR a0) (ra1 : inR a1) (hw : yW D ca A ad s H locs u) (hl : lv_has ls 4 [(0, .ref (ad 0 8)), (1, .int (jI a0)), (2, .int (jI a1))]) (h : v_10_isTooBig a0 a1 Q u) : W p l e R s m args below meth c H locs 0 0 Qf (F0 m 0 ls []) := by
  have hx := X.1.1
  have hb := X.1.2.1
  unfold v_10_isTooBig at h
  refine lv_aload_n hx hb dX10_isTooBig_0 rfl (lv_at hl 0 rfl) ?_
  refine yg_10_55 X hw dX10_isTooBig_1 ?_
  refine lv_iload_n hx hb dX10_isTooBig_4 rfl (lv_at hl 1 rfl) ?_
  refine ycI (n := 1) (e_7_sizeOf ra0 h) 7 6 (r := (RX7, TX7, 9)) rfl yG_10_96 yD_7_sizeOf X hw rfl yGo_7 (Nat.le_trans (Nat.le_of_ble_eq_true rfl) hRf) (Nat.le_trans (Nat.le_of_ble_eq_true rfl) hRl) rfl hl.1 (Nat.le_of_ble_eq_true rfl) rfl dX10_isTooBig_5 (fun v1 u H locs rv1 h hw => ?_)
  refine lv_bipush hx hb dX10_isTooBig_8 (v := jI 120) rfl ?_
  refine k_icmp_le hx hb rv1 (by decide) dX10_isTooBig_10 (tgt := 17) rfl h (fun h => ?_) (fun h => ?_)
  · refine lv_iconst hx hb dX10_isTooBig_17 (v := jI 0) rfl ?_
    exact f_10_isTooBig_18 X hRf hRl hret ra1 (by decide) hw (lv_sub hl [0, 2] rfl) h
  · refine lv_iconst hx hb dX10_isTooBig_13 (v := jI 1) rfl ?_
    refine lv_goto hx hb dX10_isTooBig_14 (tgt := 18) rfl ?_
    exact f_10_isTooBig_18 X hRf hRl hret ra1 (by decide) hw (lv_sub hl [0, 2] rfl) h

end
theorem e_10_isTooBig {l : Launch} {a0 : Int} {a1 : Int} (ra0 : inR a0) (ra1 : inR a1) {Q : Int → iST → Prop} {u : iST} (h : v_10_isTooBig a0 a1 Q u) : yMI l yX10_isTooBig (.code yX10_isTooBig cX10_isTooBig 4 (some .boolean) :: wsN) { frames := 1, cells := 0, slots := 0, locals := 21 } (fun ad => [.ref (ad 0 8), .int (jI a0), .int (jI a1)]) Q u := yMZ_of (own := RX10) rfl (by decide +kernel) (fun _ => Nat.le_of_ble_eq_true rfl) (fun X hRf hRl hret hw hl => f_10_isTooBig_s X hRf hRl hret ra0 ra1 hw hl h)

/-! ProofHouse$Terms.rebuilt -/
theorem dX10_rebuilt_0 : decode cX10_rebuilt 0 = .ok (.iconst 0, 1) := by decide +kernel
theorem dX10_rebuilt_1 : decode cX10_rebuilt 1 = .ok (.istore_n 3, 1) := by decide +kernel
theorem dX10_rebuilt_2 : decode cX10_rebuilt 2 = .ok (.iconst 0, 1) := by decide +kernel
theorem dX10_rebuilt_3 : decode cX10_rebuilt 3 = .ok (.istore 4, 2) := by decide +kernel
theorem dX10_rebuilt_5 : decode cX10_rebuilt 5 = .ok (.iload_n 1, 1) := by decide +kernel
theorem dX10_rebuilt_6 : decode cX10_rebuilt 6 = .ok (.istore 5, 2) := by decide +kernel
theorem dX10_rebuilt_8 : decode cX10_rebuilt 8 = .ok (.iconst 0, 1) := by decide +kernel
theorem dX10_rebuilt_9 : decode cX10_rebuilt 9 = .ok (.istore 6, 2) := by decide +kernel
theorem dX10_rebuilt_11 : decode cX10_rebuilt 11 = .ok (.iload 6, 2) := by decide +kernel
theorem dX10_rebuilt_13 : decode cX10_rebuilt 13 = .ok (.ldc 63, 2) := by decide +kernel
theorem dX10_rebuilt_15 : decode cX10_rebuilt 15 = .ok (.if_icmp .ge 284, 3) := by decide +kernel
theorem dX10_rebuilt_18 : decode cX10_rebuilt 18 = .ok (.iload_n 2, 1) := by decide +kernel
theorem dX10_rebuilt_19 : decode cX10_rebuilt 19 = .ok (.ifCond .ne 12, 3) := by decide +kernel
theorem dX10_rebuilt_22 : decode cX10_rebuilt 22 = .ok (.aload_n 0, 1) := by decide +kernel
theorem dX10_rebuilt_23 : decode cX10_rebuilt 23 = .ok (.iload 5, 2) := by decide +kernel
theorem dX10_rebuilt_25 : decode cX10_rebuilt 25 = .ok (.invokevirtual 64, 3) := by decide +kernel
theorem dX10_rebuilt_28 : decode cX10_rebuilt 28 = .ok (.goto 10, 3) := by decide +kernel
theorem dX10_rebuilt_31 : decode cX10_rebuilt 31 = .ok (.aload_n 0, 1) := by decide +kernel
theorem dX10_rebuilt_32 : decode cX10_rebuilt 32 = .ok (.iload 5, 2) := by decide +kernel
theorem dX10_rebuilt_34 : decode cX10_rebuilt 34 = .ok (.iload_n 2, 1) := by decide +kernel
theorem dX10_rebuilt_35 : decode cX10_rebuilt 35 = .ok (.invokevirtual 68, 3) := by decide +kernel
theorem dX10_rebuilt_38 : decode cX10_rebuilt 38 = .ok (.istore 7, 2) := by decide +kernel
theorem dX10_rebuilt_40 : decode cX10_rebuilt 40 = .ok (.iload 7, 2) := by decide +kernel
theorem dX10_rebuilt_42 : decode cX10_rebuilt 42 = .ok (.iconst (-1), 1) := by decide +kernel
theorem dX10_rebuilt_43 : decode cX10_rebuilt 43 = .ok (.if_icmp .eq 20, 3) := by decide +kernel
theorem dX10_rebuilt_46 : decode cX10_rebuilt 46 = .ok (.iload_n 3, 1) := by decide +kernel
theorem dX10_rebuilt_47 : decode cX10_rebuilt 47 = .ok (.sipush 128, 3) := by decide +kernel
theorem dX10_rebuilt_50 : decode cX10_rebuilt 50 = .ok (.if_icmp .ge 13, 3) := by decide +kernel
theorem dX10_rebuilt_53 : decode cX10_rebuilt 53 = .ok (.iload 4, 2) := by decide +kernel
theorem dX10_rebuilt_55 : decode cX10_rebuilt 55 = .ok (.aload_n 0, 1) := by decide +kernel
theorem dX10_rebuilt_56 : decode cX10_rebuilt 56 = .ok (.getfield 43, 3) := by decide +kernel
theorem dX10_rebuilt_59 : decode cX10_rebuilt 59 = .ok (.arraylength, 1) := by decide +kernel
theorem dX10_rebuilt_60 : decode cX10_rebuilt 60 = .ok (.if_icmp .lt 5, 3) := by decide +kernel
theorem dX10_rebuilt_63 : decode cX10_rebuilt 63 = .ok (.iconst (-1), 1) := by decide +kernel
theorem dX10_rebuilt_64 : decode cX10_rebuilt 64 = .ok (.ireturn, 1) := by decide +kernel
theorem dX10_rebuilt_65 : decode cX10_rebuilt 65 = .ok (.iload 7, 2) := by decide +kernel
theorem dX10_rebuilt_67 : decode cX10_rebuilt 67 = .ok (.bipush (-2), 2) := by decide +kernel
theorem dX10_rebuilt_69 : decode cX10_rebuilt 69 = .ok (.if_icmp .ne 47, 3) := by decide +kernel
theorem dX10_rebuilt_72 : decode cX10_rebuilt 72 = .ok (.aload_n 0, 1) := by decide +kernel
theorem dX10_rebuilt_73 : decode cX10_rebuilt 73 = .ok (.getfield 34, 3) := by decide +kernel
theorem dX10_rebuilt_76 : decode cX10_rebuilt 76 = .ok (.iload_n 3, 1) := by decide +kernel
theorem dX10_rebuilt_77 : decode cX10_rebuilt 77 = .ok (.aload_n 0, 1) := by decide +kernel
theorem dX10_rebuilt_78 : decode cX10_rebuilt 78 = .ok (.getfield 55, 3) := by decide +kernel
theorem dX10_rebuilt_81 : decode cX10_rebuilt 81 = .ok (.iload 5, 2) := by decide +kernel
theorem dX10_rebuilt_83 : decode cX10_rebuilt 83 = .ok (.invokevirtual 72, 3) := by decide +kernel
theorem dX10_rebuilt_86 : decode cX10_rebuilt 86 = .ok (.iastore, 1) := by decide +kernel
theorem dX10_rebuilt_87 : decode cX10_rebuilt 87 = .ok (.aload_n 0, 1) := by decide +kernel
theorem dX10_rebuilt_88 : decode cX10_rebuilt 88 = .ok (.getfield 37, 3) := by decide +kernel
theorem dX10_rebuilt_91 : decode cX10_rebuilt 91 = .ok (.iload_n 3, 1) := by decide +kernel
theorem dX10_rebuilt_92 : decode cX10_rebuilt 92 = .ok (.aload_n 0, 1) := by decide +kernel
theorem dX10_rebuilt_93 : decode cX10_rebuilt 93 = .ok (.getfield 55, 3) := by decide +kernel
theorem dX10_rebuilt_96 : decode cX10_rebuilt 96 = .ok (.iload 5, 2) := by decide +kernel
theorem dX10_rebuilt_98 : decode cX10_rebuilt 98 = .ok (.invokevirtual 77, 3) := by decide +kernel
theorem dX10_rebuilt_101 : decode cX10_rebuilt 101 = .ok (.iastore, 1) := by decide +kernel
theorem dX10_rebuilt_102 : decode cX10_rebuilt 102 = .ok (.aload_n 0, 1) := by decide +kernel
theorem dX10_rebuilt_103 : decode cX10_rebuilt 103 = .ok (.getfield 40, 3) := by decide +kernel
theorem dX10_rebuilt_106 : decode cX10_rebuilt 106 = .ok (.iload_n 3, 1) := by decide +kernel
theorem dX10_rebuilt_107 : decode cX10_rebuilt 107 = .ok (.iload 4, 2) := by decide +kernel
theorem dX10_rebuilt_109 : decode cX10_rebuilt 109 = .ok (.iastore, 1) := by decide +kernel
theorem dX10_rebuilt_110 : decode cX10_rebuilt 110 = .ok (.iinc 3 1, 3) := by decide +kernel
theorem dX10_rebuilt_113 : decode cX10_rebuilt 113 = .ok (.goto 15, 3) := by decide +kernel
theorem dX10_rebuilt_116 : decode cX10_rebuilt 116 = .ok (.aload_n 0, 1) := by decide +kernel
theorem dX10_rebuilt_117 : decode cX10_rebuilt 117 = .ok (.getfield 43, 3) := by decide +kernel
theorem dX10_rebuilt_120 : decode cX10_rebuilt 120 = .ok (.iload 4, 2) := by decide +kernel
theorem dX10_rebuilt_122 : decode cX10_rebuilt 122 = .ok (.iload 7, 2) := by decide +kernel
theorem dX10_rebuilt_124 : decode cX10_rebuilt 124 = .ok (.iastore, 1) := by decide +kernel
theorem dX10_rebuilt_125 : decode cX10_rebuilt 125 = .ok (.iinc 4 1, 3) := by decide +kernel
theorem dX10_rebuilt_128 : decode cX10_rebuilt 128 = .ok (.iload_n 3, 1) := by decide +kernel
theorem dX10_rebuilt_129 : decode cX10_rebuilt 129 = .ok (.ifCond .le 113, 3) := by decide +kernel
theorem dX10_rebuilt_132 : decode cX10_rebuilt 132 = .ok (.aload_n 0, 1) := by decide +kernel
theorem dX10_rebuilt_133 : decode cX10_rebuilt 133 = .ok (.getfield 55, 3) := by decide +kernel
theorem dX10_rebuilt_136 : decode cX10_rebuilt 136 = .ok (.aload_n 0, 1) := by decide +kernel
theorem dX10_rebuilt_137 : decode cX10_rebuilt 137 = .ok (.getfield 37, 3) := by decide +kernel
theorem dX10_rebuilt_140 : decode cX10_rebuilt 140 = .ok (.iload_n 3, 1) := by decide +kernel
theorem dX10_rebuilt_141 : decode cX10_rebuilt 141 = .ok (.iconst 1, 1) := by decide +kernel
theorem dX10_rebuilt_142 : decode cX10_rebuilt 142 = .ok (.isub, 1) := by decide +kernel
theorem dX10_rebuilt_143 : decode cX10_rebuilt 143 = .ok (.iaload, 1) := by decide +kernel
theorem dX10_rebuilt_144 : decode cX10_rebuilt 144 = .ok (.invokevirtual 80, 3) := by decide +kernel
theorem dX10_rebuilt_147 : decode cX10_rebuilt 147 = .ok (.ifCond .ne 95, 3) := by decide +kernel
theorem dX10_rebuilt_150 : decode cX10_rebuilt 150 = .ok (.iinc 3 (-1), 3) := by decide +kernel
theorem dX10_rebuilt_153 : decode cX10_rebuilt 153 = .ok (.iconst 0, 1) := by decide +kernel
theorem dX10_rebuilt_154 : decode cX10_rebuilt 154 = .ok (.istore 8, 2) := by decide +kernel
theorem dX10_rebuilt_156 : decode cX10_rebuilt 156 = .ok (.iload 4, 2) := by decide +kernel
theorem dX10_rebuilt_158 : decode cX10_rebuilt 158 = .ok (.aload_n 0, 1) := by decide +kernel
theorem dX10_rebuilt_159 : decode cX10_rebuilt 159 = .ok (.getfield 40, 3) := by decide +kernel
theorem dX10_rebuilt_162 : decode cX10_rebuilt 162 = .ok (.iload_n 3, 1) := by decide +kernel
theorem dX10_rebuilt_163 : decode cX10_rebuilt 163 = .ok (.iaload, 1) := by decide +kernel
theorem dX10_rebuilt_164 : decode cX10_rebuilt 164 = .ok (.if_icmp .le 30, 3) := by decide +kernel
theorem dX10_rebuilt_167 : decode cX10_rebuilt 167 = .ok (.iinc 4 (-1), 3) := by decide +kernel
theorem dX10_rebuilt_170 : decode cX10_rebuilt 170 = .ok (.aload_n 0, 1) := by decide +kernel
theorem dX10_rebuilt_171 : decode cX10_rebuilt 171 = .ok (.getfield 55, 3) := by decide +kernel
theorem dX10_rebuilt_174 : decode cX10_rebuilt 174 = .ok (.aload_n 0, 1) := by decide +kernel
theorem dX10_rebuilt_175 : decode cX10_rebuilt 175 = .ok (.getfield 43, 3) := by decide +kernel
theorem dX10_rebuilt_178 : decode cX10_rebuilt 178 = .ok (.iload 4, 2) := by decide +kernel
theorem dX10_rebuilt_180 : decode cX10_rebuilt 180 = .ok (.iaload, 1) := by decide +kernel
theorem dX10_rebuilt_181 : decode cX10_rebuilt 181 = .ok (.iload 8, 2) := by decide +kernel
theorem dX10_rebuilt_183 : decode cX10_rebuilt 183 = .ok (.invokestatic 84, 3) := by decide +kernel
theorem dX10_rebuilt_186 : decode cX10_rebuilt 186 = .ok (.invokevirtual 88, 3) := by decide +kernel
theorem dX10_rebuilt_189 : decode cX10_rebuilt 189 = .ok (.istore 8, 2) := by decide +kernel
theorem dX10_rebuilt_191 : decode cX10_rebuilt 191 = .ok (.goto (-35), 3) := by decide +kernel
theorem dX10_rebuilt_194 : decode cX10_rebuilt 194 = .ok (.aload_n 0, 1) := by decide +kernel
theorem dX10_rebuilt_195 : decode cX10_rebuilt 195 = .ok (.getfield 43, 3) := by decide +kernel
theorem dX10_rebuilt_198 : decode cX10_rebuilt 198 = .ok (.iload 4, 2) := by decide +kernel
theorem dX10_rebuilt_200 : decode cX10_rebuilt 200 = .ok (.aload_n 0, 1) := by decide +kernel
theorem dX10_rebuilt_201 : decode cX10_rebuilt 201 = .ok (.getfield 55, 3) := by decide +kernel
theorem dX10_rebuilt_204 : decode cX10_rebuilt 204 = .ok (.aload_n 0, 1) := by decide +kernel
theorem dX10_rebuilt_205 : decode cX10_rebuilt 205 = .ok (.getfield 34, 3) := by decide +kernel
theorem dX10_rebuilt_208 : decode cX10_rebuilt 208 = .ok (.iload_n 3, 1) := by decide +kernel
theorem dX10_rebuilt_209 : decode cX10_rebuilt 209 = .ok (.iaload, 1) := by decide +kernel
theorem dX10_rebuilt_210 : decode cX10_rebuilt 210 = .ok (.iload 8, 2) := by decide +kernel
theorem dX10_rebuilt_212 : decode cX10_rebuilt 212 = .ok (.invokestatic 84, 3) := by decide +kernel
theorem dX10_rebuilt_215 : decode cX10_rebuilt 215 = .ok (.invokevirtual 88, 3) := by decide +kernel
theorem dX10_rebuilt_218 : decode cX10_rebuilt 218 = .ok (.iastore, 1) := by decide +kernel
theorem dX10_rebuilt_219 : decode cX10_rebuilt 219 = .ok (.aload_n 0, 1) := by decide +kernel
theorem dX10_rebuilt_220 : decode cX10_rebuilt 220 = .ok (.aload_n 0, 1) := by decide +kernel
theorem dX10_rebuilt_221 : decode cX10_rebuilt 221 = .ok (.getfield 43, 3) := by decide +kernel
theorem dX10_rebuilt_224 : decode cX10_rebuilt 224 = .ok (.iload 4, 2) := by decide +kernel
theorem dX10_rebuilt_226 : decode cX10_rebuilt 226 = .ok (.iaload, 1) := by decide +kernel
theorem dX10_rebuilt_227 : decode cX10_rebuilt 227 = .ok (.iload_n 2, 1) := by decide +kernel
theorem dX10_rebuilt_228 : decode cX10_rebuilt 228 = .ok (.invokevirtual 92, 3) := by decide +kernel
theorem dX10_rebuilt_231 : decode cX10_rebuilt 231 = .ok (.ifCond .eq 5, 3) := by decide +kernel
theorem dX10_rebuilt_234 : decode cX10_rebuilt 234 = .ok (.iconst (-1), 1) := by decide +kernel
theorem dX10_rebuilt_235 : decode cX10_rebuilt 235 = .ok (.ireturn, 1) := by decide +kernel
theorem dX10_rebuilt_236 : decode cX10_rebuilt 236 = .ok (.iinc 4 1, 3) := by decide +kernel
theorem dX10_rebuilt_239 : decode cX10_rebuilt 239 = .ok (.goto (-111), 3) := by decide +kernel
theorem dX10_rebuilt_242 : decode cX10_rebuilt 242 = .ok (.iload_n 3, 1) := by decide +kernel
theorem dX10_rebuilt_243 : decode cX10_rebuilt 243 = .ok (.ifCond .ne 10, 3) := by decide +kernel
theorem dX10_rebuilt_246 : decode cX10_rebuilt 246 = .ok (.aload_n 0, 1) := by decide +kernel
theorem dX10_rebuilt_247 : decode cX10_rebuilt 247 = .ok (.getfield 43, 3) := by decide +kernel
theorem dX10_rebuilt_250 : decode cX10_rebuilt 250 = .ok (.iconst 0, 1) := by decide +kernel
theorem dX10_rebuilt_251 : decode cX10_rebuilt 251 = .ok (.iaload, 1) := by decide +kernel
theorem dX10_rebuilt_252 : decode cX10_rebuilt 252 = .ok (.ireturn, 1) := by decide +kernel
theorem dX10_rebuilt_253 : decode cX10_rebuilt 253 = .ok (.aload_n 0, 1) := by decide +kernel
theorem dX10_rebuilt_254 : decode cX10_rebuilt 254 = .ok (.getfield 55, 3) := by decide +kernel
theorem dX10_rebuilt_257 : decode cX10_rebuilt 257 = .ok (.aload_n 0, 1) := by decide +kernel
theorem dX10_rebuilt_258 : decode cX10_rebuilt 258 = .ok (.getfield 37, 3) := by decide +kernel
theorem dX10_rebuilt_261 : decode cX10_rebuilt 261 = .ok (.iload_n 3, 1) := by decide +kernel
theorem dX10_rebuilt_262 : decode cX10_rebuilt 262 = .ok (.iconst 1, 1) := by decide +kernel
theorem dX10_rebuilt_263 : decode cX10_rebuilt 263 = .ok (.isub, 1) := by decide +kernel
theorem dX10_rebuilt_264 : decode cX10_rebuilt 264 = .ok (.iaload, 1) := by decide +kernel
theorem dX10_rebuilt_265 : decode cX10_rebuilt 265 = .ok (.invokevirtual 72, 3) := by decide +kernel
theorem dX10_rebuilt_268 : decode cX10_rebuilt 268 = .ok (.istore 5, 2) := by decide +kernel
theorem dX10_rebuilt_270 : decode cX10_rebuilt 270 = .ok (.aload_n 0, 1) := by decide +kernel
theorem dX10_rebuilt_271 : decode cX10_rebuilt 271 = .ok (.getfield 37, 3) := by decide +kernel
theorem dX10_rebuilt_274 : decode cX10_rebuilt 274 = .ok (.iload_n 3, 1) := by decide +kernel
theorem dX10_rebuilt_275 : decode cX10_rebuilt 275 = .ok (.iconst 1, 1) := by decide +kernel
theorem dX10_rebuilt_276 : decode cX10_rebuilt 276 = .ok (.isub, 1) := by decide +kernel
theorem dX10_rebuilt_277 : decode cX10_rebuilt 277 = .ok (.aload_n 0, 1) := by decide +kernel
theorem dX10_rebuilt_278 : decode cX10_rebuilt 278 = .ok (.getfield 55, 3) := by decide +kernel
theorem dX10_rebuilt_281 : decode cX10_rebuilt 281 = .ok (.aload_n 0, 1) := by decide +kernel
theorem dX10_rebuilt_282 : decode cX10_rebuilt 282 = .ok (.getfield 37, 3) := by decide +kernel
theorem dX10_rebuilt_285 : decode cX10_rebuilt 285 = .ok (.iload_n 3, 1) := by decide +kernel
theorem dX10_rebuilt_286 : decode cX10_rebuilt 286 = .ok (.iconst 1, 1) := by decide +kernel
theorem dX10_rebuilt_287 : decode cX10_rebuilt 287 = .ok (.isub, 1) := by decide +kernel
theorem dX10_rebuilt_288 : decode cX10_rebuilt 288 = .ok (.iaload, 1) := by decide +kernel
theorem dX10_rebuilt_289 : decode cX10_rebuilt 289 = .ok (.invokevirtual 77, 3) := by decide +kernel
theorem dX10_rebuilt_292 : decode cX10_rebuilt 292 = .ok (.iastore, 1) := by decide +kernel
theorem dX10_rebuilt_293 : decode cX10_rebuilt 293 = .ok (.iinc 6 1, 3) := by decide +kernel
theorem dX10_rebuilt_296 : decode cX10_rebuilt 296 = .ok (.goto (-285), 3) := by decide +kernel
theorem dX10_rebuilt_299 : decode cX10_rebuilt 299 = .ok (.iconst (-1), 1) := by decide +kernel
theorem dX10_rebuilt_300 : decode cX10_rebuilt 300 = .ok (.ireturn, 1) := by decide +kernel

section
variable {p : Program} {l : Launch} {e : Env} {R : Room} {s : State} {m : MethodId} {args : Array Value} {below : List Frame} {meth : Method} {c : Code} {H : Heap} {locs : List Loc} {Qf : State → Prop}
variable {ls : Array Slot} {D : va_G} {ca : Nat → ClassId} {A : Nat → Prop} {ad : Nat → Nat → Nat} {u : iST}
def v_10_rebuilt_242 (R11 : Int → Int → Int → Int → Int → iST → Prop) (Q : Int → iST → Prop) (x2 : Int) (x3 : Int) (x4 : Int) (x6 : Int) (u : iST) : Prop :=
  br (x3 ≠ 0) (
    ov (x3 - 1) (
    bd (x3 - 1) 128 (rd (u.2.1 38 (x3 - 1)) (fun v4 => 
    v_7_left v4 (fun v5 u => 
    ov (x3 - 1) (
    ov (x3 - 1) (
    bd (x3 - 1) 128 (rd (u.2.1 38 (x3 - 1)) (fun v8 => 
    v_7_right v8 (fun v9 u => 
    bd (x3 - 1) 128 (sw (iA u 38 (x3 - 1) v9) (fun u => 
    ov (x6 + 1) (
    R11 x2 x3 x4 v5 (x6 + 1) u)))) u))))) u)))) (
    bd 0 768 (rd (u.2.1 40 0) (fun v11 => 
    Q v11 u)))
set_option maxRecDepth 20000 in
set_option maxHeartbeats 4000000 in
theorem f_10_rebuilt_242 (X : yX RX10 p m c cX10_rebuilt 9 s args D ca ad A) (hRf : 2 ≤ R.frames) (hRl : 47 ≤ R.locals) {Q : Int → iST → Prop} (hret : ∀ (v : Int) (u : iST) (H : Heap) (locs : List Loc) (ls : Array Slot) (pc : Nat), inR v → Q v u → yW D ca A ad s H locs u → decode cX10_rebuilt pc = .ok (.ireturn, 1) → W p l e R s m args below meth c H locs 0 0 Qf (F0 m pc ls [.int (jI v)])) {R11 : Int → Int → Int → Int → Int → iST → Prop} (hR11 : ∀ (x2 : Int) (x3 : Int) (x4 : Int) (x5 : Int) (x6 : Int) (u : iST) (H : Heap) (locs : List Loc) (ls : Array Slot), inR x2 → inR x3 → inR x4 → inR x5 → inR x6 → yW D ca A ad s H locs u → lv_has ls 9 [(0, .ref (ad 0 8)), (2, .int (jI x2)), (3, .int (jI x3)), (4, .int (jI x4)), (5, .int (jI x5)), (6, .int (jI x6))] → R11 x2 x3 x4 x5 x6 u → W p l e R s m args below meth c H locs 0 0 Qf (F0 m 11 ls [])) {x2 x3 x4 x6 : Int} (rx2 : inR x2) (rx3 : inR x3) (rx4 : inR x4) (rx6 : inR x6) (hw : yW D ca A ad s H locs u) (hl : lv_has ls 9 [(0, .ref (ad 0 8)), (2, .int (jI x2)), (3, .int (jI x3)), (4, .int (jI x4)), (6, .int (jI x6))]) (h : v_10_rebuilt_242 R11 Q x2 x3 x4 x6 u) : W p l e R s m args below meth c H locs 0 0 Qf (F0 m 242 ls []) := by
  have hx := X.1.1
  have hb := X.1.2.1
  unfold v_10_rebuilt_242 at h
  refine lv_iload_n hx hb dX10_rebuilt_242 rfl (lv_at hl 2 rfl) ?_
  refine k_if_ne hx hb rx3 dX10_rebuilt_243 (tgt := 253) rfl h (fun h => ?_) (fun h => ?_)
  · refine lv_aload_n hx hb dX10_rebuilt_253 rfl (lv_at hl 0 rfl) ?_
    refine yg_10_55 X hw dX10_rebuilt_254 ?_
    refine lv_aload_n hx hb dX10_rebuilt_257 rfl (lv_at hl 0 rfl) ?_
    refine yg_10_37 X hw dX10_rebuilt_258 ?_
    refine lv_iload_n hx hb dX10_rebuilt_261 rfl (lv_at hl 2 rfl) ?_
    refine lv_iconst hx hb dX10_rebuilt_262 (v := jI 1) rfl ?_
    refine k_isub hx hb dX10_rebuilt_263 h (fun r3 h => ?_)
    refine yl_38 X hw r3 dX10_rebuilt_264 h (fun v4 rv4 h => ?_)
    refine ycI (n := 1) (e_7_left rv4 h) 7 6 (r := (RX7, TX7, 9)) rfl yG_10_72 yD_7_left X hw rfl yGo_7 (Nat.le_trans (Nat.le_of_ble_eq_true rfl) hRf) (Nat.le_trans (Nat.le_of_ble_eq_true rfl) hRl) rfl hl.1 (Nat.le_of_ble_eq_true rfl) rfl dX10_rebuilt_265 (fun v5 u H locs rv5 h hw => ?_)
    refine lv_istore hx hb dX10_rebuilt_268 hl (by decide) rfl (fun ls hl => ?_)
    have hl : lv_has ls 9 [(5, .int (jI v5)), (0, .ref (ad 0 8)), (2, .int (jI x2)), (3, .int (jI x3)), (4, .int (jI x4)), (6, .int (jI x6))] := hl
    refine lv_aload_n hx hb dX10_rebuilt_270 rfl (lv_at hl 1 rfl) ?_
    refine yg_10_37 X hw dX10_rebuilt_271 ?_
    refine lv_iload_n hx hb dX10_rebuilt_274 rfl (lv_at hl 3 rfl) ?_
    refine lv_iconst hx hb dX10_rebuilt_275 (v := jI 1) rfl ?_
    refine k_isub hx hb dX10_rebuilt_276 h (fun r6 h => ?_)
    refine lv_aload_n hx hb dX10_rebuilt_277 rfl (lv_at hl 1 rfl) ?_
    refine yg_10_55 X hw dX10_rebuilt_278 ?_
    refine lv_aload_n hx hb dX10_rebuilt_281 rfl (lv_at hl 1 rfl) ?_
    refine yg_10_37 X hw dX10_rebuilt_282 ?_
    refine lv_iload_n hx hb dX10_rebuilt_285 rfl (lv_at hl 3 rfl) ?_
    refine lv_iconst hx hb dX10_rebuilt_286 (v := jI 1) rfl ?_
    refine k_isub hx hb dX10_rebuilt_287 h (fun r7 h => ?_)
    refine yl_38 X hw r7 dX10_rebuilt_288 h (fun v8 rv8 h => ?_)
    refine ycI (n := 1) (e_7_right rv8 h) 7 6 (r := (RX7, TX7, 9)) rfl yG_10_77 yD_7_right X hw rfl yGo_7 (Nat.le_trans (Nat.le_of_ble_eq_true rfl) hRf) (Nat.le_trans (Nat.le_of_ble_eq_true rfl) hRl) rfl hl.1 (Nat.le_of_ble_eq_true rfl) rfl dX10_rebuilt_289 (fun v9 u H locs rv9 h hw => ?_)
    refine yt_38 X hw r6 rv9 dX10_rebuilt_292 h (fun H locs u hw h => ?_)
    refine k_iinc (k := 5) hx hb dX10_rebuilt_293 hl rfl (by decide) rfl h (fun ls r10 h hl => ?_)
    have hl : lv_has ls 9 [(6, .int (jI (x6 + 1))), (5, .int (jI v5)), (0, .ref (ad 0 8)), (2, .int (jI x2)), (3, .int (jI x3)), (4, .int (jI x4))] := hl
    refine lv_goto hx hb dX10_rebuilt_296 (tgt := 11) rfl ?_
    exact hR11 _ _ _ _ _ _ H locs ls rx2 rx3 rx4 rv5 r10 hw (lv_sub hl [2, 3, 4, 5, 1, 0] rfl) h
  · refine lv_aload_n hx hb dX10_rebuilt_246 rfl (lv_at hl 0 rfl) ?_
    refine yg_10_43 X hw dX10_rebuilt_247 ?_
    refine lv_iconst hx hb dX10_rebuilt_250 (v := jI 0) rfl ?_
    refine yl_40 X hw (by decide) dX10_rebuilt_251 h (fun v11 rv11 h => ?_)
    exact hret _ _ _ _ _ _ rv11 h hw dX10_rebuilt_252

def v_10_rebuilt_156b (R11 : Int → Int → Int → Int → Int → iST → Prop) (R128 : Int → Int → Int → Int → iST → Prop) (R156 : Int → Int → Int → Int → Int → iST → Prop) (Q : Int → iST → Prop) (x2 : Int) (x3 : Int) (x4 : Int) (x6 : Int) (x8 : Int) (u : iST) : Prop :=
  bd x3 128 (rd (u.2.1 39 x3) (fun v16 => 
  br (x4 ≤ v16) (
    bd x3 128 (rd (u.2.1 37 x3) (fun v17 => 
    v_11_pairCell v17 x8 (fun v18 u => 
    v_7_made v18 (fun v19 u => 
    bd x4 768 (sw (iA u 40 x4 v19) (fun u => 
    bd x4 768 (rd (u.2.1 40 x4) (fun v20 => 
    v_10_isTooBig v20 x2 (fun v21 u => 
    br (v21 = 0) (
      ov (x4 + 1) (
      R128 x2 x3 (x4 + 1) x6 u)) (
      Q (-1) u)) u))))) u) u))) (
    ov (x4 + (-1)) (
    bd (x4 + (-1)) 768 (rd (u.2.1 40 (x4 + (-1))) (fun v24 => 
    v_11_pairCell v24 x8 (fun v25 u => 
    v_7_made v25 (fun v26 u => 
    R156 x2 x3 (x4 + (-1)) x6 v26 u) u) u))))))
def v_10_rebuilt_156 (R11 : Int → Int → Int → Int → Int → iST → Prop) (R128 : Int → Int → Int → Int → iST → Prop) (Q : Int → iST → Prop) (x2 : Int) (x3 : Int) (x4 : Int) (x6 : Int) (x8 : Int) (u : iST) : Prop := ∀ R156 : Int → Int → Int → Int → Int → iST → Prop, (∀ (x2 : Int) (x3 : Int) (x4 : Int) (x6 : Int) (x8 : Int) (u : iST), v_10_rebuilt_156b R11 R128 R156 Q x2 x3 x4 x6 x8 u → R156 x2 x3 x4 x6 x8 u) → R156 x2 x3 x4 x6 x8 u
set_option maxRecDepth 20000 in
set_option maxHeartbeats 4000000 in
theorem f_10_rebuilt_156 (X : yX RX10 p m c cX10_rebuilt 9 s args D ca ad A) (hRf : 2 ≤ R.frames) (hRl : 47 ≤ R.locals) {Q : Int → iST → Prop} (hret : ∀ (v : Int) (u : iST) (H : Heap) (locs : List Loc) (ls : Array Slot) (pc : Nat), inR v → Q v u → yW D ca A ad s H locs u → decode cX10_rebuilt pc = .ok (.ireturn, 1) → W p l e R s m args below meth c H locs 0 0 Qf (F0 m pc ls [.int (jI v)])) {R11 : Int → Int → Int → Int → Int → iST → Prop} (hR11 : ∀ (x2 : Int) (x3 : Int) (x4 : Int) (x5 : Int) (x6 : Int) (u : iST) (H : Heap) (locs : List Loc) (ls : Array Slot), inR x2 → inR x3 → inR x4 → inR x5 → inR x6 → yW D ca A ad s H locs u → lv_has ls 9 [(0, .ref (ad 0 8)), (2, .int (jI x2)), (3, .int (jI x3)), (4, .int (jI x4)), (5, .int (jI x5)), (6, .int (jI x6))] → R11 x2 x3 x4 x5 x6 u → W p l e R s m args below meth c H locs 0 0 Qf (F0 m 11 ls [])) {R128 : Int → Int → Int → Int → iST → Prop} (hR128 : ∀ (x2 : Int) (x3 : Int) (x4 : Int) (x6 : Int) (u : iST) (H : Heap) (locs : List Loc) (ls : Array Slot), inR x2 → inR x3 → inR x4 → inR x6 → yW D ca A ad s H locs u → lv_has ls 9 [(0, .ref (ad 0 8)), (2, .int (jI x2)), (3, .int (jI x3)), (4, .int (jI x4)), (6, .int (jI x6))] → R128 x2 x3 x4 x6 u → W p l e R s m args below meth c H locs 0 0 Qf (F0 m 128 ls [])) {x2 x3 x4 x6 x8 : Int} (rx2 : inR x2) (rx3 : inR x3) (rx4 : inR x4) (rx6 : inR x6) (rx8 : inR x8) (hw : yW D ca A ad s H locs u) (hl : lv_has ls 9 [(0, .ref (ad 0 8)), (2, .int (jI x2)), (3, .int (jI x3)), (4, .int (jI x4)), (6, .int (jI x6)), (8, .int (jI x8))]) (h : v_10_rebuilt_156 R11 R128 Q x2 x3 x4 x6 x8 u) : W p l e R s m args below meth c H locs 0 0 Qf (F0 m 156 ls []) := by
  refine h (fun x2 x3 x4 x6 x8 u => ∀ (H : Heap) (locs : List Loc) (ls : Array Slot), inR x2 → inR x3 → inR x4 → inR x6 → inR x8 → yW D ca A ad s H locs u → lv_has ls 9 [(0, .ref (ad 0 8)), (2, .int (jI x2)), (3, .int (jI x3)), (4, .int (jI x4)), (6, .int (jI x6)), (8, .int (jI x8))] → W p l e R s m args below meth c H locs 0 0 Qf (F0 m 156 ls [])) ?_ H locs ls rx2 rx3 rx4 rx6 rx8 hw hl
  clear h hl hw rx2 rx3 rx4 rx6 rx8
  intro x2 x3 x4 x6 x8 u h H locs ls rx2 rx3 rx4 rx6 rx8 hw hl
  have hR156 : ∀ (x2 : Int) (x3 : Int) (x4 : Int) (x6 : Int) (x8 : Int) (u : iST) (H : Heap) (locs : List Loc) (ls : Array Slot), inR x2 → inR x3 → inR x4 → inR x6 → inR x8 → yW D ca A ad s H locs u → lv_has ls 9 [(0, .ref (ad 0 8)), (2, .int (jI x2)), (3, .int (jI x3)), (4, .int (jI x4)), (6, .int (jI x6)), (8, .int (jI x8))] → (fun (x2 : Int) (x3 : Int) (x4 : Int) (x6 : Int) (x8 : Int) u => ∀ (H : Heap) (locs : List Loc) (ls : Array Slot), inR x2 → inR x3 → inR x4 → inR x6 → inR x8 → yW D ca A ad s H locs u → lv_has ls 9 [(0, .ref (ad 0 8)), (2, .int (jI x2)), (3, .int (jI x3)), (4, .int (jI x4)), (6, .int (jI x6)), (8, .int (jI x8))] → W p l e R s m args below meth c H locs 0 0 Qf (F0 m 156 ls [])) x2 x3 x4 x6 x8 u → W p l e R s m args below meth c H locs 0 0 Qf (F0 m 156 ls []) := fun x2 x3 x4 x6 x8 u H locs ls rx2 rx3 rx4 rx6 rx8 hw hl h => h H locs ls rx2 rx3 rx4 rx6 rx8 hw hl
  have hx := X.1.1
  have hb := X.1.2.1
  unfold v_10_rebuilt_156b at h
  refine lv_iload hx hb dX10_rebuilt_156 (lv_at hl 3 rfl) ?_
  refine lv_aload_n hx hb dX10_rebuilt_158 rfl (lv_at hl 0 rfl) ?_
  refine yg_10_40 X hw dX10_rebuilt_159 ?_
  refine lv_iload_n hx hb dX10_rebuilt_162 rfl (lv_at hl 2 rfl) ?_
  refine yl_39 X hw rx3 dX10_rebuilt_163 h (fun v16 rv16 h => ?_)
  refine k_icmp_le hx hb rx4 rv16 dX10_rebuilt_164 (tgt := 194) rfl h (fun h => ?_) (fun h => ?_)
  · refine lv_aload_n hx hb dX10_rebuilt_194 rfl (lv_at hl 0 rfl) ?_
    refine yg_10_43 X hw dX10_rebuilt_195 ?_
    refine lv_iload hx hb dX10_rebuilt_198 (lv_at hl 3 rfl) ?_
    refine lv_aload_n hx hb dX10_rebuilt_200 rfl (lv_at hl 0 rfl) ?_
    refine yg_10_55 X hw dX10_rebuilt_201 ?_
    refine lv_aload_n hx hb dX10_rebuilt_204 rfl (lv_at hl 0 rfl) ?_
    refine yg_10_34 X hw dX10_rebuilt_205 ?_
    refine lv_iload_n hx hb dX10_rebuilt_208 rfl (lv_at hl 2 rfl) ?_
    refine yl_37 X hw rx3 dX10_rebuilt_209 h (fun v17 rv17 h => ?_)
    refine lv_iload hx hb dX10_rebuilt_210 (lv_at hl 5 rfl) ?_
    refine ycSN (n := 2) (e_11_pairCell rv17 rx8 h) (host := "ProofHouse") rfl goodPair yD_11_pairCell.2 X hw (yNm_10_84 X.2.2.1) (ysI_in (List.mem_of_getElem? (i := 11) rfl)) statPair (Nat.le_trans (Nat.le_of_ble_eq_true rfl) hRf) (Nat.le_trans (Nat.le_of_ble_eq_true rfl) hRl) rfl hl.1 (Nat.le_of_ble_eq_true rfl) rfl dX10_rebuilt_212 (fun v18 u H locs rv18 h hw => ?_)
    refine ycI (n := 1) (e_7_made rv18 h) 7 6 (r := (RX7, TX7, 9)) rfl yG_10_88 yD_7_made X hw rfl yGo_7 (Nat.le_trans (Nat.le_of_ble_eq_true rfl) hRf) (Nat.le_trans (Nat.le_of_ble_eq_true rfl) hRl) rfl hl.1 (Nat.le_of_ble_eq_true rfl) rfl dX10_rebuilt_215 (fun v19 u H locs rv19 h hw => ?_)
    refine yt_40 X hw rx4 rv19 dX10_rebuilt_218 h (fun H locs u hw h => ?_)
    refine lv_aload_n hx hb dX10_rebuilt_219 rfl (lv_at hl 0 rfl) ?_
    refine lv_aload_n hx hb dX10_rebuilt_220 rfl (lv_at hl 0 rfl) ?_
    refine yg_10_43 X hw dX10_rebuilt_221 ?_
    refine lv_iload hx hb dX10_rebuilt_224 (lv_at hl 3 rfl) ?_
    refine yl_40 X hw rx4 dX10_rebuilt_226 h (fun v20 rv20 h => ?_)
    refine lv_iload_n hx hb dX10_rebuilt_227 rfl (lv_at hl 1 rfl) ?_
    refine ycI (n := 2) (e_10_isTooBig rv20 rx2 h) 10 8 (r := (RX10, TX10, 16)) rfl yG_10_92 yD_10_isTooBig X hw rfl yGo_10 (Nat.le_trans (Nat.le_of_ble_eq_true rfl) hRf) (Nat.le_trans (Nat.le_of_ble_eq_true rfl) hRl) rfl hl.1 (Nat.le_of_ble_eq_true rfl) rfl dX10_rebuilt_228 (fun v21 u H locs rv21 h hw => ?_)
    refine k_if_eq hx hb rv21 dX10_rebuilt_231 (tgt := 236) rfl h (fun h => ?_) (fun h => ?_)
    · refine k_iinc (k := 3) hx hb dX10_rebuilt_236 hl rfl (by decide) rfl h (fun ls r22 h hl => ?_)
      have hl : lv_has ls 9 [(4, .int (jI (x4 + 1))), (0, .ref (ad 0 8)), (2, .int (jI x2)), (3, .int (jI x3)), (6, .int (jI x6)), (8, .int (jI x8))] := hl
      refine lv_goto hx hb dX10_rebuilt_239 (tgt := 128) rfl ?_
      exact hR128 _ _ _ _ _ H locs ls rx2 rx3 r22 rx6 hw (lv_sub hl [1, 2, 3, 0, 4] rfl) h
    · refine lv_iconst hx hb dX10_rebuilt_234 (v := jI (-1)) rfl ?_
      exact hret _ _ _ _ _ _ (by decide) h hw dX10_rebuilt_235
  · refine k_iinc (k := 3) hx hb dX10_rebuilt_167 hl rfl (by decide) rfl h (fun ls r23 h hl => ?_)
    have hl : lv_has ls 9 [(4, .int (jI (x4 + (-1)))), (0, .ref (ad 0 8)), (2, .int (jI x2)), (3, .int (jI x3)), (6, .int (jI x6)), (8, .int (jI x8))] := hl
    refine lv_aload_n hx hb dX10_rebuilt_170 rfl (lv_at hl 1 rfl) ?_
    refine yg_10_55 X hw dX10_rebuilt_171 ?_
    refine lv_aload_n hx hb dX10_rebuilt_174 rfl (lv_at hl 1 rfl) ?_
    refine yg_10_43 X hw dX10_rebuilt_175 ?_
    refine lv_iload hx hb dX10_rebuilt_178 (lv_at hl 0 rfl) ?_
    refine yl_40 X hw r23 dX10_rebuilt_180 h (fun v24 rv24 h => ?_)
    refine lv_iload hx hb dX10_rebuilt_181 (lv_at hl 5 rfl) ?_
    refine ycSN (n := 2) (e_11_pairCell rv24 rx8 h) (host := "ProofHouse") rfl goodPair yD_11_pairCell.2 X hw (yNm_10_84 X.2.2.1) (ysI_in (List.mem_of_getElem? (i := 11) rfl)) statPair (Nat.le_trans (Nat.le_of_ble_eq_true rfl) hRf) (Nat.le_trans (Nat.le_of_ble_eq_true rfl) hRl) rfl hl.1 (Nat.le_of_ble_eq_true rfl) rfl dX10_rebuilt_183 (fun v25 u H locs rv25 h hw => ?_)
    refine ycI (n := 1) (e_7_made rv25 h) 7 6 (r := (RX7, TX7, 9)) rfl yG_10_88 yD_7_made X hw rfl yGo_7 (Nat.le_trans (Nat.le_of_ble_eq_true rfl) hRf) (Nat.le_trans (Nat.le_of_ble_eq_true rfl) hRl) rfl hl.1 (Nat.le_of_ble_eq_true rfl) rfl dX10_rebuilt_186 (fun v26 u H locs rv26 h hw => ?_)
    refine lv_istore hx hb dX10_rebuilt_189 hl (by decide) rfl (fun ls hl => ?_)
    have hl : lv_has ls 9 [(8, .int (jI v26)), (4, .int (jI (x4 + (-1)))), (0, .ref (ad 0 8)), (2, .int (jI x2)), (3, .int (jI x3)), (6, .int (jI x6))] := hl
    refine lv_goto hx hb dX10_rebuilt_191 (tgt := 156) rfl ?_
    exact hR156 _ _ _ _ _ _ H locs ls rx2 rx3 r23 rx6 rv26 hw (lv_sub hl [2, 3, 4, 1, 5, 0] rfl) h

def v_10_rebuilt_128b (R11 : Int → Int → Int → Int → Int → iST → Prop) (R128 : Int → Int → Int → Int → iST → Prop) (Q : Int → iST → Prop) (x2 : Int) (x3 : Int) (x4 : Int) (x6 : Int) (u : iST) : Prop :=
  br (x3 ≤ 0) (
    v_10_rebuilt_242 R11 Q x2 x3 x4 x6 u) (
    ov (x3 - 1) (
    bd (x3 - 1) 128 (rd (u.2.1 38 (x3 - 1)) (fun v13 => 
    v_7_isPair v13 (fun v14 u => 
    br (v14 ≠ 0) (
      v_10_rebuilt_242 R11 Q x2 x3 x4 x6 u) (
      ov (x3 + (-1)) (
      v_10_rebuilt_156 R11 R128 Q x2 (x3 + (-1)) x4 x6 0 u))) u))))
def v_10_rebuilt_128 (R11 : Int → Int → Int → Int → Int → iST → Prop) (Q : Int → iST → Prop) (x2 : Int) (x3 : Int) (x4 : Int) (x6 : Int) (u : iST) : Prop := ∀ R128 : Int → Int → Int → Int → iST → Prop, (∀ (x2 : Int) (x3 : Int) (x4 : Int) (x6 : Int) (u : iST), v_10_rebuilt_128b R11 R128 Q x2 x3 x4 x6 u → R128 x2 x3 x4 x6 u) → R128 x2 x3 x4 x6 u
set_option maxRecDepth 20000 in
set_option maxHeartbeats 4000000 in
theorem f_10_rebuilt_128 (X : yX RX10 p m c cX10_rebuilt 9 s args D ca ad A) (hRf : 2 ≤ R.frames) (hRl : 47 ≤ R.locals) {Q : Int → iST → Prop} (hret : ∀ (v : Int) (u : iST) (H : Heap) (locs : List Loc) (ls : Array Slot) (pc : Nat), inR v → Q v u → yW D ca A ad s H locs u → decode cX10_rebuilt pc = .ok (.ireturn, 1) → W p l e R s m args below meth c H locs 0 0 Qf (F0 m pc ls [.int (jI v)])) {R11 : Int → Int → Int → Int → Int → iST → Prop} (hR11 : ∀ (x2 : Int) (x3 : Int) (x4 : Int) (x5 : Int) (x6 : Int) (u : iST) (H : Heap) (locs : List Loc) (ls : Array Slot), inR x2 → inR x3 → inR x4 → inR x5 → inR x6 → yW D ca A ad s H locs u → lv_has ls 9 [(0, .ref (ad 0 8)), (2, .int (jI x2)), (3, .int (jI x3)), (4, .int (jI x4)), (5, .int (jI x5)), (6, .int (jI x6))] → R11 x2 x3 x4 x5 x6 u → W p l e R s m args below meth c H locs 0 0 Qf (F0 m 11 ls [])) {x2 x3 x4 x6 : Int} (rx2 : inR x2) (rx3 : inR x3) (rx4 : inR x4) (rx6 : inR x6) (hw : yW D ca A ad s H locs u) (hl : lv_has ls 9 [(0, .ref (ad 0 8)), (2, .int (jI x2)), (3, .int (jI x3)), (4, .int (jI x4)), (6, .int (jI x6))]) (h : v_10_rebuilt_128 R11 Q x2 x3 x4 x6 u) : W p l e R s m args below meth c H locs 0 0 Qf (F0 m 128 ls []) := by
  refine h (fun x2 x3 x4 x6 u => ∀ (H : Heap) (locs : List Loc) (ls : Array Slot), inR x2 → inR x3 → inR x4 → inR x6 → yW D ca A ad s H locs u → lv_has ls 9 [(0, .ref (ad 0 8)), (2, .int (jI x2)), (3, .int (jI x3)), (4, .int (jI x4)), (6, .int (jI x6))] → W p l e R s m args below meth c H locs 0 0 Qf (F0 m 128 ls [])) ?_ H locs ls rx2 rx3 rx4 rx6 hw hl
  clear h hl hw rx2 rx3 rx4 rx6
  intro x2 x3 x4 x6 u h H locs ls rx2 rx3 rx4 rx6 hw hl
  have hR128 : ∀ (x2 : Int) (x3 : Int) (x4 : Int) (x6 : Int) (u : iST) (H : Heap) (locs : List Loc) (ls : Array Slot), inR x2 → inR x3 → inR x4 → inR x6 → yW D ca A ad s H locs u → lv_has ls 9 [(0, .ref (ad 0 8)), (2, .int (jI x2)), (3, .int (jI x3)), (4, .int (jI x4)), (6, .int (jI x6))] → (fun (x2 : Int) (x3 : Int) (x4 : Int) (x6 : Int) u => ∀ (H : Heap) (locs : List Loc) (ls : Array Slot), inR x2 → inR x3 → inR x4 → inR x6 → yW D ca A ad s H locs u → lv_has ls 9 [(0, .ref (ad 0 8)), (2, .int (jI x2)), (3, .int (jI x3)), (4, .int (jI x4)), (6, .int (jI x6))] → W p l e R s m args below meth c H locs 0 0 Qf (F0 m 128 ls [])) x2 x3 x4 x6 u → W p l e R s m args below meth c H locs 0 0 Qf (F0 m 128 ls []) := fun x2 x3 x4 x6 u H locs ls rx2 rx3 rx4 rx6 hw hl h => h H locs ls rx2 rx3 rx4 rx6 hw hl
  have hx := X.1.1
  have hb := X.1.2.1
  unfold v_10_rebuilt_128b at h
  refine lv_iload_n hx hb dX10_rebuilt_128 rfl (lv_at hl 2 rfl) ?_
  refine k_if_le hx hb rx3 dX10_rebuilt_129 (tgt := 242) rfl h (fun h => ?_) (fun h => ?_)
  · exact f_10_rebuilt_242 X hRf hRl hret hR11 rx2 rx3 rx4 rx6 hw hl h
  · refine lv_aload_n hx hb dX10_rebuilt_132 rfl (lv_at hl 0 rfl) ?_
    refine yg_10_55 X hw dX10_rebuilt_133 ?_
    refine lv_aload_n hx hb dX10_rebuilt_136 rfl (lv_at hl 0 rfl) ?_
    refine yg_10_37 X hw dX10_rebuilt_137 ?_
    refine lv_iload_n hx hb dX10_rebuilt_140 rfl (lv_at hl 2 rfl) ?_
    refine lv_iconst hx hb dX10_rebuilt_141 (v := jI 1) rfl ?_
    refine k_isub hx hb dX10_rebuilt_142 h (fun r12 h => ?_)
    refine yl_38 X hw r12 dX10_rebuilt_143 h (fun v13 rv13 h => ?_)
    refine ycI (n := 1) (e_7_isPair rv13 h) 7 6 (r := (RX7, TX7, 9)) rfl yG_10_80 yD_7_isPair X hw rfl yGo_7 (Nat.le_trans (Nat.le_of_ble_eq_true rfl) hRf) (Nat.le_trans (Nat.le_of_ble_eq_true rfl) hRl) rfl hl.1 (Nat.le_of_ble_eq_true rfl) rfl dX10_rebuilt_144 (fun v14 u H locs rv14 h hw => ?_)
    refine k_if_ne hx hb rv14 dX10_rebuilt_147 (tgt := 242) rfl h (fun h => ?_) (fun h => ?_)
    · exact f_10_rebuilt_242 X hRf hRl hret hR11 rx2 rx3 rx4 rx6 hw hl h
    · refine k_iinc (k := 2) hx hb dX10_rebuilt_150 hl rfl (by decide) rfl h (fun ls r15 h hl => ?_)
      have hl : lv_has ls 9 [(3, .int (jI (x3 + (-1)))), (0, .ref (ad 0 8)), (2, .int (jI x2)), (4, .int (jI x4)), (6, .int (jI x6))] := hl
      refine lv_iconst hx hb dX10_rebuilt_153 (v := jI 0) rfl ?_
      refine lv_istore hx hb dX10_rebuilt_154 hl (by decide) rfl (fun ls hl => ?_)
      have hl : lv_has ls 9 [(8, .int (jI 0)), (3, .int (jI (x3 + (-1)))), (0, .ref (ad 0 8)), (2, .int (jI x2)), (4, .int (jI x4)), (6, .int (jI x6))] := hl
      exact f_10_rebuilt_156 X hRf hRl hret hR11 hR128 rx2 r15 rx4 rx6 (by decide) hw (lv_sub hl [2, 3, 1, 4, 5, 0] rfl) h

def v_10_rebuilt_38 (R11 : Int → Int → Int → Int → Int → iST → Prop) (Q : Int → iST → Prop) (x2 : Int) (x3 : Int) (x4 : Int) (x5 : Int) (x6 : Int) (y0 : Int) (u : iST) : Prop :=
  br (y0 = (-1)) (
    Q (-1) u) (
    br (128 ≤ x3) (
      Q (-1) u) (
      br (x4 < 768) (
        br (y0 ≠ (-2)) (
          bd x4 768 (sw (iA u 40 x4 y0) (fun u => 
          ov (x4 + 1) (
          v_10_rebuilt_128 R11 Q x2 x3 (x4 + 1) x6 u)))) (
          v_7_left x5 (fun v27 u => 
          bd x3 128 (sw (iA u 37 x3 v27) (fun u => 
          v_7_right x5 (fun v28 u => 
          bd x3 128 (sw (iA u 38 x3 v28) (fun u => 
          bd x3 128 (sw (iA u 39 x3 x4) (fun u => 
          ov (x3 + 1) (
          v_10_rebuilt_128 R11 Q x2 (x3 + 1) x4 x6 u)))))) u))) u)) (
        Q (-1) u)))
set_option maxRecDepth 20000 in
set_option maxHeartbeats 4000000 in
theorem f_10_rebuilt_38 (X : yX RX10 p m c cX10_rebuilt 9 s args D ca ad A) (hRf : 2 ≤ R.frames) (hRl : 47 ≤ R.locals) {Q : Int → iST → Prop} (hret : ∀ (v : Int) (u : iST) (H : Heap) (locs : List Loc) (ls : Array Slot) (pc : Nat), inR v → Q v u → yW D ca A ad s H locs u → decode cX10_rebuilt pc = .ok (.ireturn, 1) → W p l e R s m args below meth c H locs 0 0 Qf (F0 m pc ls [.int (jI v)])) {R11 : Int → Int → Int → Int → Int → iST → Prop} (hR11 : ∀ (x2 : Int) (x3 : Int) (x4 : Int) (x5 : Int) (x6 : Int) (u : iST) (H : Heap) (locs : List Loc) (ls : Array Slot), inR x2 → inR x3 → inR x4 → inR x5 → inR x6 → yW D ca A ad s H locs u → lv_has ls 9 [(0, .ref (ad 0 8)), (2, .int (jI x2)), (3, .int (jI x3)), (4, .int (jI x4)), (5, .int (jI x5)), (6, .int (jI x6))] → R11 x2 x3 x4 x5 x6 u → W p l e R s m args below meth c H locs 0 0 Qf (F0 m 11 ls [])) {x2 x3 x4 x5 x6 y0 : Int} (rx2 : inR x2) (rx3 : inR x3) (rx4 : inR x4) (rx5 : inR x5) (rx6 : inR x6) (ry0 : inR y0) (hw : yW D ca A ad s H locs u) (hl : lv_has ls 9 [(0, .ref (ad 0 8)), (2, .int (jI x2)), (3, .int (jI x3)), (4, .int (jI x4)), (5, .int (jI x5)), (6, .int (jI x6))]) (h : v_10_rebuilt_38 R11 Q x2 x3 x4 x5 x6 y0 u) : W p l e R s m args below meth c H locs 0 0 Qf (F0 m 38 ls [.int (jI y0)]) := by
  have hx := X.1.1
  have hb := X.1.2.1
  unfold v_10_rebuilt_38 at h
  refine lv_istore hx hb dX10_rebuilt_38 hl (by decide) rfl (fun ls hl => ?_)
  have hl : lv_has ls 9 [(7, .int (jI y0)), (0, .ref (ad 0 8)), (2, .int (jI x2)), (3, .int (jI x3)), (4, .int (jI x4)), (5, .int (jI x5)), (6, .int (jI x6))] := hl
  refine lv_iload hx hb dX10_rebuilt_40 (lv_at hl 0 rfl) ?_
  refine lv_iconst hx hb dX10_rebuilt_42 (v := jI (-1)) rfl ?_
  refine k_icmp_eq hx hb ry0 (by decide) dX10_rebuilt_43 (tgt := 63) rfl h (fun h => ?_) (fun h => ?_)
  · refine lv_iconst hx hb dX10_rebuilt_63 (v := jI (-1)) rfl ?_
    exact hret _ _ _ _ _ _ (by decide) h hw dX10_rebuilt_64
  · refine lv_iload_n hx hb dX10_rebuilt_46 rfl (lv_at hl 3 rfl) ?_
    refine lv_sipush hx hb dX10_rebuilt_47 (v := jI 128) rfl ?_
    refine k_icmp_ge hx hb rx3 (by decide) dX10_rebuilt_50 (tgt := 63) rfl h (fun h => ?_) (fun h => ?_)
    · refine lv_iconst hx hb dX10_rebuilt_63 (v := jI (-1)) rfl ?_
      exact hret _ _ _ _ _ _ (by decide) h hw dX10_rebuilt_64
    · refine lv_iload hx hb dX10_rebuilt_53 (lv_at hl 4 rfl) ?_
      refine lv_aload_n hx hb dX10_rebuilt_55 rfl (lv_at hl 1 rfl) ?_
      refine yg_10_43 X hw dX10_rebuilt_56 ?_
      refine yn_40 X hw dX10_rebuilt_59 ?_
      refine k_icmp_lt hx hb rx4 (by decide) dX10_rebuilt_60 (tgt := 65) rfl h (fun h => ?_) (fun h => ?_)
      · refine lv_iload hx hb dX10_rebuilt_65 (lv_at hl 0 rfl) ?_
        refine lv_bipush hx hb dX10_rebuilt_67 (v := jI (-2)) rfl ?_
        refine k_icmp_ne hx hb ry0 (by decide) dX10_rebuilt_69 (tgt := 116) rfl h (fun h => ?_) (fun h => ?_)
        · refine lv_aload_n hx hb dX10_rebuilt_116 rfl (lv_at hl 1 rfl) ?_
          refine yg_10_43 X hw dX10_rebuilt_117 ?_
          refine lv_iload hx hb dX10_rebuilt_120 (lv_at hl 4 rfl) ?_
          refine lv_iload hx hb dX10_rebuilt_122 (lv_at hl 0 rfl) ?_
          refine yt_40 X hw rx4 ry0 dX10_rebuilt_124 h (fun H locs u hw h => ?_)
          refine k_iinc (k := 4) hx hb dX10_rebuilt_125 hl rfl (by decide) rfl h (fun ls r2 h hl => ?_)
          have hl : lv_has ls 9 [(4, .int (jI (x4 + 1))), (7, .int (jI y0)), (0, .ref (ad 0 8)), (2, .int (jI x2)), (3, .int (jI x3)), (5, .int (jI x5)), (6, .int (jI x6))] := hl
          exact f_10_rebuilt_128 X hRf hRl hret hR11 rx2 rx3 r2 rx6 hw (lv_sub hl [2, 3, 4, 0, 6] rfl) h
        · refine lv_aload_n hx hb dX10_rebuilt_72 rfl (lv_at hl 1 rfl) ?_
          refine yg_10_34 X hw dX10_rebuilt_73 ?_
          refine lv_iload_n hx hb dX10_rebuilt_76 rfl (lv_at hl 3 rfl) ?_
          refine lv_aload_n hx hb dX10_rebuilt_77 rfl (lv_at hl 1 rfl) ?_
          refine yg_10_55 X hw dX10_rebuilt_78 ?_
          refine lv_iload hx hb dX10_rebuilt_81 (lv_at hl 5 rfl) ?_
          refine ycI (n := 1) (e_7_left rx5 h) 7 6 (r := (RX7, TX7, 9)) rfl yG_10_72 yD_7_left X hw rfl yGo_7 (Nat.le_trans (Nat.le_of_ble_eq_true rfl) hRf) (Nat.le_trans (Nat.le_of_ble_eq_true rfl) hRl) rfl hl.1 (Nat.le_of_ble_eq_true rfl) rfl dX10_rebuilt_83 (fun v27 u H locs rv27 h hw => ?_)
          refine yt_37 X hw rx3 rv27 dX10_rebuilt_86 h (fun H locs u hw h => ?_)
          refine lv_aload_n hx hb dX10_rebuilt_87 rfl (lv_at hl 1 rfl) ?_
          refine yg_10_37 X hw dX10_rebuilt_88 ?_
          refine lv_iload_n hx hb dX10_rebuilt_91 rfl (lv_at hl 3 rfl) ?_
          refine lv_aload_n hx hb dX10_rebuilt_92 rfl (lv_at hl 1 rfl) ?_
          refine yg_10_55 X hw dX10_rebuilt_93 ?_
          refine lv_iload hx hb dX10_rebuilt_96 (lv_at hl 5 rfl) ?_
          refine ycI (n := 1) (e_7_right rx5 h) 7 6 (r := (RX7, TX7, 9)) rfl yG_10_77 yD_7_right X hw rfl yGo_7 (Nat.le_trans (Nat.le_of_ble_eq_true rfl) hRf) (Nat.le_trans (Nat.le_of_ble_eq_true rfl) hRl) rfl hl.1 (Nat.le_of_ble_eq_true rfl) rfl dX10_rebuilt_98 (fun v28 u H locs rv28 h hw => ?_)
          refine yt_38 X hw rx3 rv28 dX10_rebuilt_101 h (fun H locs u hw h => ?_)
          refine lv_aload_n hx hb dX10_rebuilt_102 rfl (lv_at hl 1 rfl) ?_
          refine yg_10_40 X hw dX10_rebuilt_103 ?_
          refine lv_iload_n hx hb dX10_rebuilt_106 rfl (lv_at hl 3 rfl) ?_
          refine lv_iload hx hb dX10_rebuilt_107 (lv_at hl 4 rfl) ?_
          refine yt_39 X hw rx3 rx4 dX10_rebuilt_109 h (fun H locs u hw h => ?_)
          refine k_iinc (k := 3) hx hb dX10_rebuilt_110 hl rfl (by decide) rfl h (fun ls r29 h hl => ?_)
          have hl : lv_has ls 9 [(3, .int (jI (x3 + 1))), (7, .int (jI y0)), (0, .ref (ad 0 8)), (2, .int (jI x2)), (4, .int (jI x4)), (5, .int (jI x5)), (6, .int (jI x6))] := hl
          refine lv_goto hx hb dX10_rebuilt_113 (tgt := 128) rfl ?_
          exact f_10_rebuilt_128 X hRf hRl hret hR11 rx2 r29 rx4 rx6 hw (lv_sub hl [2, 3, 0, 4, 6] rfl) h
      · refine lv_iconst hx hb dX10_rebuilt_63 (v := jI (-1)) rfl ?_
        exact hret _ _ _ _ _ _ (by decide) h hw dX10_rebuilt_64

def v_10_rebuilt_11b (R11 : Int → Int → Int → Int → Int → iST → Prop) (Q : Int → iST → Prop) (x2 : Int) (x3 : Int) (x4 : Int) (x5 : Int) (x6 : Int) (u : iST) : Prop :=
  br (1000000 ≤ x6) (
    Q (-1) u) (
    br (x2 ≠ 0) (
      v_10_meaningOf x5 x2 (fun v1 u => 
      v_10_rebuilt_38 R11 Q x2 x3 x4 x5 x6 v1 u) u) (
      v_10_readMeaning x5 (fun v30 u => 
      v_10_rebuilt_38 R11 Q x2 x3 x4 x5 x6 v30 u) u))
def v_10_rebuilt_11 (Q : Int → iST → Prop) (x2 : Int) (x3 : Int) (x4 : Int) (x5 : Int) (x6 : Int) (u : iST) : Prop := ∀ R11 : Int → Int → Int → Int → Int → iST → Prop, (∀ (x2 : Int) (x3 : Int) (x4 : Int) (x5 : Int) (x6 : Int) (u : iST), v_10_rebuilt_11b R11 Q x2 x3 x4 x5 x6 u → R11 x2 x3 x4 x5 x6 u) → R11 x2 x3 x4 x5 x6 u
set_option maxRecDepth 20000 in
set_option maxHeartbeats 4000000 in
theorem f_10_rebuilt_11 (X : yX RX10 p m c cX10_rebuilt 9 s args D ca ad A) (hRf : 2 ≤ R.frames) (hRl : 47 ≤ R.locals) {Q : Int → iST → Prop} (hret : ∀ (v : Int) (u : iST) (H : Heap) (locs : List Loc) (ls : Array Slot) (pc : Nat), inR v → Q v u → yW D ca A ad s H locs u → decode cX10_rebuilt pc = .ok (.ireturn, 1) → W p l e R s m args below meth c H locs 0 0 Qf (F0 m pc ls [.int (jI v)])) {x2 x3 x4 x5 x6 : Int} (rx2 : inR x2) (rx3 : inR x3) (rx4 : inR x4) (rx5 : inR x5) (rx6 : inR x6) (hw : yW D ca A ad s H locs u) (hl : lv_has ls 9 [(0, .ref (ad 0 8)), (2, .int (jI x2)), (3, .int (jI x3)), (4, .int (jI x4)), (5, .int (jI x5)), (6, .int (jI x6))]) (h : v_10_rebuilt_11 Q x2 x3 x4 x5 x6 u) : W p l e R s m args below meth c H locs 0 0 Qf (F0 m 11 ls []) := by
  refine h (fun x2 x3 x4 x5 x6 u => ∀ (H : Heap) (locs : List Loc) (ls : Array Slot), inR x2 → inR x3 → inR x4 → inR x5 → inR x6 → yW D ca A ad s H locs u → lv_has ls 9 [(0, .ref (ad 0 8)), (2, .int (jI x2)), (3, .int (jI x3)), (4, .int (jI x4)), (5, .int (jI x5)), (6, .int (jI x6))] → W p l e R s m args below meth c H locs 0 0 Qf (F0 m 11 ls [])) ?_ H locs ls rx2 rx3 rx4 rx5 rx6 hw hl
  clear h hl hw rx2 rx3 rx4 rx5 rx6
  intro x2 x3 x4 x5 x6 u h H locs ls rx2 rx3 rx4 rx5 rx6 hw hl
  have hR11 : ∀ (x2 : Int) (x3 : Int) (x4 : Int) (x5 : Int) (x6 : Int) (u : iST) (H : Heap) (locs : List Loc) (ls : Array Slot), inR x2 → inR x3 → inR x4 → inR x5 → inR x6 → yW D ca A ad s H locs u → lv_has ls 9 [(0, .ref (ad 0 8)), (2, .int (jI x2)), (3, .int (jI x3)), (4, .int (jI x4)), (5, .int (jI x5)), (6, .int (jI x6))] → (fun (x2 : Int) (x3 : Int) (x4 : Int) (x5 : Int) (x6 : Int) u => ∀ (H : Heap) (locs : List Loc) (ls : Array Slot), inR x2 → inR x3 → inR x4 → inR x5 → inR x6 → yW D ca A ad s H locs u → lv_has ls 9 [(0, .ref (ad 0 8)), (2, .int (jI x2)), (3, .int (jI x3)), (4, .int (jI x4)), (5, .int (jI x5)), (6, .int (jI x6))] → W p l e R s m args below meth c H locs 0 0 Qf (F0 m 11 ls [])) x2 x3 x4 x5 x6 u → W p l e R s m args below meth c H locs 0 0 Qf (F0 m 11 ls []) := fun x2 x3 x4 x5 x6 u H locs ls rx2 rx3 rx4 rx5 rx6 hw hl h => h H locs ls rx2 rx3 rx4 rx5 rx6 hw hl
  have hx := X.1.1
  have hb := X.1.2.1
  unfold v_10_rebuilt_11b at h
  refine lv_iload hx hb dX10_rebuilt_11 (lv_at hl 5 rfl) ?_
  refine yld 63 yK_10_63 X dX10_rebuilt_13 ?_
  refine k_icmp_ge hx hb rx6 (by decide) dX10_rebuilt_15 (tgt := 299) rfl h (fun h => ?_) (fun h => ?_)
  · refine lv_iconst hx hb dX10_rebuilt_299 (v := jI (-1)) rfl ?_
    exact hret _ _ _ _ _ _ (by decide) h hw dX10_rebuilt_300
  · refine lv_iload_n hx hb dX10_rebuilt_18 rfl (lv_at hl 1 rfl) ?_
    refine k_if_ne hx hb rx2 dX10_rebuilt_19 (tgt := 31) rfl h (fun h => ?_) (fun h => ?_)
    · refine lv_aload_n hx hb dX10_rebuilt_31 rfl (lv_at hl 0 rfl) ?_
      refine lv_iload hx hb dX10_rebuilt_32 (lv_at hl 4 rfl) ?_
      refine lv_iload_n hx hb dX10_rebuilt_34 rfl (lv_at hl 1 rfl) ?_
      refine ycI (n := 2) (e_10_meaningOf rx5 rx2 h) 10 8 (r := (RX10, TX10, 16)) rfl yG_10_68 yD_10_meaningOf X hw rfl yGo_10 (Nat.le_trans (Nat.le_of_ble_eq_true rfl) hRf) (Nat.le_trans (Nat.le_of_ble_eq_true rfl) hRl) rfl hl.1 (Nat.le_of_ble_eq_true rfl) rfl dX10_rebuilt_35 (fun v1 u H locs rv1 h hw => ?_)
      exact f_10_rebuilt_38 X hRf hRl hret hR11 rx2 rx3 rx4 rx5 rx6 rv1 hw hl h
    · refine lv_aload_n hx hb dX10_rebuilt_22 rfl (lv_at hl 0 rfl) ?_
      refine lv_iload hx hb dX10_rebuilt_23 (lv_at hl 4 rfl) ?_
      refine ycI (n := 1) (e_10_readMeaning rx5 h) 10 8 (r := (RX10, TX10, 16)) rfl yG_10_64 yD_10_readMeaning X hw rfl yGo_10 (Nat.le_trans (Nat.le_of_ble_eq_true rfl) hRf) (Nat.le_trans (Nat.le_of_ble_eq_true rfl) hRl) rfl hl.1 (Nat.le_of_ble_eq_true rfl) rfl dX10_rebuilt_25 (fun v30 u H locs rv30 h hw => ?_)
      refine lv_goto hx hb dX10_rebuilt_28 (tgt := 38) rfl ?_
      exact f_10_rebuilt_38 X hRf hRl hret hR11 rx2 rx3 rx4 rx5 rx6 rv30 hw hl h

def v_10_rebuilt (a0 : Int) (a1 : Int) (Q : Int → iST → Prop) (u : iST) : Prop :=
  v_10_rebuilt_11 Q a1 0 0 a0 0 u
set_option maxRecDepth 20000 in
set_option maxHeartbeats 4000000 in
theorem f_10_rebuilt_s (X : yX RX10 p m c cX10_rebuilt 9 s args D ca ad A) (hRf : 2 ≤ R.frames) (hRl : 47 ≤ R.locals) {Q : Int → iST → Prop} (hret : ∀ (v : Int) (u : iST) (H : Heap) (locs : List Loc) (ls : Array Slot) (pc : Nat), inR v → Q v u → yW D ca A ad s H locs u → decode cX10_rebuilt pc = .ok (.ireturn, 1) → W p l e R s m args below meth c H locs 0 0 Qf (F0 m pc ls [.int (jI v)])) {a0 a1 : Int} (ra0 : inR a0) (ra1 : inR a1) (hw : yW D ca A ad s H locs u) (hl : lv_has ls 9 [(0, .ref (ad 0 8)), (1, .int (jI a0)), (2, .int (jI a1))]) (h : v_10_rebuilt a0 a1 Q u) : W p l e R s m args below meth c H locs 0 0 Qf (F0 m 0 ls []) := by
  have hx := X.1.1
  have hb := X.1.2.1
  unfold v_10_rebuilt at h
  refine lv_iconst hx hb dX10_rebuilt_0 (v := jI 0) rfl ?_
  refine lv_istore_n hx hb dX10_rebuilt_1 rfl hl (by decide) rfl (fun ls hl => ?_)
  have hl : lv_has ls 9 [(3, .int (jI 0)), (0, .ref (ad 0 8)), (1, .int (jI a0)), (2, .int (jI a1))] := hl
  refine lv_iconst hx hb dX10_rebuilt_2 (v := jI 0) rfl ?_
  refine lv_istore hx hb dX10_rebuilt_3 hl (by decide) rfl (fun ls hl => ?_)
  have hl : lv_has ls 9 [(4, .int (jI 0)), (3, .int (jI 0)), (0, .ref (ad 0 8)), (1, .int (jI a0)), (2, .int (jI a1))] := hl
  refine lv_iload_n hx hb dX10_rebuilt_5 rfl (lv_at hl 3 rfl) ?_
  refine lv_istore hx hb dX10_rebuilt_6 hl (by decide) rfl (fun ls hl => ?_)
  have hl : lv_has ls 9 [(5, .int (jI a0)), (4, .int (jI 0)), (3, .int (jI 0)), (0, .ref (ad 0 8)), (1, .int (jI a0)), (2, .int (jI a1))] := hl
  refine lv_iconst hx hb dX10_rebuilt_8 (v := jI 0) rfl ?_
  refine lv_istore hx hb dX10_rebuilt_9 hl (by decide) rfl (fun ls hl => ?_)
  have hl : lv_has ls 9 [(6, .int (jI 0)), (5, .int (jI a0)), (4, .int (jI 0)), (3, .int (jI 0)), (0, .ref (ad 0 8)), (1, .int (jI a0)), (2, .int (jI a1))] := hl
  exact f_10_rebuilt_11 X hRf hRl hret ra1 (by decide) (by decide) ra0 (by decide) hw (lv_sub hl [4, 6, 3, 2, 1, 0] rfl) h

end
theorem e_10_rebuilt {l : Launch} {a0 : Int} {a1 : Int} (ra0 : inR a0) (ra1 : inR a1) {Q : Int → iST → Prop} {u : iST} (h : v_10_rebuilt a0 a1 Q u) : yMI l yX10_rebuilt (.code yX10_rebuilt cX10_rebuilt 9 (some .int) :: wsN) { frames := 2, cells := 0, slots := 0, locals := 47 } (fun ad => [.ref (ad 0 8), .int (jI a0), .int (jI a1)]) Q u := yMI_of (own := RX10) rfl (by decide +kernel) (fun _ => Nat.le_of_ble_eq_true rfl) (fun X hRf hRl hret hw hl => f_10_rebuilt_s X hRf hRl hret ra0 ra1 hw hl h)
