/-! ProofHouse$Room.forget -/
theorem dX7_forget_0 : decode cX7_forget 0 = .ok (.aload_n 0, 1) := by decide +kernel
theorem dX7_forget_1 : decode cX7_forget 1 = .ok (.getfield 30, 3) := by decide +kernel
theorem dX7_forget_4 : decode cX7_forget 4 = .ok (.iconst 1, 1) := by decide +kernel
theorem dX7_forget_5 : decode cX7_forget 5 = .ok (.isub, 1) := by decide +kernel
theorem dX7_forget_6 : decode cX7_forget 6 = .ok (.istore_n 2, 1) := by decide +kernel
theorem dX7_forget_7 : decode cX7_forget 7 = .ok (.iload_n 2, 1) := by decide +kernel
theorem dX7_forget_8 : decode cX7_forget 8 = .ok (.iload_n 1, 1) := by decide +kernel
theorem dX7_forget_9 : decode cX7_forget 9 = .ok (.if_icmp .lt 38, 3) := by decide +kernel
theorem dX7_forget_12 : decode cX7_forget 12 = .ok (.iload_n 2, 1) := by decide +kernel
theorem dX7_forget_13 : decode cX7_forget 13 = .ok (.ifCond .lt 34, 3) := by decide +kernel
theorem dX7_forget_16 : decode cX7_forget 16 = .ok (.aload_n 0, 1) := by decide +kernel
theorem dX7_forget_17 : decode cX7_forget 17 = .ok (.getfield 27, 3) := by decide +kernel
theorem dX7_forget_20 : decode cX7_forget 20 = .ok (.aload_n 0, 1) := by decide +kernel
theorem dX7_forget_21 : decode cX7_forget 21 = .ok (.getfield 12, 3) := by decide +kernel
theorem dX7_forget_24 : decode cX7_forget 24 = .ok (.iload_n 2, 1) := by decide +kernel
theorem dX7_forget_25 : decode cX7_forget 25 = .ok (.laload, 1) := by decide +kernel
theorem dX7_forget_26 : decode cX7_forget 26 = .ok (.ldc2_w 75, 3) := by decide +kernel
theorem dX7_forget_29 : decode cX7_forget 29 = .ok (.lmul, 1) := by decide +kernel
theorem dX7_forget_30 : decode cX7_forget 30 = .ok (.bipush 49, 2) := by decide +kernel
theorem dX7_forget_32 : decode cX7_forget 32 = .ok (.lushr, 1) := by decide +kernel
theorem dX7_forget_33 : decode cX7_forget 33 = .ok (.l2i, 1) := by decide +kernel
theorem dX7_forget_34 : decode cX7_forget 34 = .ok (.aload_n 0, 1) := by decide +kernel
theorem dX7_forget_35 : decode cX7_forget 35 = .ok (.getfield 16, 3) := by decide +kernel
theorem dX7_forget_38 : decode cX7_forget 38 = .ok (.iload_n 2, 1) := by decide +kernel
theorem dX7_forget_39 : decode cX7_forget 39 = .ok (.iaload, 1) := by decide +kernel
theorem dX7_forget_40 : decode cX7_forget 40 = .ok (.iastore, 1) := by decide +kernel
theorem dX7_forget_41 : decode cX7_forget 41 = .ok (.iinc 2 (-1), 3) := by decide +kernel
theorem dX7_forget_44 : decode cX7_forget 44 = .ok (.goto (-37), 3) := by decide +kernel
theorem dX7_forget_47 : decode cX7_forget 47 = .ok (.aload_n 0, 1) := by decide +kernel
theorem dX7_forget_48 : decode cX7_forget 48 = .ok (.iconst 0, 1) := by decide +kernel
theorem dX7_forget_49 : decode cX7_forget 49 = .ok (.aload_n 0, 1) := by decide +kernel
theorem dX7_forget_50 : decode cX7_forget 50 = .ok (.getfield 30, 3) := by decide +kernel
theorem dX7_forget_53 : decode cX7_forget 53 = .ok (.iload_n 1, 1) := by decide +kernel
theorem dX7_forget_54 : decode cX7_forget 54 = .ok (.invokestatic 79, 3) := by decide +kernel
theorem dX7_forget_57 : decode cX7_forget 57 = .ok (.invokestatic 85, 3) := by decide +kernel
theorem dX7_forget_60 : decode cX7_forget 60 = .ok (.putfield 30, 3) := by decide +kernel
theorem dX7_forget_63 : decode cX7_forget 63 = .ok (.return_, 1) := by decide +kernel

section
variable {p : Program} {l : Launch} {e : Env} {R : Room} {s : State} {m : MethodId} {args : Array Value} {below : List Frame} {meth : Method} {c : Code} {H : Heap} {locs : List Loc} {Qf : State → Prop}
variable {ls : Array Slot} {D : va_G} {ca : Nat → ClassId} {A : Nat → Prop} {ad : Nat → Nat → Nat} {u : iST}
def v_7_forget_47 (Q : iST → Prop) (x1 : Int) (u : iST) : Prop :=
  rd (u.1 29) (fun v3 => 
  rd (if x1 < v3 then x1 else v3) (fun v4 => 
  rd (if 0 < v4 then v4 else 0) (fun v5 => 
  sw (iI u 29 v5) (fun u => 
  Q u))))
set_option maxRecDepth 20000 in
set_option maxHeartbeats 4000000 in
theorem f_7_forget_47 (X : yX RX7 p m c cX7_forget 3 s args D ca ad A) (hRf : 1 ≤ R.frames) (hRl : 40 ≤ R.locals) {Q : iST → Prop} (hret : ∀ (u : iST) (H : Heap) (locs : List Loc) (ls : Array Slot) (pc : Nat), Q u → yW D ca A ad s H locs u → decode cX7_forget pc = .ok (.return_, 1) → W p l e R s m args below meth c H locs 0 0 Qf (F0 m pc ls [])) {x1 : Int} (rx1 : inR x1) (hw : yW D ca A ad s H locs u) (hl : lv_has ls 3 [(0, .ref (ad 0 6)), (1, .int (jI x1))]) (h : v_7_forget_47 Q x1 u) : W p l e R s m args below meth c H locs 0 0 Qf (F0 m 47 ls []) := by
  have hx := X.1.1
  have hb := X.1.2.1
  unfold v_7_forget_47 at h
  refine lv_aload_n hx hb dX7_forget_47 rfl (lv_at hl 0 rfl) ?_
  refine lv_iconst hx hb dX7_forget_48 (v := jI 0) rfl ?_
  refine lv_aload_n hx hb dX7_forget_49 rfl (lv_at hl 0 rfl) ?_
  refine yg_7_30 X hw dX7_forget_50 h (fun v3 rv3 h => ?_)
  refine lv_iload_n hx hb dX7_forget_53 rfl (lv_at hl 1 rfl) ?_
  refine yMmin 79 rv3 rx1 yJ_4 X hl.1 (Nat.le_trans (Nat.le_of_ble_eq_true rfl) hRf) (Nat.le_trans (Nat.le_of_ble_eq_true rfl) hRl) dX7_forget_54 h (fun v4 rv4 h => ?_)
  refine yMmax 85 (by decide) rv4 yJ_5 X hl.1 (Nat.le_trans (Nat.le_of_ble_eq_true rfl) hRf) (Nat.le_trans (Nat.le_of_ble_eq_true rfl) hRl) dX7_forget_57 h (fun v5 rv5 h => ?_)
  refine yp_7_30 X hw rv5 dX7_forget_60 h (fun H locs u hw h => ?_)
  exact hret _ _ _ _ _ h hw dX7_forget_63

def v_7_forget_7b (R7 : Int → Int → iST → Prop) (Q : iST → Prop) (x1 : Int) (x2 : Int) (u : iST) : Prop :=
  br (x2 < x1) (
    v_7_forget_47 Q x1 u) (
    br (x2 < 0) (
      v_7_forget_47 Q x1 u) (
      bd x2 160000 (rl (u.2.2 x2) (fun v6 => 
      rl (wlmul v6 (-7046029254386353131)) (fun v7 => 
      rl (wlushr v7 49) (fun v8 => 
      rd (wl2i v8) (fun v9 => 
      bd x2 160000 (rd (u.2.1 27 x2) (fun v10 => 
      bd v9 32768 (sw (iA u 30 v9 v10) (fun u => 
      ov (x2 + (-1)) (
      R7 x1 (x2 + (-1)) u))))))))))))
def v_7_forget_7 (Q : iST → Prop) (x1 : Int) (x2 : Int) (u : iST) : Prop := ∀ R7 : Int → Int → iST → Prop, (∀ (x1 : Int) (x2 : Int) (u : iST), v_7_forget_7b R7 Q x1 x2 u → R7 x1 x2 u) → R7 x1 x2 u
set_option maxRecDepth 20000 in
set_option maxHeartbeats 4000000 in
theorem f_7_forget_7 (X : yX RX7 p m c cX7_forget 3 s args D ca ad A) (hRf : 1 ≤ R.frames) (hRl : 40 ≤ R.locals) {Q : iST → Prop} (hret : ∀ (u : iST) (H : Heap) (locs : List Loc) (ls : Array Slot) (pc : Nat), Q u → yW D ca A ad s H locs u → decode cX7_forget pc = .ok (.return_, 1) → W p l e R s m args below meth c H locs 0 0 Qf (F0 m pc ls [])) {x1 x2 : Int} (rx1 : inR x1) (rx2 : inR x2) (hw : yW D ca A ad s H locs u) (hl : lv_has ls 3 [(0, .ref (ad 0 6)), (1, .int (jI x1)), (2, .int (jI x2))]) (h : v_7_forget_7 Q x1 x2 u) : W p l e R s m args below meth c H locs 0 0 Qf (F0 m 7 ls []) := by
  refine h (fun x1 x2 u => ∀ (H : Heap) (locs : List Loc) (ls : Array Slot), inR x1 → inR x2 → yW D ca A ad s H locs u → lv_has ls 3 [(0, .ref (ad 0 6)), (1, .int (jI x1)), (2, .int (jI x2))] → W p l e R s m args below meth c H locs 0 0 Qf (F0 m 7 ls [])) ?_ H locs ls rx1 rx2 hw hl
  clear h hl hw rx1 rx2
  intro x1 x2 u h H locs ls rx1 rx2 hw hl
  have hR7 : ∀ (x1 : Int) (x2 : Int) (u : iST) (H : Heap) (locs : List Loc) (ls : Array Slot), inR x1 → inR x2 → yW D ca A ad s H locs u → lv_has ls 3 [(0, .ref (ad 0 6)), (1, .int (jI x1)), (2, .int (jI x2))] → (fun (x1 : Int) (x2 : Int) u => ∀ (H : Heap) (locs : List Loc) (ls : Array Slot), inR x1 → inR x2 → yW D ca A ad s H locs u → lv_has ls 3 [(0, .ref (ad 0 6)), (1, .int (jI x1)), (2, .int (jI x2))] → W p l e R s m args below meth c H locs 0 0 Qf (F0 m 7 ls [])) x1 x2 u → W p l e R s m args below meth c H locs 0 0 Qf (F0 m 7 ls []) := fun x1 x2 u H locs ls rx1 rx2 hw hl h => h H locs ls rx1 rx2 hw hl
  have hx := X.1.1
  have hb := X.1.2.1
  unfold v_7_forget_7b at h
  refine lv_iload_n hx hb dX7_forget_7 rfl (lv_at hl 2 rfl) ?_
  refine lv_iload_n hx hb dX7_forget_8 rfl (lv_at hl 1 rfl) ?_
  refine k_icmp_lt hx hb rx2 rx1 dX7_forget_9 (tgt := 47) rfl h (fun h => ?_) (fun h => ?_)
  · exact f_7_forget_47 X hRf hRl hret rx1 hw (lv_sub hl [0, 1] rfl) h
  · refine lv_iload_n hx hb dX7_forget_12 rfl (lv_at hl 2 rfl) ?_
    refine k_if_lt hx hb rx2 dX7_forget_13 (tgt := 47) rfl h (fun h => ?_) (fun h => ?_)
    · exact f_7_forget_47 X hRf hRl hret rx1 hw (lv_sub hl [0, 1] rfl) h
    · refine lv_aload_n hx hb dX7_forget_16 rfl (lv_at hl 0 rfl) ?_
      refine yg_7_27 X hw dX7_forget_17 ?_
      refine lv_aload_n hx hb dX7_forget_20 rfl (lv_at hl 0 rfl) ?_
      refine yg_7_12 X hw dX7_forget_21 ?_
      refine lv_iload_n hx hb dX7_forget_24 rfl (lv_at hl 2 rfl) ?_
      refine yJl X hw rx2 dX7_forget_25 h (fun v6 rv6 h => ?_)
      refine yld2 75 yK_7_75 X dX7_forget_26 ?_
      refine k_wlmul hx hb dX7_forget_29 h (fun v7 rv7 h => ?_)
      refine lv_bipush hx hb dX7_forget_30 (v := jI 49) rfl ?_
      refine k_wlushr hx hb dX7_forget_32 h (fun v8 rv8 h => ?_)
      refine k_l2i hx hb dX7_forget_33 h (fun v9 rv9 h => ?_)
      refine lv_aload_n hx hb dX7_forget_34 rfl (lv_at hl 0 rfl) ?_
      refine yg_7_16 X hw dX7_forget_35 ?_
      refine lv_iload_n hx hb dX7_forget_38 rfl (lv_at hl 2 rfl) ?_
      refine yl_27 X hw rx2 dX7_forget_39 h (fun v10 rv10 h => ?_)
      refine yt_30 X hw rv9 rv10 dX7_forget_40 h (fun H locs u hw h => ?_)
      refine k_iinc (k := 2) hx hb dX7_forget_41 hl rfl (by decide) rfl h (fun ls r11 h hl => ?_)
      have hl : lv_has ls 3 [(2, .int (jI (x2 + (-1)))), (0, .ref (ad 0 6)), (1, .int (jI x1))] := hl
      refine lv_goto hx hb dX7_forget_44 (tgt := 7) rfl ?_
      exact hR7 _ _ _ H locs ls rx1 r11 hw (lv_sub hl [1, 2, 0] rfl) h

def v_7_forget (a0 : Int) (Q : iST → Prop) (u : iST) : Prop :=
  rd (u.1 29) (fun v1 => 
  ov (v1 - 1) (
  v_7_forget_7 Q a0 (v1 - 1) u))
set_option maxRecDepth 20000 in
set_option maxHeartbeats 4000000 in
theorem f_7_forget_s (X : yX RX7 p m c cX7_forget 3 s args D ca ad A) (hRf : 1 ≤ R.frames) (hRl : 40 ≤ R.locals) {Q : iST → Prop} (hret : ∀ (u : iST) (H : Heap) (locs : List Loc) (ls : Array Slot) (pc : Nat), Q u → yW D ca A ad s H locs u → decode cX7_forget pc = .ok (.return_, 1) → W p l e R s m args below meth c H locs 0 0 Qf (F0 m pc ls [])) {a0 : Int} (ra0 : inR a0) (hw : yW D ca A ad s H locs u) (hl : lv_has ls 3 [(0, .ref (ad 0 6)), (1, .int (jI a0))]) (h : v_7_forget a0 Q u) : W p l e R s m args below meth c H locs 0 0 Qf (F0 m 0 ls []) := by
  have hx := X.1.1
  have hb := X.1.2.1
  unfold v_7_forget at h
  refine lv_aload_n hx hb dX7_forget_0 rfl (lv_at hl 0 rfl) ?_
  refine yg_7_30 X hw dX7_forget_1 h (fun v1 rv1 h => ?_)
  refine lv_iconst hx hb dX7_forget_4 (v := jI 1) rfl ?_
  refine k_isub hx hb dX7_forget_5 h (fun r2 h => ?_)
  refine lv_istore_n hx hb dX7_forget_6 rfl hl (by decide) rfl (fun ls hl => ?_)
  have hl : lv_has ls 3 [(2, .int (jI (v1 - 1))), (0, .ref (ad 0 6)), (1, .int (jI a0))] := hl
  exact f_7_forget_7 X hRf hRl hret ra0 r2 hw (lv_sub hl [1, 2, 0] rfl) h

end
theorem e_7_forget {l : Launch} {a0 : Int} (ra0 : inR a0) {Q : iST → Prop} {u : iST} (h : v_7_forget a0 Q u) : yMV l yX7_forget (.code yX7_forget cX7_forget 3 none :: wsN) { frames := 1, cells := 0, slots := 0, locals := 40 } (fun ad => [.ref (ad 0 6), .int (jI a0)]) Q u := yMV_of (own := RX7) rfl (by decide +kernel) (fun _ => Nat.le_of_ble_eq_true rfl) (fun X hRf hRl hret hw hl => f_7_forget_s X hRf hRl hret ra0 hw hl h)

/-! ProofHouse$Terms.hasCallOf -/
theorem dX10_hasCallOf_0 : decode cX10_hasCallOf 0 = .ok (.aload_n 0, 1) := by decide +kernel
theorem dX10_hasCallOf_1 : decode cX10_hasCallOf 1 = .ok (.iload_n 1, 1) := by decide +kernel
theorem dX10_hasCallOf_2 : decode cX10_hasCallOf 2 = .ok (.invokevirtual 149, 3) := by decide +kernel
theorem dX10_hasCallOf_5 : decode cX10_hasCallOf 5 = .ok (.istore_n 3, 1) := by decide +kernel
theorem dX10_hasCallOf_6 : decode cX10_hasCallOf 6 = .ok (.iconst 0, 1) := by decide +kernel
theorem dX10_hasCallOf_7 : decode cX10_hasCallOf 7 = .ok (.istore 4, 2) := by decide +kernel
theorem dX10_hasCallOf_9 : decode cX10_hasCallOf 9 = .ok (.iload 4, 2) := by decide +kernel
theorem dX10_hasCallOf_11 : decode cX10_hasCallOf 11 = .ok (.iload_n 3, 1) := by decide +kernel
theorem dX10_hasCallOf_12 : decode cX10_hasCallOf 12 = .ok (.if_icmp .ge 29, 3) := by decide +kernel
theorem dX10_hasCallOf_15 : decode cX10_hasCallOf 15 = .ok (.aload_n 0, 1) := by decide +kernel
theorem dX10_hasCallOf_16 : decode cX10_hasCallOf 16 = .ok (.getfield 55, 3) := by decide +kernel
theorem dX10_hasCallOf_19 : decode cX10_hasCallOf 19 = .ok (.aload_n 0, 1) := by decide +kernel
theorem dX10_hasCallOf_20 : decode cX10_hasCallOf 20 = .ok (.getfield 52, 3) := by decide +kernel
theorem dX10_hasCallOf_23 : decode cX10_hasCallOf 23 = .ok (.iload 4, 2) := by decide +kernel
theorem dX10_hasCallOf_25 : decode cX10_hasCallOf 25 = .ok (.iaload, 1) := by decide +kernel
theorem dX10_hasCallOf_26 : decode cX10_hasCallOf 26 = .ok (.iload_n 2, 1) := by decide +kernel
theorem dX10_hasCallOf_27 : decode cX10_hasCallOf 27 = .ok (.invokevirtual 139, 3) := by decide +kernel
theorem dX10_hasCallOf_30 : decode cX10_hasCallOf 30 = .ok (.ifCond .eq 5, 3) := by decide +kernel
theorem dX10_hasCallOf_33 : decode cX10_hasCallOf 33 = .ok (.iconst 1, 1) := by decide +kernel
theorem dX10_hasCallOf_34 : decode cX10_hasCallOf 34 = .ok (.ireturn, 1) := by decide +kernel
theorem dX10_hasCallOf_35 : decode cX10_hasCallOf 35 = .ok (.iinc 4 1, 3) := by decide +kernel
theorem dX10_hasCallOf_38 : decode cX10_hasCallOf 38 = .ok (.goto (-29), 3) := by decide +kernel
theorem dX10_hasCallOf_41 : decode cX10_hasCallOf 41 = .ok (.iconst 0, 1) := by decide +kernel
theorem dX10_hasCallOf_42 : decode cX10_hasCallOf 42 = .ok (.ireturn, 1) := by decide +kernel

section
variable {p : Program} {l : Launch} {e : Env} {R : Room} {s : State} {m : MethodId} {args : Array Value} {below : List Frame} {meth : Method} {c : Code} {H : Heap} {locs : List Loc} {Qf : State → Prop}
variable {ls : Array Slot} {D : va_G} {ca : Nat → ClassId} {A : Nat → Prop} {ad : Nat → Nat → Nat} {u : iST}
def v_10_hasCallOf_9b (R9 : Int → Int → Int → iST → Prop) (Q : Int → iST → Prop) (x2 : Int) (x3 : Int) (x4 : Int) (u : iST) : Prop :=
  br (x3 ≤ x4) (
    zt 0 (Q 0 u)) (
    bd x4 128 (rd (u.2.1 43 x4) (fun v2 => 
    v_7_isCallOf v2 x2 (fun v3 u => 
    br (v3 = 0) (
      ov (x4 + 1) (
      R9 x2 x3 (x4 + 1) u)) (
      zt 1 (Q 1 u))) u)))
def v_10_hasCallOf_9 (Q : Int → iST → Prop) (x2 : Int) (x3 : Int) (x4 : Int) (u : iST) : Prop := ∀ R9 : Int → Int → Int → iST → Prop, (∀ (x2 : Int) (x3 : Int) (x4 : Int) (u : iST), v_10_hasCallOf_9b R9 Q x2 x3 x4 u → R9 x2 x3 x4 u) → R9 x2 x3 x4 u
set_option maxRecDepth 20000 in
set_option maxHeartbeats 4000000 in
theorem f_10_hasCallOf_9 (X : yX RX10 p m c cX10_hasCallOf 5 s args D ca ad A) (hRf : 2 ≤ R.frames) (hRl : 50 ≤ R.locals) {Q : Int → iST → Prop} (hret : ∀ (v : Int) (u : iST) (H : Heap) (locs : List Loc) (ls : Array Slot) (pc : Nat), bz v → Q v u → yW D ca A ad s H locs u → decode cX10_hasCallOf pc = .ok (.ireturn, 1) → W p l e R s m args below meth c H locs 0 0 Qf (F0 m pc ls [.int (jI v)])) {x2 x3 x4 : Int} (rx2 : inR x2) (rx3 : inR x3) (rx4 : inR x4) (hw : yW D ca A ad s H locs u) (hl : lv_has ls 5 [(0, .ref (ad 0 8)), (2, .int (jI x2)), (3, .int (jI x3)), (4, .int (jI x4))]) (h : v_10_hasCallOf_9 Q x2 x3 x4 u) : W p l e R s m args below meth c H locs 0 0 Qf (F0 m 9 ls []) := by
  refine h (fun x2 x3 x4 u => ∀ (H : Heap) (locs : List Loc) (ls : Array Slot), inR x2 → inR x3 → inR x4 → yW D ca A ad s H locs u → lv_has ls 5 [(0, .ref (ad 0 8)), (2, .int (jI x2)), (3, .int (jI x3)), (4, .int (jI x4))] → W p l e R s m args below meth c H locs 0 0 Qf (F0 m 9 ls [])) ?_ H locs ls rx2 rx3 rx4 hw hl
  clear h hl hw rx2 rx3 rx4
  intro x2 x3 x4 u h H locs ls rx2 rx3 rx4 hw hl
  have hR9 : ∀ (x2 : Int) (x3 : Int) (x4 : Int) (u : iST) (H : Heap) (locs : List Loc) (ls : Array Slot), inR x2 → inR x3 → inR x4 → yW D ca A ad s H locs u → lv_has ls 5 [(0, .ref (ad 0 8)), (2, .int (jI x2)), (3, .int (jI x3)), (4, .int (jI x4))] → (fun (x2 : Int) (x3 : Int) (x4 : Int) u => ∀ (H : Heap) (locs : List Loc) (ls : Array Slot), inR x2 → inR x3 → inR x4 → yW D ca A ad s H locs u → lv_has ls 5 [(0, .ref (ad 0 8)), (2, .int (jI x2)), (3, .int (jI x3)), (4, .int (jI x4))] → W p l e R s m args below meth c H locs 0 0 Qf (F0 m 9 ls [])) x2 x3 x4 u → W p l e R s m args below meth c H locs 0 0 Qf (F0 m 9 ls []) := fun x2 x3 x4 u H locs ls rx2 rx3 rx4 hw hl h => h H locs ls rx2 rx3 rx4 hw hl
  have hx := X.1.1
  have hb := X.1.2.1
  unfold v_10_hasCallOf_9b at h
  refine lv_iload hx hb dX10_hasCallOf_9 (lv_at hl 3 rfl) ?_
  refine lv_iload_n hx hb dX10_hasCallOf_11 rfl (lv_at hl 2 rfl) ?_
  refine k_icmp_ge hx hb rx4 rx3 dX10_hasCallOf_12 (tgt := 41) rfl h (fun h => ?_) (fun h => ?_)
  · refine lv_iconst hx hb dX10_hasCallOf_41 (v := jI 0) rfl ?_
    exact hret _ _ _ _ _ _ h.1 h.2 hw dX10_hasCallOf_42
  · refine lv_aload_n hx hb dX10_hasCallOf_15 rfl (lv_at hl 0 rfl) ?_
    refine yg_10_55 X hw dX10_hasCallOf_16 ?_
    refine lv_aload_n hx hb dX10_hasCallOf_19 rfl (lv_at hl 0 rfl) ?_
    refine yg_10_52 X hw dX10_hasCallOf_20 ?_
    refine lv_iload hx hb dX10_hasCallOf_23 (lv_at hl 3 rfl) ?_
    refine yl_43 X hw rx4 dX10_hasCallOf_25 h (fun v2 rv2 h => ?_)
    refine lv_iload_n hx hb dX10_hasCallOf_26 rfl (lv_at hl 1 rfl) ?_
    refine ycI (n := 2) (e_7_isCallOf rv2 rx2 h) 7 6 (r := (RX7, TX7, 9)) rfl yG_10_139 yD_7_isCallOf X hw rfl yGo_7 (Nat.le_trans (Nat.le_of_ble_eq_true rfl) hRf) (Nat.le_trans (Nat.le_of_ble_eq_true rfl) hRl) rfl hl.1 (Nat.le_of_ble_eq_true rfl) rfl dX10_hasCallOf_27 (fun v3 u H locs rv3 h hw => ?_)
    refine k_if_eq hx hb rv3 dX10_hasCallOf_30 (tgt := 35) rfl h (fun h => ?_) (fun h => ?_)
    · refine k_iinc (k := 3) hx hb dX10_hasCallOf_35 hl rfl (by decide) rfl h (fun ls r4 h hl => ?_)
      have hl : lv_has ls 5 [(4, .int (jI (x4 + 1))), (0, .ref (ad 0 8)), (2, .int (jI x2)), (3, .int (jI x3))] := hl
      refine lv_goto hx hb dX10_hasCallOf_38 (tgt := 9) rfl ?_
      exact hR9 _ _ _ _ H locs ls rx2 rx3 r4 hw (lv_sub hl [1, 2, 3, 0] rfl) h
    · refine lv_iconst hx hb dX10_hasCallOf_33 (v := jI 1) rfl ?_
      exact hret _ _ _ _ _ _ h.1 h.2 hw dX10_hasCallOf_34

def v_10_hasCallOf (a0 : Int) (a1 : Int) (Q : Int → iST → Prop) (u : iST) : Prop :=
  v_10_listParts a0 (fun v1 u => 
  v_10_hasCallOf_9 Q a1 v1 0 u) u
set_option maxRecDepth 20000 in
set_option maxHeartbeats 4000000 in
theorem f_10_hasCallOf_s (X : yX RX10 p m c cX10_hasCallOf 5 s args D ca ad A) (hRf : 2 ≤ R.frames) (hRl : 50 ≤ R.locals) {Q : Int → iST → Prop} (hret : ∀ (v : Int) (u : iST) (H : Heap) (locs : List Loc) (ls : Array Slot) (pc : Nat), bz v → Q v u → yW D ca A ad s H locs u → decode cX10_hasCallOf pc = .ok (.ireturn, 1) → W p l e R s m args below meth c H locs 0 0 Qf (F0 m pc ls [.int (jI v)])) {a0 a1 : Int} (ra0 : inR a0) (ra1 : inR a1) (hw : yW D ca A ad s H locs u) (hl : lv_has ls 5 [(0, .ref (ad 0 8)), (1, .int (jI a0)), (2, .int (jI a1))]) (h : v_10_hasCallOf a0 a1 Q u) : W p l e R s m args below meth c H locs 0 0 Qf (F0 m 0 ls []) := by
  have hx := X.1.1
  have hb := X.1.2.1
  unfold v_10_hasCallOf at h
  refine lv_aload_n hx hb dX10_hasCallOf_0 rfl (lv_at hl 0 rfl) ?_
  refine lv_iload_n hx hb dX10_hasCallOf_1 rfl (lv_at hl 1 rfl) ?_
  refine ycI (n := 1) (e_10_listParts ra0 h) 10 8 (r := (RX10, TX10, 16)) rfl yG_10_149 yD_10_listParts X hw rfl yGo_10 (Nat.le_trans (Nat.le_of_ble_eq_true rfl) hRf) (Nat.le_trans (Nat.le_of_ble_eq_true rfl) hRl) rfl hl.1 (Nat.le_of_ble_eq_true rfl) rfl dX10_hasCallOf_2 (fun v1 u H locs rv1 h hw => ?_)
  refine lv_istore_n hx hb dX10_hasCallOf_5 rfl hl (by decide) rfl (fun ls hl => ?_)
  have hl : lv_has ls 5 [(3, .int (jI v1)), (0, .ref (ad 0 8)), (1, .int (jI a0)), (2, .int (jI a1))] := hl
  refine lv_iconst hx hb dX10_hasCallOf_6 (v := jI 0) rfl ?_
  refine lv_istore hx hb dX10_hasCallOf_7 hl (by decide) rfl (fun ls hl => ?_)
  have hl : lv_has ls 5 [(4, .int (jI 0)), (3, .int (jI v1)), (0, .ref (ad 0 8)), (1, .int (jI a0)), (2, .int (jI a1))] := hl
  exact f_10_hasCallOf_9 X hRf hRl hret ra1 rv1 (by decide) hw (lv_sub hl [2, 4, 1, 0] rfl) h

end
theorem e_10_hasCallOf {l : Launch} {a0 : Int} {a1 : Int} (ra0 : inR a0) (ra1 : inR a1) {Q : Int → iST → Prop} {u : iST} (h : v_10_hasCallOf a0 a1 Q u) : yMI l yX10_hasCallOf (.code yX10_hasCallOf cX10_hasCallOf 5 (some .boolean) :: wsN) { frames := 2, cells := 0, slots := 0, locals := 50 } (fun ad => [.ref (ad 0 8), .int (jI a0), .int (jI a1)]) Q u := yMZ_of (own := RX10) rfl (by decide +kernel) (fun _ => Nat.le_of_ble_eq_true rfl) (fun X hRf hRl hret hw hl => f_10_hasCallOf_s X hRf hRl hret ra0 ra1 hw hl h)

/-! ProofHouse$Schemes.isFlat -/
theorem dX8_isFlat_0 : decode cX8_isFlat 0 = .ok (.aload_n 0, 1) := by decide +kernel
theorem dX8_isFlat_1 : decode cX8_isFlat 1 = .ok (.iload_n 2, 1) := by decide +kernel
theorem dX8_isFlat_2 : decode cX8_isFlat 2 = .ok (.invokevirtual 60, 3) := by decide +kernel
theorem dX8_isFlat_5 : decode cX8_isFlat 5 = .ok (.istore_n 3, 1) := by decide +kernel
theorem dX8_isFlat_6 : decode cX8_isFlat 6 = .ok (.iconst 0, 1) := by decide +kernel
theorem dX8_isFlat_7 : decode cX8_isFlat 7 = .ok (.istore 4, 2) := by decide +kernel
theorem dX8_isFlat_9 : decode cX8_isFlat 9 = .ok (.iload 4, 2) := by decide +kernel
theorem dX8_isFlat_11 : decode cX8_isFlat 11 = .ok (.ldc 64, 2) := by decide +kernel
theorem dX8_isFlat_13 : decode cX8_isFlat 13 = .ok (.if_icmp .ge 152, 3) := by decide +kernel
theorem dX8_isFlat_16 : decode cX8_isFlat 16 = .ok (.iload_n 3, 1) := by decide +kernel
theorem dX8_isFlat_17 : decode cX8_isFlat 17 = .ok (.ifCond .eq 148, 3) := by decide +kernel
theorem dX8_isFlat_20 : decode cX8_isFlat 20 = .ok (.iconst 0, 1) := by decide +kernel
theorem dX8_isFlat_21 : decode cX8_isFlat 21 = .ok (.istore 5, 2) := by decide +kernel
theorem dX8_isFlat_23 : decode cX8_isFlat 23 = .ok (.iload 5, 2) := by decide +kernel
theorem dX8_isFlat_25 : decode cX8_isFlat 25 = .ok (.aload_n 0, 1) := by decide +kernel
theorem dX8_isFlat_26 : decode cX8_isFlat 26 = .ok (.getfield 19, 3) := by decide +kernel
theorem dX8_isFlat_29 : decode cX8_isFlat 29 = .ok (.if_icmp .ge 37, 3) := by decide +kernel
theorem dX8_isFlat_32 : decode cX8_isFlat 32 = .ok (.aload_n 0, 1) := by decide +kernel
theorem dX8_isFlat_33 : decode cX8_isFlat 33 = .ok (.getfield 46, 3) := by decide +kernel
theorem dX8_isFlat_36 : decode cX8_isFlat 36 = .ok (.aload_n 0, 1) := by decide +kernel
theorem dX8_isFlat_37 : decode cX8_isFlat 37 = .ok (.getfield 38, 3) := by decide +kernel
theorem dX8_isFlat_40 : decode cX8_isFlat 40 = .ok (.aload_n 0, 1) := by decide +kernel
theorem dX8_isFlat_41 : decode cX8_isFlat 41 = .ok (.getfield 11, 3) := by decide +kernel
theorem dX8_isFlat_44 : decode cX8_isFlat 44 = .ok (.iload 5, 2) := by decide +kernel
theorem dX8_isFlat_46 : decode cX8_isFlat 46 = .ok (.iaload, 1) := by decide +kernel
theorem dX8_isFlat_47 : decode cX8_isFlat 47 = .ok (.iconst 1, 1) := by decide +kernel
theorem dX8_isFlat_48 : decode cX8_isFlat 48 = .ok (.invokevirtual 50, 3) := by decide +kernel
theorem dX8_isFlat_51 : decode cX8_isFlat 51 = .ok (.iload_n 1, 1) := by decide +kernel
theorem dX8_isFlat_52 : decode cX8_isFlat 52 = .ok (.invokevirtual 74, 3) := by decide +kernel
theorem dX8_isFlat_55 : decode cX8_isFlat 55 = .ok (.ifCond .eq 5, 3) := by decide +kernel
theorem dX8_isFlat_58 : decode cX8_isFlat 58 = .ok (.iconst 0, 1) := by decide +kernel
theorem dX8_isFlat_59 : decode cX8_isFlat 59 = .ok (.ireturn, 1) := by decide +kernel
theorem dX8_isFlat_60 : decode cX8_isFlat 60 = .ok (.iinc 5 1, 3) := by decide +kernel
theorem dX8_isFlat_63 : decode cX8_isFlat 63 = .ok (.goto (-40), 3) := by decide +kernel
theorem dX8_isFlat_66 : decode cX8_isFlat 66 = .ok (.aload_n 0, 1) := by decide +kernel
theorem dX8_isFlat_67 : decode cX8_isFlat 67 = .ok (.iload_n 1, 1) := by decide +kernel
theorem dX8_isFlat_68 : decode cX8_isFlat 68 = .ok (.invokevirtual 77, 3) := by decide +kernel
theorem dX8_isFlat_71 : decode cX8_isFlat 71 = .ok (.iconst 0, 1) := by decide +kernel
theorem dX8_isFlat_72 : decode cX8_isFlat 72 = .ok (.istore 5, 2) := by decide +kernel
theorem dX8_isFlat_74 : decode cX8_isFlat 74 = .ok (.iload 5, 2) := by decide +kernel
theorem dX8_isFlat_76 : decode cX8_isFlat 76 = .ok (.aload_n 0, 1) := by decide +kernel
theorem dX8_isFlat_77 : decode cX8_isFlat 77 = .ok (.getfield 29, 3) := by decide +kernel
theorem dX8_isFlat_80 : decode cX8_isFlat 80 = .ok (.if_icmp .ge 73, 3) := by decide +kernel
theorem dX8_isFlat_83 : decode cX8_isFlat 83 = .ok (.aload_n 0, 1) := by decide +kernel
theorem dX8_isFlat_84 : decode cX8_isFlat 84 = .ok (.getfield 38, 3) := by decide +kernel
theorem dX8_isFlat_87 : decode cX8_isFlat 87 = .ok (.aload_n 0, 1) := by decide +kernel
theorem dX8_isFlat_88 : decode cX8_isFlat 88 = .ok (.getfield 26, 3) := by decide +kernel
theorem dX8_isFlat_91 : decode cX8_isFlat 91 = .ok (.iload 5, 2) := by decide +kernel
theorem dX8_isFlat_93 : decode cX8_isFlat 93 = .ok (.iaload, 1) := by decide +kernel
theorem dX8_isFlat_94 : decode cX8_isFlat 94 = .ok (.invokevirtual 81, 3) := by decide +kernel
theorem dX8_isFlat_97 : decode cX8_isFlat 97 = .ok (.istore 6, 2) := by decide +kernel
theorem dX8_isFlat_99 : decode cX8_isFlat 99 = .ok (.aload_n 0, 1) := by decide +kernel
theorem dX8_isFlat_100 : decode cX8_isFlat 100 = .ok (.getfield 38, 3) := by decide +kernel
theorem dX8_isFlat_103 : decode cX8_isFlat 103 = .ok (.iload 6, 2) := by decide +kernel
theorem dX8_isFlat_105 : decode cX8_isFlat 105 = .ok (.invokevirtual 84, 3) := by decide +kernel
theorem dX8_isFlat_108 : decode cX8_isFlat 108 = .ok (.ifCond .eq 39, 3) := by decide +kernel
theorem dX8_isFlat_111 : decode cX8_isFlat 111 = .ok (.aload_n 0, 1) := by decide +kernel
theorem dX8_isFlat_112 : decode cX8_isFlat 112 = .ok (.getfield 46, 3) := by decide +kernel
theorem dX8_isFlat_115 : decode cX8_isFlat 115 = .ok (.aload_n 0, 1) := by decide +kernel
theorem dX8_isFlat_116 : decode cX8_isFlat 116 = .ok (.getfield 38, 3) := by decide +kernel
theorem dX8_isFlat_119 : decode cX8_isFlat 119 = .ok (.iload 6, 2) := by decide +kernel
theorem dX8_isFlat_121 : decode cX8_isFlat 121 = .ok (.invokevirtual 87, 3) := by decide +kernel
theorem dX8_isFlat_124 : decode cX8_isFlat 124 = .ok (.iload_n 1, 1) := by decide +kernel
theorem dX8_isFlat_125 : decode cX8_isFlat 125 = .ok (.invokevirtual 74, 3) := by decide +kernel
theorem dX8_isFlat_128 : decode cX8_isFlat 128 = .ok (.ifCond .eq 5, 3) := by decide +kernel
theorem dX8_isFlat_131 : decode cX8_isFlat 131 = .ok (.iconst 0, 1) := by decide +kernel
theorem dX8_isFlat_132 : decode cX8_isFlat 132 = .ok (.ireturn, 1) := by decide +kernel
theorem dX8_isFlat_133 : decode cX8_isFlat 133 = .ok (.aload_n 0, 1) := by decide +kernel
theorem dX8_isFlat_134 : decode cX8_isFlat 134 = .ok (.getfield 38, 3) := by decide +kernel
theorem dX8_isFlat_137 : decode cX8_isFlat 137 = .ok (.iload 6, 2) := by decide +kernel
theorem dX8_isFlat_139 : decode cX8_isFlat 139 = .ok (.invokevirtual 81, 3) := by decide +kernel
theorem dX8_isFlat_142 : decode cX8_isFlat 142 = .ok (.istore 6, 2) := by decide +kernel
theorem dX8_isFlat_144 : decode cX8_isFlat 144 = .ok (.goto (-45), 3) := by decide +kernel
theorem dX8_isFlat_147 : decode cX8_isFlat 147 = .ok (.iinc 5 1, 3) := by decide +kernel
theorem dX8_isFlat_150 : decode cX8_isFlat 150 = .ok (.goto (-76), 3) := by decide +kernel
theorem dX8_isFlat_153 : decode cX8_isFlat 153 = .ok (.aload_n 0, 1) := by decide +kernel
theorem dX8_isFlat_154 : decode cX8_isFlat 154 = .ok (.iconst (-1), 1) := by decide +kernel
theorem dX8_isFlat_155 : decode cX8_isFlat 155 = .ok (.invokevirtual 60, 3) := by decide +kernel
theorem dX8_isFlat_158 : decode cX8_isFlat 158 = .ok (.istore_n 3, 1) := by decide +kernel
theorem dX8_isFlat_159 : decode cX8_isFlat 159 = .ok (.iinc 4 1, 3) := by decide +kernel
theorem dX8_isFlat_162 : decode cX8_isFlat 162 = .ok (.goto (-153), 3) := by decide +kernel
theorem dX8_isFlat_165 : decode cX8_isFlat 165 = .ok (.iconst 1, 1) := by decide +kernel
theorem dX8_isFlat_166 : decode cX8_isFlat 166 = .ok (.ireturn, 1) := by decide +kernel

section
variable {p : Program} {l : Launch} {e : Env} {R : Room} {s : State} {m : MethodId} {args : Array Value} {below : List Frame} {meth : Method} {c : Code} {H : Heap} {locs : List Loc} {Qf : State → Prop}
variable {ls : Array Slot} {D : va_G} {ca : Nat → ClassId} {A : Nat → Prop} {ad : Nat → Nat → Nat} {u : iST}
def v_8_isFlat_99b (R9 : Int → Int → Int → iST → Prop) (R74 : Int → Int → Int → iST → Prop) (R99 : Int → Int → Int → Int → iST → Prop) (Q : Int → iST → Prop) (x1 : Int) (x4 : Int) (x5 : Int) (x6 : Int) (u : iST) : Prop :=
  v_7_isPair x6 (fun v9 u => 
  br (v9 = 0) (
    ov (x5 + 1) (
    R74 x1 x4 (x5 + 1) u)) (
    v_7_left x6 (fun v11 u => 
    v_10_hasCallOf v11 x1 (fun v12 u => 
    br (v12 = 0) (
      v_7_right x6 (fun v13 u => 
      R99 x1 x4 x5 v13 u) u) (
      zt 0 (Q 0 u))) u) u)) u
def v_8_isFlat_99 (R9 : Int → Int → Int → iST → Prop) (R74 : Int → Int → Int → iST → Prop) (Q : Int → iST → Prop) (x1 : Int) (x4 : Int) (x5 : Int) (x6 : Int) (u : iST) : Prop := ∀ R99 : Int → Int → Int → Int → iST → Prop, (∀ (x1 : Int) (x4 : Int) (x5 : Int) (x6 : Int) (u : iST), v_8_isFlat_99b R9 R74 R99 Q x1 x4 x5 x6 u → R99 x1 x4 x5 x6 u) → R99 x1 x4 x5 x6 u
set_option maxRecDepth 20000 in
set_option maxHeartbeats 4000000 in
theorem f_8_isFlat_99 (X : yX RX8 p m c cX8_isFlat 7 s args D ca ad A) (hRf : 3 ≤ R.frames) (hRl : 74 ≤ R.locals) {Q : Int → iST → Prop} (hret : ∀ (v : Int) (u : iST) (H : Heap) (locs : List Loc) (ls : Array Slot) (pc : Nat), bz v → Q v u → yW D ca A ad s H locs u → decode cX8_isFlat pc = .ok (.ireturn, 1) → W p l e R s m args below meth c H locs 0 0 Qf (F0 m pc ls [.int (jI v)])) {R9 : Int → Int → Int → iST → Prop} (hR9 : ∀ (x1 : Int) (x3 : Int) (x4 : Int) (u : iST) (H : Heap) (locs : List Loc) (ls : Array Slot), inR x1 → inR x3 → inR x4 → yW D ca A ad s H locs u → lv_has ls 7 [(0, .ref (ad 0 7)), (1, .int (jI x1)), (3, .int (jI x3)), (4, .int (jI x4))] → R9 x1 x3 x4 u → W p l e R s m args below meth c H locs 0 0 Qf (F0 m 9 ls [])) {R74 : Int → Int → Int → iST → Prop} (hR74 : ∀ (x1 : Int) (x4 : Int) (x5 : Int) (u : iST) (H : Heap) (locs : List Loc) (ls : Array Slot), inR x1 → inR x4 → inR x5 → yW D ca A ad s H locs u → lv_has ls 7 [(0, .ref (ad 0 7)), (1, .int (jI x1)), (4, .int (jI x4)), (5, .int (jI x5))] → R74 x1 x4 x5 u → W p l e R s m args below meth c H locs 0 0 Qf (F0 m 74 ls [])) {x1 x4 x5 x6 : Int} (rx1 : inR x1) (rx4 : inR x4) (rx5 : inR x5) (rx6 : inR x6) (hw : yW D ca A ad s H locs u) (hl : lv_has ls 7 [(0, .ref (ad 0 7)), (1, .int (jI x1)), (4, .int (jI x4)), (5, .int (jI x5)), (6, .int (jI x6))]) (h : v_8_isFlat_99 R9 R74 Q x1 x4 x5 x6 u) : W p l e R s m args below meth c H locs 0 0 Qf (F0 m 99 ls []) := by
  refine h (fun x1 x4 x5 x6 u => ∀ (H : Heap) (locs : List Loc) (ls : Array Slot), inR x1 → inR x4 → inR x5 → inR x6 → yW D ca A ad s H locs u → lv_has ls 7 [(0, .ref (ad 0 7)), (1, .int (jI x1)), (4, .int (jI x4)), (5, .int (jI x5)), (6, .int (jI x6))] → W p l e R s m args below meth c H locs 0 0 Qf (F0 m 99 ls [])) ?_ H locs ls rx1 rx4 rx5 rx6 hw hl
  clear h hl hw rx1 rx4 rx5 rx6
  intro x1 x4 x5 x6 u h H locs ls rx1 rx4 rx5 rx6 hw hl
  have hR99 : ∀ (x1 : Int) (x4 : Int) (x5 : Int) (x6 : Int) (u : iST) (H : Heap) (locs : List Loc) (ls : Array Slot), inR x1 → inR x4 → inR x5 → inR x6 → yW D ca A ad s H locs u → lv_has ls 7 [(0, .ref (ad 0 7)), (1, .int (jI x1)), (4, .int (jI x4)), (5, .int (jI x5)), (6, .int (jI x6))] → (fun (x1 : Int) (x4 : Int) (x5 : Int) (x6 : Int) u => ∀ (H : Heap) (locs : List Loc) (ls : Array Slot), inR x1 → inR x4 → inR x5 → inR x6 → yW D ca A ad s H locs u → lv_has ls 7 [(0, .ref (ad 0 7)), (1, .int (jI x1)), (4, .int (jI x4)), (5, .int (jI x5)), (6, .int (jI x6))] → W p l e R s m args below meth c H locs 0 0 Qf (F0 m 99 ls [])) x1 x4 x5 x6 u → W p l e R s m args below meth c H locs 0 0 Qf (F0 m 99 ls []) := fun x1 x4 x5 x6 u H locs ls rx1 rx4 rx5 rx6 hw hl h => h H locs ls rx1 rx4 rx5 rx6 hw hl
  have hx := X.1.1
  have hb := X.1.2.1
  unfold v_8_isFlat_99b at h
  refine lv_aload_n hx hb dX8_isFlat_99 rfl (lv_at hl 0 rfl) ?_
  refine yg_8_38 X hw dX8_isFlat_100 ?_
  refine lv_iload hx hb dX8_isFlat_103 (lv_at hl 4 rfl) ?_
  refine ycI (n := 1) (e_7_isPair rx6 h) 7 6 (r := (RX7, TX7, 9)) rfl yG_8_84 yD_7_isPair X hw rfl yGo_7 (Nat.le_trans (Nat.le_of_ble_eq_true rfl) hRf) (Nat.le_trans (Nat.le_of_ble_eq_true rfl) hRl) rfl hl.1 (Nat.le_of_ble_eq_true rfl) rfl dX8_isFlat_105 (fun v9 u H locs rv9 h hw => ?_)
  refine k_if_eq hx hb rv9 dX8_isFlat_108 (tgt := 147) rfl h (fun h => ?_) (fun h => ?_)
  · refine k_iinc (k := 3) hx hb dX8_isFlat_147 hl rfl (by decide) rfl h (fun ls r10 h hl => ?_)
    have hl : lv_has ls 7 [(5, .int (jI (x5 + 1))), (0, .ref (ad 0 7)), (1, .int (jI x1)), (4, .int (jI x4)), (6, .int (jI x6))] := hl
    refine lv_goto hx hb dX8_isFlat_150 (tgt := 74) rfl ?_
    exact hR74 _ _ _ _ H locs ls rx1 rx4 r10 hw (lv_sub hl [1, 2, 3, 0] rfl) h
  · refine lv_aload_n hx hb dX8_isFlat_111 rfl (lv_at hl 0 rfl) ?_
    refine yg_8_46 X hw dX8_isFlat_112 ?_
    refine lv_aload_n hx hb dX8_isFlat_115 rfl (lv_at hl 0 rfl) ?_
    refine yg_8_38 X hw dX8_isFlat_116 ?_
    refine lv_iload hx hb dX8_isFlat_119 (lv_at hl 4 rfl) ?_
    refine ycI (n := 1) (e_7_left rx6 h) 7 6 (r := (RX7, TX7, 9)) rfl yG_8_87 yD_7_left X hw rfl yGo_7 (Nat.le_trans (Nat.le_of_ble_eq_true rfl) hRf) (Nat.le_trans (Nat.le_of_ble_eq_true rfl) hRl) rfl hl.1 (Nat.le_of_ble_eq_true rfl) rfl dX8_isFlat_121 (fun v11 u H locs rv11 h hw => ?_)
    refine lv_iload_n hx hb dX8_isFlat_124 rfl (lv_at hl 1 rfl) ?_
    refine ycI (n := 2) (e_10_hasCallOf rv11 rx1 h) 10 8 (r := (RX10, TX10, 16)) rfl yG_8_74 yD_10_hasCallOf X hw rfl yGo_10 (Nat.le_trans (Nat.le_of_ble_eq_true rfl) hRf) (Nat.le_trans (Nat.le_of_ble_eq_true rfl) hRl) rfl hl.1 (Nat.le_of_ble_eq_true rfl) rfl dX8_isFlat_125 (fun v12 u H locs rv12 h hw => ?_)
    refine k_if_eq hx hb rv12 dX8_isFlat_128 (tgt := 133) rfl h (fun h => ?_) (fun h => ?_)
    · refine lv_aload_n hx hb dX8_isFlat_133 rfl (lv_at hl 0 rfl) ?_
      refine yg_8_38 X hw dX8_isFlat_134 ?_
      refine lv_iload hx hb dX8_isFlat_137 (lv_at hl 4 rfl) ?_
      refine ycI (n := 1) (e_7_right rx6 h) 7 6 (r := (RX7, TX7, 9)) rfl yG_8_81 yD_7_right X hw rfl yGo_7 (Nat.le_trans (Nat.le_of_ble_eq_true rfl) hRf) (Nat.le_trans (Nat.le_of_ble_eq_true rfl) hRl) rfl hl.1 (Nat.le_of_ble_eq_true rfl) rfl dX8_isFlat_139 (fun v13 u H locs rv13 h hw => ?_)
      refine lv_istore hx hb dX8_isFlat_142 hl (by decide) rfl (fun ls hl => ?_)
      have hl : lv_has ls 7 [(6, .int (jI v13)), (0, .ref (ad 0 7)), (1, .int (jI x1)), (4, .int (jI x4)), (5, .int (jI x5))] := hl
      refine lv_goto hx hb dX8_isFlat_144 (tgt := 99) rfl ?_
      exact hR99 _ _ _ _ _ H locs ls rx1 rx4 rx5 rv13 hw (lv_sub hl [1, 2, 3, 4, 0] rfl) h
    · refine lv_iconst hx hb dX8_isFlat_131 (v := jI 0) rfl ?_
      exact hret _ _ _ _ _ _ h.1 h.2 hw dX8_isFlat_132

def v_8_isFlat_74b (R9 : Int → Int → Int → iST → Prop) (R74 : Int → Int → Int → iST → Prop) (Q : Int → iST → Prop) (x1 : Int) (x4 : Int) (x5 : Int) (u : iST) : Prop :=
  rd (u.1 35) (fun v4 => 
  br (v4 ≤ x5) (
    v_8_goToPath (-1) (fun v5 u => 
    ov (x4 + 1) (
    R9 x1 v5 (x4 + 1) u)) u) (
    bd x5 128 (rd (u.2.1 33 x5) (fun v7 => 
    v_7_right v7 (fun v8 u => 
    v_8_isFlat_99 R9 R74 Q x1 x4 x5 v8 u) u))))
def v_8_isFlat_74 (R9 : Int → Int → Int → iST → Prop) (Q : Int → iST → Prop) (x1 : Int) (x4 : Int) (x5 : Int) (u : iST) : Prop := ∀ R74 : Int → Int → Int → iST → Prop, (∀ (x1 : Int) (x4 : Int) (x5 : Int) (u : iST), v_8_isFlat_74b R9 R74 Q x1 x4 x5 u → R74 x1 x4 x5 u) → R74 x1 x4 x5 u
set_option maxRecDepth 20000 in
set_option maxHeartbeats 4000000 in
theorem f_8_isFlat_74 (X : yX RX8 p m c cX8_isFlat 7 s args D ca ad A) (hRf : 3 ≤ R.frames) (hRl : 74 ≤ R.locals) {Q : Int → iST → Prop} (hret : ∀ (v : Int) (u : iST) (H : Heap) (locs : List Loc) (ls : Array Slot) (pc : Nat), bz v → Q v u → yW D ca A ad s H locs u → decode cX8_isFlat pc = .ok (.ireturn, 1) → W p l e R s m args below meth c H locs 0 0 Qf (F0 m pc ls [.int (jI v)])) {R9 : Int → Int → Int → iST → Prop} (hR9 : ∀ (x1 : Int) (x3 : Int) (x4 : Int) (u : iST) (H : Heap) (locs : List Loc) (ls : Array Slot), inR x1 → inR x3 → inR x4 → yW D ca A ad s H locs u → lv_has ls 7 [(0, .ref (ad 0 7)), (1, .int (jI x1)), (3, .int (jI x3)), (4, .int (jI x4))] → R9 x1 x3 x4 u → W p l e R s m args below meth c H locs 0 0 Qf (F0 m 9 ls [])) {x1 x4 x5 : Int} (rx1 : inR x1) (rx4 : inR x4) (rx5 : inR x5) (hw : yW D ca A ad s H locs u) (hl : lv_has ls 7 [(0, .ref (ad 0 7)), (1, .int (jI x1)), (4, .int (jI x4)), (5, .int (jI x5))]) (h : v_8_isFlat_74 R9 Q x1 x4 x5 u) : W p l e R s m args below meth c H locs 0 0 Qf (F0 m 74 ls []) := by
  refine h (fun x1 x4 x5 u => ∀ (H : Heap) (locs : List Loc) (ls : Array Slot), inR x1 → inR x4 → inR x5 → yW D ca A ad s H locs u → lv_has ls 7 [(0, .ref (ad 0 7)), (1, .int (jI x1)), (4, .int (jI x4)), (5, .int (jI x5))] → W p l e R s m args below meth c H locs 0 0 Qf (F0 m 74 ls [])) ?_ H locs ls rx1 rx4 rx5 hw hl
  clear h hl hw rx1 rx4 rx5
  intro x1 x4 x5 u h H locs ls rx1 rx4 rx5 hw hl
  have hR74 : ∀ (x1 : Int) (x4 : Int) (x5 : Int) (u : iST) (H : Heap) (locs : List Loc) (ls : Array Slot), inR x1 → inR x4 → inR x5 → yW D ca A ad s H locs u → lv_has ls 7 [(0, .ref (ad 0 7)), (1, .int (jI x1)), (4, .int (jI x4)), (5, .int (jI x5))] → (fun (x1 : Int) (x4 : Int) (x5 : Int) u => ∀ (H : Heap) (locs : List Loc) (ls : Array Slot), inR x1 → inR x4 → inR x5 → yW D ca A ad s H locs u → lv_has ls 7 [(0, .ref (ad 0 7)), (1, .int (jI x1)), (4, .int (jI x4)), (5, .int (jI x5))] → W p l e R s m args below meth c H locs 0 0 Qf (F0 m 74 ls [])) x1 x4 x5 u → W p l e R s m args below meth c H locs 0 0 Qf (F0 m 74 ls []) := fun x1 x4 x5 u H locs ls rx1 rx4 rx5 hw hl h => h H locs ls rx1 rx4 rx5 hw hl
  have hx := X.1.1
  have hb := X.1.2.1
  unfold v_8_isFlat_74b at h
  refine lv_iload hx hb dX8_isFlat_74 (lv_at hl 3 rfl) ?_
  refine lv_aload_n hx hb dX8_isFlat_76 rfl (lv_at hl 0 rfl) ?_
  refine yg_8_29 X hw dX8_isFlat_77 h (fun v4 rv4 h => ?_)
  refine k_icmp_ge hx hb rx5 rv4 dX8_isFlat_80 (tgt := 153) rfl h (fun h => ?_) (fun h => ?_)
  · refine lv_aload_n hx hb dX8_isFlat_153 rfl (lv_at hl 0 rfl) ?_
    refine lv_iconst hx hb dX8_isFlat_154 (v := jI (-1)) rfl ?_
    refine ycI (n := 1) (e_8_goToPath (by decide) h) 8 7 (r := (RX8, TX8, 11)) rfl yG_8_60 yD_8_goToPath X hw rfl yGo_8 (Nat.le_trans (Nat.le_of_ble_eq_true rfl) hRf) (Nat.le_trans (Nat.le_of_ble_eq_true rfl) hRl) rfl hl.1 (Nat.le_of_ble_eq_true rfl) rfl dX8_isFlat_155 (fun v5 u H locs rv5 h hw => ?_)
    refine lv_istore_n hx hb dX8_isFlat_158 rfl hl (by decide) rfl (fun ls hl => ?_)
    have hl : lv_has ls 7 [(3, .int (jI v5)), (0, .ref (ad 0 7)), (1, .int (jI x1)), (4, .int (jI x4)), (5, .int (jI x5))] := hl
    refine k_iinc (k := 3) hx hb dX8_isFlat_159 hl rfl (by decide) rfl h (fun ls r6 h hl => ?_)
    have hl : lv_has ls 7 [(4, .int (jI (x4 + 1))), (3, .int (jI v5)), (0, .ref (ad 0 7)), (1, .int (jI x1)), (5, .int (jI x5))] := hl
    refine lv_goto hx hb dX8_isFlat_162 (tgt := 9) rfl ?_
    exact hR9 _ _ _ _ H locs ls rx1 rv5 r6 hw (lv_sub hl [2, 3, 1, 0] rfl) h
  · refine lv_aload_n hx hb dX8_isFlat_83 rfl (lv_at hl 0 rfl) ?_
    refine yg_8_38 X hw dX8_isFlat_84 ?_
    refine lv_aload_n hx hb dX8_isFlat_87 rfl (lv_at hl 0 rfl) ?_
    refine yg_8_26 X hw dX8_isFlat_88 ?_
    refine lv_iload hx hb dX8_isFlat_91 (lv_at hl 3 rfl) ?_
    refine yl_33 X hw rx5 dX8_isFlat_93 h (fun v7 rv7 h => ?_)
    refine ycI (n := 1) (e_7_right rv7 h) 7 6 (r := (RX7, TX7, 9)) rfl yG_8_81 yD_7_right X hw rfl yGo_7 (Nat.le_trans (Nat.le_of_ble_eq_true rfl) hRf) (Nat.le_trans (Nat.le_of_ble_eq_true rfl) hRl) rfl hl.1 (Nat.le_of_ble_eq_true rfl) rfl dX8_isFlat_94 (fun v8 u H locs rv8 h hw => ?_)
    refine lv_istore hx hb dX8_isFlat_97 hl (by decide) rfl (fun ls hl => ?_)
    have hl : lv_has ls 7 [(6, .int (jI v8)), (0, .ref (ad 0 7)), (1, .int (jI x1)), (4, .int (jI x4)), (5, .int (jI x5))] := hl
    exact f_8_isFlat_99 X hRf hRl hret hR9 hR74 rx1 rx4 rx5 rv8 hw (lv_sub hl [1, 2, 3, 4, 0] rfl) h

def v_8_isFlat_23b (R9 : Int → Int → Int → iST → Prop) (R23 : Int → Int → Int → iST → Prop) (Q : Int → iST → Prop) (x1 : Int) (x4 : Int) (x5 : Int) (u : iST) : Prop :=
  rd (u.1 33) (fun v2 => 
  br (v2 ≤ x5) (
    v_8_listCalls x1 (fun u => 
    v_8_isFlat_74 R9 Q x1 x4 0 u) u) (
    bd x5 64 (rd (u.2.1 31 x5) (fun v14 => 
    v_7_item v14 1 (fun v15 u => 
    v_10_hasCallOf v15 x1 (fun v16 u => 
    br (v16 = 0) (
      ov (x5 + 1) (
      R23 x1 x4 (x5 + 1) u)) (
      zt 0 (Q 0 u))) u) u))))
def v_8_isFlat_23 (R9 : Int → Int → Int → iST → Prop) (Q : Int → iST → Prop) (x1 : Int) (x4 : Int) (x5 : Int) (u : iST) : Prop := ∀ R23 : Int → Int → Int → iST → Prop, (∀ (x1 : Int) (x4 : Int) (x5 : Int) (u : iST), v_8_isFlat_23b R9 R23 Q x1 x4 x5 u → R23 x1 x4 x5 u) → R23 x1 x4 x5 u
set_option maxRecDepth 20000 in
set_option maxHeartbeats 4000000 in
theorem f_8_isFlat_23 (X : yX RX8 p m c cX8_isFlat 7 s args D ca ad A) (hRf : 3 ≤ R.frames) (hRl : 74 ≤ R.locals) {Q : Int → iST → Prop} (hret : ∀ (v : Int) (u : iST) (H : Heap) (locs : List Loc) (ls : Array Slot) (pc : Nat), bz v → Q v u → yW D ca A ad s H locs u → decode cX8_isFlat pc = .ok (.ireturn, 1) → W p l e R s m args below meth c H locs 0 0 Qf (F0 m pc ls [.int (jI v)])) {R9 : Int → Int → Int → iST → Prop} (hR9 : ∀ (x1 : Int) (x3 : Int) (x4 : Int) (u : iST) (H : Heap) (locs : List Loc) (ls : Array Slot), inR x1 → inR x3 → inR x4 → yW D ca A ad s H locs u → lv_has ls 7 [(0, .ref (ad 0 7)), (1, .int (jI x1)), (3, .int (jI x3)), (4, .int (jI x4))] → R9 x1 x3 x4 u → W p l e R s m args below meth c H locs 0 0 Qf (F0 m 9 ls [])) {x1 x4 x5 : Int} (rx1 : inR x1) (rx4 : inR x4) (rx5 : inR x5) (hw : yW D ca A ad s H locs u) (hl : lv_has ls 7 [(0, .ref (ad 0 7)), (1, .int (jI x1)), (4, .int (jI x4)), (5, .int (jI x5))]) (h : v_8_isFlat_23 R9 Q x1 x4 x5 u) : W p l e R s m args below meth c H locs 0 0 Qf (F0 m 23 ls []) := by
  refine h (fun x1 x4 x5 u => ∀ (H : Heap) (locs : List Loc) (ls : Array Slot), inR x1 → inR x4 → inR x5 → yW D ca A ad s H locs u → lv_has ls 7 [(0, .ref (ad 0 7)), (1, .int (jI x1)), (4, .int (jI x4)), (5, .int (jI x5))] → W p l e R s m args below meth c H locs 0 0 Qf (F0 m 23 ls [])) ?_ H locs ls rx1 rx4 rx5 hw hl
  clear h hl hw rx1 rx4 rx5
  intro x1 x4 x5 u h H locs ls rx1 rx4 rx5 hw hl
  have hR23 : ∀ (x1 : Int) (x4 : Int) (x5 : Int) (u : iST) (H : Heap) (locs : List Loc) (ls : Array Slot), inR x1 → inR x4 → inR x5 → yW D ca A ad s H locs u → lv_has ls 7 [(0, .ref (ad 0 7)), (1, .int (jI x1)), (4, .int (jI x4)), (5, .int (jI x5))] → (fun (x1 : Int) (x4 : Int) (x5 : Int) u => ∀ (H : Heap) (locs : List Loc) (ls : Array Slot), inR x1 → inR x4 → inR x5 → yW D ca A ad s H locs u → lv_has ls 7 [(0, .ref (ad 0 7)), (1, .int (jI x1)), (4, .int (jI x4)), (5, .int (jI x5))] → W p l e R s m args below meth c H locs 0 0 Qf (F0 m 23 ls [])) x1 x4 x5 u → W p l e R s m args below meth c H locs 0 0 Qf (F0 m 23 ls []) := fun x1 x4 x5 u H locs ls rx1 rx4 rx5 hw hl h => h H locs ls rx1 rx4 rx5 hw hl
  have hx := X.1.1
  have hb := X.1.2.1
  unfold v_8_isFlat_23b at h
  refine lv_iload hx hb dX8_isFlat_23 (lv_at hl 3 rfl) ?_
  refine lv_aload_n hx hb dX8_isFlat_25 rfl (lv_at hl 0 rfl) ?_
  refine yg_8_19 X hw dX8_isFlat_26 h (fun v2 rv2 h => ?_)
  refine k_icmp_ge hx hb rx5 rv2 dX8_isFlat_29 (tgt := 66) rfl h (fun h => ?_) (fun h => ?_)
  · refine lv_aload_n hx hb dX8_isFlat_66 rfl (lv_at hl 0 rfl) ?_
    refine lv_iload_n hx hb dX8_isFlat_67 rfl (lv_at hl 1 rfl) ?_
    refine ycV (n := 1) (e_8_listCalls rx1 h) 8 7 (r := (RX8, TX8, 11)) rfl yG_8_77 yD_8_listCalls X hw rfl yGo_8 (Nat.le_trans (Nat.le_of_ble_eq_true rfl) hRf) (Nat.le_trans (Nat.le_of_ble_eq_true rfl) hRl) rfl hl.1 (Nat.le_of_ble_eq_true rfl) rfl dX8_isFlat_68 (fun u H locs h hw => ?_)
    refine lv_iconst hx hb dX8_isFlat_71 (v := jI 0) rfl ?_
    refine lv_istore hx hb dX8_isFlat_72 hl (by decide) rfl (fun ls hl => ?_)
    have hl : lv_has ls 7 [(5, .int (jI 0)), (0, .ref (ad 0 7)), (1, .int (jI x1)), (4, .int (jI x4))] := hl
    exact f_8_isFlat_74 X hRf hRl hret hR9 rx1 rx4 (by decide) hw (lv_sub hl [1, 2, 3, 0] rfl) h
  · refine lv_aload_n hx hb dX8_isFlat_32 rfl (lv_at hl 0 rfl) ?_
    refine yg_8_46 X hw dX8_isFlat_33 ?_
    refine lv_aload_n hx hb dX8_isFlat_36 rfl (lv_at hl 0 rfl) ?_
    refine yg_8_38 X hw dX8_isFlat_37 ?_
    refine lv_aload_n hx hb dX8_isFlat_40 rfl (lv_at hl 0 rfl) ?_
    refine yg_8_11 X hw dX8_isFlat_41 ?_
    refine lv_iload hx hb dX8_isFlat_44 (lv_at hl 3 rfl) ?_
    refine yl_31 X hw rx5 dX8_isFlat_46 h (fun v14 rv14 h => ?_)
    refine lv_iconst hx hb dX8_isFlat_47 (v := jI 1) rfl ?_
    refine ycI (n := 2) (e_7_item rv14 (by decide) h) 7 6 (r := (RX7, TX7, 9)) rfl yG_8_50 yD_7_item X hw rfl yGo_7 (Nat.le_trans (Nat.le_of_ble_eq_true rfl) hRf) (Nat.le_trans (Nat.le_of_ble_eq_true rfl) hRl) rfl hl.1 (Nat.le_of_ble_eq_true rfl) rfl dX8_isFlat_48 (fun v15 u H locs rv15 h hw => ?_)
    refine lv_iload_n hx hb dX8_isFlat_51 rfl (lv_at hl 1 rfl) ?_
    refine ycI (n := 2) (e_10_hasCallOf rv15 rx1 h) 10 8 (r := (RX10, TX10, 16)) rfl yG_8_74 yD_10_hasCallOf X hw rfl yGo_10 (Nat.le_trans (Nat.le_of_ble_eq_true rfl) hRf) (Nat.le_trans (Nat.le_of_ble_eq_true rfl) hRl) rfl hl.1 (Nat.le_of_ble_eq_true rfl) rfl dX8_isFlat_52 (fun v16 u H locs rv16 h hw => ?_)
    refine k_if_eq hx hb rv16 dX8_isFlat_55 (tgt := 60) rfl h (fun h => ?_) (fun h => ?_)
    · refine k_iinc (k := 3) hx hb dX8_isFlat_60 hl rfl (by decide) rfl h (fun ls r17 h hl => ?_)
      have hl : lv_has ls 7 [(5, .int (jI (x5 + 1))), (0, .ref (ad 0 7)), (1, .int (jI x1)), (4, .int (jI x4))] := hl
      refine lv_goto hx hb dX8_isFlat_63 (tgt := 23) rfl ?_
      exact hR23 _ _ _ _ H locs ls rx1 rx4 r17 hw (lv_sub hl [1, 2, 3, 0] rfl) h
    · refine lv_iconst hx hb dX8_isFlat_58 (v := jI 0) rfl ?_
      exact hret _ _ _ _ _ _ h.1 h.2 hw dX8_isFlat_59

def v_8_isFlat_9b (R9 : Int → Int → Int → iST → Prop) (Q : Int → iST → Prop) (x1 : Int) (x3 : Int) (x4 : Int) (u : iST) : Prop :=
  br (1000000 ≤ x4) (
    zt 1 (Q 1 u)) (
    br (x3 = 0) (
      zt 1 (Q 1 u)) (
      v_8_isFlat_23 R9 Q x1 x4 0 u))
def v_8_isFlat_9 (Q : Int → iST → Prop) (x1 : Int) (x3 : Int) (x4 : Int) (u : iST) : Prop := ∀ R9 : Int → Int → Int → iST → Prop, (∀ (x1 : Int) (x3 : Int) (x4 : Int) (u : iST), v_8_isFlat_9b R9 Q x1 x3 x4 u → R9 x1 x3 x4 u) → R9 x1 x3 x4 u
set_option maxRecDepth 20000 in
set_option maxHeartbeats 4000000 in
theorem f_8_isFlat_9 (X : yX RX8 p m c cX8_isFlat 7 s args D ca ad A) (hRf : 3 ≤ R.frames) (hRl : 74 ≤ R.locals) {Q : Int → iST → Prop} (hret : ∀ (v : Int) (u : iST) (H : Heap) (locs : List Loc) (ls : Array Slot) (pc : Nat), bz v → Q v u → yW D ca A ad s H locs u → decode cX8_isFlat pc = .ok (.ireturn, 1) → W p l e R s m args below meth c H locs 0 0 Qf (F0 m pc ls [.int (jI v)])) {x1 x3 x4 : Int} (rx1 : inR x1) (rx3 : inR x3) (rx4 : inR x4) (hw : yW D ca A ad s H locs u) (hl : lv_has ls 7 [(0, .ref (ad 0 7)), (1, .int (jI x1)), (3, .int (jI x3)), (4, .int (jI x4))]) (h : v_8_isFlat_9 Q x1 x3 x4 u) : W p l e R s m args below meth c H locs 0 0 Qf (F0 m 9 ls []) := by
  refine h (fun x1 x3 x4 u => ∀ (H : Heap) (locs : List Loc) (ls : Array Slot), inR x1 → inR x3 → inR x4 → yW D ca A ad s H locs u → lv_has ls 7 [(0, .ref (ad 0 7)), (1, .int (jI x1)), (3, .int (jI x3)), (4, .int (jI x4))] → W p l e R s m args below meth c H locs 0 0 Qf (F0 m 9 ls [])) ?_ H locs ls rx1 rx3 rx4 hw hl
  clear h hl hw rx1 rx3 rx4
  intro x1 x3 x4 u h H locs ls rx1 rx3 rx4 hw hl
  have hR9 : ∀ (x1 : Int) (x3 : Int) (x4 : Int) (u : iST) (H : Heap) (locs : List Loc) (ls : Array Slot), inR x1 → inR x3 → inR x4 → yW D ca A ad s H locs u → lv_has ls 7 [(0, .ref (ad 0 7)), (1, .int (jI x1)), (3, .int (jI x3)), (4, .int (jI x4))] → (fun (x1 : Int) (x3 : Int) (x4 : Int) u => ∀ (H : Heap) (locs : List Loc) (ls : Array Slot), inR x1 → inR x3 → inR x4 → yW D ca A ad s H locs u → lv_has ls 7 [(0, .ref (ad 0 7)), (1, .int (jI x1)), (3, .int (jI x3)), (4, .int (jI x4))] → W p l e R s m args below meth c H locs 0 0 Qf (F0 m 9 ls [])) x1 x3 x4 u → W p l e R s m args below meth c H locs 0 0 Qf (F0 m 9 ls []) := fun x1 x3 x4 u H locs ls rx1 rx3 rx4 hw hl h => h H locs ls rx1 rx3 rx4 hw hl
  have hx := X.1.1
  have hb := X.1.2.1
  unfold v_8_isFlat_9b at h
  refine lv_iload hx hb dX8_isFlat_9 (lv_at hl 3 rfl) ?_
  refine yld 64 yK_8_64 X dX8_isFlat_11 ?_
  refine k_icmp_ge hx hb rx4 (by decide) dX8_isFlat_13 (tgt := 165) rfl h (fun h => ?_) (fun h => ?_)
  · refine lv_iconst hx hb dX8_isFlat_165 (v := jI 1) rfl ?_
    exact hret _ _ _ _ _ _ h.1 h.2 hw dX8_isFlat_166
  · refine lv_iload_n hx hb dX8_isFlat_16 rfl (lv_at hl 2 rfl) ?_
    refine k_if_eq hx hb rx3 dX8_isFlat_17 (tgt := 165) rfl h (fun h => ?_) (fun h => ?_)
    · refine lv_iconst hx hb dX8_isFlat_165 (v := jI 1) rfl ?_
      exact hret _ _ _ _ _ _ h.1 h.2 hw dX8_isFlat_166
    · refine lv_iconst hx hb dX8_isFlat_20 (v := jI 0) rfl ?_
      refine lv_istore hx hb dX8_isFlat_21 hl (by decide) rfl (fun ls hl => ?_)
      have hl : lv_has ls 7 [(5, .int (jI 0)), (0, .ref (ad 0 7)), (1, .int (jI x1)), (3, .int (jI x3)), (4, .int (jI x4))] := hl
      exact f_8_isFlat_23 X hRf hRl hret hR9 rx1 rx4 (by decide) hw (lv_sub hl [1, 2, 4, 0] rfl) h

def v_8_isFlat (a0 : Int) (a1 : Int) (Q : Int → iST → Prop) (u : iST) : Prop :=
  v_8_goToPath a1 (fun v1 u => 
  v_8_isFlat_9 Q a0 v1 0 u) u
set_option maxRecDepth 20000 in
set_option maxHeartbeats 4000000 in
theorem f_8_isFlat_s (X : yX RX8 p m c cX8_isFlat 7 s args D ca ad A) (hRf : 3 ≤ R.frames) (hRl : 74 ≤ R.locals) {Q : Int → iST → Prop} (hret : ∀ (v : Int) (u : iST) (H : Heap) (locs : List Loc) (ls : Array Slot) (pc : Nat), bz v → Q v u → yW D ca A ad s H locs u → decode cX8_isFlat pc = .ok (.ireturn, 1) → W p l e R s m args below meth c H locs 0 0 Qf (F0 m pc ls [.int (jI v)])) {a0 a1 : Int} (ra0 : inR a0) (ra1 : inR a1) (hw : yW D ca A ad s H locs u) (hl : lv_has ls 7 [(0, .ref (ad 0 7)), (1, .int (jI a0)), (2, .int (jI a1))]) (h : v_8_isFlat a0 a1 Q u) : W p l e R s m args below meth c H locs 0 0 Qf (F0 m 0 ls []) := by
  have hx := X.1.1
  have hb := X.1.2.1
  unfold v_8_isFlat at h
  refine lv_aload_n hx hb dX8_isFlat_0 rfl (lv_at hl 0 rfl) ?_
  refine lv_iload_n hx hb dX8_isFlat_1 rfl (lv_at hl 2 rfl) ?_
  refine ycI (n := 1) (e_8_goToPath ra1 h) 8 7 (r := (RX8, TX8, 11)) rfl yG_8_60 yD_8_goToPath X hw rfl yGo_8 (Nat.le_trans (Nat.le_of_ble_eq_true rfl) hRf) (Nat.le_trans (Nat.le_of_ble_eq_true rfl) hRl) rfl hl.1 (Nat.le_of_ble_eq_true rfl) rfl dX8_isFlat_2 (fun v1 u H locs rv1 h hw => ?_)
  refine lv_istore_n hx hb dX8_isFlat_5 rfl hl (by decide) rfl (fun ls hl => ?_)
  have hl : lv_has ls 7 [(3, .int (jI v1)), (0, .ref (ad 0 7)), (1, .int (jI a0)), (2, .int (jI a1))] := hl
  refine lv_iconst hx hb dX8_isFlat_6 (v := jI 0) rfl ?_
  refine lv_istore hx hb dX8_isFlat_7 hl (by decide) rfl (fun ls hl => ?_)
  have hl : lv_has ls 7 [(4, .int (jI 0)), (3, .int (jI v1)), (0, .ref (ad 0 7)), (1, .int (jI a0)), (2, .int (jI a1))] := hl
  exact f_8_isFlat_9 X hRf hRl hret ra0 rv1 (by decide) hw (lv_sub hl [2, 3, 1, 0] rfl) h

end
theorem e_8_isFlat {l : Launch} {a0 : Int} {a1 : Int} (ra0 : inR a0) (ra1 : inR a1) {Q : Int → iST → Prop} {u : iST} (h : v_8_isFlat a0 a1 Q u) : yMI l yX8_isFlat (.code yX8_isFlat cX8_isFlat 7 (some .boolean) :: wsN) { frames := 3, cells := 0, slots := 0, locals := 74 } (fun ad => [.ref (ad 0 7), .int (jI a0), .int (jI a1)]) Q u := yMZ_of (own := RX8) rfl (by decide +kernel) (fun _ => Nat.le_of_ble_eq_true rfl) (fun X hRf hRl hret hw hl => f_8_isFlat_s X hRf hRl hret ra0 ra1 hw hl h)

/-! ProofHouse$Schemes.addMeasureClauses -/
theorem dX8_addMeasureClauses_0 : decode cX8_addMeasureClauses 0 = .ok (.aload_n 0, 1) := by decide +kernel
theorem dX8_addMeasureClauses_1 : decode cX8_addMeasureClauses 1 = .ok (.iload 4, 2) := by decide +kernel
theorem dX8_addMeasureClauses_3 : decode cX8_addMeasureClauses 3 = .ok (.invokevirtual 60, 3) := by decide +kernel
theorem dX8_addMeasureClauses_6 : decode cX8_addMeasureClauses 6 = .ok (.istore 6, 2) := by decide +kernel
theorem dX8_addMeasureClauses_8 : decode cX8_addMeasureClauses 8 = .ok (.iconst 0, 1) := by decide +kernel
theorem dX8_addMeasureClauses_9 : decode cX8_addMeasureClauses 9 = .ok (.istore 7, 2) := by decide +kernel
theorem dX8_addMeasureClauses_11 : decode cX8_addMeasureClauses 11 = .ok (.iload 7, 2) := by decide +kernel
theorem dX8_addMeasureClauses_13 : decode cX8_addMeasureClauses 13 = .ok (.ldc 64, 2) := by decide +kernel
theorem dX8_addMeasureClauses_15 : decode cX8_addMeasureClauses 15 = .ok (.if_icmp .ge 131, 3) := by decide +kernel
theorem dX8_addMeasureClauses_18 : decode cX8_addMeasureClauses 18 = .ok (.iload 6, 2) := by decide +kernel
theorem dX8_addMeasureClauses_20 : decode cX8_addMeasureClauses 20 = .ok (.ifCond .eq 126, 3) := by decide +kernel
theorem dX8_addMeasureClauses_23 : decode cX8_addMeasureClauses 23 = .ok (.aload_n 0, 1) := by decide +kernel
theorem dX8_addMeasureClauses_24 : decode cX8_addMeasureClauses 24 = .ok (.getfield 38, 3) := by decide +kernel
theorem dX8_addMeasureClauses_27 : decode cX8_addMeasureClauses 27 = .ok (.getfield 94, 3) := by decide +kernel
theorem dX8_addMeasureClauses_30 : decode cX8_addMeasureClauses 30 = .ok (.ifCond .ne 116, 3) := by decide +kernel
theorem dX8_addMeasureClauses_33 : decode cX8_addMeasureClauses 33 = .ok (.aload_n 0, 1) := by decide +kernel
theorem dX8_addMeasureClauses_34 : decode cX8_addMeasureClauses 34 = .ok (.iload_n 2, 1) := by decide +kernel
theorem dX8_addMeasureClauses_35 : decode cX8_addMeasureClauses 35 = .ok (.invokevirtual 77, 3) := by decide +kernel
theorem dX8_addMeasureClauses_38 : decode cX8_addMeasureClauses 38 = .ok (.iconst 0, 1) := by decide +kernel
theorem dX8_addMeasureClauses_39 : decode cX8_addMeasureClauses 39 = .ok (.istore 8, 2) := by decide +kernel
theorem dX8_addMeasureClauses_41 : decode cX8_addMeasureClauses 41 = .ok (.iload 8, 2) := by decide +kernel
theorem dX8_addMeasureClauses_43 : decode cX8_addMeasureClauses 43 = .ok (.aload_n 0, 1) := by decide +kernel
theorem dX8_addMeasureClauses_44 : decode cX8_addMeasureClauses 44 = .ok (.getfield 29, 3) := by decide +kernel
theorem dX8_addMeasureClauses_47 : decode cX8_addMeasureClauses 47 = .ok (.if_icmp .ge 86, 3) := by decide +kernel
theorem dX8_addMeasureClauses_50 : decode cX8_addMeasureClauses 50 = .ok (.aload_n 0, 1) := by decide +kernel
theorem dX8_addMeasureClauses_51 : decode cX8_addMeasureClauses 51 = .ok (.getfield 38, 3) := by decide +kernel
theorem dX8_addMeasureClauses_54 : decode cX8_addMeasureClauses 54 = .ok (.getfield 94, 3) := by decide +kernel
theorem dX8_addMeasureClauses_57 : decode cX8_addMeasureClauses 57 = .ok (.ifCond .ne 76, 3) := by decide +kernel
theorem dX8_addMeasureClauses_60 : decode cX8_addMeasureClauses 60 = .ok (.aload_n 1, 1) := by decide +kernel
theorem dX8_addMeasureClauses_61 : decode cX8_addMeasureClauses 61 = .ok (.invokevirtual 107, 3) := by decide +kernel
theorem dX8_addMeasureClauses_64 : decode cX8_addMeasureClauses 64 = .ok (.astore 9, 2) := by decide +kernel
theorem dX8_addMeasureClauses_66 : decode cX8_addMeasureClauses 66 = .ok (.aload_n 0, 1) := by decide +kernel
theorem dX8_addMeasureClauses_67 : decode cX8_addMeasureClauses 67 = .ok (.aload 9, 2) := by decide +kernel
theorem dX8_addMeasureClauses_69 : decode cX8_addMeasureClauses 69 = .ok (.iload_n 3, 1) := by decide +kernel
theorem dX8_addMeasureClauses_70 : decode cX8_addMeasureClauses 70 = .ok (.iload_n 3, 1) := by decide +kernel
theorem dX8_addMeasureClauses_71 : decode cX8_addMeasureClauses 71 = .ok (.invokevirtual 113, 3) := by decide +kernel
theorem dX8_addMeasureClauses_74 : decode cX8_addMeasureClauses 74 = .ok (.aload_n 0, 1) := by decide +kernel
theorem dX8_addMeasureClauses_75 : decode cX8_addMeasureClauses 75 = .ok (.getfield 46, 3) := by decide +kernel
theorem dX8_addMeasureClauses_78 : decode cX8_addMeasureClauses 78 = .ok (.iload_n 3, 1) := by decide +kernel
theorem dX8_addMeasureClauses_79 : decode cX8_addMeasureClauses 79 = .ok (.aload_n 0, 1) := by decide +kernel
theorem dX8_addMeasureClauses_80 : decode cX8_addMeasureClauses 80 = .ok (.getfield 38, 3) := by decide +kernel
theorem dX8_addMeasureClauses_83 : decode cX8_addMeasureClauses 83 = .ok (.aload_n 0, 1) := by decide +kernel
theorem dX8_addMeasureClauses_84 : decode cX8_addMeasureClauses 84 = .ok (.getfield 26, 3) := by decide +kernel
theorem dX8_addMeasureClauses_87 : decode cX8_addMeasureClauses 87 = .ok (.iload 8, 2) := by decide +kernel
theorem dX8_addMeasureClauses_89 : decode cX8_addMeasureClauses 89 = .ok (.iaload, 1) := by decide +kernel
theorem dX8_addMeasureClauses_90 : decode cX8_addMeasureClauses 90 = .ok (.invokevirtual 81, 3) := by decide +kernel
theorem dX8_addMeasureClauses_93 : decode cX8_addMeasureClauses 93 = .ok (.invokevirtual 90, 3) := by decide +kernel
theorem dX8_addMeasureClauses_96 : decode cX8_addMeasureClauses 96 = .ok (.aload_n 0, 1) := by decide +kernel
theorem dX8_addMeasureClauses_97 : decode cX8_addMeasureClauses 97 = .ok (.getfield 46, 3) := by decide +kernel
theorem dX8_addMeasureClauses_100 : decode cX8_addMeasureClauses 100 = .ok (.aload 9, 2) := by decide +kernel
theorem dX8_addMeasureClauses_102 : decode cX8_addMeasureClauses 102 = .ok (.aload_n 0, 1) := by decide +kernel
theorem dX8_addMeasureClauses_103 : decode cX8_addMeasureClauses 103 = .ok (.getfield 46, 3) := by decide +kernel
theorem dX8_addMeasureClauses_106 : decode cX8_addMeasureClauses 106 = .ok (.bipush 9, 2) := by decide +kernel
theorem dX8_addMeasureClauses_108 : decode cX8_addMeasureClauses 108 = .ok (.aload_n 0, 1) := by decide +kernel
theorem dX8_addMeasureClauses_109 : decode cX8_addMeasureClauses 109 = .ok (.getfield 46, 3) := by decide +kernel
theorem dX8_addMeasureClauses_112 : decode cX8_addMeasureClauses 112 = .ok (.iload 5, 2) := by decide +kernel
theorem dX8_addMeasureClauses_114 : decode cX8_addMeasureClauses 114 = .ok (.iconst 1, 1) := by decide +kernel
theorem dX8_addMeasureClauses_115 : decode cX8_addMeasureClauses 115 = .ok (.invokevirtual 97, 3) := by decide +kernel
theorem dX8_addMeasureClauses_118 : decode cX8_addMeasureClauses 118 = .ok (.iload 5, 2) := by decide +kernel
theorem dX8_addMeasureClauses_120 : decode cX8_addMeasureClauses 120 = .ok (.iconst (-1), 1) := by decide +kernel
theorem dX8_addMeasureClauses_121 : decode cX8_addMeasureClauses 121 = .ok (.invokevirtual 117, 3) := by decide +kernel
theorem dX8_addMeasureClauses_124 : decode cX8_addMeasureClauses 124 = .ok (.invokevirtual 103, 3) := by decide +kernel
theorem dX8_addMeasureClauses_127 : decode cX8_addMeasureClauses 127 = .ok (.iinc 8 1, 3) := by decide +kernel
theorem dX8_addMeasureClauses_130 : decode cX8_addMeasureClauses 130 = .ok (.goto (-89), 3) := by decide +kernel
theorem dX8_addMeasureClauses_133 : decode cX8_addMeasureClauses 133 = .ok (.aload_n 0, 1) := by decide +kernel
theorem dX8_addMeasureClauses_134 : decode cX8_addMeasureClauses 134 = .ok (.iconst (-1), 1) := by decide +kernel
theorem dX8_addMeasureClauses_135 : decode cX8_addMeasureClauses 135 = .ok (.invokevirtual 60, 3) := by decide +kernel
theorem dX8_addMeasureClauses_138 : decode cX8_addMeasureClauses 138 = .ok (.istore 6, 2) := by decide +kernel
theorem dX8_addMeasureClauses_140 : decode cX8_addMeasureClauses 140 = .ok (.iinc 7 1, 3) := by decide +kernel
theorem dX8_addMeasureClauses_143 : decode cX8_addMeasureClauses 143 = .ok (.goto (-132), 3) := by decide +kernel
theorem dX8_addMeasureClauses_146 : decode cX8_addMeasureClauses 146 = .ok (.return_, 1) := by decide +kernel

section
variable {p : Program} {l : Launch} {e : Env} {R : Room} {s : State} {m : MethodId} {args : Array Value} {below : List Frame} {meth : Method} {c : Code} {H : Heap} {locs : List Loc} {Qf : State → Prop}
variable {ls : Array Slot} {D : va_G} {ca : Nat → ClassId} {A : Nat → Prop} {ad : Nat → Nat → Nat} {u : iST}
def v_8_addMeasureClauses_133 (R11 : Int → Int → Int → Int → Int → iST → Prop) (Q : iST → Prop) (x2 : Int) (x3 : Int) (x5 : Int) (x7 : Int) (u : iST) : Prop :=
  v_8_goToPath (-1) (fun v5 u => 
  ov (x7 + 1) (
  R11 x2 x3 x5 v5 (x7 + 1) u)) u
set_option maxRecDepth 20000 in
set_option maxHeartbeats 4000000 in
theorem f_8_addMeasureClauses_133 (X : yX RX8 p m c cX8_addMeasureClauses 10 s args D ca ad A) (hRf : 4 ≤ R.frames) (hRl : 103 ≤ R.locals) {Q : iST → Prop} (hret : ∀ (u : iST) (H : Heap) (locs : List Loc) (ls : Array Slot) (pc : Nat), Q u → yW D ca A ad s H locs u → decode cX8_addMeasureClauses pc = .ok (.return_, 1) → W p l e R s m args below meth c H locs 0 0 Qf (F0 m pc ls [])) {R11 : Int → Int → Int → Int → Int → iST → Prop} (hR11 : ∀ (x2 : Int) (x3 : Int) (x5 : Int) (x6 : Int) (x7 : Int) (u : iST) (H : Heap) (locs : List Loc) (ls : Array Slot), inR x2 → inR x3 → inR x5 → inR x6 → inR x7 → yW D ca A ad s H locs u → lv_has ls 10 [(0, .ref (ad 0 7)), (1, .ref (ad 0 3)), (2, .int (jI x2)), (3, .int (jI x3)), (5, .int (jI x5)), (6, .int (jI x6)), (7, .int (jI x7))] → R11 x2 x3 x5 x6 x7 u → W p l e R s m args below meth c H locs 0 0 Qf (F0 m 11 ls [])) {x2 x3 x5 x7 : Int} (rx2 : inR x2) (rx3 : inR x3) (rx5 : inR x5) (rx7 : inR x7) (hw : yW D ca A ad s H locs u) (hl : lv_has ls 10 [(0, .ref (ad 0 7)), (1, .ref (ad 0 3)), (2, .int (jI x2)), (3, .int (jI x3)), (5, .int (jI x5)), (7, .int (jI x7))]) (h : v_8_addMeasureClauses_133 R11 Q x2 x3 x5 x7 u) : W p l e R s m args below meth c H locs 0 0 Qf (F0 m 133 ls []) := by
  have hx := X.1.1
  have hb := X.1.2.1
  unfold v_8_addMeasureClauses_133 at h
  refine lv_aload_n hx hb dX8_addMeasureClauses_133 rfl (lv_at hl 0 rfl) ?_
  refine lv_iconst hx hb dX8_addMeasureClauses_134 (v := jI (-1)) rfl ?_
  refine ycI (n := 1) (e_8_goToPath (by decide) h) 8 7 (r := (RX8, TX8, 11)) rfl yG_8_60 yD_8_goToPath X hw rfl yGo_8 (Nat.le_trans (Nat.le_of_ble_eq_true rfl) hRf) (Nat.le_trans (Nat.le_of_ble_eq_true rfl) hRl) rfl hl.1 (Nat.le_of_ble_eq_true rfl) rfl dX8_addMeasureClauses_135 (fun v5 u H locs rv5 h hw => ?_)
  refine lv_istore hx hb dX8_addMeasureClauses_138 hl (by decide) rfl (fun ls hl => ?_)
  have hl : lv_has ls 10 [(6, .int (jI v5)), (0, .ref (ad 0 7)), (1, .ref (ad 0 3)), (2, .int (jI x2)), (3, .int (jI x3)), (5, .int (jI x5)), (7, .int (jI x7))] := hl
  refine k_iinc (k := 6) hx hb dX8_addMeasureClauses_140 hl rfl (by decide) rfl h (fun ls r6 h hl => ?_)
  have hl : lv_has ls 10 [(7, .int (jI (x7 + 1))), (6, .int (jI v5)), (0, .ref (ad 0 7)), (1, .ref (ad 0 3)), (2, .int (jI x2)), (3, .int (jI x3)), (5, .int (jI x5))] := hl
  refine lv_goto hx hb dX8_addMeasureClauses_143 (tgt := 11) rfl ?_
  exact hR11 _ _ _ _ _ _ H locs ls rx2 rx3 rx5 rv5 r6 hw (lv_sub hl [2, 3, 4, 5, 6, 1, 0] rfl) h

def v_8_addMeasureClauses_41b (R11 : Int → Int → Int → Int → Int → iST → Prop) (R41 : Int → Int → Int → Int → Int → iST → Prop) (Q : iST → Prop) (x2 : Int) (x3 : Int) (x5 : Int) (x7 : Int) (x8 : Int) (u : iST) : Prop :=
  rd (u.1 35) (fun v4 => 
  br (v4 ≤ x8) (
    v_8_addMeasureClauses_133 R11 Q x2 x3 x5 x7 u) (
    rd (u.1 32) (fun v7 => 
    br (v7 ≠ 0) (
      v_8_addMeasureClauses_133 R11 Q x2 x3 x5 x7 u) (
      v_4_newClause (fun v8 u => 
      v_8_addRulers v8 x3 x3 (fun u => 
      bd x8 128 (rd (u.2.1 33 x8) (fun v10 => 
      v_7_right v10 (fun v11 u => 
      v_10_bindRow x3 v11 (fun u => 
      v_10_rebuilt x5 1 (fun v13 u => 
      v_10_call 9 v13 x5 (-1) (fun v14 u => 
      v_10_join v8 v14 (fun u => 
      ov (x8 + 1) (
      R41 x2 x3 x5 x7 (x8 + 1) u)) u) u) u) u) u))) u) u))))
def v_8_addMeasureClauses_41 (R11 : Int → Int → Int → Int → Int → iST → Prop) (Q : iST → Prop) (x2 : Int) (x3 : Int) (x5 : Int) (x7 : Int) (x8 : Int) (u : iST) : Prop := ∀ R41 : Int → Int → Int → Int → Int → iST → Prop, (∀ (x2 : Int) (x3 : Int) (x5 : Int) (x7 : Int) (x8 : Int) (u : iST), v_8_addMeasureClauses_41b R11 R41 Q x2 x3 x5 x7 x8 u → R41 x2 x3 x5 x7 x8 u) → R41 x2 x3 x5 x7 x8 u
set_option maxRecDepth 20000 in
set_option maxHeartbeats 4000000 in
theorem f_8_addMeasureClauses_41 (X : yX RX8 p m c cX8_addMeasureClauses 10 s args D ca ad A) (hRf : 4 ≤ R.frames) (hRl : 103 ≤ R.locals) {Q : iST → Prop} (hret : ∀ (u : iST) (H : Heap) (locs : List Loc) (ls : Array Slot) (pc : Nat), Q u → yW D ca A ad s H locs u → decode cX8_addMeasureClauses pc = .ok (.return_, 1) → W p l e R s m args below meth c H locs 0 0 Qf (F0 m pc ls [])) {R11 : Int → Int → Int → Int → Int → iST → Prop} (hR11 : ∀ (x2 : Int) (x3 : Int) (x5 : Int) (x6 : Int) (x7 : Int) (u : iST) (H : Heap) (locs : List Loc) (ls : Array Slot), inR x2 → inR x3 → inR x5 → inR x6 → inR x7 → yW D ca A ad s H locs u → lv_has ls 10 [(0, .ref (ad 0 7)), (1, .ref (ad 0 3)), (2, .int (jI x2)), (3, .int (jI x3)), (5, .int (jI x5)), (6, .int (jI x6)), (7, .int (jI x7))] → R11 x2 x3 x5 x6 x7 u → W p l e R s m args below meth c H locs 0 0 Qf (F0 m 11 ls [])) {x2 x3 x5 x7 x8 : Int} (rx2 : inR x2) (rx3 : inR x3) (rx5 : inR x5) (rx7 : inR x7) (rx8 : inR x8) (hw : yW D ca A ad s H locs u) (hl : lv_has ls 10 [(0, .ref (ad 0 7)), (1, .ref (ad 0 3)), (2, .int (jI x2)), (3, .int (jI x3)), (5, .int (jI x5)), (7, .int (jI x7)), (8, .int (jI x8))]) (h : v_8_addMeasureClauses_41 R11 Q x2 x3 x5 x7 x8 u) : W p l e R s m args below meth c H locs 0 0 Qf (F0 m 41 ls []) := by
  refine h (fun x2 x3 x5 x7 x8 u => ∀ (H : Heap) (locs : List Loc) (ls : Array Slot), inR x2 → inR x3 → inR x5 → inR x7 → inR x8 → yW D ca A ad s H locs u → lv_has ls 10 [(0, .ref (ad 0 7)), (1, .ref (ad 0 3)), (2, .int (jI x2)), (3, .int (jI x3)), (5, .int (jI x5)), (7, .int (jI x7)), (8, .int (jI x8))] → W p l e R s m args below meth c H locs 0 0 Qf (F0 m 41 ls [])) ?_ H locs ls rx2 rx3 rx5 rx7 rx8 hw hl
  clear h hl hw rx2 rx3 rx5 rx7 rx8
  intro x2 x3 x5 x7 x8 u h H locs ls rx2 rx3 rx5 rx7 rx8 hw hl
  have hR41 : ∀ (x2 : Int) (x3 : Int) (x5 : Int) (x7 : Int) (x8 : Int) (u : iST) (H : Heap) (locs : List Loc) (ls : Array Slot), inR x2 → inR x3 → inR x5 → inR x7 → inR x8 → yW D ca A ad s H locs u → lv_has ls 10 [(0, .ref (ad 0 7)), (1, .ref (ad 0 3)), (2, .int (jI x2)), (3, .int (jI x3)), (5, .int (jI x5)), (7, .int (jI x7)), (8, .int (jI x8))] → (fun (x2 : Int) (x3 : Int) (x5 : Int) (x7 : Int) (x8 : Int) u => ∀ (H : Heap) (locs : List Loc) (ls : Array Slot), inR x2 → inR x3 → inR x5 → inR x7 → inR x8 → yW D ca A ad s H locs u → lv_has ls 10 [(0, .ref (ad 0 7)), (1, .ref (ad 0 3)), (2, .int (jI x2)), (3, .int (jI x3)), (5, .int (jI x5)), (7, .int (jI x7)), (8, .int (jI x8))] → W p l e R s m args below meth c H locs 0 0 Qf (F0 m 41 ls [])) x2 x3 x5 x7 x8 u → W p l e R s m args below meth c H locs 0 0 Qf (F0 m 41 ls []) := fun x2 x3 x5 x7 x8 u H locs ls rx2 rx3 rx5 rx7 rx8 hw hl h => h H locs ls rx2 rx3 rx5 rx7 rx8 hw hl
  have hx := X.1.1
  have hb := X.1.2.1
  unfold v_8_addMeasureClauses_41b at h
  refine lv_iload hx hb dX8_addMeasureClauses_41 (lv_at hl 6 rfl) ?_
  refine lv_aload_n hx hb dX8_addMeasureClauses_43 rfl (lv_at hl 0 rfl) ?_
  refine yg_8_29 X hw dX8_addMeasureClauses_44 h (fun v4 rv4 h => ?_)
  refine k_icmp_ge hx hb rx8 rv4 dX8_addMeasureClauses_47 (tgt := 133) rfl h (fun h => ?_) (fun h => ?_)
  · exact f_8_addMeasureClauses_133 X hRf hRl hret hR11 rx2 rx3 rx5 rx7 hw (lv_sub hl [0, 1, 2, 3, 4, 5] rfl) h
  · refine lv_aload_n hx hb dX8_addMeasureClauses_50 rfl (lv_at hl 0 rfl) ?_
    refine yg_8_38 X hw dX8_addMeasureClauses_51 ?_
    refine yg_8_94 X hw dX8_addMeasureClauses_54 h (fun v7 rv7 h => ?_)
    refine k_if_ne hx hb rv7 dX8_addMeasureClauses_57 (tgt := 133) rfl h (fun h => ?_) (fun h => ?_)
    · exact f_8_addMeasureClauses_133 X hRf hRl hret hR11 rx2 rx3 rx5 rx7 hw (lv_sub hl [0, 1, 2, 3, 4, 5] rfl) h
    · refine lv_aload_n hx hb dX8_addMeasureClauses_60 rfl (lv_at hl 1 rfl) ?_
      refine ycR (n := 0) (e_4_newClause h) 4 3 (r := (RX4, TX4, 11)) rfl yG_8_107 yD_4_newClause X hw rfl yGo_4 (Nat.le_trans (Nat.le_of_ble_eq_true rfl) hRf) (Nat.le_trans (Nat.le_of_ble_eq_true rfl) hRl) rfl hl.1 (Nat.le_of_ble_eq_true rfl) rfl dX8_addMeasureClauses_61 (fun v8 u H locs rv8 h hw => ?_)
      refine lv_astore hx hb dX8_addMeasureClauses_64 hl (by decide) rfl (fun ls hl => ?_)
      have hl : lv_has ls 10 [(9, .ref (ad 4 v8.toNat)), (0, .ref (ad 0 7)), (1, .ref (ad 0 3)), (2, .int (jI x2)), (3, .int (jI x3)), (5, .int (jI x5)), (7, .int (jI x7)), (8, .int (jI x8))] := hl
      refine lv_aload_n hx hb dX8_addMeasureClauses_66 rfl (lv_at hl 1 rfl) ?_
      refine lv_aload hx hb dX8_addMeasureClauses_67 (lv_at hl 0 rfl) ?_
      refine lv_iload_n hx hb dX8_addMeasureClauses_69 rfl (lv_at hl 4 rfl) ?_
      refine lv_iload_n hx hb dX8_addMeasureClauses_70 rfl (lv_at hl 4 rfl) ?_
      refine ycV (n := 3) (e_8_addRulers rv8 rx3 rx3 h) 8 7 (r := (RX8, TX8, 11)) rfl yG_8_113 yD_8_addRulers X hw rfl yGo_8 (Nat.le_trans (Nat.le_of_ble_eq_true rfl) hRf) (Nat.le_trans (Nat.le_of_ble_eq_true rfl) hRl) rfl hl.1 (Nat.le_of_ble_eq_true rfl) rfl dX8_addMeasureClauses_71 (fun u H locs h hw => ?_)
      refine lv_aload_n hx hb dX8_addMeasureClauses_74 rfl (lv_at hl 1 rfl) ?_
      refine yg_8_46 X hw dX8_addMeasureClauses_75 ?_
      refine lv_iload_n hx hb dX8_addMeasureClauses_78 rfl (lv_at hl 4 rfl) ?_
      refine lv_aload_n hx hb dX8_addMeasureClauses_79 rfl (lv_at hl 1 rfl) ?_
      refine yg_8_38 X hw dX8_addMeasureClauses_80 ?_
      refine lv_aload_n hx hb dX8_addMeasureClauses_83 rfl (lv_at hl 1 rfl) ?_
      refine yg_8_26 X hw dX8_addMeasureClauses_84 ?_
      refine lv_iload hx hb dX8_addMeasureClauses_87 (lv_at hl 7 rfl) ?_
      refine yl_33 X hw rx8 dX8_addMeasureClauses_89 h (fun v10 rv10 h => ?_)
      refine ycI (n := 1) (e_7_right rv10 h) 7 6 (r := (RX7, TX7, 9)) rfl yG_8_81 yD_7_right X hw rfl yGo_7 (Nat.le_trans (Nat.le_of_ble_eq_true rfl) hRf) (Nat.le_trans (Nat.le_of_ble_eq_true rfl) hRl) rfl hl.1 (Nat.le_of_ble_eq_true rfl) rfl dX8_addMeasureClauses_90 (fun v11 u H locs rv11 h hw => ?_)
      refine ycV (n := 2) (e_10_bindRow rx3 rv11 h) 10 8 (r := (RX10, TX10, 16)) rfl yG_8_90 yD_10_bindRow X hw rfl yGo_10 (Nat.le_trans (Nat.le_of_ble_eq_true rfl) hRf) (Nat.le_trans (Nat.le_of_ble_eq_true rfl) hRl) rfl hl.1 (Nat.le_of_ble_eq_true rfl) rfl dX8_addMeasureClauses_93 (fun u H locs h hw => ?_)
      refine lv_aload_n hx hb dX8_addMeasureClauses_96 rfl (lv_at hl 1 rfl) ?_
      refine yg_8_46 X hw dX8_addMeasureClauses_97 ?_
      refine lv_aload hx hb dX8_addMeasureClauses_100 (lv_at hl 0 rfl) ?_
      refine lv_aload_n hx hb dX8_addMeasureClauses_102 rfl (lv_at hl 1 rfl) ?_
      refine yg_8_46 X hw dX8_addMeasureClauses_103 ?_
      refine lv_bipush hx hb dX8_addMeasureClauses_106 (v := jI 9) rfl ?_
      refine lv_aload_n hx hb dX8_addMeasureClauses_108 rfl (lv_at hl 1 rfl) ?_
      refine yg_8_46 X hw dX8_addMeasureClauses_109 ?_
      refine lv_iload hx hb dX8_addMeasureClauses_112 (lv_at hl 5 rfl) ?_
      refine lv_iconst hx hb dX8_addMeasureClauses_114 (v := jI 1) rfl ?_
      refine ycI (n := 2) (e_10_rebuilt rx5 (by decide) h) 10 8 (r := (RX10, TX10, 16)) rfl yG_8_97 yD_10_rebuilt X hw rfl yGo_10 (Nat.le_trans (Nat.le_of_ble_eq_true rfl) hRf) (Nat.le_trans (Nat.le_of_ble_eq_true rfl) hRl) rfl hl.1 (Nat.le_of_ble_eq_true rfl) rfl dX8_addMeasureClauses_115 (fun v13 u H locs rv13 h hw => ?_)
      refine lv_iload hx hb dX8_addMeasureClauses_118 (lv_at hl 5 rfl) ?_
      refine lv_iconst hx hb dX8_addMeasureClauses_120 (v := jI (-1)) rfl ?_
      refine ycI (n := 4) (e_10_call (by decide) rv13 rx5 (by decide) h) 10 8 (r := (RX10, TX10, 16)) rfl yG_8_117 yD_10_call X hw rfl yGo_10 (Nat.le_trans (Nat.le_of_ble_eq_true rfl) hRf) (Nat.le_trans (Nat.le_of_ble_eq_true rfl) hRl) rfl hl.1 (Nat.le_of_ble_eq_true rfl) rfl dX8_addMeasureClauses_121 (fun v14 u H locs rv14 h hw => ?_)
      refine ycV (n := 2) (e_10_join rv8 rv14 h) 10 8 (r := (RX10, TX10, 16)) rfl yG_8_103 yD_10_join X hw rfl yGo_10 (Nat.le_trans (Nat.le_of_ble_eq_true rfl) hRf) (Nat.le_trans (Nat.le_of_ble_eq_true rfl) hRl) rfl hl.1 (Nat.le_of_ble_eq_true rfl) rfl dX8_addMeasureClauses_124 (fun u H locs h hw => ?_)
      refine k_iinc (k := 7) hx hb dX8_addMeasureClauses_127 hl rfl (by decide) rfl h (fun ls r16 h hl => ?_)
      have hl : lv_has ls 10 [(8, .int (jI (x8 + 1))), (9, .ref (ad 4 v8.toNat)), (0, .ref (ad 0 7)), (1, .ref (ad 0 3)), (2, .int (jI x2)), (3, .int (jI x3)), (5, .int (jI x5)), (7, .int (jI x7))] := hl
      refine lv_goto hx hb dX8_addMeasureClauses_130 (tgt := 41) rfl ?_
      exact hR41 _ _ _ _ _ _ H locs ls rx2 rx3 rx5 rx7 r16 hw (lv_sub hl [2, 3, 4, 5, 6, 7, 0] rfl) h

def v_8_addMeasureClauses_11b (R11 : Int → Int → Int → Int → Int → iST → Prop) (Q : iST → Prop) (x2 : Int) (x3 : Int) (x5 : Int) (x6 : Int) (x7 : Int) (u : iST) : Prop :=
  br (1000000 ≤ x7) (
    Q u) (
    br (x6 = 0) (
      Q u) (
      rd (u.1 32) (fun v2 => 
      br (v2 ≠ 0) (
        Q u) (
        v_8_listCalls x2 (fun u => 
        v_8_addMeasureClauses_41 R11 Q x2 x3 x5 x7 0 u) u))))
def v_8_addMeasureClauses_11 (Q : iST → Prop) (x2 : Int) (x3 : Int) (x5 : Int) (x6 : Int) (x7 : Int) (u : iST) : Prop := ∀ R11 : Int → Int → Int → Int → Int → iST → Prop, (∀ (x2 : Int) (x3 : Int) (x5 : Int) (x6 : Int) (x7 : Int) (u : iST), v_8_addMeasureClauses_11b R11 Q x2 x3 x5 x6 x7 u → R11 x2 x3 x5 x6 x7 u) → R11 x2 x3 x5 x6 x7 u
set_option maxRecDepth 20000 in
set_option maxHeartbeats 4000000 in
theorem f_8_addMeasureClauses_11 (X : yX RX8 p m c cX8_addMeasureClauses 10 s args D ca ad A) (hRf : 4 ≤ R.frames) (hRl : 103 ≤ R.locals) {Q : iST → Prop} (hret : ∀ (u : iST) (H : Heap) (locs : List Loc) (ls : Array Slot) (pc : Nat), Q u → yW D ca A ad s H locs u → decode cX8_addMeasureClauses pc = .ok (.return_, 1) → W p l e R s m args below meth c H locs 0 0 Qf (F0 m pc ls [])) {x2 x3 x5 x6 x7 : Int} (rx2 : inR x2) (rx3 : inR x3) (rx5 : inR x5) (rx6 : inR x6) (rx7 : inR x7) (hw : yW D ca A ad s H locs u) (hl : lv_has ls 10 [(0, .ref (ad 0 7)), (1, .ref (ad 0 3)), (2, .int (jI x2)), (3, .int (jI x3)), (5, .int (jI x5)), (6, .int (jI x6)), (7, .int (jI x7))]) (h : v_8_addMeasureClauses_11 Q x2 x3 x5 x6 x7 u) : W p l e R s m args below meth c H locs 0 0 Qf (F0 m 11 ls []) := by
  refine h (fun x2 x3 x5 x6 x7 u => ∀ (H : Heap) (locs : List Loc) (ls : Array Slot), inR x2 → inR x3 → inR x5 → inR x6 → inR x7 → yW D ca A ad s H locs u → lv_has ls 10 [(0, .ref (ad 0 7)), (1, .ref (ad 0 3)), (2, .int (jI x2)), (3, .int (jI x3)), (5, .int (jI x5)), (6, .int (jI x6)), (7, .int (jI x7))] → W p l e R s m args below meth c H locs 0 0 Qf (F0 m 11 ls [])) ?_ H locs ls rx2 rx3 rx5 rx6 rx7 hw hl
  clear h hl hw rx2 rx3 rx5 rx6 rx7
  intro x2 x3 x5 x6 x7 u h H locs ls rx2 rx3 rx5 rx6 rx7 hw hl
  have hR11 : ∀ (x2 : Int) (x3 : Int) (x5 : Int) (x6 : Int) (x7 : Int) (u : iST) (H : Heap) (locs : List Loc) (ls : Array Slot), inR x2 → inR x3 → inR x5 → inR x6 → inR x7 → yW D ca A ad s H locs u → lv_has ls 10 [(0, .ref (ad 0 7)), (1, .ref (ad 0 3)), (2, .int (jI x2)), (3, .int (jI x3)), (5, .int (jI x5)), (6, .int (jI x6)), (7, .int (jI x7))] → (fun (x2 : Int) (x3 : Int) (x5 : Int) (x6 : Int) (x7 : Int) u => ∀ (H : Heap) (locs : List Loc) (ls : Array Slot), inR x2 → inR x3 → inR x5 → inR x6 → inR x7 → yW D ca A ad s H locs u → lv_has ls 10 [(0, .ref (ad 0 7)), (1, .ref (ad 0 3)), (2, .int (jI x2)), (3, .int (jI x3)), (5, .int (jI x5)), (6, .int (jI x6)), (7, .int (jI x7))] → W p l e R s m args below meth c H locs 0 0 Qf (F0 m 11 ls [])) x2 x3 x5 x6 x7 u → W p l e R s m args below meth c H locs 0 0 Qf (F0 m 11 ls []) := fun x2 x3 x5 x6 x7 u H locs ls rx2 rx3 rx5 rx6 rx7 hw hl h => h H locs ls rx2 rx3 rx5 rx6 rx7 hw hl
  have hx := X.1.1
  have hb := X.1.2.1
  unfold v_8_addMeasureClauses_11b at h
  refine lv_iload hx hb dX8_addMeasureClauses_11 (lv_at hl 6 rfl) ?_
  refine yld 64 yK_8_64 X dX8_addMeasureClauses_13 ?_
  refine k_icmp_ge hx hb rx7 (by decide) dX8_addMeasureClauses_15 (tgt := 146) rfl h (fun h => ?_) (fun h => ?_)
  · exact hret _ _ _ _ _ h hw dX8_addMeasureClauses_146
  · refine lv_iload hx hb dX8_addMeasureClauses_18 (lv_at hl 5 rfl) ?_
    refine k_if_eq hx hb rx6 dX8_addMeasureClauses_20 (tgt := 146) rfl h (fun h => ?_) (fun h => ?_)
    · exact hret _ _ _ _ _ h hw dX8_addMeasureClauses_146
    · refine lv_aload_n hx hb dX8_addMeasureClauses_23 rfl (lv_at hl 0 rfl) ?_
      refine yg_8_38 X hw dX8_addMeasureClauses_24 ?_
      refine yg_8_94 X hw dX8_addMeasureClauses_27 h (fun v2 rv2 h => ?_)
      refine k_if_ne hx hb rv2 dX8_addMeasureClauses_30 (tgt := 146) rfl h (fun h => ?_) (fun h => ?_)
      · exact hret _ _ _ _ _ h hw dX8_addMeasureClauses_146
      · refine lv_aload_n hx hb dX8_addMeasureClauses_33 rfl (lv_at hl 0 rfl) ?_
        refine lv_iload_n hx hb dX8_addMeasureClauses_34 rfl (lv_at hl 2 rfl) ?_
        refine ycV (n := 1) (e_8_listCalls rx2 h) 8 7 (r := (RX8, TX8, 11)) rfl yG_8_77 yD_8_listCalls X hw rfl yGo_8 (Nat.le_trans (Nat.le_of_ble_eq_true rfl) hRf) (Nat.le_trans (Nat.le_of_ble_eq_true rfl) hRl) rfl hl.1 (Nat.le_of_ble_eq_true rfl) rfl dX8_addMeasureClauses_35 (fun u H locs h hw => ?_)
        refine lv_iconst hx hb dX8_addMeasureClauses_38 (v := jI 0) rfl ?_
        refine lv_istore hx hb dX8_addMeasureClauses_39 hl (by decide) rfl (fun ls hl => ?_)
        have hl : lv_has ls 10 [(8, .int (jI 0)), (0, .ref (ad 0 7)), (1, .ref (ad 0 3)), (2, .int (jI x2)), (3, .int (jI x3)), (5, .int (jI x5)), (6, .int (jI x6)), (7, .int (jI x7))] := hl
        exact f_8_addMeasureClauses_41 X hRf hRl hret hR11 rx2 rx3 rx5 rx7 (by decide) hw (lv_sub hl [1, 2, 3, 4, 5, 7, 0] rfl) h

def v_8_addMeasureClauses (a1 : Int) (a2 : Int) (a3 : Int) (a4 : Int) (Q : iST → Prop) (u : iST) : Prop :=
  v_8_goToPath a3 (fun v1 u => 
  v_8_addMeasureClauses_11 Q a1 a2 a4 v1 0 u) u
set_option maxRecDepth 20000 in
set_option maxHeartbeats 4000000 in
theorem f_8_addMeasureClauses_s (X : yX RX8 p m c cX8_addMeasureClauses 10 s args D ca ad A) (hRf : 4 ≤ R.frames) (hRl : 103 ≤ R.locals) {Q : iST → Prop} (hret : ∀ (u : iST) (H : Heap) (locs : List Loc) (ls : Array Slot) (pc : Nat), Q u → yW D ca A ad s H locs u → decode cX8_addMeasureClauses pc = .ok (.return_, 1) → W p l e R s m args below meth c H locs 0 0 Qf (F0 m pc ls [])) {a1 a2 a3 a4 : Int} (ra1 : inR a1) (ra2 : inR a2) (ra3 : inR a3) (ra4 : inR a4) (hw : yW D ca A ad s H locs u) (hl : lv_has ls 10 [(0, .ref (ad 0 7)), (1, .ref (ad 0 3)), (2, .int (jI a1)), (3, .int (jI a2)), (4, .int (jI a3)), (5, .int (jI a4))]) (h : v_8_addMeasureClauses a1 a2 a3 a4 Q u) : W p l e R s m args below meth c H locs 0 0 Qf (F0 m 0 ls []) := by
  have hx := X.1.1
  have hb := X.1.2.1
  unfold v_8_addMeasureClauses at h
  refine lv_aload_n hx hb dX8_addMeasureClauses_0 rfl (lv_at hl 0 rfl) ?_
  refine lv_iload hx hb dX8_addMeasureClauses_1 (lv_at hl 4 rfl) ?_
  refine ycI (n := 1) (e_8_goToPath ra3 h) 8 7 (r := (RX8, TX8, 11)) rfl yG_8_60 yD_8_goToPath X hw rfl yGo_8 (Nat.le_trans (Nat.le_of_ble_eq_true rfl) hRf) (Nat.le_trans (Nat.le_of_ble_eq_true rfl) hRl) rfl hl.1 (Nat.le_of_ble_eq_true rfl) rfl dX8_addMeasureClauses_3 (fun v1 u H locs rv1 h hw => ?_)
  refine lv_istore hx hb dX8_addMeasureClauses_6 hl (by decide) rfl (fun ls hl => ?_)
  have hl : lv_has ls 10 [(6, .int (jI v1)), (0, .ref (ad 0 7)), (1, .ref (ad 0 3)), (2, .int (jI a1)), (3, .int (jI a2)), (4, .int (jI a3)), (5, .int (jI a4))] := hl
  refine lv_iconst hx hb dX8_addMeasureClauses_8 (v := jI 0) rfl ?_
  refine lv_istore hx hb dX8_addMeasureClauses_9 hl (by decide) rfl (fun ls hl => ?_)
  have hl : lv_has ls 10 [(7, .int (jI 0)), (6, .int (jI v1)), (0, .ref (ad 0 7)), (1, .ref (ad 0 3)), (2, .int (jI a1)), (3, .int (jI a2)), (4, .int (jI a3)), (5, .int (jI a4))] := hl
  exact f_8_addMeasureClauses_11 X hRf hRl hret ra1 ra2 ra4 rv1 (by decide) hw (lv_sub hl [2, 3, 4, 5, 7, 1, 0] rfl) h

end
theorem e_8_addMeasureClauses {l : Launch} {a1 : Int} {a2 : Int} {a3 : Int} {a4 : Int} (ra1 : inR a1) (ra2 : inR a2) (ra3 : inR a3) (ra4 : inR a4) {Q : iST → Prop} {u : iST} (h : v_8_addMeasureClauses a1 a2 a3 a4 Q u) : yMV l yX8_addMeasureClauses (.code yX8_addMeasureClauses cX8_addMeasureClauses 10 none :: wsN) { frames := 4, cells := 0, slots := 0, locals := 103 } (fun ad => [.ref (ad 0 7), .ref (ad 0 3), .int (jI a1), .int (jI a2), .int (jI a3), .int (jI a4)]) Q u := yMV_of (own := RX8) rfl (by decide +kernel) (fun _ => Nat.le_of_ble_eq_true rfl) (fun X hRf hRl hret hw hl => f_8_addMeasureClauses_s X hRf hRl hret ra1 ra2 ra3 ra4 hw hl h)

/-! ProofHouse$Schemes.mute -/
theorem dX8_mute_0 : decode cX8_mute 0 = .ok (.iload_n 1, 1) := by decide +kernel
theorem dX8_mute_1 : decode cX8_mute 1 = .ok (.istore_n 2, 1) := by decide +kernel
theorem dX8_mute_2 : decode cX8_mute 2 = .ok (.aload_n 0, 1) := by decide +kernel
theorem dX8_mute_3 : decode cX8_mute 3 = .ok (.getfield 38, 3) := by decide +kernel
theorem dX8_mute_6 : decode cX8_mute 6 = .ok (.iload_n 2, 1) := by decide +kernel
theorem dX8_mute_7 : decode cX8_mute 7 = .ok (.invokevirtual 84, 3) := by decide +kernel
theorem dX8_mute_10 : decode cX8_mute 10 = .ok (.ifCond .eq 116, 3) := by decide +kernel
theorem dX8_mute_13 : decode cX8_mute 13 = .ok (.aload_n 0, 1) := by decide +kernel
theorem dX8_mute_14 : decode cX8_mute 14 = .ok (.getfield 38, 3) := by decide +kernel
theorem dX8_mute_17 : decode cX8_mute 17 = .ok (.iload_n 2, 1) := by decide +kernel
theorem dX8_mute_18 : decode cX8_mute 18 = .ok (.invokevirtual 87, 3) := by decide +kernel
theorem dX8_mute_21 : decode cX8_mute 21 = .ok (.istore_n 3, 1) := by decide +kernel
theorem dX8_mute_22 : decode cX8_mute 22 = .ok (.aload_n 0, 1) := by decide +kernel
theorem dX8_mute_23 : decode cX8_mute 23 = .ok (.getfield 38, 3) := by decide +kernel
theorem dX8_mute_26 : decode cX8_mute 26 = .ok (.iload_n 3, 1) := by decide +kernel
theorem dX8_mute_27 : decode cX8_mute 27 = .ok (.invokevirtual 87, 3) := by decide +kernel
theorem dX8_mute_30 : decode cX8_mute 30 = .ok (.bipush 24, 2) := by decide +kernel
theorem dX8_mute_32 : decode cX8_mute 32 = .ok (.if_icmp .ne 14, 3) := by decide +kernel
theorem dX8_mute_35 : decode cX8_mute 35 = .ok (.aload_n 0, 1) := by decide +kernel
theorem dX8_mute_36 : decode cX8_mute 36 = .ok (.getfield 38, 3) := by decide +kernel
theorem dX8_mute_39 : decode cX8_mute 39 = .ok (.iload_n 3, 1) := by decide +kernel
theorem dX8_mute_40 : decode cX8_mute 40 = .ok (.invokevirtual 81, 3) := by decide +kernel
theorem dX8_mute_43 : decode cX8_mute 43 = .ok (.goto 4, 3) := by decide +kernel
theorem dX8_mute_46 : decode cX8_mute 46 = .ok (.iconst 0, 1) := by decide +kernel
theorem dX8_mute_47 : decode cX8_mute 47 = .ok (.istore 4, 2) := by decide +kernel
theorem dX8_mute_49 : decode cX8_mute 49 = .ok (.iload 4, 2) := by decide +kernel
theorem dX8_mute_51 : decode cX8_mute 51 = .ok (.istore 5, 2) := by decide +kernel
theorem dX8_mute_53 : decode cX8_mute 53 = .ok (.aload_n 0, 1) := by decide +kernel
theorem dX8_mute_54 : decode cX8_mute 54 = .ok (.getfield 38, 3) := by decide +kernel
theorem dX8_mute_57 : decode cX8_mute 57 = .ok (.iload 5, 2) := by decide +kernel
theorem dX8_mute_59 : decode cX8_mute 59 = .ok (.invokevirtual 84, 3) := by decide +kernel
theorem dX8_mute_62 : decode cX8_mute 62 = .ok (.ifCond .eq 52, 3) := by decide +kernel
theorem dX8_mute_65 : decode cX8_mute 65 = .ok (.aload_n 0, 1) := by decide +kernel
theorem dX8_mute_66 : decode cX8_mute 66 = .ok (.getfield 42, 3) := by decide +kernel
theorem dX8_mute_69 : decode cX8_mute 69 = .ok (.aload_n 0, 1) := by decide +kernel
theorem dX8_mute_70 : decode cX8_mute 70 = .ok (.getfield 38, 3) := by decide +kernel
theorem dX8_mute_73 : decode cX8_mute 73 = .ok (.iload 5, 2) := by decide +kernel
theorem dX8_mute_75 : decode cX8_mute 75 = .ok (.invokevirtual 87, 3) := by decide +kernel
theorem dX8_mute_78 : decode cX8_mute 78 = .ok (.invokevirtual 138, 3) := by decide +kernel
theorem dX8_mute_81 : decode cX8_mute 81 = .ok (.istore 6, 2) := by decide +kernel
theorem dX8_mute_83 : decode cX8_mute 83 = .ok (.iload 6, 2) := by decide +kernel
theorem dX8_mute_85 : decode cX8_mute 85 = .ok (.iconst (-1), 1) := by decide +kernel
theorem dX8_mute_86 : decode cX8_mute 86 = .ok (.if_icmp .eq 14, 3) := by decide +kernel
theorem dX8_mute_89 : decode cX8_mute 89 = .ok (.aload_n 0, 1) := by decide +kernel
theorem dX8_mute_90 : decode cX8_mute 90 = .ok (.getfield 42, 3) := by decide +kernel
theorem dX8_mute_93 : decode cX8_mute 93 = .ok (.getfield 141, 3) := by decide +kernel
theorem dX8_mute_96 : decode cX8_mute 96 = .ok (.iload 6, 2) := by decide +kernel
theorem dX8_mute_98 : decode cX8_mute 98 = .ok (.iconst 1, 1) := by decide +kernel
theorem dX8_mute_99 : decode cX8_mute 99 = .ok (.bastore, 1) := by decide +kernel
theorem dX8_mute_100 : decode cX8_mute 100 = .ok (.aload_n 0, 1) := by decide +kernel
theorem dX8_mute_101 : decode cX8_mute 101 = .ok (.getfield 38, 3) := by decide +kernel
theorem dX8_mute_104 : decode cX8_mute 104 = .ok (.iload 5, 2) := by decide +kernel
theorem dX8_mute_106 : decode cX8_mute 106 = .ok (.invokevirtual 81, 3) := by decide +kernel
theorem dX8_mute_109 : decode cX8_mute 109 = .ok (.istore 5, 2) := by decide +kernel
theorem dX8_mute_111 : decode cX8_mute 111 = .ok (.goto (-58), 3) := by decide +kernel
theorem dX8_mute_114 : decode cX8_mute 114 = .ok (.aload_n 0, 1) := by decide +kernel
theorem dX8_mute_115 : decode cX8_mute 115 = .ok (.getfield 38, 3) := by decide +kernel
theorem dX8_mute_118 : decode cX8_mute 118 = .ok (.iload_n 2, 1) := by decide +kernel
theorem dX8_mute_119 : decode cX8_mute 119 = .ok (.invokevirtual 81, 3) := by decide +kernel
theorem dX8_mute_122 : decode cX8_mute 122 = .ok (.istore_n 2, 1) := by decide +kernel
theorem dX8_mute_123 : decode cX8_mute 123 = .ok (.goto (-121), 3) := by decide +kernel
theorem dX8_mute_126 : decode cX8_mute 126 = .ok (.return_, 1) := by decide +kernel

section
variable {p : Program} {l : Launch} {e : Env} {R : Room} {s : State} {m : MethodId} {args : Array Value} {below : List Frame} {meth : Method} {c : Code} {H : Heap} {locs : List Loc} {Qf : State → Prop}
variable {ls : Array Slot} {D : va_G} {ca : Nat → ClassId} {A : Nat → Prop} {ad : Nat → Nat → Nat} {u : iST}
def v_8_mute_100 (R2 : Int → iST → Prop) (R53 : Int → Int → iST → Prop) (Q : iST → Prop) (x2 : Int) (x5 : Int) (u : iST) : Prop :=
  v_7_right x5 (fun v8 u => 
  R53 x2 v8 u) u
set_option maxRecDepth 20000 in
set_option maxHeartbeats 4000000 in
theorem f_8_mute_100 (X : yX RX8 p m c cX8_mute 7 s args D ca ad A) (hRf : 1 ≤ R.frames) (hRl : 22 ≤ R.locals) {Q : iST → Prop} (hret : ∀ (u : iST) (H : Heap) (locs : List Loc) (ls : Array Slot) (pc : Nat), Q u → yW D ca A ad s H locs u → decode cX8_mute pc = .ok (.return_, 1) → W p l e R s m args below meth c H locs 0 0 Qf (F0 m pc ls [])) {R2 : Int → iST → Prop} (hR2 : ∀ (x2 : Int) (u : iST) (H : Heap) (locs : List Loc) (ls : Array Slot), inR x2 → yW D ca A ad s H locs u → lv_has ls 7 [(0, .ref (ad 0 7)), (2, .int (jI x2))] → R2 x2 u → W p l e R s m args below meth c H locs 0 0 Qf (F0 m 2 ls [])) {R53 : Int → Int → iST → Prop} (hR53 : ∀ (x2 : Int) (x5 : Int) (u : iST) (H : Heap) (locs : List Loc) (ls : Array Slot), inR x2 → inR x5 → yW D ca A ad s H locs u → lv_has ls 7 [(0, .ref (ad 0 7)), (2, .int (jI x2)), (5, .int (jI x5))] → R53 x2 x5 u → W p l e R s m args below meth c H locs 0 0 Qf (F0 m 53 ls [])) {x2 x5 : Int} (rx2 : inR x2) (rx5 : inR x5) (hw : yW D ca A ad s H locs u) (hl : lv_has ls 7 [(0, .ref (ad 0 7)), (2, .int (jI x2)), (5, .int (jI x5))]) (h : v_8_mute_100 R2 R53 Q x2 x5 u) : W p l e R s m args below meth c H locs 0 0 Qf (F0 m 100 ls []) := by
  have hx := X.1.1
  have hb := X.1.2.1
  unfold v_8_mute_100 at h
  refine lv_aload_n hx hb dX8_mute_100 rfl (lv_at hl 0 rfl) ?_
  refine yg_8_38 X hw dX8_mute_101 ?_
  refine lv_iload hx hb dX8_mute_104 (lv_at hl 2 rfl) ?_
  refine ycI (n := 1) (e_7_right rx5 h) 7 6 (r := (RX7, TX7, 9)) rfl yG_8_81 yD_7_right X hw rfl yGo_7 (Nat.le_trans (Nat.le_of_ble_eq_true rfl) hRf) (Nat.le_trans (Nat.le_of_ble_eq_true rfl) hRl) rfl hl.1 (Nat.le_of_ble_eq_true rfl) rfl dX8_mute_106 (fun v8 u H locs rv8 h hw => ?_)
  refine lv_istore hx hb dX8_mute_109 hl (by decide) rfl (fun ls hl => ?_)
  have hl : lv_has ls 7 [(5, .int (jI v8)), (0, .ref (ad 0 7)), (2, .int (jI x2))] := hl
  refine lv_goto hx hb dX8_mute_111 (tgt := 53) rfl ?_
  exact hR53 _ _ _ H locs ls rx2 rv8 hw (lv_sub hl [1, 2, 0] rfl) h

def v_8_mute_53b (R2 : Int → iST → Prop) (R53 : Int → Int → iST → Prop) (Q : iST → Prop) (x2 : Int) (x5 : Int) (u : iST) : Prop :=
  v_7_isPair x5 (fun v4 u => 
  br (v4 = 0) (
    v_7_right x2 (fun v5 u => 
    R2 v5 u) u) (
    v_7_left x5 (fun v6 u => 
    v_0_theoremOf v6 (fun v7 u => 
    br (v7 = (-1)) (
      v_8_mute_100 R2 R53 Q x2 x5 u) (
      zt 1 (bd v7 60 (sw (iA u 13 v7 1) (fun u => 
      v_8_mute_100 R2 R53 Q x2 x5 u))))) u) u)) u
def v_8_mute_53 (R2 : Int → iST → Prop) (Q : iST → Prop) (x2 : Int) (x5 : Int) (u : iST) : Prop := ∀ R53 : Int → Int → iST → Prop, (∀ (x2 : Int) (x5 : Int) (u : iST), v_8_mute_53b R2 R53 Q x2 x5 u → R53 x2 x5 u) → R53 x2 x5 u
set_option maxRecDepth 20000 in
set_option maxHeartbeats 4000000 in
theorem f_8_mute_53 (X : yX RX8 p m c cX8_mute 7 s args D ca ad A) (hRf : 1 ≤ R.frames) (hRl : 22 ≤ R.locals) {Q : iST → Prop} (hret : ∀ (u : iST) (H : Heap) (locs : List Loc) (ls : Array Slot) (pc : Nat), Q u → yW D ca A ad s H locs u → decode cX8_mute pc = .ok (.return_, 1) → W p l e R s m args below meth c H locs 0 0 Qf (F0 m pc ls [])) {R2 : Int → iST → Prop} (hR2 : ∀ (x2 : Int) (u : iST) (H : Heap) (locs : List Loc) (ls : Array Slot), inR x2 → yW D ca A ad s H locs u → lv_has ls 7 [(0, .ref (ad 0 7)), (2, .int (jI x2))] → R2 x2 u → W p l e R s m args below meth c H locs 0 0 Qf (F0 m 2 ls [])) {x2 x5 : Int} (rx2 : inR x2) (rx5 : inR x5) (hw : yW D ca A ad s H locs u) (hl : lv_has ls 7 [(0, .ref (ad 0 7)), (2, .int (jI x2)), (5, .int (jI x5))]) (h : v_8_mute_53 R2 Q x2 x5 u) : W p l e R s m args below meth c H locs 0 0 Qf (F0 m 53 ls []) := by
  refine h (fun x2 x5 u => ∀ (H : Heap) (locs : List Loc) (ls : Array Slot), inR x2 → inR x5 → yW D ca A ad s H locs u → lv_has ls 7 [(0, .ref (ad 0 7)), (2, .int (jI x2)), (5, .int (jI x5))] → W p l e R s m args below meth c H locs 0 0 Qf (F0 m 53 ls [])) ?_ H locs ls rx2 rx5 hw hl
  clear h hl hw rx2 rx5
  intro x2 x5 u h H locs ls rx2 rx5 hw hl
  have hR53 : ∀ (x2 : Int) (x5 : Int) (u : iST) (H : Heap) (locs : List Loc) (ls : Array Slot), inR x2 → inR x5 → yW D ca A ad s H locs u → lv_has ls 7 [(0, .ref (ad 0 7)), (2, .int (jI x2)), (5, .int (jI x5))] → (fun (x2 : Int) (x5 : Int) u => ∀ (H : Heap) (locs : List Loc) (ls : Array Slot), inR x2 → inR x5 → yW D ca A ad s H locs u → lv_has ls 7 [(0, .ref (ad 0 7)), (2, .int (jI x2)), (5, .int (jI x5))] → W p l e R s m args below meth c H locs 0 0 Qf (F0 m 53 ls [])) x2 x5 u → W p l e R s m args below meth c H locs 0 0 Qf (F0 m 53 ls []) := fun x2 x5 u H locs ls rx2 rx5 hw hl h => h H locs ls rx2 rx5 hw hl
  have hx := X.1.1
  have hb := X.1.2.1
  unfold v_8_mute_53b at h
  refine lv_aload_n hx hb dX8_mute_53 rfl (lv_at hl 0 rfl) ?_
  refine yg_8_38 X hw dX8_mute_54 ?_
  refine lv_iload hx hb dX8_mute_57 (lv_at hl 2 rfl) ?_
  refine ycI (n := 1) (e_7_isPair rx5 h) 7 6 (r := (RX7, TX7, 9)) rfl yG_8_84 yD_7_isPair X hw rfl yGo_7 (Nat.le_trans (Nat.le_of_ble_eq_true rfl) hRf) (Nat.le_trans (Nat.le_of_ble_eq_true rfl) hRl) rfl hl.1 (Nat.le_of_ble_eq_true rfl) rfl dX8_mute_59 (fun v4 u H locs rv4 h hw => ?_)
  refine k_if_eq hx hb rv4 dX8_mute_62 (tgt := 114) rfl h (fun h => ?_) (fun h => ?_)
  · refine lv_aload_n hx hb dX8_mute_114 rfl (lv_at hl 0 rfl) ?_
    refine yg_8_38 X hw dX8_mute_115 ?_
    refine lv_iload_n hx hb dX8_mute_118 rfl (lv_at hl 1 rfl) ?_
    refine ycI (n := 1) (e_7_right rx2 h) 7 6 (r := (RX7, TX7, 9)) rfl yG_8_81 yD_7_right X hw rfl yGo_7 (Nat.le_trans (Nat.le_of_ble_eq_true rfl) hRf) (Nat.le_trans (Nat.le_of_ble_eq_true rfl) hRl) rfl hl.1 (Nat.le_of_ble_eq_true rfl) rfl dX8_mute_119 (fun v5 u H locs rv5 h hw => ?_)
    refine lv_istore_n hx hb dX8_mute_122 rfl hl (by decide) rfl (fun ls hl => ?_)
    have hl : lv_has ls 7 [(2, .int (jI v5)), (0, .ref (ad 0 7)), (5, .int (jI x5))] := hl
    refine lv_goto hx hb dX8_mute_123 (tgt := 2) rfl ?_
    exact hR2 _ _ H locs ls rv5 hw (lv_sub hl [1, 0] rfl) h
  · refine lv_aload_n hx hb dX8_mute_65 rfl (lv_at hl 0 rfl) ?_
    refine yg_8_42 X hw dX8_mute_66 ?_
    refine lv_aload_n hx hb dX8_mute_69 rfl (lv_at hl 0 rfl) ?_
    refine yg_8_38 X hw dX8_mute_70 ?_
    refine lv_iload hx hb dX8_mute_73 (lv_at hl 2 rfl) ?_
    refine ycI (n := 1) (e_7_left rx5 h) 7 6 (r := (RX7, TX7, 9)) rfl yG_8_87 yD_7_left X hw rfl yGo_7 (Nat.le_trans (Nat.le_of_ble_eq_true rfl) hRf) (Nat.le_trans (Nat.le_of_ble_eq_true rfl) hRl) rfl hl.1 (Nat.le_of_ble_eq_true rfl) rfl dX8_mute_75 (fun v6 u H locs rv6 h hw => ?_)
    refine ycI (n := 1) (e_0_theoremOf rv6 h) 0 0 (r := (RX0, TX0, 21)) rfl yG_8_138 yD_0_theoremOf X hw rfl yGo_0 (Nat.le_trans (Nat.le_of_ble_eq_true rfl) hRf) (Nat.le_trans (Nat.le_of_ble_eq_true rfl) hRl) rfl hl.1 (Nat.le_of_ble_eq_true rfl) rfl dX8_mute_78 (fun v7 u H locs rv7 h hw => ?_)
    refine lv_istore hx hb dX8_mute_81 hl (by decide) rfl (fun ls hl => ?_)
    have hl : lv_has ls 7 [(6, .int (jI v7)), (0, .ref (ad 0 7)), (2, .int (jI x2)), (5, .int (jI x5))] := hl
    refine lv_iload hx hb dX8_mute_83 (lv_at hl 0 rfl) ?_
    refine lv_iconst hx hb dX8_mute_85 (v := jI (-1)) rfl ?_
    refine k_icmp_eq hx hb rv7 (by decide) dX8_mute_86 (tgt := 100) rfl h (fun h => ?_) (fun h => ?_)
    · exact f_8_mute_100 X hRf hRl hret hR2 hR53 rx2 rx5 hw (lv_sub hl [1, 2, 3] rfl) h
    · refine lv_aload_n hx hb dX8_mute_89 rfl (lv_at hl 1 rfl) ?_
      refine yg_8_42 X hw dX8_mute_90 ?_
      refine yg_8_141 X hw dX8_mute_93 ?_
      refine lv_iload hx hb dX8_mute_96 (lv_at hl 0 rfl) ?_
      refine lv_iconst hx hb dX8_mute_98 (v := jI 1) rfl ?_
      refine yt_13 X hw rv7 dX8_mute_99 h (fun H locs u hw h => ?_)
      exact f_8_mute_100 X hRf hRl hret hR2 hR53 rx2 rx5 hw (lv_sub hl [1, 2, 3] rfl) h

def v_8_mute_47 (R2 : Int → iST → Prop) (Q : iST → Prop) (x2 : Int) (y0 : Int) (u : iST) : Prop :=
  v_8_mute_53 R2 Q x2 y0 u
set_option maxRecDepth 20000 in
set_option maxHeartbeats 4000000 in
theorem f_8_mute_47 (X : yX RX8 p m c cX8_mute 7 s args D ca ad A) (hRf : 1 ≤ R.frames) (hRl : 22 ≤ R.locals) {Q : iST → Prop} (hret : ∀ (u : iST) (H : Heap) (locs : List Loc) (ls : Array Slot) (pc : Nat), Q u → yW D ca A ad s H locs u → decode cX8_mute pc = .ok (.return_, 1) → W p l e R s m args below meth c H locs 0 0 Qf (F0 m pc ls [])) {R2 : Int → iST → Prop} (hR2 : ∀ (x2 : Int) (u : iST) (H : Heap) (locs : List Loc) (ls : Array Slot), inR x2 → yW D ca A ad s H locs u → lv_has ls 7 [(0, .ref (ad 0 7)), (2, .int (jI x2))] → R2 x2 u → W p l e R s m args below meth c H locs 0 0 Qf (F0 m 2 ls [])) {x2 y0 : Int} (rx2 : inR x2) (ry0 : inR y0) (hw : yW D ca A ad s H locs u) (hl : lv_has ls 7 [(0, .ref (ad 0 7)), (2, .int (jI x2))]) (h : v_8_mute_47 R2 Q x2 y0 u) : W p l e R s m args below meth c H locs 0 0 Qf (F0 m 47 ls [.int (jI y0)]) := by
  have hx := X.1.1
  have hb := X.1.2.1
  unfold v_8_mute_47 at h
  refine lv_istore hx hb dX8_mute_47 hl (by decide) rfl (fun ls hl => ?_)
  have hl : lv_has ls 7 [(4, .int (jI y0)), (0, .ref (ad 0 7)), (2, .int (jI x2))] := hl
  refine lv_iload hx hb dX8_mute_49 (lv_at hl 0 rfl) ?_
  refine lv_istore hx hb dX8_mute_51 hl (by decide) rfl (fun ls hl => ?_)
  have hl : lv_has ls 7 [(5, .int (jI y0)), (4, .int (jI y0)), (0, .ref (ad 0 7)), (2, .int (jI x2))] := hl
  exact f_8_mute_53 X hRf hRl hret hR2 rx2 ry0 hw (lv_sub hl [2, 3, 0] rfl) h

def v_8_mute_2b (R2 : Int → iST → Prop) (Q : iST → Prop) (x2 : Int) (u : iST) : Prop :=
  v_7_isPair x2 (fun v1 u => 
  br (v1 = 0) (
    Q u) (
    v_7_left x2 (fun v2 u => 
    v_7_left v2 (fun v3 u => 
    br (v3 ≠ 24) (
      v_8_mute_47 R2 Q x2 0 u) (
      v_7_right v2 (fun v9 u => 
      v_8_mute_47 R2 Q x2 v9 u) u)) u) u)) u
def v_8_mute_2 (Q : iST → Prop) (x2 : Int) (u : iST) : Prop := ∀ R2 : Int → iST → Prop, (∀ (x2 : Int) (u : iST), v_8_mute_2b R2 Q x2 u → R2 x2 u) → R2 x2 u
set_option maxRecDepth 20000 in
set_option maxHeartbeats 4000000 in
theorem f_8_mute_2 (X : yX RX8 p m c cX8_mute 7 s args D ca ad A) (hRf : 1 ≤ R.frames) (hRl : 22 ≤ R.locals) {Q : iST → Prop} (hret : ∀ (u : iST) (H : Heap) (locs : List Loc) (ls : Array Slot) (pc : Nat), Q u → yW D ca A ad s H locs u → decode cX8_mute pc = .ok (.return_, 1) → W p l e R s m args below meth c H locs 0 0 Qf (F0 m pc ls [])) {x2 : Int} (rx2 : inR x2) (hw : yW D ca A ad s H locs u) (hl : lv_has ls 7 [(0, .ref (ad 0 7)), (2, .int (jI x2))]) (h : v_8_mute_2 Q x2 u) : W p l e R s m args below meth c H locs 0 0 Qf (F0 m 2 ls []) := by
  refine h (fun x2 u => ∀ (H : Heap) (locs : List Loc) (ls : Array Slot), inR x2 → yW D ca A ad s H locs u → lv_has ls 7 [(0, .ref (ad 0 7)), (2, .int (jI x2))] → W p l e R s m args below meth c H locs 0 0 Qf (F0 m 2 ls [])) ?_ H locs ls rx2 hw hl
  clear h hl hw rx2
  intro x2 u h H locs ls rx2 hw hl
  have hR2 : ∀ (x2 : Int) (u : iST) (H : Heap) (locs : List Loc) (ls : Array Slot), inR x2 → yW D ca A ad s H locs u → lv_has ls 7 [(0, .ref (ad 0 7)), (2, .int (jI x2))] → (fun (x2 : Int) u => ∀ (H : Heap) (locs : List Loc) (ls : Array Slot), inR x2 → yW D ca A ad s H locs u → lv_has ls 7 [(0, .ref (ad 0 7)), (2, .int (jI x2))] → W p l e R s m args below meth c H locs 0 0 Qf (F0 m 2 ls [])) x2 u → W p l e R s m args below meth c H locs 0 0 Qf (F0 m 2 ls []) := fun x2 u H locs ls rx2 hw hl h => h H locs ls rx2 hw hl
  have hx := X.1.1
  have hb := X.1.2.1
  unfold v_8_mute_2b at h
  refine lv_aload_n hx hb dX8_mute_2 rfl (lv_at hl 0 rfl) ?_
  refine yg_8_38 X hw dX8_mute_3 ?_
  refine lv_iload_n hx hb dX8_mute_6 rfl (lv_at hl 1 rfl) ?_
  refine ycI (n := 1) (e_7_isPair rx2 h) 7 6 (r := (RX7, TX7, 9)) rfl yG_8_84 yD_7_isPair X hw rfl yGo_7 (Nat.le_trans (Nat.le_of_ble_eq_true rfl) hRf) (Nat.le_trans (Nat.le_of_ble_eq_true rfl) hRl) rfl hl.1 (Nat.le_of_ble_eq_true rfl) rfl dX8_mute_7 (fun v1 u H locs rv1 h hw => ?_)
  refine k_if_eq hx hb rv1 dX8_mute_10 (tgt := 126) rfl h (fun h => ?_) (fun h => ?_)
  · exact hret _ _ _ _ _ h hw dX8_mute_126
  · refine lv_aload_n hx hb dX8_mute_13 rfl (lv_at hl 0 rfl) ?_
    refine yg_8_38 X hw dX8_mute_14 ?_
    refine lv_iload_n hx hb dX8_mute_17 rfl (lv_at hl 1 rfl) ?_
    refine ycI (n := 1) (e_7_left rx2 h) 7 6 (r := (RX7, TX7, 9)) rfl yG_8_87 yD_7_left X hw rfl yGo_7 (Nat.le_trans (Nat.le_of_ble_eq_true rfl) hRf) (Nat.le_trans (Nat.le_of_ble_eq_true rfl) hRl) rfl hl.1 (Nat.le_of_ble_eq_true rfl) rfl dX8_mute_18 (fun v2 u H locs rv2 h hw => ?_)
    refine lv_istore_n hx hb dX8_mute_21 rfl hl (by decide) rfl (fun ls hl => ?_)
    have hl : lv_has ls 7 [(3, .int (jI v2)), (0, .ref (ad 0 7)), (2, .int (jI x2))] := hl
    refine lv_aload_n hx hb dX8_mute_22 rfl (lv_at hl 1 rfl) ?_
    refine yg_8_38 X hw dX8_mute_23 ?_
    refine lv_iload_n hx hb dX8_mute_26 rfl (lv_at hl 0 rfl) ?_
    refine ycI (n := 1) (e_7_left rv2 h) 7 6 (r := (RX7, TX7, 9)) rfl yG_8_87 yD_7_left X hw rfl yGo_7 (Nat.le_trans (Nat.le_of_ble_eq_true rfl) hRf) (Nat.le_trans (Nat.le_of_ble_eq_true rfl) hRl) rfl hl.1 (Nat.le_of_ble_eq_true rfl) rfl dX8_mute_27 (fun v3 u H locs rv3 h hw => ?_)
    refine lv_bipush hx hb dX8_mute_30 (v := jI 24) rfl ?_
    refine k_icmp_ne hx hb rv3 (by decide) dX8_mute_32 (tgt := 46) rfl h (fun h => ?_) (fun h => ?_)
    · refine lv_iconst hx hb dX8_mute_46 (v := jI 0) rfl ?_
      exact f_8_mute_47 X hRf hRl hret hR2 rx2 (by decide) hw (lv_sub hl [1, 2] rfl) h
    · refine lv_aload_n hx hb dX8_mute_35 rfl (lv_at hl 1 rfl) ?_
      refine yg_8_38 X hw dX8_mute_36 ?_
      refine lv_iload_n hx hb dX8_mute_39 rfl (lv_at hl 0 rfl) ?_
      refine ycI (n := 1) (e_7_right rv2 h) 7 6 (r := (RX7, TX7, 9)) rfl yG_8_81 yD_7_right X hw rfl yGo_7 (Nat.le_trans (Nat.le_of_ble_eq_true rfl) hRf) (Nat.le_trans (Nat.le_of_ble_eq_true rfl) hRl) rfl hl.1 (Nat.le_of_ble_eq_true rfl) rfl dX8_mute_40 (fun v9 u H locs rv9 h hw => ?_)
      refine lv_goto hx hb dX8_mute_43 (tgt := 47) rfl ?_
      exact f_8_mute_47 X hRf hRl hret hR2 rx2 rv9 hw (lv_sub hl [1, 2] rfl) h

def v_8_mute (a0 : Int) (Q : iST → Prop) (u : iST) : Prop :=
  v_8_mute_2 Q a0 u
set_option maxRecDepth 20000 in
set_option maxHeartbeats 4000000 in
theorem f_8_mute_s (X : yX RX8 p m c cX8_mute 7 s args D ca ad A) (hRf : 1 ≤ R.frames) (hRl : 22 ≤ R.locals) {Q : iST → Prop} (hret : ∀ (u : iST) (H : Heap) (locs : List Loc) (ls : Array Slot) (pc : Nat), Q u → yW D ca A ad s H locs u → decode cX8_mute pc = .ok (.return_, 1) → W p l e R s m args below meth c H locs 0 0 Qf (F0 m pc ls [])) {a0 : Int} (ra0 : inR a0) (hw : yW D ca A ad s H locs u) (hl : lv_has ls 7 [(0, .ref (ad 0 7)), (1, .int (jI a0))]) (h : v_8_mute a0 Q u) : W p l e R s m args below meth c H locs 0 0 Qf (F0 m 0 ls []) := by
  have hx := X.1.1
  have hb := X.1.2.1
  unfold v_8_mute at h
  refine lv_iload_n hx hb dX8_mute_0 rfl (lv_at hl 1 rfl) ?_
  refine lv_istore_n hx hb dX8_mute_1 rfl hl (by decide) rfl (fun ls hl => ?_)
  have hl : lv_has ls 7 [(2, .int (jI a0)), (0, .ref (ad 0 7)), (1, .int (jI a0))] := hl
  exact f_8_mute_2 X hRf hRl hret ra0 hw (lv_sub hl [1, 0] rfl) h

end
theorem e_8_mute {l : Launch} {a0 : Int} (ra0 : inR a0) {Q : iST → Prop} {u : iST} (h : v_8_mute a0 Q u) : yMV l yX8_mute (.code yX8_mute cX8_mute 7 none :: wsN) { frames := 1, cells := 0, slots := 0, locals := 22 } (fun ad => [.ref (ad 0 7), .int (jI a0)]) Q u := yMV_of (own := RX8) rfl (by decide +kernel) (fun _ => Nat.le_of_ble_eq_true rfl) (fun X hRf hRl hret hw hl => f_8_mute_s X hRf hRl hret ra0 hw hl h)

/-! ProofHouse$Schemes.addUses -/
theorem dX8_addUses_0 : decode cX8_addUses 0 = .ok (.iload_n 2, 1) := by decide +kernel
theorem dX8_addUses_1 : decode cX8_addUses 1 = .ok (.istore_n 3, 1) := by decide +kernel
theorem dX8_addUses_2 : decode cX8_addUses 2 = .ok (.aload_n 0, 1) := by decide +kernel
theorem dX8_addUses_3 : decode cX8_addUses 3 = .ok (.getfield 38, 3) := by decide +kernel
theorem dX8_addUses_6 : decode cX8_addUses 6 = .ok (.iload_n 3, 1) := by decide +kernel
theorem dX8_addUses_7 : decode cX8_addUses 7 = .ok (.invokevirtual 84, 3) := by decide +kernel
theorem dX8_addUses_10 : decode cX8_addUses 10 = .ok (.ifCond .eq 131, 3) := by decide +kernel
theorem dX8_addUses_13 : decode cX8_addUses 13 = .ok (.aload_n 0, 1) := by decide +kernel
theorem dX8_addUses_14 : decode cX8_addUses 14 = .ok (.getfield 38, 3) := by decide +kernel
theorem dX8_addUses_17 : decode cX8_addUses 17 = .ok (.getfield 94, 3) := by decide +kernel
theorem dX8_addUses_20 : decode cX8_addUses 20 = .ok (.ifCond .ne 121, 3) := by decide +kernel
theorem dX8_addUses_23 : decode cX8_addUses 23 = .ok (.aload_n 0, 1) := by decide +kernel
theorem dX8_addUses_24 : decode cX8_addUses 24 = .ok (.getfield 38, 3) := by decide +kernel
theorem dX8_addUses_27 : decode cX8_addUses 27 = .ok (.iload_n 3, 1) := by decide +kernel
theorem dX8_addUses_28 : decode cX8_addUses 28 = .ok (.invokevirtual 87, 3) := by decide +kernel
theorem dX8_addUses_31 : decode cX8_addUses 31 = .ok (.istore 4, 2) := by decide +kernel
theorem dX8_addUses_33 : decode cX8_addUses 33 = .ok (.aload_n 0, 1) := by decide +kernel
theorem dX8_addUses_34 : decode cX8_addUses 34 = .ok (.getfield 42, 3) := by decide +kernel
theorem dX8_addUses_37 : decode cX8_addUses 37 = .ok (.aload_n 0, 1) := by decide +kernel
theorem dX8_addUses_38 : decode cX8_addUses 38 = .ok (.getfield 38, 3) := by decide +kernel
theorem dX8_addUses_41 : decode cX8_addUses 41 = .ok (.iload 4, 2) := by decide +kernel
theorem dX8_addUses_43 : decode cX8_addUses 43 = .ok (.iconst 1, 1) := by decide +kernel
theorem dX8_addUses_44 : decode cX8_addUses 44 = .ok (.invokevirtual 50, 3) := by decide +kernel
theorem dX8_addUses_47 : decode cX8_addUses 47 = .ok (.invokevirtual 138, 3) := by decide +kernel
theorem dX8_addUses_50 : decode cX8_addUses 50 = .ok (.istore 5, 2) := by decide +kernel
theorem dX8_addUses_52 : decode cX8_addUses 52 = .ok (.aload_n 0, 1) := by decide +kernel
theorem dX8_addUses_53 : decode cX8_addUses 53 = .ok (.getfield 38, 3) := by decide +kernel
theorem dX8_addUses_56 : decode cX8_addUses 56 = .ok (.iload 4, 2) := by decide +kernel
theorem dX8_addUses_58 : decode cX8_addUses 58 = .ok (.invokevirtual 87, 3) := by decide +kernel
theorem dX8_addUses_61 : decode cX8_addUses 61 = .ok (.bipush 26, 2) := by decide +kernel
theorem dX8_addUses_63 : decode cX8_addUses 63 = .ok (.if_icmp .ne 66, 3) := by decide +kernel
theorem dX8_addUses_66 : decode cX8_addUses 66 = .ok (.iload 5, 2) := by decide +kernel
theorem dX8_addUses_68 : decode cX8_addUses 68 = .ok (.iconst (-1), 1) := by decide +kernel
theorem dX8_addUses_69 : decode cX8_addUses 69 = .ok (.if_icmp .eq 60, 3) := by decide +kernel
theorem dX8_addUses_72 : decode cX8_addUses 72 = .ok (.aload_n 0, 1) := by decide +kernel
theorem dX8_addUses_73 : decode cX8_addUses 73 = .ok (.getfield 46, 3) := by decide +kernel
theorem dX8_addUses_76 : decode cX8_addUses 76 = .ok (.aload_n 0, 1) := by decide +kernel
theorem dX8_addUses_77 : decode cX8_addUses 77 = .ok (.getfield 38, 3) := by decide +kernel
theorem dX8_addUses_80 : decode cX8_addUses 80 = .ok (.aload_n 0, 1) := by decide +kernel
theorem dX8_addUses_81 : decode cX8_addUses 81 = .ok (.getfield 38, 3) := by decide +kernel
theorem dX8_addUses_84 : decode cX8_addUses 84 = .ok (.iload 4, 2) := by decide +kernel
theorem dX8_addUses_86 : decode cX8_addUses 86 = .ok (.invokevirtual 81, 3) := by decide +kernel
theorem dX8_addUses_89 : decode cX8_addUses 89 = .ok (.invokevirtual 81, 3) := by decide +kernel
theorem dX8_addUses_92 : decode cX8_addUses 92 = .ok (.invokevirtual 144, 3) := by decide +kernel
theorem dX8_addUses_95 : decode cX8_addUses 95 = .ok (.pop, 1) := by decide +kernel
theorem dX8_addUses_96 : decode cX8_addUses 96 = .ok (.aload_n 0, 1) := by decide +kernel
theorem dX8_addUses_97 : decode cX8_addUses 97 = .ok (.getfield 46, 3) := by decide +kernel
theorem dX8_addUses_100 : decode cX8_addUses 100 = .ok (.aload_n 1, 1) := by decide +kernel
theorem dX8_addUses_101 : decode cX8_addUses 101 = .ok (.aload_n 0, 1) := by decide +kernel
theorem dX8_addUses_102 : decode cX8_addUses 102 = .ok (.getfield 46, 3) := by decide +kernel
theorem dX8_addUses_105 : decode cX8_addUses 105 = .ok (.aload_n 0, 1) := by decide +kernel
theorem dX8_addUses_106 : decode cX8_addUses 106 = .ok (.getfield 46, 3) := by decide +kernel
theorem dX8_addUses_109 : decode cX8_addUses 109 = .ok (.aload_n 0, 1) := by decide +kernel
theorem dX8_addUses_110 : decode cX8_addUses 110 = .ok (.getfield 42, 3) := by decide +kernel
theorem dX8_addUses_113 : decode cX8_addUses 113 = .ok (.getfield 147, 3) := by decide +kernel
theorem dX8_addUses_116 : decode cX8_addUses 116 = .ok (.iload 5, 2) := by decide +kernel
theorem dX8_addUses_118 : decode cX8_addUses 118 = .ok (.iaload, 1) := by decide +kernel
theorem dX8_addUses_119 : decode cX8_addUses 119 = .ok (.iconst 1, 1) := by decide +kernel
theorem dX8_addUses_120 : decode cX8_addUses 120 = .ok (.invokevirtual 97, 3) := by decide +kernel
theorem dX8_addUses_123 : decode cX8_addUses 123 = .ok (.invokevirtual 100, 3) := by decide +kernel
theorem dX8_addUses_126 : decode cX8_addUses 126 = .ok (.invokevirtual 103, 3) := by decide +kernel
theorem dX8_addUses_129 : decode cX8_addUses 129 = .ok (.aload_n 0, 1) := by decide +kernel
theorem dX8_addUses_130 : decode cX8_addUses 130 = .ok (.getfield 38, 3) := by decide +kernel
theorem dX8_addUses_133 : decode cX8_addUses 133 = .ok (.iload_n 3, 1) := by decide +kernel
theorem dX8_addUses_134 : decode cX8_addUses 134 = .ok (.invokevirtual 81, 3) := by decide +kernel
theorem dX8_addUses_137 : decode cX8_addUses 137 = .ok (.istore_n 3, 1) := by decide +kernel
theorem dX8_addUses_138 : decode cX8_addUses 138 = .ok (.goto (-136), 3) := by decide +kernel
theorem dX8_addUses_141 : decode cX8_addUses 141 = .ok (.return_, 1) := by decide +kernel

section
variable {p : Program} {l : Launch} {e : Env} {R : Room} {s : State} {m : MethodId} {args : Array Value} {below : List Frame} {meth : Method} {c : Code} {H : Heap} {locs : List Loc} {Qf : State → Prop}
variable {ls : Array Slot} {D : va_G} {ca : Nat → ClassId} {A : Nat → Prop} {ad : Nat → Nat → Nat} {u : iST}
def v_8_addUses_129 (R2 : Int → Int → iST → Prop) (Q : iST → Prop) (x1 : Int) (x3 : Int) (u : iST) : Prop :=
  v_7_right x3 (fun v7 u => 
  R2 x1 v7 u) u
set_option maxRecDepth 20000 in
set_option maxHeartbeats 4000000 in
theorem f_8_addUses_129 (X : yX RX8 p m c cX8_addUses 6 s args D ca ad A) (hRf : 4 ≤ R.frames) (hRl : 100 ≤ R.locals) {Q : iST → Prop} (hret : ∀ (u : iST) (H : Heap) (locs : List Loc) (ls : Array Slot) (pc : Nat), Q u → yW D ca A ad s H locs u → decode cX8_addUses pc = .ok (.return_, 1) → W p l e R s m args below meth c H locs 0 0 Qf (F0 m pc ls [])) {R2 : Int → Int → iST → Prop} (hR2 : ∀ (x1 : Int) (x3 : Int) (u : iST) (H : Heap) (locs : List Loc) (ls : Array Slot), (0 ≤ x1 ∧ x1 < 408) → inR x3 → yW D ca A ad s H locs u → lv_has ls 6 [(0, .ref (ad 0 7)), (1, .ref (ad 4 x1.toNat)), (3, .int (jI x3))] → R2 x1 x3 u → W p l e R s m args below meth c H locs 0 0 Qf (F0 m 2 ls [])) {x1 x3 : Int} (rx1 : (0 ≤ x1 ∧ x1 < 408)) (rx3 : inR x3) (hw : yW D ca A ad s H locs u) (hl : lv_has ls 6 [(0, .ref (ad 0 7)), (1, .ref (ad 4 x1.toNat)), (3, .int (jI x3))]) (h : v_8_addUses_129 R2 Q x1 x3 u) : W p l e R s m args below meth c H locs 0 0 Qf (F0 m 129 ls []) := by
  have hx := X.1.1
  have hb := X.1.2.1
  unfold v_8_addUses_129 at h
  refine lv_aload_n hx hb dX8_addUses_129 rfl (lv_at hl 0 rfl) ?_
  refine yg_8_38 X hw dX8_addUses_130 ?_
  refine lv_iload_n hx hb dX8_addUses_133 rfl (lv_at hl 2 rfl) ?_
  refine ycI (n := 1) (e_7_right rx3 h) 7 6 (r := (RX7, TX7, 9)) rfl yG_8_81 yD_7_right X hw rfl yGo_7 (Nat.le_trans (Nat.le_of_ble_eq_true rfl) hRf) (Nat.le_trans (Nat.le_of_ble_eq_true rfl) hRl) rfl hl.1 (Nat.le_of_ble_eq_true rfl) rfl dX8_addUses_134 (fun v7 u H locs rv7 h hw => ?_)
  refine lv_istore_n hx hb dX8_addUses_137 rfl hl (by decide) rfl (fun ls hl => ?_)
  have hl : lv_has ls 6 [(3, .int (jI v7)), (0, .ref (ad 0 7)), (1, .ref (ad 4 x1.toNat))] := hl
  refine lv_goto hx hb dX8_addUses_138 (tgt := 2) rfl ?_
  exact hR2 _ _ _ H locs ls rx1 rv7 hw (lv_sub hl [1, 2, 0] rfl) h

def v_8_addUses_2b (R2 : Int → Int → iST → Prop) (Q : iST → Prop) (x1 : Int) (x3 : Int) (u : iST) : Prop :=
  v_7_isPair x3 (fun v1 u => 
  br (v1 = 0) (
    Q u) (
    rd (u.1 32) (fun v2 => 
    br (v2 ≠ 0) (
      Q u) (
      v_7_left x3 (fun v3 u => 
      v_7_item v3 1 (fun v4 u => 
      v_0_theoremOf v4 (fun v5 u => 
      v_7_left v3 (fun v6 u => 
      br (v6 ≠ 26) (
        v_8_addUses_129 R2 Q x1 x3 u) (
        br (v5 = (-1)) (
          v_8_addUses_129 R2 Q x1 x3 u) (
          v_7_right v3 (fun v8 u => 
          v_7_right v8 (fun v9 u => 
          v_10_bindPairs v9 (fun v10 u => 
          bd v5 60 (rd (u.2.1 6 v5) (fun v11 => 
          v_10_rebuilt v11 1 (fun v12 u => 
          v_10_negated v12 (fun v13 u => 
          v_10_join x1 v13 (fun u => 
          v_8_addUses_129 R2 Q x1 x3 u) u) u) u))) u) u) u))) u) u) u) u)))) u
def v_8_addUses_2 (Q : iST → Prop) (x1 : Int) (x3 : Int) (u : iST) : Prop := ∀ R2 : Int → Int → iST → Prop, (∀ (x1 : Int) (x3 : Int) (u : iST), v_8_addUses_2b R2 Q x1 x3 u → R2 x1 x3 u) → R2 x1 x3 u
set_option maxRecDepth 20000 in
set_option maxHeartbeats 4000000 in
theorem f_8_addUses_2 (X : yX RX8 p m c cX8_addUses 6 s args D ca ad A) (hRf : 4 ≤ R.frames) (hRl : 100 ≤ R.locals) {Q : iST → Prop} (hret : ∀ (u : iST) (H : Heap) (locs : List Loc) (ls : Array Slot) (pc : Nat), Q u → yW D ca A ad s H locs u → decode cX8_addUses pc = .ok (.return_, 1) → W p l e R s m args below meth c H locs 0 0 Qf (F0 m pc ls [])) {x1 x3 : Int} (rx1 : (0 ≤ x1 ∧ x1 < 408)) (rx3 : inR x3) (hw : yW D ca A ad s H locs u) (hl : lv_has ls 6 [(0, .ref (ad 0 7)), (1, .ref (ad 4 x1.toNat)), (3, .int (jI x3))]) (h : v_8_addUses_2 Q x1 x3 u) : W p l e R s m args below meth c H locs 0 0 Qf (F0 m 2 ls []) := by
  refine h (fun x1 x3 u => ∀ (H : Heap) (locs : List Loc) (ls : Array Slot), (0 ≤ x1 ∧ x1 < 408) → inR x3 → yW D ca A ad s H locs u → lv_has ls 6 [(0, .ref (ad 0 7)), (1, .ref (ad 4 x1.toNat)), (3, .int (jI x3))] → W p l e R s m args below meth c H locs 0 0 Qf (F0 m 2 ls [])) ?_ H locs ls rx1 rx3 hw hl
  clear h hl hw rx1 rx3
  intro x1 x3 u h H locs ls rx1 rx3 hw hl
  have hR2 : ∀ (x1 : Int) (x3 : Int) (u : iST) (H : Heap) (locs : List Loc) (ls : Array Slot), (0 ≤ x1 ∧ x1 < 408) → inR x3 → yW D ca A ad s H locs u → lv_has ls 6 [(0, .ref (ad 0 7)), (1, .ref (ad 4 x1.toNat)), (3, .int (jI x3))] → (fun (x1 : Int) (x3 : Int) u => ∀ (H : Heap) (locs : List Loc) (ls : Array Slot), (0 ≤ x1 ∧ x1 < 408) → inR x3 → yW D ca A ad s H locs u → lv_has ls 6 [(0, .ref (ad 0 7)), (1, .ref (ad 4 x1.toNat)), (3, .int (jI x3))] → W p l e R s m args below meth c H locs 0 0 Qf (F0 m 2 ls [])) x1 x3 u → W p l e R s m args below meth c H locs 0 0 Qf (F0 m 2 ls []) := fun x1 x3 u H locs ls rx1 rx3 hw hl h => h H locs ls rx1 rx3 hw hl
  have hx := X.1.1
  have hb := X.1.2.1
  unfold v_8_addUses_2b at h
  refine lv_aload_n hx hb dX8_addUses_2 rfl (lv_at hl 0 rfl) ?_
  refine yg_8_38 X hw dX8_addUses_3 ?_
  refine lv_iload_n hx hb dX8_addUses_6 rfl (lv_at hl 2 rfl) ?_
  refine ycI (n := 1) (e_7_isPair rx3 h) 7 6 (r := (RX7, TX7, 9)) rfl yG_8_84 yD_7_isPair X hw rfl yGo_7 (Nat.le_trans (Nat.le_of_ble_eq_true rfl) hRf) (Nat.le_trans (Nat.le_of_ble_eq_true rfl) hRl) rfl hl.1 (Nat.le_of_ble_eq_true rfl) rfl dX8_addUses_7 (fun v1 u H locs rv1 h hw => ?_)
  refine k_if_eq hx hb rv1 dX8_addUses_10 (tgt := 141) rfl h (fun h => ?_) (fun h => ?_)
  · exact hret _ _ _ _ _ h hw dX8_addUses_141
  · refine lv_aload_n hx hb dX8_addUses_13 rfl (lv_at hl 0 rfl) ?_
    refine yg_8_38 X hw dX8_addUses_14 ?_
    refine yg_8_94 X hw dX8_addUses_17 h (fun v2 rv2 h => ?_)
    refine k_if_ne hx hb rv2 dX8_addUses_20 (tgt := 141) rfl h (fun h => ?_) (fun h => ?_)
    · exact hret _ _ _ _ _ h hw dX8_addUses_141
    · refine lv_aload_n hx hb dX8_addUses_23 rfl (lv_at hl 0 rfl) ?_
      refine yg_8_38 X hw dX8_addUses_24 ?_
      refine lv_iload_n hx hb dX8_addUses_27 rfl (lv_at hl 2 rfl) ?_
      refine ycI (n := 1) (e_7_left rx3 h) 7 6 (r := (RX7, TX7, 9)) rfl yG_8_87 yD_7_left X hw rfl yGo_7 (Nat.le_trans (Nat.le_of_ble_eq_true rfl) hRf) (Nat.le_trans (Nat.le_of_ble_eq_true rfl) hRl) rfl hl.1 (Nat.le_of_ble_eq_true rfl) rfl dX8_addUses_28 (fun v3 u H locs rv3 h hw => ?_)
      refine lv_istore hx hb dX8_addUses_31 hl (by decide) rfl (fun ls hl => ?_)
      have hl : lv_has ls 6 [(4, .int (jI v3)), (0, .ref (ad 0 7)), (1, .ref (ad 4 x1.toNat)), (3, .int (jI x3))] := hl
      refine lv_aload_n hx hb dX8_addUses_33 rfl (lv_at hl 1 rfl) ?_
      refine yg_8_42 X hw dX8_addUses_34 ?_
      refine lv_aload_n hx hb dX8_addUses_37 rfl (lv_at hl 1 rfl) ?_
      refine yg_8_38 X hw dX8_addUses_38 ?_
      refine lv_iload hx hb dX8_addUses_41 (lv_at hl 0 rfl) ?_
      refine lv_iconst hx hb dX8_addUses_43 (v := jI 1) rfl ?_
      refine ycI (n := 2) (e_7_item rv3 (by decide) h) 7 6 (r := (RX7, TX7, 9)) rfl yG_8_50 yD_7_item X hw rfl yGo_7 (Nat.le_trans (Nat.le_of_ble_eq_true rfl) hRf) (Nat.le_trans (Nat.le_of_ble_eq_true rfl) hRl) rfl hl.1 (Nat.le_of_ble_eq_true rfl) rfl dX8_addUses_44 (fun v4 u H locs rv4 h hw => ?_)
      refine ycI (n := 1) (e_0_theoremOf rv4 h) 0 0 (r := (RX0, TX0, 21)) rfl yG_8_138 yD_0_theoremOf X hw rfl yGo_0 (Nat.le_trans (Nat.le_of_ble_eq_true rfl) hRf) (Nat.le_trans (Nat.le_of_ble_eq_true rfl) hRl) rfl hl.1 (Nat.le_of_ble_eq_true rfl) rfl dX8_addUses_47 (fun v5 u H locs rv5 h hw => ?_)
      refine lv_istore hx hb dX8_addUses_50 hl (by decide) rfl (fun ls hl => ?_)
      have hl : lv_has ls 6 [(5, .int (jI v5)), (4, .int (jI v3)), (0, .ref (ad 0 7)), (1, .ref (ad 4 x1.toNat)), (3, .int (jI x3))] := hl
      refine lv_aload_n hx hb dX8_addUses_52 rfl (lv_at hl 2 rfl) ?_
      refine yg_8_38 X hw dX8_addUses_53 ?_
      refine lv_iload hx hb dX8_addUses_56 (lv_at hl 1 rfl) ?_
      refine ycI (n := 1) (e_7_left rv3 h) 7 6 (r := (RX7, TX7, 9)) rfl yG_8_87 yD_7_left X hw rfl yGo_7 (Nat.le_trans (Nat.le_of_ble_eq_true rfl) hRf) (Nat.le_trans (Nat.le_of_ble_eq_true rfl) hRl) rfl hl.1 (Nat.le_of_ble_eq_true rfl) rfl dX8_addUses_58 (fun v6 u H locs rv6 h hw => ?_)
      refine lv_bipush hx hb dX8_addUses_61 (v := jI 26) rfl ?_
      refine k_icmp_ne hx hb rv6 (by decide) dX8_addUses_63 (tgt := 129) rfl h (fun h => ?_) (fun h => ?_)
      · exact f_8_addUses_129 X hRf hRl hret hR2 rx1 rx3 hw (lv_sub hl [2, 3, 4] rfl) h
      · refine lv_iload hx hb dX8_addUses_66 (lv_at hl 0 rfl) ?_
        refine lv_iconst hx hb dX8_addUses_68 (v := jI (-1)) rfl ?_
        refine k_icmp_eq hx hb rv5 (by decide) dX8_addUses_69 (tgt := 129) rfl h (fun h => ?_) (fun h => ?_)
        · exact f_8_addUses_129 X hRf hRl hret hR2 rx1 rx3 hw (lv_sub hl [2, 3, 4] rfl) h
        · refine lv_aload_n hx hb dX8_addUses_72 rfl (lv_at hl 2 rfl) ?_
          refine yg_8_46 X hw dX8_addUses_73 ?_
          refine lv_aload_n hx hb dX8_addUses_76 rfl (lv_at hl 2 rfl) ?_
          refine yg_8_38 X hw dX8_addUses_77 ?_
          refine lv_aload_n hx hb dX8_addUses_80 rfl (lv_at hl 2 rfl) ?_
          refine yg_8_38 X hw dX8_addUses_81 ?_
          refine lv_iload hx hb dX8_addUses_84 (lv_at hl 1 rfl) ?_
          refine ycI (n := 1) (e_7_right rv3 h) 7 6 (r := (RX7, TX7, 9)) rfl yG_8_81 yD_7_right X hw rfl yGo_7 (Nat.le_trans (Nat.le_of_ble_eq_true rfl) hRf) (Nat.le_trans (Nat.le_of_ble_eq_true rfl) hRl) rfl hl.1 (Nat.le_of_ble_eq_true rfl) rfl dX8_addUses_86 (fun v8 u H locs rv8 h hw => ?_)
          refine ycI (n := 1) (e_7_right rv8 h) 7 6 (r := (RX7, TX7, 9)) rfl yG_8_81 yD_7_right X hw rfl yGo_7 (Nat.le_trans (Nat.le_of_ble_eq_true rfl) hRf) (Nat.le_trans (Nat.le_of_ble_eq_true rfl) hRl) rfl hl.1 (Nat.le_of_ble_eq_true rfl) rfl dX8_addUses_89 (fun v9 u H locs rv9 h hw => ?_)
          refine ycI (n := 1) (e_10_bindPairs rv9 h) 10 8 (r := (RX10, TX10, 16)) rfl yG_8_144 yD_10_bindPairs X hw rfl yGo_10 (Nat.le_trans (Nat.le_of_ble_eq_true rfl) hRf) (Nat.le_trans (Nat.le_of_ble_eq_true rfl) hRl) rfl hl.1 (Nat.le_of_ble_eq_true rfl) rfl dX8_addUses_92 (fun v10 u H locs rv10 h hw => ?_)
          refine lv_pop hx hb dX8_addUses_95 rfl ?_
          refine lv_aload_n hx hb dX8_addUses_96 rfl (lv_at hl 2 rfl) ?_
          refine yg_8_46 X hw dX8_addUses_97 ?_
          refine lv_aload_n hx hb dX8_addUses_100 rfl (lv_at hl 3 rfl) ?_
          refine lv_aload_n hx hb dX8_addUses_101 rfl (lv_at hl 2 rfl) ?_
          refine yg_8_46 X hw dX8_addUses_102 ?_
          refine lv_aload_n hx hb dX8_addUses_105 rfl (lv_at hl 2 rfl) ?_
          refine yg_8_46 X hw dX8_addUses_106 ?_
          refine lv_aload_n hx hb dX8_addUses_109 rfl (lv_at hl 2 rfl) ?_
          refine yg_8_42 X hw dX8_addUses_110 ?_
          refine yg_8_147 X hw dX8_addUses_113 ?_
          refine lv_iload hx hb dX8_addUses_116 (lv_at hl 0 rfl) ?_
          refine yl_6 X hw rv5 dX8_addUses_118 h (fun v11 rv11 h => ?_)
          refine lv_iconst hx hb dX8_addUses_119 (v := jI 1) rfl ?_
          refine ycI (n := 2) (e_10_rebuilt rv11 (by decide) h) 10 8 (r := (RX10, TX10, 16)) rfl yG_8_97 yD_10_rebuilt X hw rfl yGo_10 (Nat.le_trans (Nat.le_of_ble_eq_true rfl) hRf) (Nat.le_trans (Nat.le_of_ble_eq_true rfl) hRl) rfl hl.1 (Nat.le_of_ble_eq_true rfl) rfl dX8_addUses_120 (fun v12 u H locs rv12 h hw => ?_)
          refine ycI (n := 1) (e_10_negated rv12 h) 10 8 (r := (RX10, TX10, 16)) rfl yG_8_100 yD_10_negated X hw rfl yGo_10 (Nat.le_trans (Nat.le_of_ble_eq_true rfl) hRf) (Nat.le_trans (Nat.le_of_ble_eq_true rfl) hRl) rfl hl.1 (Nat.le_of_ble_eq_true rfl) rfl dX8_addUses_123 (fun v13 u H locs rv13 h hw => ?_)
          refine ycV (n := 2) (e_10_join rx1 rv13 h) 10 8 (r := (RX10, TX10, 16)) rfl yG_8_103 yD_10_join X hw rfl yGo_10 (Nat.le_trans (Nat.le_of_ble_eq_true rfl) hRf) (Nat.le_trans (Nat.le_of_ble_eq_true rfl) hRl) rfl hl.1 (Nat.le_of_ble_eq_true rfl) rfl dX8_addUses_126 (fun u H locs h hw => ?_)
          exact f_8_addUses_129 X hRf hRl hret hR2 rx1 rx3 hw (lv_sub hl [2, 3, 4] rfl) h

def v_8_addUses (a0 : Int) (a1 : Int) (Q : iST → Prop) (u : iST) : Prop :=
  v_8_addUses_2 Q a0 a1 u
set_option maxRecDepth 20000 in
set_option maxHeartbeats 4000000 in
theorem f_8_addUses_s (X : yX RX8 p m c cX8_addUses 6 s args D ca ad A) (hRf : 4 ≤ R.frames) (hRl : 100 ≤ R.locals) {Q : iST → Prop} (hret : ∀ (u : iST) (H : Heap) (locs : List Loc) (ls : Array Slot) (pc : Nat), Q u → yW D ca A ad s H locs u → decode cX8_addUses pc = .ok (.return_, 1) → W p l e R s m args below meth c H locs 0 0 Qf (F0 m pc ls [])) {a0 a1 : Int} (ra0 : (0 ≤ a0 ∧ a0 < 408)) (ra1 : inR a1) (hw : yW D ca A ad s H locs u) (hl : lv_has ls 6 [(0, .ref (ad 0 7)), (1, .ref (ad 4 a0.toNat)), (2, .int (jI a1))]) (h : v_8_addUses a0 a1 Q u) : W p l e R s m args below meth c H locs 0 0 Qf (F0 m 0 ls []) := by
  have hx := X.1.1
  have hb := X.1.2.1
  unfold v_8_addUses at h
  refine lv_iload_n hx hb dX8_addUses_0 rfl (lv_at hl 2 rfl) ?_
  refine lv_istore_n hx hb dX8_addUses_1 rfl hl (by decide) rfl (fun ls hl => ?_)
  have hl : lv_has ls 6 [(3, .int (jI a1)), (0, .ref (ad 0 7)), (1, .ref (ad 4 a0.toNat)), (2, .int (jI a1))] := hl
  exact f_8_addUses_2 X hRf hRl hret ra0 ra1 hw (lv_sub hl [1, 2, 0] rfl) h

end
theorem e_8_addUses {l : Launch} {a0 : Int} {a1 : Int} (ra0 : (0 ≤ a0 ∧ a0 < 408)) (ra1 : inR a1) {Q : iST → Prop} {u : iST} (h : v_8_addUses a0 a1 Q u) : yMV l yX8_addUses (.code yX8_addUses cX8_addUses 6 none :: wsN) { frames := 4, cells := 0, slots := 0, locals := 100 } (fun ad => [.ref (ad 0 7), .ref (ad 4 a0.toNat), .int (jI a1)]) Q u := yMV_of (own := RX8) rfl (by decide +kernel) (fun _ => Nat.le_of_ble_eq_true rfl) (fun X hRf hRl hret hw hl => f_8_addUses_s X hRf hRl hret ra0 ra1 hw hl h)

/-! ProofHouse$Schemes.addTheoremClauses -/
theorem dX8_addTheoremClauses_0 : decode cX8_addTheoremClauses 0 = .ok (.aload_n 1, 1) := by decide +kernel
theorem dX8_addTheoremClauses_1 : decode cX8_addTheoremClauses 1 = .ok (.getfield 150, 3) := by decide +kernel
theorem dX8_addTheoremClauses_4 : decode cX8_addTheoremClauses 4 = .ok (.astore 4, 2) := by decide +kernel
theorem dX8_addTheoremClauses_6 : decode cX8_addTheoremClauses 6 = .ok (.aload 4, 2) := by decide +kernel
theorem dX8_addTheoremClauses_8 : decode cX8_addTheoremClauses 8 = .ok (.invokevirtual 154, 3) := by decide +kernel
theorem dX8_addTheoremClauses_11 : decode cX8_addTheoremClauses 11 = .ok (.aload_n 0, 1) := by decide +kernel
theorem dX8_addTheoremClauses_12 : decode cX8_addTheoremClauses 12 = .ok (.aload 4, 2) := by decide +kernel
theorem dX8_addTheoremClauses_14 : decode cX8_addTheoremClauses 14 = .ok (.iload_n 3, 1) := by decide +kernel
theorem dX8_addTheoremClauses_15 : decode cX8_addTheoremClauses 15 = .ok (.invokevirtual 159, 3) := by decide +kernel
theorem dX8_addTheoremClauses_18 : decode cX8_addTheoremClauses 18 = .ok (.aload_n 0, 1) := by decide +kernel
theorem dX8_addTheoremClauses_19 : decode cX8_addTheoremClauses 19 = .ok (.getfield 35, 3) := by decide +kernel
theorem dX8_addTheoremClauses_22 : decode cX8_addTheoremClauses 22 = .ok (.iconst (-1), 1) := by decide +kernel
theorem dX8_addTheoremClauses_23 : decode cX8_addTheoremClauses 23 = .ok (.if_icmp .ne 7, 3) := by decide +kernel
theorem dX8_addTheoremClauses_26 : decode cX8_addTheoremClauses 26 = .ok (.iconst (-1), 1) := by decide +kernel
theorem dX8_addTheoremClauses_27 : decode cX8_addTheoremClauses 27 = .ok (.goto 21, 3) := by decide +kernel
theorem dX8_addTheoremClauses_30 : decode cX8_addTheoremClauses 30 = .ok (.aload_n 0, 1) := by decide +kernel
theorem dX8_addTheoremClauses_31 : decode cX8_addTheoremClauses 31 = .ok (.getfield 42, 3) := by decide +kernel
theorem dX8_addTheoremClauses_34 : decode cX8_addTheoremClauses 34 = .ok (.aload_n 0, 1) := by decide +kernel
theorem dX8_addTheoremClauses_35 : decode cX8_addTheoremClauses 35 = .ok (.getfield 38, 3) := by decide +kernel
theorem dX8_addTheoremClauses_38 : decode cX8_addTheoremClauses 38 = .ok (.aload_n 0, 1) := by decide +kernel
theorem dX8_addTheoremClauses_39 : decode cX8_addTheoremClauses 39 = .ok (.getfield 35, 3) := by decide +kernel
theorem dX8_addTheoremClauses_42 : decode cX8_addTheoremClauses 42 = .ok (.invokevirtual 87, 3) := by decide +kernel
theorem dX8_addTheoremClauses_45 : decode cX8_addTheoremClauses 45 = .ok (.invokevirtual 162, 3) := by decide +kernel
theorem dX8_addTheoremClauses_48 : decode cX8_addTheoremClauses 48 = .ok (.istore 5, 2) := by decide +kernel
theorem dX8_addTheoremClauses_50 : decode cX8_addTheoremClauses 50 = .ok (.iload 5, 2) := by decide +kernel
theorem dX8_addTheoremClauses_52 : decode cX8_addTheoremClauses 52 = .ok (.iconst (-1), 1) := by decide +kernel
theorem dX8_addTheoremClauses_53 : decode cX8_addTheoremClauses 53 = .ok (.if_icmp .ne 27, 3) := by decide +kernel
theorem dX8_addTheoremClauses_56 : decode cX8_addTheoremClauses 56 = .ok (.aload_n 1, 1) := by decide +kernel
theorem dX8_addTheoremClauses_57 : decode cX8_addTheoremClauses 57 = .ok (.invokevirtual 107, 3) := by decide +kernel
theorem dX8_addTheoremClauses_60 : decode cX8_addTheoremClauses 60 = .ok (.astore 6, 2) := by decide +kernel
theorem dX8_addTheoremClauses_62 : decode cX8_addTheoremClauses 62 = .ok (.aload 6, 2) := by decide +kernel
theorem dX8_addTheoremClauses_64 : decode cX8_addTheoremClauses 64 = .ok (.aload 4, 2) := by decide +kernel
theorem dX8_addTheoremClauses_66 : decode cX8_addTheoremClauses 66 = .ok (.invokevirtual 165, 3) := by decide +kernel
theorem dX8_addTheoremClauses_69 : decode cX8_addTheoremClauses 69 = .ok (.aload_n 0, 1) := by decide +kernel
theorem dX8_addTheoremClauses_70 : decode cX8_addTheoremClauses 70 = .ok (.getfield 46, 3) := by decide +kernel
theorem dX8_addTheoremClauses_73 : decode cX8_addTheoremClauses 73 = .ok (.aload 6, 2) := by decide +kernel
theorem dX8_addTheoremClauses_75 : decode cX8_addTheoremClauses 75 = .ok (.iload_n 2, 1) := by decide +kernel
theorem dX8_addTheoremClauses_76 : decode cX8_addTheoremClauses 76 = .ok (.invokevirtual 103, 3) := by decide +kernel
theorem dX8_addTheoremClauses_79 : decode cX8_addTheoremClauses 79 = .ok (.return_, 1) := by decide +kernel
theorem dX8_addTheoremClauses_80 : decode cX8_addTheoremClauses 80 = .ok (.aload_n 0, 1) := by decide +kernel
theorem dX8_addTheoremClauses_81 : decode cX8_addTheoremClauses 81 = .ok (.aload_n 0, 1) := by decide +kernel
theorem dX8_addTheoremClauses_82 : decode cX8_addTheoremClauses 82 = .ok (.getfield 42, 3) := by decide +kernel
theorem dX8_addTheoremClauses_85 : decode cX8_addTheoremClauses 85 = .ok (.getfield 169, 3) := by decide +kernel
theorem dX8_addTheoremClauses_88 : decode cX8_addTheoremClauses 88 = .ok (.iload 5, 2) := by decide +kernel
theorem dX8_addTheoremClauses_90 : decode cX8_addTheoremClauses 90 = .ok (.iaload, 1) := by decide +kernel
theorem dX8_addTheoremClauses_91 : decode cX8_addTheoremClauses 91 = .ok (.invokevirtual 60, 3) := by decide +kernel
theorem dX8_addTheoremClauses_94 : decode cX8_addTheoremClauses 94 = .ok (.istore 6, 2) := by decide +kernel
theorem dX8_addTheoremClauses_96 : decode cX8_addTheoremClauses 96 = .ok (.iconst 0, 1) := by decide +kernel
theorem dX8_addTheoremClauses_97 : decode cX8_addTheoremClauses 97 = .ok (.istore 7, 2) := by decide +kernel
theorem dX8_addTheoremClauses_99 : decode cX8_addTheoremClauses 99 = .ok (.iload 7, 2) := by decide +kernel
theorem dX8_addTheoremClauses_101 : decode cX8_addTheoremClauses 101 = .ok (.ldc 64, 2) := by decide +kernel
theorem dX8_addTheoremClauses_103 : decode cX8_addTheoremClauses 103 = .ok (.if_icmp .ge 101, 3) := by decide +kernel
theorem dX8_addTheoremClauses_106 : decode cX8_addTheoremClauses 106 = .ok (.iload 6, 2) := by decide +kernel
theorem dX8_addTheoremClauses_108 : decode cX8_addTheoremClauses 108 = .ok (.ifCond .eq 96, 3) := by decide +kernel
theorem dX8_addTheoremClauses_111 : decode cX8_addTheoremClauses 111 = .ok (.aload_n 0, 1) := by decide +kernel
theorem dX8_addTheoremClauses_112 : decode cX8_addTheoremClauses 112 = .ok (.getfield 38, 3) := by decide +kernel
theorem dX8_addTheoremClauses_115 : decode cX8_addTheoremClauses 115 = .ok (.getfield 94, 3) := by decide +kernel
theorem dX8_addTheoremClauses_118 : decode cX8_addTheoremClauses 118 = .ok (.ifCond .ne 86, 3) := by decide +kernel
theorem dX8_addTheoremClauses_121 : decode cX8_addTheoremClauses 121 = .ok (.aload_n 1, 1) := by decide +kernel
theorem dX8_addTheoremClauses_122 : decode cX8_addTheoremClauses 122 = .ok (.invokevirtual 107, 3) := by decide +kernel
theorem dX8_addTheoremClauses_125 : decode cX8_addTheoremClauses 125 = .ok (.astore 8, 2) := by decide +kernel
theorem dX8_addTheoremClauses_127 : decode cX8_addTheoremClauses 127 = .ok (.aload 8, 2) := by decide +kernel
theorem dX8_addTheoremClauses_129 : decode cX8_addTheoremClauses 129 = .ok (.aload 4, 2) := by decide +kernel
theorem dX8_addTheoremClauses_131 : decode cX8_addTheoremClauses 131 = .ok (.invokevirtual 165, 3) := by decide +kernel
theorem dX8_addTheoremClauses_134 : decode cX8_addTheoremClauses 134 = .ok (.aload_n 0, 1) := by decide +kernel
theorem dX8_addTheoremClauses_135 : decode cX8_addTheoremClauses 135 = .ok (.aload 8, 2) := by decide +kernel
theorem dX8_addTheoremClauses_137 : decode cX8_addTheoremClauses 137 = .ok (.aload_n 0, 1) := by decide +kernel
theorem dX8_addTheoremClauses_138 : decode cX8_addTheoremClauses 138 = .ok (.getfield 42, 3) := by decide +kernel
theorem dX8_addTheoremClauses_141 : decode cX8_addTheoremClauses 141 = .ok (.getfield 126, 3) := by decide +kernel
theorem dX8_addTheoremClauses_144 : decode cX8_addTheoremClauses 144 = .ok (.iload 5, 2) := by decide +kernel
theorem dX8_addTheoremClauses_146 : decode cX8_addTheoremClauses 146 = .ok (.iaload, 1) := by decide +kernel
theorem dX8_addTheoremClauses_147 : decode cX8_addTheoremClauses 147 = .ok (.aload_n 0, 1) := by decide +kernel
theorem dX8_addTheoremClauses_148 : decode cX8_addTheoremClauses 148 = .ok (.getfield 38, 3) := by decide +kernel
theorem dX8_addTheoremClauses_151 : decode cX8_addTheoremClauses 151 = .ok (.aload_n 0, 1) := by decide +kernel
theorem dX8_addTheoremClauses_152 : decode cX8_addTheoremClauses 152 = .ok (.getfield 35, 3) := by decide +kernel
theorem dX8_addTheoremClauses_155 : decode cX8_addTheoremClauses 155 = .ok (.invokevirtual 81, 3) := by decide +kernel
theorem dX8_addTheoremClauses_158 : decode cX8_addTheoremClauses 158 = .ok (.invokevirtual 113, 3) := by decide +kernel
theorem dX8_addTheoremClauses_161 : decode cX8_addTheoremClauses 161 = .ok (.aload_n 0, 1) := by decide +kernel
theorem dX8_addTheoremClauses_162 : decode cX8_addTheoremClauses 162 = .ok (.aload 8, 2) := by decide +kernel
theorem dX8_addTheoremClauses_164 : decode cX8_addTheoremClauses 164 = .ok (.iload_n 2, 1) := by decide +kernel
theorem dX8_addTheoremClauses_165 : decode cX8_addTheoremClauses 165 = .ok (.iload 5, 2) := by decide +kernel
theorem dX8_addTheoremClauses_167 : decode cX8_addTheoremClauses 167 = .ok (.aload_n 0, 1) := by decide +kernel
theorem dX8_addTheoremClauses_168 : decode cX8_addTheoremClauses 168 = .ok (.getfield 38, 3) := by decide +kernel
theorem dX8_addTheoremClauses_171 : decode cX8_addTheoremClauses 171 = .ok (.aload_n 0, 1) := by decide +kernel
theorem dX8_addTheoremClauses_172 : decode cX8_addTheoremClauses 172 = .ok (.getfield 35, 3) := by decide +kernel
theorem dX8_addTheoremClauses_175 : decode cX8_addTheoremClauses 175 = .ok (.invokevirtual 81, 3) := by decide +kernel
theorem dX8_addTheoremClauses_178 : decode cX8_addTheoremClauses 178 = .ok (.invokevirtual 172, 3) := by decide +kernel
theorem dX8_addTheoremClauses_181 : decode cX8_addTheoremClauses 181 = .ok (.aload_n 0, 1) := by decide +kernel
theorem dX8_addTheoremClauses_182 : decode cX8_addTheoremClauses 182 = .ok (.getfield 46, 3) := by decide +kernel
theorem dX8_addTheoremClauses_185 : decode cX8_addTheoremClauses 185 = .ok (.aload 8, 2) := by decide +kernel
theorem dX8_addTheoremClauses_187 : decode cX8_addTheoremClauses 187 = .ok (.iload_n 2, 1) := by decide +kernel
theorem dX8_addTheoremClauses_188 : decode cX8_addTheoremClauses 188 = .ok (.invokevirtual 103, 3) := by decide +kernel
theorem dX8_addTheoremClauses_191 : decode cX8_addTheoremClauses 191 = .ok (.aload_n 0, 1) := by decide +kernel
theorem dX8_addTheoremClauses_192 : decode cX8_addTheoremClauses 192 = .ok (.iconst (-1), 1) := by decide +kernel
theorem dX8_addTheoremClauses_193 : decode cX8_addTheoremClauses 193 = .ok (.invokevirtual 60, 3) := by decide +kernel
theorem dX8_addTheoremClauses_196 : decode cX8_addTheoremClauses 196 = .ok (.istore 6, 2) := by decide +kernel
theorem dX8_addTheoremClauses_198 : decode cX8_addTheoremClauses 198 = .ok (.iinc 7 1, 3) := by decide +kernel
theorem dX8_addTheoremClauses_201 : decode cX8_addTheoremClauses 201 = .ok (.goto (-102), 3) := by decide +kernel
theorem dX8_addTheoremClauses_204 : decode cX8_addTheoremClauses 204 = .ok (.return_, 1) := by decide +kernel

section
variable {p : Program} {l : Launch} {e : Env} {R : Room} {s : State} {m : MethodId} {args : Array Value} {below : List Frame} {meth : Method} {c : Code} {H : Heap} {locs : List Loc} {Qf : State → Prop}
variable {ls : Array Slot} {D : va_G} {ca : Nat → ClassId} {A : Nat → Prop} {ad : Nat → Nat → Nat} {u : iST}
def v_8_addTheoremClauses_99b (R99 : Int → Int → Int → Int → Int → iST → Prop) (Q : iST → Prop) (x2 : Int) (x4 : Int) (x5 : Int) (x6 : Int) (x7 : Int) (u : iST) : Prop :=
  br (1000000 ≤ x7) (
    Q u) (
    br (x6 = 0) (
      Q u) (
      rd (u.1 32) (fun v9 => 
      br (v9 ≠ 0) (
        Q u) (
        v_4_newClause (fun v10 u => 
        v_1_copy v10 x4 (fun u => 
        bd x5 40 (rd (u.2.1 1 x5) (fun v12 => 
        rd (u.1 36) (fun v13 => 
        v_7_right v13 (fun v14 u => 
        v_8_addRulers v10 v12 v14 (fun u => 
        rd (u.1 36) (fun v16 => 
        v_7_right v16 (fun v17 u => 
        v_8_addInductionHypotheses v10 x2 x5 v17 (fun u => 
        v_10_join v10 x2 (fun u => 
        v_8_goToPath (-1) (fun v20 u => 
        ov (x7 + 1) (
        R99 x2 x4 x5 v20 (x7 + 1) u)) u) u) u) u)) u) u)))) u) u))))
def v_8_addTheoremClauses_99 (Q : iST → Prop) (x2 : Int) (x4 : Int) (x5 : Int) (x6 : Int) (x7 : Int) (u : iST) : Prop := ∀ R99 : Int → Int → Int → Int → Int → iST → Prop, (∀ (x2 : Int) (x4 : Int) (x5 : Int) (x6 : Int) (x7 : Int) (u : iST), v_8_addTheoremClauses_99b R99 Q x2 x4 x5 x6 x7 u → R99 x2 x4 x5 x6 x7 u) → R99 x2 x4 x5 x6 x7 u
set_option maxRecDepth 20000 in
set_option maxHeartbeats 4000000 in
theorem f_8_addTheoremClauses_99 (X : yX RX8 p m c cX8_addTheoremClauses 9 s args D ca ad A) (hRf : 5 ≤ R.frames) (hRl : 125 ≤ R.locals) {Q : iST → Prop} (hret : ∀ (u : iST) (H : Heap) (locs : List Loc) (ls : Array Slot) (pc : Nat), Q u → yW D ca A ad s H locs u → decode cX8_addTheoremClauses pc = .ok (.return_, 1) → W p l e R s m args below meth c H locs 0 0 Qf (F0 m pc ls [])) {x2 x4 x5 x6 x7 : Int} (rx2 : inR x2) (rx4 : (0 ≤ x4 ∧ x4 < 408)) (rx5 : inR x5) (rx6 : inR x6) (rx7 : inR x7) (hw : yW D ca A ad s H locs u) (hl : lv_has ls 9 [(0, .ref (ad 0 7)), (1, .ref (ad 0 3)), (2, .int (jI x2)), (4, .ref (ad 4 x4.toNat)), (5, .int (jI x5)), (6, .int (jI x6)), (7, .int (jI x7))]) (h : v_8_addTheoremClauses_99 Q x2 x4 x5 x6 x7 u) : W p l e R s m args below meth c H locs 0 0 Qf (F0 m 99 ls []) := by
  refine h (fun x2 x4 x5 x6 x7 u => ∀ (H : Heap) (locs : List Loc) (ls : Array Slot), inR x2 → (0 ≤ x4 ∧ x4 < 408) → inR x5 → inR x6 → inR x7 → yW D ca A ad s H locs u → lv_has ls 9 [(0, .ref (ad 0 7)), (1, .ref (ad 0 3)), (2, .int (jI x2)), (4, .ref (ad 4 x4.toNat)), (5, .int (jI x5)), (6, .int (jI x6)), (7, .int (jI x7))] → W p l e R s m args below meth c H locs 0 0 Qf (F0 m 99 ls [])) ?_ H locs ls rx2 rx4 rx5 rx6 rx7 hw hl
  clear h hl hw rx2 rx4 rx5 rx6 rx7
  intro x2 x4 x5 x6 x7 u h H locs ls rx2 rx4 rx5 rx6 rx7 hw hl
  have hR99 : ∀ (x2 : Int) (x4 : Int) (x5 : Int) (x6 : Int) (x7 : Int) (u : iST) (H : Heap) (locs : List Loc) (ls : Array Slot), inR x2 → (0 ≤ x4 ∧ x4 < 408) → inR x5 → inR x6 → inR x7 → yW D ca A ad s H locs u → lv_has ls 9 [(0, .ref (ad 0 7)), (1, .ref (ad 0 3)), (2, .int (jI x2)), (4, .ref (ad 4 x4.toNat)), (5, .int (jI x5)), (6, .int (jI x6)), (7, .int (jI x7))] → (fun (x2 : Int) (x4 : Int) (x5 : Int) (x6 : Int) (x7 : Int) u => ∀ (H : Heap) (locs : List Loc) (ls : Array Slot), inR x2 → (0 ≤ x4 ∧ x4 < 408) → inR x5 → inR x6 → inR x7 → yW D ca A ad s H locs u → lv_has ls 9 [(0, .ref (ad 0 7)), (1, .ref (ad 0 3)), (2, .int (jI x2)), (4, .ref (ad 4 x4.toNat)), (5, .int (jI x5)), (6, .int (jI x6)), (7, .int (jI x7))] → W p l e R s m args below meth c H locs 0 0 Qf (F0 m 99 ls [])) x2 x4 x5 x6 x7 u → W p l e R s m args below meth c H locs 0 0 Qf (F0 m 99 ls []) := fun x2 x4 x5 x6 x7 u H locs ls rx2 rx4 rx5 rx6 rx7 hw hl h => h H locs ls rx2 rx4 rx5 rx6 rx7 hw hl
  have hx := X.1.1
  have hb := X.1.2.1
  unfold v_8_addTheoremClauses_99b at h
  refine lv_iload hx hb dX8_addTheoremClauses_99 (lv_at hl 6 rfl) ?_
  refine yld 64 yK_8_64 X dX8_addTheoremClauses_101 ?_
  refine k_icmp_ge hx hb rx7 (by decide) dX8_addTheoremClauses_103 (tgt := 204) rfl h (fun h => ?_) (fun h => ?_)
  · exact hret _ _ _ _ _ h hw dX8_addTheoremClauses_204
  · refine lv_iload hx hb dX8_addTheoremClauses_106 (lv_at hl 5 rfl) ?_
    refine k_if_eq hx hb rx6 dX8_addTheoremClauses_108 (tgt := 204) rfl h (fun h => ?_) (fun h => ?_)
    · exact hret _ _ _ _ _ h hw dX8_addTheoremClauses_204
    · refine lv_aload_n hx hb dX8_addTheoremClauses_111 rfl (lv_at hl 0 rfl) ?_
      refine yg_8_38 X hw dX8_addTheoremClauses_112 ?_
      refine yg_8_94 X hw dX8_addTheoremClauses_115 h (fun v9 rv9 h => ?_)
      refine k_if_ne hx hb rv9 dX8_addTheoremClauses_118 (tgt := 204) rfl h (fun h => ?_) (fun h => ?_)
      · exact hret _ _ _ _ _ h hw dX8_addTheoremClauses_204
      · refine lv_aload_n hx hb dX8_addTheoremClauses_121 rfl (lv_at hl 1 rfl) ?_
        refine ycR (n := 0) (e_4_newClause h) 4 3 (r := (RX4, TX4, 11)) rfl yG_8_107 yD_4_newClause X hw rfl yGo_4 (Nat.le_trans (Nat.le_of_ble_eq_true rfl) hRf) (Nat.le_trans (Nat.le_of_ble_eq_true rfl) hRl) rfl hl.1 (Nat.le_of_ble_eq_true rfl) rfl dX8_addTheoremClauses_122 (fun v10 u H locs rv10 h hw => ?_)
        refine lv_astore hx hb dX8_addTheoremClauses_125 hl (by decide) rfl (fun ls hl => ?_)
        have hl : lv_has ls 9 [(8, .ref (ad 4 v10.toNat)), (0, .ref (ad 0 7)), (1, .ref (ad 0 3)), (2, .int (jI x2)), (4, .ref (ad 4 x4.toNat)), (5, .int (jI x5)), (6, .int (jI x6)), (7, .int (jI x7))] := hl
        refine lv_aload hx hb dX8_addTheoremClauses_127 (lv_at hl 0 rfl) ?_
        refine lv_aload hx hb dX8_addTheoremClauses_129 (lv_at hl 4 rfl) ?_
        refine ycV (n := 1) (e_1_copy rv10 rx4 h) 1 (65 + v10.toNat) (r := (RX1, TX1, 4)) rfl yG_8_165 yD_1_copy X hw rfl (yGf_clause (toNat_lt rv10)) (Nat.le_trans (Nat.le_of_ble_eq_true rfl) hRf) (Nat.le_trans (Nat.le_of_ble_eq_true rfl) hRl) rfl hl.1 (Nat.le_of_ble_eq_true rfl) rfl dX8_addTheoremClauses_131 (fun u H locs h hw => ?_)
        refine lv_aload_n hx hb dX8_addTheoremClauses_134 rfl (lv_at hl 1 rfl) ?_
        refine lv_aload hx hb dX8_addTheoremClauses_135 (lv_at hl 0 rfl) ?_
        refine lv_aload_n hx hb dX8_addTheoremClauses_137 rfl (lv_at hl 1 rfl) ?_
        refine yg_8_42 X hw dX8_addTheoremClauses_138 ?_
        refine yg_8_126 X hw dX8_addTheoremClauses_141 ?_
        refine lv_iload hx hb dX8_addTheoremClauses_144 (lv_at hl 5 rfl) ?_
        refine yl_1 X hw rx5 dX8_addTheoremClauses_146 h (fun v12 rv12 h => ?_)
        refine lv_aload_n hx hb dX8_addTheoremClauses_147 rfl (lv_at hl 1 rfl) ?_
        refine yg_8_38 X hw dX8_addTheoremClauses_148 ?_
        refine lv_aload_n hx hb dX8_addTheoremClauses_151 rfl (lv_at hl 1 rfl) ?_
        refine yg_8_35 X hw dX8_addTheoremClauses_152 h (fun v13 rv13 h => ?_)
        refine ycI (n := 1) (e_7_right rv13 h) 7 6 (r := (RX7, TX7, 9)) rfl yG_8_81 yD_7_right X hw rfl yGo_7 (Nat.le_trans (Nat.le_of_ble_eq_true rfl) hRf) (Nat.le_trans (Nat.le_of_ble_eq_true rfl) hRl) rfl hl.1 (Nat.le_of_ble_eq_true rfl) rfl dX8_addTheoremClauses_155 (fun v14 u H locs rv14 h hw => ?_)
        refine ycV (n := 3) (e_8_addRulers rv10 rv12 rv14 h) 8 7 (r := (RX8, TX8, 11)) rfl yG_8_113 yD_8_addRulers X hw rfl yGo_8 (Nat.le_trans (Nat.le_of_ble_eq_true rfl) hRf) (Nat.le_trans (Nat.le_of_ble_eq_true rfl) hRl) rfl hl.1 (Nat.le_of_ble_eq_true rfl) rfl dX8_addTheoremClauses_158 (fun u H locs h hw => ?_)
        refine lv_aload_n hx hb dX8_addTheoremClauses_161 rfl (lv_at hl 1 rfl) ?_
        refine lv_aload hx hb dX8_addTheoremClauses_162 (lv_at hl 0 rfl) ?_
        refine lv_iload_n hx hb dX8_addTheoremClauses_164 rfl (lv_at hl 3 rfl) ?_
        refine lv_iload hx hb dX8_addTheoremClauses_165 (lv_at hl 5 rfl) ?_
        refine lv_aload_n hx hb dX8_addTheoremClauses_167 rfl (lv_at hl 1 rfl) ?_
        refine yg_8_38 X hw dX8_addTheoremClauses_168 ?_
        refine lv_aload_n hx hb dX8_addTheoremClauses_171 rfl (lv_at hl 1 rfl) ?_
        refine yg_8_35 X hw dX8_addTheoremClauses_172 h (fun v16 rv16 h => ?_)
        refine ycI (n := 1) (e_7_right rv16 h) 7 6 (r := (RX7, TX7, 9)) rfl yG_8_81 yD_7_right X hw rfl yGo_7 (Nat.le_trans (Nat.le_of_ble_eq_true rfl) hRf) (Nat.le_trans (Nat.le_of_ble_eq_true rfl) hRl) rfl hl.1 (Nat.le_of_ble_eq_true rfl) rfl dX8_addTheoremClauses_175 (fun v17 u H locs rv17 h hw => ?_)
        refine ycV (n := 4) (e_8_addInductionHypotheses rv10 rx2 rx5 rv17 h) 8 7 (r := (RX8, TX8, 11)) rfl yG_8_172 yD_8_addInductionHypotheses X hw rfl yGo_8 (Nat.le_trans (Nat.le_of_ble_eq_true rfl) hRf) (Nat.le_trans (Nat.le_of_ble_eq_true rfl) hRl) rfl hl.1 (Nat.le_of_ble_eq_true rfl) rfl dX8_addTheoremClauses_178 (fun u H locs h hw => ?_)
        refine lv_aload_n hx hb dX8_addTheoremClauses_181 rfl (lv_at hl 1 rfl) ?_
        refine yg_8_46 X hw dX8_addTheoremClauses_182 ?_
        refine lv_aload hx hb dX8_addTheoremClauses_185 (lv_at hl 0 rfl) ?_
        refine lv_iload_n hx hb dX8_addTheoremClauses_187 rfl (lv_at hl 3 rfl) ?_
        refine ycV (n := 2) (e_10_join rv10 rx2 h) 10 8 (r := (RX10, TX10, 16)) rfl yG_8_103 yD_10_join X hw rfl yGo_10 (Nat.le_trans (Nat.le_of_ble_eq_true rfl) hRf) (Nat.le_trans (Nat.le_of_ble_eq_true rfl) hRl) rfl hl.1 (Nat.le_of_ble_eq_true rfl) rfl dX8_addTheoremClauses_188 (fun u H locs h hw => ?_)
        refine lv_aload_n hx hb dX8_addTheoremClauses_191 rfl (lv_at hl 1 rfl) ?_
        refine lv_iconst hx hb dX8_addTheoremClauses_192 (v := jI (-1)) rfl ?_
        refine ycI (n := 1) (e_8_goToPath (by decide) h) 8 7 (r := (RX8, TX8, 11)) rfl yG_8_60 yD_8_goToPath X hw rfl yGo_8 (Nat.le_trans (Nat.le_of_ble_eq_true rfl) hRf) (Nat.le_trans (Nat.le_of_ble_eq_true rfl) hRl) rfl hl.1 (Nat.le_of_ble_eq_true rfl) rfl dX8_addTheoremClauses_193 (fun v20 u H locs rv20 h hw => ?_)
        refine lv_istore hx hb dX8_addTheoremClauses_196 hl (by decide) rfl (fun ls hl => ?_)
        have hl : lv_has ls 9 [(6, .int (jI v20)), (8, .ref (ad 4 v10.toNat)), (0, .ref (ad 0 7)), (1, .ref (ad 0 3)), (2, .int (jI x2)), (4, .ref (ad 4 x4.toNat)), (5, .int (jI x5)), (7, .int (jI x7))] := hl
        refine k_iinc (k := 7) hx hb dX8_addTheoremClauses_198 hl rfl (by decide) rfl h (fun ls r21 h hl => ?_)
        have hl : lv_has ls 9 [(7, .int (jI (x7 + 1))), (6, .int (jI v20)), (8, .ref (ad 4 v10.toNat)), (0, .ref (ad 0 7)), (1, .ref (ad 0 3)), (2, .int (jI x2)), (4, .ref (ad 4 x4.toNat)), (5, .int (jI x5))] := hl
        refine lv_goto hx hb dX8_addTheoremClauses_201 (tgt := 99) rfl ?_
        exact hR99 _ _ _ _ _ _ H locs ls rx2 rx4 rx5 rv20 r21 hw (lv_sub hl [3, 4, 5, 6, 7, 1, 0] rfl) h

def v_8_addTheoremClauses_48 (Q : iST → Prop) (x2 : Int) (x4 : Int) (y0 : Int) (u : iST) : Prop :=
  br (y0 ≠ (-1)) (
    bd y0 40 (rd (u.2.1 3 y0) (fun v7 => 
    v_8_goToPath v7 (fun v8 u => 
    v_8_addTheoremClauses_99 Q x2 x4 y0 v8 0 u) u))) (
    v_4_newClause (fun v22 u => 
    v_1_copy v22 x4 (fun u => 
    v_10_join v22 x2 (fun u => 
    Q u) u) u) u)
set_option maxRecDepth 20000 in
set_option maxHeartbeats 4000000 in
theorem f_8_addTheoremClauses_48 (X : yX RX8 p m c cX8_addTheoremClauses 9 s args D ca ad A) (hRf : 5 ≤ R.frames) (hRl : 125 ≤ R.locals) {Q : iST → Prop} (hret : ∀ (u : iST) (H : Heap) (locs : List Loc) (ls : Array Slot) (pc : Nat), Q u → yW D ca A ad s H locs u → decode cX8_addTheoremClauses pc = .ok (.return_, 1) → W p l e R s m args below meth c H locs 0 0 Qf (F0 m pc ls [])) {x2 x4 y0 : Int} (rx2 : inR x2) (rx4 : (0 ≤ x4 ∧ x4 < 408)) (ry0 : inR y0) (hw : yW D ca A ad s H locs u) (hl : lv_has ls 9 [(0, .ref (ad 0 7)), (1, .ref (ad 0 3)), (2, .int (jI x2)), (4, .ref (ad 4 x4.toNat))]) (h : v_8_addTheoremClauses_48 Q x2 x4 y0 u) : W p l e R s m args below meth c H locs 0 0 Qf (F0 m 48 ls [.int (jI y0)]) := by
  have hx := X.1.1
  have hb := X.1.2.1
  unfold v_8_addTheoremClauses_48 at h
  refine lv_istore hx hb dX8_addTheoremClauses_48 hl (by decide) rfl (fun ls hl => ?_)
  have hl : lv_has ls 9 [(5, .int (jI y0)), (0, .ref (ad 0 7)), (1, .ref (ad 0 3)), (2, .int (jI x2)), (4, .ref (ad 4 x4.toNat))] := hl
  refine lv_iload hx hb dX8_addTheoremClauses_50 (lv_at hl 0 rfl) ?_
  refine lv_iconst hx hb dX8_addTheoremClauses_52 (v := jI (-1)) rfl ?_
  refine k_icmp_ne hx hb ry0 (by decide) dX8_addTheoremClauses_53 (tgt := 80) rfl h (fun h => ?_) (fun h => ?_)
  · refine lv_aload_n hx hb dX8_addTheoremClauses_80 rfl (lv_at hl 1 rfl) ?_
    refine lv_aload_n hx hb dX8_addTheoremClauses_81 rfl (lv_at hl 1 rfl) ?_
    refine yg_8_42 X hw dX8_addTheoremClauses_82 ?_
    refine yg_8_169 X hw dX8_addTheoremClauses_85 ?_
    refine lv_iload hx hb dX8_addTheoremClauses_88 (lv_at hl 0 rfl) ?_
    refine yl_3 X hw ry0 dX8_addTheoremClauses_90 h (fun v7 rv7 h => ?_)
    refine ycI (n := 1) (e_8_goToPath rv7 h) 8 7 (r := (RX8, TX8, 11)) rfl yG_8_60 yD_8_goToPath X hw rfl yGo_8 (Nat.le_trans (Nat.le_of_ble_eq_true rfl) hRf) (Nat.le_trans (Nat.le_of_ble_eq_true rfl) hRl) rfl hl.1 (Nat.le_of_ble_eq_true rfl) rfl dX8_addTheoremClauses_91 (fun v8 u H locs rv8 h hw => ?_)
    refine lv_istore hx hb dX8_addTheoremClauses_94 hl (by decide) rfl (fun ls hl => ?_)
    have hl : lv_has ls 9 [(6, .int (jI v8)), (5, .int (jI y0)), (0, .ref (ad 0 7)), (1, .ref (ad 0 3)), (2, .int (jI x2)), (4, .ref (ad 4 x4.toNat))] := hl
    refine lv_iconst hx hb dX8_addTheoremClauses_96 (v := jI 0) rfl ?_
    refine lv_istore hx hb dX8_addTheoremClauses_97 hl (by decide) rfl (fun ls hl => ?_)
    have hl : lv_has ls 9 [(7, .int (jI 0)), (6, .int (jI v8)), (5, .int (jI y0)), (0, .ref (ad 0 7)), (1, .ref (ad 0 3)), (2, .int (jI x2)), (4, .ref (ad 4 x4.toNat))] := hl
    exact f_8_addTheoremClauses_99 X hRf hRl hret rx2 rx4 ry0 rv8 (by decide) hw (lv_sub hl [3, 4, 5, 6, 2, 1, 0] rfl) h
  · refine lv_aload_n hx hb dX8_addTheoremClauses_56 rfl (lv_at hl 2 rfl) ?_
    refine ycR (n := 0) (e_4_newClause h) 4 3 (r := (RX4, TX4, 11)) rfl yG_8_107 yD_4_newClause X hw rfl yGo_4 (Nat.le_trans (Nat.le_of_ble_eq_true rfl) hRf) (Nat.le_trans (Nat.le_of_ble_eq_true rfl) hRl) rfl hl.1 (Nat.le_of_ble_eq_true rfl) rfl dX8_addTheoremClauses_57 (fun v22 u H locs rv22 h hw => ?_)
    refine lv_astore hx hb dX8_addTheoremClauses_60 hl (by decide) rfl (fun ls hl => ?_)
    have hl : lv_has ls 9 [(6, .ref (ad 4 v22.toNat)), (5, .int (jI y0)), (0, .ref (ad 0 7)), (1, .ref (ad 0 3)), (2, .int (jI x2)), (4, .ref (ad 4 x4.toNat))] := hl
    refine lv_aload hx hb dX8_addTheoremClauses_62 (lv_at hl 0 rfl) ?_
    refine lv_aload hx hb dX8_addTheoremClauses_64 (lv_at hl 5 rfl) ?_
    refine ycV (n := 1) (e_1_copy rv22 rx4 h) 1 (65 + v22.toNat) (r := (RX1, TX1, 4)) rfl yG_8_165 yD_1_copy X hw rfl (yGf_clause (toNat_lt rv22)) (Nat.le_trans (Nat.le_of_ble_eq_true rfl) hRf) (Nat.le_trans (Nat.le_of_ble_eq_true rfl) hRl) rfl hl.1 (Nat.le_of_ble_eq_true rfl) rfl dX8_addTheoremClauses_66 (fun u H locs h hw => ?_)
    refine lv_aload_n hx hb dX8_addTheoremClauses_69 rfl (lv_at hl 2 rfl) ?_
    refine yg_8_46 X hw dX8_addTheoremClauses_70 ?_
    refine lv_aload hx hb dX8_addTheoremClauses_73 (lv_at hl 0 rfl) ?_
    refine lv_iload_n hx hb dX8_addTheoremClauses_75 rfl (lv_at hl 4 rfl) ?_
    refine ycV (n := 2) (e_10_join rv22 rx2 h) 10 8 (r := (RX10, TX10, 16)) rfl yG_8_103 yD_10_join X hw rfl yGo_10 (Nat.le_trans (Nat.le_of_ble_eq_true rfl) hRf) (Nat.le_trans (Nat.le_of_ble_eq_true rfl) hRl) rfl hl.1 (Nat.le_of_ble_eq_true rfl) rfl dX8_addTheoremClauses_76 (fun u H locs h hw => ?_)
    exact hret _ _ _ _ _ h hw dX8_addTheoremClauses_79

def v_8_addTheoremClauses (a1 : Int) (a2 : Int) (Q : iST → Prop) (u : iST) : Prop :=
  v_1_clear 150 (fun u => 
  v_8_addUses 150 a2 (fun u => 
  rd (u.1 36) (fun v3 => 
  br (v3 ≠ (-1)) (
    rd (u.1 36) (fun v4 => 
    v_7_left v4 (fun v5 u => 
    v_0_functionOf v5 (fun v6 u => 
    v_8_addTheoremClauses_48 Q a1 150 v6 u) u) u)) (
    v_8_addTheoremClauses_48 Q a1 150 (-1) u))) u) u
set_option maxRecDepth 20000 in
set_option maxHeartbeats 4000000 in
theorem f_8_addTheoremClauses_s (X : yX RX8 p m c cX8_addTheoremClauses 9 s args D ca ad A) (hRf : 5 ≤ R.frames) (hRl : 125 ≤ R.locals) {Q : iST → Prop} (hret : ∀ (u : iST) (H : Heap) (locs : List Loc) (ls : Array Slot) (pc : Nat), Q u → yW D ca A ad s H locs u → decode cX8_addTheoremClauses pc = .ok (.return_, 1) → W p l e R s m args below meth c H locs 0 0 Qf (F0 m pc ls [])) {a1 a2 : Int} (ra1 : inR a1) (ra2 : inR a2) (hw : yW D ca A ad s H locs u) (hl : lv_has ls 9 [(0, .ref (ad 0 7)), (1, .ref (ad 0 3)), (2, .int (jI a1)), (3, .int (jI a2))]) (h : v_8_addTheoremClauses a1 a2 Q u) : W p l e R s m args below meth c H locs 0 0 Qf (F0 m 0 ls []) := by
  have hx := X.1.1
  have hb := X.1.2.1
  unfold v_8_addTheoremClauses at h
  refine lv_aload_n hx hb dX8_addTheoremClauses_0 rfl (lv_at hl 1 rfl) ?_
  refine yg_8_150 X hw dX8_addTheoremClauses_1 ?_
  refine lv_astore hx hb dX8_addTheoremClauses_4 hl (by decide) rfl (fun ls hl => ?_)
  have hl : lv_has ls 9 [(4, .ref (ad 4 (150 : Int).toNat)), (0, .ref (ad 0 7)), (1, .ref (ad 0 3)), (2, .int (jI a1)), (3, .int (jI a2))] := hl
  refine lv_aload hx hb dX8_addTheoremClauses_6 (lv_at hl 0 rfl) ?_
  refine ycV (n := 0) (e_1_clear (by decide) h) 1 (65 + (150 : Int).toNat) (r := (RX1, TX1, 4)) rfl yG_8_154 yD_1_clear X hw rfl (yGf_clause (toNat_lt (by decide))) (Nat.le_trans (Nat.le_of_ble_eq_true rfl) hRf) (Nat.le_trans (Nat.le_of_ble_eq_true rfl) hRl) rfl hl.1 (Nat.le_of_ble_eq_true rfl) rfl dX8_addTheoremClauses_8 (fun u H locs h hw => ?_)
  refine lv_aload_n hx hb dX8_addTheoremClauses_11 rfl (lv_at hl 1 rfl) ?_
  refine lv_aload hx hb dX8_addTheoremClauses_12 (lv_at hl 0 rfl) ?_
  refine lv_iload_n hx hb dX8_addTheoremClauses_14 rfl (lv_at hl 4 rfl) ?_
  refine ycV (n := 2) (e_8_addUses (by decide) ra2 h) 8 7 (r := (RX8, TX8, 11)) rfl yG_8_159 yD_8_addUses X hw rfl yGo_8 (Nat.le_trans (Nat.le_of_ble_eq_true rfl) hRf) (Nat.le_trans (Nat.le_of_ble_eq_true rfl) hRl) rfl hl.1 (Nat.le_of_ble_eq_true rfl) rfl dX8_addTheoremClauses_15 (fun u H locs h hw => ?_)
  refine lv_aload_n hx hb dX8_addTheoremClauses_18 rfl (lv_at hl 1 rfl) ?_
  refine yg_8_35 X hw dX8_addTheoremClauses_19 h (fun v3 rv3 h => ?_)
  refine lv_iconst hx hb dX8_addTheoremClauses_22 (v := jI (-1)) rfl ?_
  refine k_icmp_ne hx hb rv3 (by decide) dX8_addTheoremClauses_23 (tgt := 30) rfl h (fun h => ?_) (fun h => ?_)
  · refine lv_aload_n hx hb dX8_addTheoremClauses_30 rfl (lv_at hl 1 rfl) ?_
    refine yg_8_42 X hw dX8_addTheoremClauses_31 ?_
    refine lv_aload_n hx hb dX8_addTheoremClauses_34 rfl (lv_at hl 1 rfl) ?_
    refine yg_8_38 X hw dX8_addTheoremClauses_35 ?_
    refine lv_aload_n hx hb dX8_addTheoremClauses_38 rfl (lv_at hl 1 rfl) ?_
    refine yg_8_35 X hw dX8_addTheoremClauses_39 h (fun v4 rv4 h => ?_)
    refine ycI (n := 1) (e_7_left rv4 h) 7 6 (r := (RX7, TX7, 9)) rfl yG_8_87 yD_7_left X hw rfl yGo_7 (Nat.le_trans (Nat.le_of_ble_eq_true rfl) hRf) (Nat.le_trans (Nat.le_of_ble_eq_true rfl) hRl) rfl hl.1 (Nat.le_of_ble_eq_true rfl) rfl dX8_addTheoremClauses_42 (fun v5 u H locs rv5 h hw => ?_)
    refine ycI (n := 1) (e_0_functionOf rv5 h) 0 0 (r := (RX0, TX0, 21)) rfl yG_8_162 yD_0_functionOf X hw rfl yGo_0 (Nat.le_trans (Nat.le_of_ble_eq_true rfl) hRf) (Nat.le_trans (Nat.le_of_ble_eq_true rfl) hRl) rfl hl.1 (Nat.le_of_ble_eq_true rfl) rfl dX8_addTheoremClauses_45 (fun v6 u H locs rv6 h hw => ?_)
    exact f_8_addTheoremClauses_48 X hRf hRl hret ra1 (by decide) rv6 hw (lv_sub hl [1, 2, 3, 0] rfl) h
  · refine lv_iconst hx hb dX8_addTheoremClauses_26 (v := jI (-1)) rfl ?_
    refine lv_goto hx hb dX8_addTheoremClauses_27 (tgt := 48) rfl ?_
    exact f_8_addTheoremClauses_48 X hRf hRl hret ra1 (by decide) (by decide) hw (lv_sub hl [1, 2, 3, 0] rfl) h

end
theorem e_8_addTheoremClauses {l : Launch} {a1 : Int} {a2 : Int} (ra1 : inR a1) (ra2 : inR a2) {Q : iST → Prop} {u : iST} (h : v_8_addTheoremClauses a1 a2 Q u) : yMV l yX8_addTheoremClauses (.code yX8_addTheoremClauses cX8_addTheoremClauses 9 none :: wsN) { frames := 5, cells := 0, slots := 0, locals := 125 } (fun ad => [.ref (ad 0 7), .ref (ad 0 3), .int (jI a1), .int (jI a2)]) Q u := yMV_of (own := RX8) rfl (by decide +kernel) (fun _ => Nat.le_of_ble_eq_true rfl) (fun X hRf hRl hret hw hl => f_8_addTheoremClauses_s X hRf hRl hret ra1 ra2 hw hl h)

/-! ProofHouse$Schemes.useAsked -/
theorem dX8_useAsked_0 : decode cX8_useAsked 0 = .ok (.aload_n 0, 1) := by decide +kernel
theorem dX8_useAsked_1 : decode cX8_useAsked 1 = .ok (.getfield 38, 3) := by decide +kernel
theorem dX8_useAsked_4 : decode cX8_useAsked 4 = .ok (.iload_n 1, 1) := by decide +kernel
theorem dX8_useAsked_5 : decode cX8_useAsked 5 = .ok (.invokevirtual 193, 3) := by decide +kernel
theorem dX8_useAsked_8 : decode cX8_useAsked 8 = .ok (.ifCond .eq 14, 3) := by decide +kernel
theorem dX8_useAsked_11 : decode cX8_useAsked 11 = .ok (.aload_n 0, 1) := by decide +kernel
theorem dX8_useAsked_12 : decode cX8_useAsked 12 = .ok (.getfield 46, 3) := by decide +kernel
theorem dX8_useAsked_15 : decode cX8_useAsked 15 = .ok (.iload_n 2, 1) := by decide +kernel
theorem dX8_useAsked_16 : decode cX8_useAsked 16 = .ok (.invokevirtual 144, 3) := by decide +kernel
theorem dX8_useAsked_19 : decode cX8_useAsked 19 = .ok (.ifCond .ne 5, 3) := by decide +kernel
theorem dX8_useAsked_22 : decode cX8_useAsked 22 = .ok (.iconst 2, 1) := by decide +kernel
theorem dX8_useAsked_23 : decode cX8_useAsked 23 = .ok (.ireturn, 1) := by decide +kernel
theorem dX8_useAsked_24 : decode cX8_useAsked 24 = .ok (.aload_n 0, 1) := by decide +kernel
theorem dX8_useAsked_25 : decode cX8_useAsked 25 = .ok (.getfield 42, 3) := by decide +kernel
theorem dX8_useAsked_28 : decode cX8_useAsked 28 = .ok (.iload_n 1, 1) := by decide +kernel
theorem dX8_useAsked_29 : decode cX8_useAsked 29 = .ok (.invokevirtual 138, 3) := by decide +kernel
theorem dX8_useAsked_32 : decode cX8_useAsked 32 = .ok (.istore_n 3, 1) := by decide +kernel
theorem dX8_useAsked_33 : decode cX8_useAsked 33 = .ok (.iload_n 3, 1) := by decide +kernel
theorem dX8_useAsked_34 : decode cX8_useAsked 34 = .ok (.iconst (-1), 1) := by decide +kernel
theorem dX8_useAsked_35 : decode cX8_useAsked 35 = .ok (.if_icmp .ne 5, 3) := by decide +kernel
theorem dX8_useAsked_38 : decode cX8_useAsked 38 = .ok (.iconst 3, 1) := by decide +kernel
theorem dX8_useAsked_39 : decode cX8_useAsked 39 = .ok (.ireturn, 1) := by decide +kernel
theorem dX8_useAsked_40 : decode cX8_useAsked 40 = .ok (.aload_n 0, 1) := by decide +kernel
theorem dX8_useAsked_41 : decode cX8_useAsked 41 = .ok (.getfield 46, 3) := by decide +kernel
theorem dX8_useAsked_44 : decode cX8_useAsked 44 = .ok (.aload_n 0, 1) := by decide +kernel
theorem dX8_useAsked_45 : decode cX8_useAsked 45 = .ok (.getfield 42, 3) := by decide +kernel
theorem dX8_useAsked_48 : decode cX8_useAsked 48 = .ok (.getfield 147, 3) := by decide +kernel
theorem dX8_useAsked_51 : decode cX8_useAsked 51 = .ok (.iload_n 3, 1) := by decide +kernel
theorem dX8_useAsked_52 : decode cX8_useAsked 52 = .ok (.iaload, 1) := by decide +kernel
theorem dX8_useAsked_53 : decode cX8_useAsked 53 = .ok (.invokevirtual 196, 3) := by decide +kernel
theorem dX8_useAsked_56 : decode cX8_useAsked 56 = .ok (.ifCond .eq 7, 3) := by decide +kernel
theorem dX8_useAsked_59 : decode cX8_useAsked 59 = .ok (.iconst 0, 1) := by decide +kernel
theorem dX8_useAsked_60 : decode cX8_useAsked 60 = .ok (.goto 4, 3) := by decide +kernel
theorem dX8_useAsked_63 : decode cX8_useAsked 63 = .ok (.iconst 2, 1) := by decide +kernel
theorem dX8_useAsked_64 : decode cX8_useAsked 64 = .ok (.ireturn, 1) := by decide +kernel

section
variable {p : Program} {l : Launch} {e : Env} {R : Room} {s : State} {m : MethodId} {args : Array Value} {below : List Frame} {meth : Method} {c : Code} {H : Heap} {locs : List Loc} {Qf : State → Prop}
variable {ls : Array Slot} {D : va_G} {ca : Nat → ClassId} {A : Nat → Prop} {ad : Nat → Nat → Nat} {u : iST}
def v_8_useAsked (a0 : Int) (a1 : Int) (Q : Int → iST → Prop) (u : iST) : Prop :=
  v_7_isName a0 (fun v1 u => 
  br (v1 = 0) (
    Q 2 u) (
    v_10_bindPairs a1 (fun v2 u => 
    br (v2 ≠ 0) (
      v_0_theoremOf a0 (fun v3 u => 
      br (v3 ≠ (-1)) (
        bd v3 60 (rd (u.2.1 6 v3) (fun v4 => 
        v_10_hasBound v4 (fun v5 u => 
        br (v5 = 0) (
          Q 2 u) (
          Q 0 u)) u))) (
        Q 3 u)) u) (
      Q 2 u)) u)) u
set_option maxRecDepth 20000 in
set_option maxHeartbeats 4000000 in
theorem f_8_useAsked_s (X : yX RX8 p m c cX8_useAsked 4 s args D ca ad A) (hRf : 4 ≤ R.frames) (hRl : 100 ≤ R.locals) {Q : Int → iST → Prop} (hret : ∀ (v : Int) (u : iST) (H : Heap) (locs : List Loc) (ls : Array Slot) (pc : Nat), inR v → Q v u → yW D ca A ad s H locs u → decode cX8_useAsked pc = .ok (.ireturn, 1) → W p l e R s m args below meth c H locs 0 0 Qf (F0 m pc ls [.int (jI v)])) {a0 a1 : Int} (ra0 : inR a0) (ra1 : inR a1) (hw : yW D ca A ad s H locs u) (hl : lv_has ls 4 [(0, .ref (ad 0 7)), (1, .int (jI a0)), (2, .int (jI a1))]) (h : v_8_useAsked a0 a1 Q u) : W p l e R s m args below meth c H locs 0 0 Qf (F0 m 0 ls []) := by
  have hx := X.1.1
  have hb := X.1.2.1
  unfold v_8_useAsked at h
  refine lv_aload_n hx hb dX8_useAsked_0 rfl (lv_at hl 0 rfl) ?_
  refine yg_8_38 X hw dX8_useAsked_1 ?_
  refine lv_iload_n hx hb dX8_useAsked_4 rfl (lv_at hl 1 rfl) ?_
  refine ycI (n := 1) (e_7_isName ra0 h) 7 6 (r := (RX7, TX7, 9)) rfl yG_8_193 yD_7_isName X hw rfl yGo_7 (Nat.le_trans (Nat.le_of_ble_eq_true rfl) hRf) (Nat.le_trans (Nat.le_of_ble_eq_true rfl) hRl) rfl hl.1 (Nat.le_of_ble_eq_true rfl) rfl dX8_useAsked_5 (fun v1 u H locs rv1 h hw => ?_)
  refine k_if_eq hx hb rv1 dX8_useAsked_8 (tgt := 22) rfl h (fun h => ?_) (fun h => ?_)
  · refine lv_iconst hx hb dX8_useAsked_22 (v := jI 2) rfl ?_
    exact hret _ _ _ _ _ _ (by decide) h hw dX8_useAsked_23
  · refine lv_aload_n hx hb dX8_useAsked_11 rfl (lv_at hl 0 rfl) ?_
    refine yg_8_46 X hw dX8_useAsked_12 ?_
    refine lv_iload_n hx hb dX8_useAsked_15 rfl (lv_at hl 2 rfl) ?_
    refine ycI (n := 1) (e_10_bindPairs ra1 h) 10 8 (r := (RX10, TX10, 16)) rfl yG_8_144 yD_10_bindPairs X hw rfl yGo_10 (Nat.le_trans (Nat.le_of_ble_eq_true rfl) hRf) (Nat.le_trans (Nat.le_of_ble_eq_true rfl) hRl) rfl hl.1 (Nat.le_of_ble_eq_true rfl) rfl dX8_useAsked_16 (fun v2 u H locs rv2 h hw => ?_)
    refine k_if_ne hx hb rv2 dX8_useAsked_19 (tgt := 24) rfl h (fun h => ?_) (fun h => ?_)
    · refine lv_aload_n hx hb dX8_useAsked_24 rfl (lv_at hl 0 rfl) ?_
      refine yg_8_42 X hw dX8_useAsked_25 ?_
      refine lv_iload_n hx hb dX8_useAsked_28 rfl (lv_at hl 1 rfl) ?_
      refine ycI (n := 1) (e_0_theoremOf ra0 h) 0 0 (r := (RX0, TX0, 21)) rfl yG_8_138 yD_0_theoremOf X hw rfl yGo_0 (Nat.le_trans (Nat.le_of_ble_eq_true rfl) hRf) (Nat.le_trans (Nat.le_of_ble_eq_true rfl) hRl) rfl hl.1 (Nat.le_of_ble_eq_true rfl) rfl dX8_useAsked_29 (fun v3 u H locs rv3 h hw => ?_)
      refine lv_istore_n hx hb dX8_useAsked_32 rfl hl (by decide) rfl (fun ls hl => ?_)
      have hl : lv_has ls 4 [(3, .int (jI v3)), (0, .ref (ad 0 7)), (1, .int (jI a0)), (2, .int (jI a1))] := hl
      refine lv_iload_n hx hb dX8_useAsked_33 rfl (lv_at hl 0 rfl) ?_
      refine lv_iconst hx hb dX8_useAsked_34 (v := jI (-1)) rfl ?_
      refine k_icmp_ne hx hb rv3 (by decide) dX8_useAsked_35 (tgt := 40) rfl h (fun h => ?_) (fun h => ?_)
      · refine lv_aload_n hx hb dX8_useAsked_40 rfl (lv_at hl 1 rfl) ?_
        refine yg_8_46 X hw dX8_useAsked_41 ?_
        refine lv_aload_n hx hb dX8_useAsked_44 rfl (lv_at hl 1 rfl) ?_
        refine yg_8_42 X hw dX8_useAsked_45 ?_
        refine yg_8_147 X hw dX8_useAsked_48 ?_
        refine lv_iload_n hx hb dX8_useAsked_51 rfl (lv_at hl 0 rfl) ?_
        refine yl_6 X hw rv3 dX8_useAsked_52 h (fun v4 rv4 h => ?_)
        refine ycI (n := 1) (e_10_hasBound rv4 h) 10 8 (r := (RX10, TX10, 16)) rfl yG_8_196 yD_10_hasBound X hw rfl yGo_10 (Nat.le_trans (Nat.le_of_ble_eq_true rfl) hRf) (Nat.le_trans (Nat.le_of_ble_eq_true rfl) hRl) rfl hl.1 (Nat.le_of_ble_eq_true rfl) rfl dX8_useAsked_53 (fun v5 u H locs rv5 h hw => ?_)
        refine k_if_eq hx hb rv5 dX8_useAsked_56 (tgt := 63) rfl h (fun h => ?_) (fun h => ?_)
        · refine lv_iconst hx hb dX8_useAsked_63 (v := jI 2) rfl ?_
          exact hret _ _ _ _ _ _ (by decide) h hw dX8_useAsked_64
        · refine lv_iconst hx hb dX8_useAsked_59 (v := jI 0) rfl ?_
          refine lv_goto hx hb dX8_useAsked_60 (tgt := 64) rfl ?_
          exact hret _ _ _ _ _ _ (by decide) h hw dX8_useAsked_64
      · refine lv_iconst hx hb dX8_useAsked_38 (v := jI 3) rfl ?_
        exact hret _ _ _ _ _ _ (by decide) h hw dX8_useAsked_39
    · refine lv_iconst hx hb dX8_useAsked_22 (v := jI 2) rfl ?_
      exact hret _ _ _ _ _ _ (by decide) h hw dX8_useAsked_23

end
theorem e_8_useAsked {l : Launch} {a0 : Int} {a1 : Int} (ra0 : inR a0) (ra1 : inR a1) {Q : Int → iST → Prop} {u : iST} (h : v_8_useAsked a0 a1 Q u) : yMI l yX8_useAsked (.code yX8_useAsked cX8_useAsked 4 (some .int) :: wsN) { frames := 4, cells := 0, slots := 0, locals := 100 } (fun ad => [.ref (ad 0 7), .int (jI a0), .int (jI a1)]) Q u := yMI_of (own := RX8) rfl (by decide +kernel) (fun _ => Nat.le_of_ble_eq_true rfl) (fun X hRf hRl hret hw hl => f_8_useAsked_s X hRf hRl hret ra0 ra1 hw hl h)
