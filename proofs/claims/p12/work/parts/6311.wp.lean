/-! ProofHouse$Room.isCall -/
theorem dX7_isCall_0 : decode cX7_isCall 0 = .ok (.iload_n 1, 1) := by decide +kernel
theorem dX7_isCall_1 : decode cX7_isCall 1 = .ok (.ifCond .lt 43, 3) := by decide +kernel
theorem dX7_isCall_4 : decode cX7_isCall 4 = .ok (.iload_n 1, 1) := by decide +kernel
theorem dX7_isCall_5 : decode cX7_isCall 5 = .ok (.aload_n 0, 1) := by decide +kernel
theorem dX7_isCall_6 : decode cX7_isCall 6 = .ok (.getfield 30, 3) := by decide +kernel
theorem dX7_isCall_9 : decode cX7_isCall 9 = .ok (.if_icmp .ge 35, 3) := by decide +kernel
theorem dX7_isCall_12 : decode cX7_isCall 12 = .ok (.aload_n 0, 1) := by decide +kernel
theorem dX7_isCall_13 : decode cX7_isCall 13 = .ok (.getfield 12, 3) := by decide +kernel
theorem dX7_isCall_16 : decode cX7_isCall 16 = .ok (.iload_n 1, 1) := by decide +kernel
theorem dX7_isCall_17 : decode cX7_isCall 17 = .ok (.laload, 1) := by decide +kernel
theorem dX7_isCall_18 : decode cX7_isCall 18 = .ok (.lconst 0, 1) := by decide +kernel
theorem dX7_isCall_19 : decode cX7_isCall 19 = .ok (.lcmp, 1) := by decide +kernel
theorem dX7_isCall_20 : decode cX7_isCall 20 = .ok (.ifCond .ge 24, 3) := by decide +kernel
theorem dX7_isCall_23 : decode cX7_isCall 23 = .ok (.aload_n 0, 1) := by decide +kernel
theorem dX7_isCall_24 : decode cX7_isCall 24 = .ok (.getfield 12, 3) := by decide +kernel
theorem dX7_isCall_27 : decode cX7_isCall 27 = .ok (.iload_n 1, 1) := by decide +kernel
theorem dX7_isCall_28 : decode cX7_isCall 28 = .ok (.laload, 1) := by decide +kernel
theorem dX7_isCall_29 : decode cX7_isCall 29 = .ok (.bipush 31, 2) := by decide +kernel
theorem dX7_isCall_31 : decode cX7_isCall 31 = .ok (.lushr, 1) := by decide +kernel
theorem dX7_isCall_32 : decode cX7_isCall 32 = .ok (.l2i, 1) := by decide +kernel
theorem dX7_isCall_33 : decode cX7_isCall 33 = .ok (.ldc 77, 2) := by decide +kernel
theorem dX7_isCall_35 : decode cX7_isCall 35 = .ok (.iand, 1) := by decide +kernel
theorem dX7_isCall_36 : decode cX7_isCall 36 = .ok (.iconst 2, 1) := by decide +kernel
theorem dX7_isCall_37 : decode cX7_isCall 37 = .ok (.if_icmp .eq 7, 3) := by decide +kernel
theorem dX7_isCall_40 : decode cX7_isCall 40 = .ok (.iconst 1, 1) := by decide +kernel
theorem dX7_isCall_41 : decode cX7_isCall 41 = .ok (.goto 4, 3) := by decide +kernel
theorem dX7_isCall_44 : decode cX7_isCall 44 = .ok (.iconst 0, 1) := by decide +kernel
theorem dX7_isCall_45 : decode cX7_isCall 45 = .ok (.ireturn, 1) := by decide +kernel

section
variable {p : Program} {l : Launch} {e : Env} {R : Room} {s : State} {m : MethodId} {args : Array Value} {below : List Frame} {meth : Method} {c : Code} {H : Heap} {locs : List Loc} {Qf : State → Prop}
variable {ls : Array Slot} {D : va_G} {ca : Nat → ClassId} {A : Nat → Prop} {ad : Nat → Nat → Nat} {u : iST}
def v_7_isCall (a0 : Int) (Q : Int → iST → Prop) (u : iST) : Prop :=
  br (a0 < 0) (
    zt 0 (Q 0 u)) (
    rd (u.1 29) (fun v1 => 
    br (v1 ≤ a0) (
      zt 0 (Q 0 u)) (
      bd a0 160000 (rl (u.2.2 a0) (fun v2 => 
      br (0 ≤ v2) (
        zt 0 (Q 0 u)) (
        bd a0 160000 (rl (u.2.2 a0) (fun v3 => 
        rl (wlushr v3 31) (fun v4 => 
        rd (wl2i v4) (fun v5 => 
        rd (wand v5 2147483647) (fun v6 => 
        br (v6 = 2) (
          zt 0 (Q 0 u)) (
          zt 1 (Q 1 u)))))))))))))
set_option maxRecDepth 20000 in
set_option maxHeartbeats 4000000 in
theorem f_7_isCall_s (X : yX RX7 p m c cX7_isCall 2 s args D ca ad A) (hRf : 0 ≤ R.frames) (hRl : 0 ≤ R.locals) {Q : Int → iST → Prop} (hret : ∀ (v : Int) (u : iST) (H : Heap) (locs : List Loc) (ls : Array Slot) (pc : Nat), bz v → Q v u → yW D ca A ad s H locs u → decode cX7_isCall pc = .ok (.ireturn, 1) → W p l e R s m args below meth c H locs 0 0 Qf (F0 m pc ls [.int (jI v)])) {a0 : Int} (ra0 : inR a0) (hw : yW D ca A ad s H locs u) (hl : lv_has ls 2 [(0, .ref (ad 0 6)), (1, .int (jI a0))]) (h : v_7_isCall a0 Q u) : W p l e R s m args below meth c H locs 0 0 Qf (F0 m 0 ls []) := by
  have hx := X.1.1
  have hb := X.1.2.1
  unfold v_7_isCall at h
  refine lv_iload_n hx hb dX7_isCall_0 rfl (lv_at hl 1 rfl) ?_
  refine k_if_lt hx hb ra0 dX7_isCall_1 (tgt := 44) rfl h (fun h => ?_) (fun h => ?_)
  · refine lv_iconst hx hb dX7_isCall_44 (v := jI 0) rfl ?_
    exact hret _ _ _ _ _ _ h.1 h.2 hw dX7_isCall_45
  · refine lv_iload_n hx hb dX7_isCall_4 rfl (lv_at hl 1 rfl) ?_
    refine lv_aload_n hx hb dX7_isCall_5 rfl (lv_at hl 0 rfl) ?_
    refine yg_7_30 X hw dX7_isCall_6 h (fun v1 rv1 h => ?_)
    refine k_icmp_ge hx hb ra0 rv1 dX7_isCall_9 (tgt := 44) rfl h (fun h => ?_) (fun h => ?_)
    · refine lv_iconst hx hb dX7_isCall_44 (v := jI 0) rfl ?_
      exact hret _ _ _ _ _ _ h.1 h.2 hw dX7_isCall_45
    · refine lv_aload_n hx hb dX7_isCall_12 rfl (lv_at hl 0 rfl) ?_
      refine yg_7_12 X hw dX7_isCall_13 ?_
      refine lv_iload_n hx hb dX7_isCall_16 rfl (lv_at hl 1 rfl) ?_
      refine yJl X hw ra0 dX7_isCall_17 h (fun v2 rv2 h => ?_)
      refine lv_lconst hx hb dX7_isCall_18 (v := jL 0) rfl ?_
      refine k_lcmp_ge hx hb rv2 (by decide) dX7_isCall_19 dX7_isCall_20 (tgt := 44) rfl h (fun h => ?_) (fun h => ?_)
      · refine lv_iconst hx hb dX7_isCall_44 (v := jI 0) rfl ?_
        exact hret _ _ _ _ _ _ h.1 h.2 hw dX7_isCall_45
      · refine lv_aload_n hx hb dX7_isCall_23 rfl (lv_at hl 0 rfl) ?_
        refine yg_7_12 X hw dX7_isCall_24 ?_
        refine lv_iload_n hx hb dX7_isCall_27 rfl (lv_at hl 1 rfl) ?_
        refine yJl X hw ra0 dX7_isCall_28 h (fun v3 rv3 h => ?_)
        refine lv_bipush hx hb dX7_isCall_29 (v := jI 31) rfl ?_
        refine k_wlushr hx hb dX7_isCall_31 h (fun v4 rv4 h => ?_)
        refine k_l2i hx hb dX7_isCall_32 h (fun v5 rv5 h => ?_)
        refine yld 77 yK_7_77 X dX7_isCall_33 ?_
        refine k_iand hx hb dX7_isCall_35 h (fun v6 rv6 h => ?_)
        refine lv_iconst hx hb dX7_isCall_36 (v := jI 2) rfl ?_
        refine k_icmp_eq hx hb rv6 (by decide) dX7_isCall_37 (tgt := 44) rfl h (fun h => ?_) (fun h => ?_)
        · refine lv_iconst hx hb dX7_isCall_44 (v := jI 0) rfl ?_
          exact hret _ _ _ _ _ _ h.1 h.2 hw dX7_isCall_45
        · refine lv_iconst hx hb dX7_isCall_40 (v := jI 1) rfl ?_
          refine lv_goto hx hb dX7_isCall_41 (tgt := 45) rfl ?_
          exact hret _ _ _ _ _ _ h.1 h.2 hw dX7_isCall_45

end
theorem e_7_isCall {l : Launch} {a0 : Int} (ra0 : inR a0) {Q : Int → iST → Prop} {u : iST} (h : v_7_isCall a0 Q u) : yMI l yX7_isCall (.code yX7_isCall cX7_isCall 2 (some .boolean) :: wsN) { frames := 0, cells := 0, slots := 0, locals := 0 } (fun ad => [.ref (ad 0 6), .int (jI a0)]) Q u := yMZ_of (own := RX7) rfl (by decide +kernel) (fun _ => Nat.le_of_ble_eq_true rfl) (fun X hRf hRl hret hw hl => f_7_isCall_s X hRf hRl hret ra0 hw hl h)

/-! ProofHouse$Room.step -/
theorem dX7_step_0 : decode cX7_step 0 = .ok (.aload_n 0, 1) := by decide +kernel
theorem dX7_step_1 : decode cX7_step 1 = .ok (.getfield 37, 3) := by decide +kernel
theorem dX7_step_4 : decode cX7_step 4 = .ok (.aload_n 0, 1) := by decide +kernel
theorem dX7_step_5 : decode cX7_step 5 = .ok (.getfield 34, 3) := by decide +kernel
theorem dX7_step_8 : decode cX7_step 8 = .ok (.if_icmp .lt 24, 3) := by decide +kernel
theorem dX7_step_11 : decode cX7_step 11 = .ok (.aload_n 0, 1) := by decide +kernel
theorem dX7_step_12 : decode cX7_step 12 = .ok (.aload_n 0, 1) := by decide +kernel
theorem dX7_step_13 : decode cX7_step 13 = .ok (.getfield 40, 3) := by decide +kernel
theorem dX7_step_16 : decode cX7_step 16 = .ok (.ifCond .ne 7, 3) := by decide +kernel
theorem dX7_step_19 : decode cX7_step 19 = .ok (.iconst 1, 1) := by decide +kernel
theorem dX7_step_20 : decode cX7_step 20 = .ok (.goto 7, 3) := by decide +kernel
theorem dX7_step_23 : decode cX7_step 23 = .ok (.aload_n 0, 1) := by decide +kernel
theorem dX7_step_24 : decode cX7_step 24 = .ok (.getfield 40, 3) := by decide +kernel
theorem dX7_step_27 : decode cX7_step 27 = .ok (.putfield 40, 3) := by decide +kernel
theorem dX7_step_30 : decode cX7_step 30 = .ok (.iconst 0, 1) := by decide +kernel
theorem dX7_step_31 : decode cX7_step 31 = .ok (.ireturn, 1) := by decide +kernel
theorem dX7_step_32 : decode cX7_step 32 = .ok (.aload_n 0, 1) := by decide +kernel
theorem dX7_step_33 : decode cX7_step 33 = .ok (.dup, 1) := by decide +kernel
theorem dX7_step_34 : decode cX7_step 34 = .ok (.getfield 37, 3) := by decide +kernel
theorem dX7_step_37 : decode cX7_step 37 = .ok (.iconst 1, 1) := by decide +kernel
theorem dX7_step_38 : decode cX7_step 38 = .ok (.iadd, 1) := by decide +kernel
theorem dX7_step_39 : decode cX7_step 39 = .ok (.putfield 37, 3) := by decide +kernel
theorem dX7_step_42 : decode cX7_step 42 = .ok (.iconst 1, 1) := by decide +kernel
theorem dX7_step_43 : decode cX7_step 43 = .ok (.ireturn, 1) := by decide +kernel

section
variable {p : Program} {l : Launch} {e : Env} {R : Room} {s : State} {m : MethodId} {args : Array Value} {below : List Frame} {meth : Method} {c : Code} {H : Heap} {locs : List Loc} {Qf : State → Prop}
variable {ls : Array Slot} {D : va_G} {ca : Nat → ClassId} {A : Nat → Prop} {ad : Nat → Nat → Nat} {u : iST}
def v_7_step_27 (Q : Int → iST → Prop) (y1 : Int) (u : iST) : Prop :=
  sw (iI u 32 y1) (fun u => 
  zt 0 (Q 0 u))
set_option maxRecDepth 20000 in
set_option maxHeartbeats 4000000 in
theorem f_7_step_27 (X : yX RX7 p m c cX7_step 1 s args D ca ad A) (hRf : 0 ≤ R.frames) (hRl : 0 ≤ R.locals) {Q : Int → iST → Prop} (hret : ∀ (v : Int) (u : iST) (H : Heap) (locs : List Loc) (ls : Array Slot) (pc : Nat), bz v → Q v u → yW D ca A ad s H locs u → decode cX7_step pc = .ok (.ireturn, 1) → W p l e R s m args below meth c H locs 0 0 Qf (F0 m pc ls [.int (jI v)])) {y1 : Int} (ry1 : inR y1) (hw : yW D ca A ad s H locs u) (hl : lv_has ls 1 [(0, .ref (ad 0 6))]) (h : v_7_step_27 Q y1 u) : W p l e R s m args below meth c H locs 0 0 Qf (F0 m 27 ls [.int (jI y1), .ref (ad 0 6)]) := by
  have hx := X.1.1
  have hb := X.1.2.1
  unfold v_7_step_27 at h
  refine yp_7_40 X hw ry1 dX7_step_27 h (fun H locs u hw h => ?_)
  refine lv_iconst hx hb dX7_step_30 (v := jI 0) rfl ?_
  exact hret _ _ _ _ _ _ h.1 h.2 hw dX7_step_31

def v_7_step (Q : Int → iST → Prop) (u : iST) : Prop :=
  rd (u.1 31) (fun v1 => 
  rd (u.1 30) (fun v2 => 
  br (v1 < v2) (
    rd (u.1 31) (fun v3 => 
    ov (v3 + 1) (
    sw (iI u 31 (v3 + 1)) (fun u => 
    zt 1 (Q 1 u))))) (
    rd (u.1 32) (fun v5 => 
    br (v5 ≠ 0) (
      rd (u.1 32) (fun v6 => 
      v_7_step_27 Q v6 u)) (
      v_7_step_27 Q 1 u)))))
set_option maxRecDepth 20000 in
set_option maxHeartbeats 4000000 in
theorem f_7_step_s (X : yX RX7 p m c cX7_step 1 s args D ca ad A) (hRf : 0 ≤ R.frames) (hRl : 0 ≤ R.locals) {Q : Int → iST → Prop} (hret : ∀ (v : Int) (u : iST) (H : Heap) (locs : List Loc) (ls : Array Slot) (pc : Nat), bz v → Q v u → yW D ca A ad s H locs u → decode cX7_step pc = .ok (.ireturn, 1) → W p l e R s m args below meth c H locs 0 0 Qf (F0 m pc ls [.int (jI v)])) (hw : yW D ca A ad s H locs u) (hl : lv_has ls 1 [(0, .ref (ad 0 6))]) (h : v_7_step Q u) : W p l e R s m args below meth c H locs 0 0 Qf (F0 m 0 ls []) := by
  have hx := X.1.1
  have hb := X.1.2.1
  unfold v_7_step at h
  refine lv_aload_n hx hb dX7_step_0 rfl (lv_at hl 0 rfl) ?_
  refine yg_7_37 X hw dX7_step_1 h (fun v1 rv1 h => ?_)
  refine lv_aload_n hx hb dX7_step_4 rfl (lv_at hl 0 rfl) ?_
  refine yg_7_34 X hw dX7_step_5 h (fun v2 rv2 h => ?_)
  refine k_icmp_lt hx hb rv1 rv2 dX7_step_8 (tgt := 32) rfl h (fun h => ?_) (fun h => ?_)
  · refine lv_aload_n hx hb dX7_step_32 rfl (lv_at hl 0 rfl) ?_
    refine lv_dup hx hb dX7_step_33 rfl ?_
    refine yg_7_37 X hw dX7_step_34 h (fun v3 rv3 h => ?_)
    refine lv_iconst hx hb dX7_step_37 (v := jI 1) rfl ?_
    refine k_iadd hx hb dX7_step_38 h (fun r4 h => ?_)
    refine yp_7_37 X hw r4 dX7_step_39 h (fun H locs u hw h => ?_)
    refine lv_iconst hx hb dX7_step_42 (v := jI 1) rfl ?_
    exact hret _ _ _ _ _ _ h.1 h.2 hw dX7_step_43
  · refine lv_aload_n hx hb dX7_step_11 rfl (lv_at hl 0 rfl) ?_
    refine lv_aload_n hx hb dX7_step_12 rfl (lv_at hl 0 rfl) ?_
    refine yg_7_40 X hw dX7_step_13 h (fun v5 rv5 h => ?_)
    refine k_if_ne hx hb rv5 dX7_step_16 (tgt := 23) rfl h (fun h => ?_) (fun h => ?_)
    · refine lv_aload_n hx hb dX7_step_23 rfl (lv_at hl 0 rfl) ?_
      refine yg_7_40 X hw dX7_step_24 h (fun v6 rv6 h => ?_)
      exact f_7_step_27 X hRf hRl hret rv6 hw hl h
    · refine lv_iconst hx hb dX7_step_19 (v := jI 1) rfl ?_
      refine lv_goto hx hb dX7_step_20 (tgt := 27) rfl ?_
      exact f_7_step_27 X hRf hRl hret (by decide) hw hl h

end
theorem e_7_step {l : Launch} {Q : Int → iST → Prop} {u : iST} (h : v_7_step Q u) : yMI l yX7_step (.code yX7_step cX7_step 1 (some .boolean) :: wsN) { frames := 0, cells := 0, slots := 0, locals := 0 } (fun ad => [.ref (ad 0 6)]) Q u := yMZ_of (own := RX7) rfl (by decide +kernel) (fun _ => Nat.le_of_ble_eq_true rfl) (fun X hRf hRl hret hw hl => f_7_step_s X hRf hRl hret hw hl h)

/-! ProofHouse$Room.left -/
theorem dX7_left_0 : decode cX7_left 0 = .ok (.iload_n 1, 1) := by decide +kernel
theorem dX7_left_1 : decode cX7_left 1 = .ok (.ifCond .lt 38, 3) := by decide +kernel
theorem dX7_left_4 : decode cX7_left 4 = .ok (.iload_n 1, 1) := by decide +kernel
theorem dX7_left_5 : decode cX7_left 5 = .ok (.aload_n 0, 1) := by decide +kernel
theorem dX7_left_6 : decode cX7_left 6 = .ok (.getfield 30, 3) := by decide +kernel
theorem dX7_left_9 : decode cX7_left 9 = .ok (.if_icmp .ge 30, 3) := by decide +kernel
theorem dX7_left_12 : decode cX7_left 12 = .ok (.aload_n 0, 1) := by decide +kernel
theorem dX7_left_13 : decode cX7_left 13 = .ok (.getfield 12, 3) := by decide +kernel
theorem dX7_left_16 : decode cX7_left 16 = .ok (.iload_n 1, 1) := by decide +kernel
theorem dX7_left_17 : decode cX7_left 17 = .ok (.laload, 1) := by decide +kernel
theorem dX7_left_18 : decode cX7_left 18 = .ok (.lconst 0, 1) := by decide +kernel
theorem dX7_left_19 : decode cX7_left 19 = .ok (.lcmp, 1) := by decide +kernel
theorem dX7_left_20 : decode cX7_left 20 = .ok (.ifCond .ge 19, 3) := by decide +kernel
theorem dX7_left_23 : decode cX7_left 23 = .ok (.aload_n 0, 1) := by decide +kernel
theorem dX7_left_24 : decode cX7_left 24 = .ok (.getfield 12, 3) := by decide +kernel
theorem dX7_left_27 : decode cX7_left 27 = .ok (.iload_n 1, 1) := by decide +kernel
theorem dX7_left_28 : decode cX7_left 28 = .ok (.laload, 1) := by decide +kernel
theorem dX7_left_29 : decode cX7_left 29 = .ok (.bipush 31, 2) := by decide +kernel
theorem dX7_left_31 : decode cX7_left 31 = .ok (.lushr, 1) := by decide +kernel
theorem dX7_left_32 : decode cX7_left 32 = .ok (.l2i, 1) := by decide +kernel
theorem dX7_left_33 : decode cX7_left 33 = .ok (.ldc 77, 2) := by decide +kernel
theorem dX7_left_35 : decode cX7_left 35 = .ok (.iand, 1) := by decide +kernel
theorem dX7_left_36 : decode cX7_left 36 = .ok (.goto 4, 3) := by decide +kernel
theorem dX7_left_39 : decode cX7_left 39 = .ok (.iconst 0, 1) := by decide +kernel
theorem dX7_left_40 : decode cX7_left 40 = .ok (.ireturn, 1) := by decide +kernel

section
variable {p : Program} {l : Launch} {e : Env} {R : Room} {s : State} {m : MethodId} {args : Array Value} {below : List Frame} {meth : Method} {c : Code} {H : Heap} {locs : List Loc} {Qf : State → Prop}
variable {ls : Array Slot} {D : va_G} {ca : Nat → ClassId} {A : Nat → Prop} {ad : Nat → Nat → Nat} {u : iST}
def v_7_left (a0 : Int) (Q : Int → iST → Prop) (u : iST) : Prop :=
  br (a0 < 0) (
    Q 0 u) (
    rd (u.1 29) (fun v1 => 
    br (v1 ≤ a0) (
      Q 0 u) (
      bd a0 160000 (rl (u.2.2 a0) (fun v2 => 
      br (0 ≤ v2) (
        Q 0 u) (
        bd a0 160000 (rl (u.2.2 a0) (fun v3 => 
        rl (wlushr v3 31) (fun v4 => 
        rd (wl2i v4) (fun v5 => 
        rd (wand v5 2147483647) (fun v6 => 
        Q v6 u)))))))))))
set_option maxRecDepth 20000 in
set_option maxHeartbeats 4000000 in
theorem f_7_left_s (X : yX RX7 p m c cX7_left 2 s args D ca ad A) (hRf : 0 ≤ R.frames) (hRl : 0 ≤ R.locals) {Q : Int → iST → Prop} (hret : ∀ (v : Int) (u : iST) (H : Heap) (locs : List Loc) (ls : Array Slot) (pc : Nat), inR v → Q v u → yW D ca A ad s H locs u → decode cX7_left pc = .ok (.ireturn, 1) → W p l e R s m args below meth c H locs 0 0 Qf (F0 m pc ls [.int (jI v)])) {a0 : Int} (ra0 : inR a0) (hw : yW D ca A ad s H locs u) (hl : lv_has ls 2 [(0, .ref (ad 0 6)), (1, .int (jI a0))]) (h : v_7_left a0 Q u) : W p l e R s m args below meth c H locs 0 0 Qf (F0 m 0 ls []) := by
  have hx := X.1.1
  have hb := X.1.2.1
  unfold v_7_left at h
  refine lv_iload_n hx hb dX7_left_0 rfl (lv_at hl 1 rfl) ?_
  refine k_if_lt hx hb ra0 dX7_left_1 (tgt := 39) rfl h (fun h => ?_) (fun h => ?_)
  · refine lv_iconst hx hb dX7_left_39 (v := jI 0) rfl ?_
    exact hret _ _ _ _ _ _ (by decide) h hw dX7_left_40
  · refine lv_iload_n hx hb dX7_left_4 rfl (lv_at hl 1 rfl) ?_
    refine lv_aload_n hx hb dX7_left_5 rfl (lv_at hl 0 rfl) ?_
    refine yg_7_30 X hw dX7_left_6 h (fun v1 rv1 h => ?_)
    refine k_icmp_ge hx hb ra0 rv1 dX7_left_9 (tgt := 39) rfl h (fun h => ?_) (fun h => ?_)
    · refine lv_iconst hx hb dX7_left_39 (v := jI 0) rfl ?_
      exact hret _ _ _ _ _ _ (by decide) h hw dX7_left_40
    · refine lv_aload_n hx hb dX7_left_12 rfl (lv_at hl 0 rfl) ?_
      refine yg_7_12 X hw dX7_left_13 ?_
      refine lv_iload_n hx hb dX7_left_16 rfl (lv_at hl 1 rfl) ?_
      refine yJl X hw ra0 dX7_left_17 h (fun v2 rv2 h => ?_)
      refine lv_lconst hx hb dX7_left_18 (v := jL 0) rfl ?_
      refine k_lcmp_ge hx hb rv2 (by decide) dX7_left_19 dX7_left_20 (tgt := 39) rfl h (fun h => ?_) (fun h => ?_)
      · refine lv_iconst hx hb dX7_left_39 (v := jI 0) rfl ?_
        exact hret _ _ _ _ _ _ (by decide) h hw dX7_left_40
      · refine lv_aload_n hx hb dX7_left_23 rfl (lv_at hl 0 rfl) ?_
        refine yg_7_12 X hw dX7_left_24 ?_
        refine lv_iload_n hx hb dX7_left_27 rfl (lv_at hl 1 rfl) ?_
        refine yJl X hw ra0 dX7_left_28 h (fun v3 rv3 h => ?_)
        refine lv_bipush hx hb dX7_left_29 (v := jI 31) rfl ?_
        refine k_wlushr hx hb dX7_left_31 h (fun v4 rv4 h => ?_)
        refine k_l2i hx hb dX7_left_32 h (fun v5 rv5 h => ?_)
        refine yld 77 yK_7_77 X dX7_left_33 ?_
        refine k_iand hx hb dX7_left_35 h (fun v6 rv6 h => ?_)
        refine lv_goto hx hb dX7_left_36 (tgt := 40) rfl ?_
        exact hret _ _ _ _ _ _ rv6 h hw dX7_left_40

end
theorem e_7_left {l : Launch} {a0 : Int} (ra0 : inR a0) {Q : Int → iST → Prop} {u : iST} (h : v_7_left a0 Q u) : yMI l yX7_left (.code yX7_left cX7_left 2 (some .int) :: wsN) { frames := 0, cells := 0, slots := 0, locals := 0 } (fun ad => [.ref (ad 0 6), .int (jI a0)]) Q u := yMI_of (own := RX7) rfl (by decide +kernel) (fun _ => Nat.le_of_ble_eq_true rfl) (fun X hRf hRl hret hw hl => f_7_left_s X hRf hRl hret ra0 hw hl h)

/-! ProofHouse$Room.right -/
theorem dX7_right_0 : decode cX7_right 0 = .ok (.iload_n 1, 1) := by decide +kernel
theorem dX7_right_1 : decode cX7_right 1 = .ok (.ifCond .lt 35, 3) := by decide +kernel
theorem dX7_right_4 : decode cX7_right 4 = .ok (.iload_n 1, 1) := by decide +kernel
theorem dX7_right_5 : decode cX7_right 5 = .ok (.aload_n 0, 1) := by decide +kernel
theorem dX7_right_6 : decode cX7_right 6 = .ok (.getfield 30, 3) := by decide +kernel
theorem dX7_right_9 : decode cX7_right 9 = .ok (.if_icmp .ge 27, 3) := by decide +kernel
theorem dX7_right_12 : decode cX7_right 12 = .ok (.aload_n 0, 1) := by decide +kernel
theorem dX7_right_13 : decode cX7_right 13 = .ok (.getfield 12, 3) := by decide +kernel
theorem dX7_right_16 : decode cX7_right 16 = .ok (.iload_n 1, 1) := by decide +kernel
theorem dX7_right_17 : decode cX7_right 17 = .ok (.laload, 1) := by decide +kernel
theorem dX7_right_18 : decode cX7_right 18 = .ok (.lconst 0, 1) := by decide +kernel
theorem dX7_right_19 : decode cX7_right 19 = .ok (.lcmp, 1) := by decide +kernel
theorem dX7_right_20 : decode cX7_right 20 = .ok (.ifCond .ge 16, 3) := by decide +kernel
theorem dX7_right_23 : decode cX7_right 23 = .ok (.aload_n 0, 1) := by decide +kernel
theorem dX7_right_24 : decode cX7_right 24 = .ok (.getfield 12, 3) := by decide +kernel
theorem dX7_right_27 : decode cX7_right 27 = .ok (.iload_n 1, 1) := by decide +kernel
theorem dX7_right_28 : decode cX7_right 28 = .ok (.laload, 1) := by decide +kernel
theorem dX7_right_29 : decode cX7_right 29 = .ok (.l2i, 1) := by decide +kernel
theorem dX7_right_30 : decode cX7_right 30 = .ok (.ldc 77, 2) := by decide +kernel
theorem dX7_right_32 : decode cX7_right 32 = .ok (.iand, 1) := by decide +kernel
theorem dX7_right_33 : decode cX7_right 33 = .ok (.goto 4, 3) := by decide +kernel
theorem dX7_right_36 : decode cX7_right 36 = .ok (.iconst 0, 1) := by decide +kernel
theorem dX7_right_37 : decode cX7_right 37 = .ok (.ireturn, 1) := by decide +kernel

section
variable {p : Program} {l : Launch} {e : Env} {R : Room} {s : State} {m : MethodId} {args : Array Value} {below : List Frame} {meth : Method} {c : Code} {H : Heap} {locs : List Loc} {Qf : State → Prop}
variable {ls : Array Slot} {D : va_G} {ca : Nat → ClassId} {A : Nat → Prop} {ad : Nat → Nat → Nat} {u : iST}
def v_7_right (a0 : Int) (Q : Int → iST → Prop) (u : iST) : Prop :=
  br (a0 < 0) (
    Q 0 u) (
    rd (u.1 29) (fun v1 => 
    br (v1 ≤ a0) (
      Q 0 u) (
      bd a0 160000 (rl (u.2.2 a0) (fun v2 => 
      br (0 ≤ v2) (
        Q 0 u) (
        bd a0 160000 (rl (u.2.2 a0) (fun v3 => 
        rd (wl2i v3) (fun v4 => 
        rd (wand v4 2147483647) (fun v5 => 
        Q v5 u))))))))))
set_option maxRecDepth 20000 in
set_option maxHeartbeats 4000000 in
theorem f_7_right_s (X : yX RX7 p m c cX7_right 2 s args D ca ad A) (hRf : 0 ≤ R.frames) (hRl : 0 ≤ R.locals) {Q : Int → iST → Prop} (hret : ∀ (v : Int) (u : iST) (H : Heap) (locs : List Loc) (ls : Array Slot) (pc : Nat), inR v → Q v u → yW D ca A ad s H locs u → decode cX7_right pc = .ok (.ireturn, 1) → W p l e R s m args below meth c H locs 0 0 Qf (F0 m pc ls [.int (jI v)])) {a0 : Int} (ra0 : inR a0) (hw : yW D ca A ad s H locs u) (hl : lv_has ls 2 [(0, .ref (ad 0 6)), (1, .int (jI a0))]) (h : v_7_right a0 Q u) : W p l e R s m args below meth c H locs 0 0 Qf (F0 m 0 ls []) := by
  have hx := X.1.1
  have hb := X.1.2.1
  unfold v_7_right at h
  refine lv_iload_n hx hb dX7_right_0 rfl (lv_at hl 1 rfl) ?_
  refine k_if_lt hx hb ra0 dX7_right_1 (tgt := 36) rfl h (fun h => ?_) (fun h => ?_)
  · refine lv_iconst hx hb dX7_right_36 (v := jI 0) rfl ?_
    exact hret _ _ _ _ _ _ (by decide) h hw dX7_right_37
  · refine lv_iload_n hx hb dX7_right_4 rfl (lv_at hl 1 rfl) ?_
    refine lv_aload_n hx hb dX7_right_5 rfl (lv_at hl 0 rfl) ?_
    refine yg_7_30 X hw dX7_right_6 h (fun v1 rv1 h => ?_)
    refine k_icmp_ge hx hb ra0 rv1 dX7_right_9 (tgt := 36) rfl h (fun h => ?_) (fun h => ?_)
    · refine lv_iconst hx hb dX7_right_36 (v := jI 0) rfl ?_
      exact hret _ _ _ _ _ _ (by decide) h hw dX7_right_37
    · refine lv_aload_n hx hb dX7_right_12 rfl (lv_at hl 0 rfl) ?_
      refine yg_7_12 X hw dX7_right_13 ?_
      refine lv_iload_n hx hb dX7_right_16 rfl (lv_at hl 1 rfl) ?_
      refine yJl X hw ra0 dX7_right_17 h (fun v2 rv2 h => ?_)
      refine lv_lconst hx hb dX7_right_18 (v := jL 0) rfl ?_
      refine k_lcmp_ge hx hb rv2 (by decide) dX7_right_19 dX7_right_20 (tgt := 36) rfl h (fun h => ?_) (fun h => ?_)
      · refine lv_iconst hx hb dX7_right_36 (v := jI 0) rfl ?_
        exact hret _ _ _ _ _ _ (by decide) h hw dX7_right_37
      · refine lv_aload_n hx hb dX7_right_23 rfl (lv_at hl 0 rfl) ?_
        refine yg_7_12 X hw dX7_right_24 ?_
        refine lv_iload_n hx hb dX7_right_27 rfl (lv_at hl 1 rfl) ?_
        refine yJl X hw ra0 dX7_right_28 h (fun v3 rv3 h => ?_)
        refine k_l2i hx hb dX7_right_29 h (fun v4 rv4 h => ?_)
        refine yld 77 yK_7_77 X dX7_right_30 ?_
        refine k_iand hx hb dX7_right_32 h (fun v5 rv5 h => ?_)
        refine lv_goto hx hb dX7_right_33 (tgt := 37) rfl ?_
        exact hret _ _ _ _ _ _ rv5 h hw dX7_right_37

end
theorem e_7_right {l : Launch} {a0 : Int} (ra0 : inR a0) {Q : Int → iST → Prop} {u : iST} (h : v_7_right a0 Q u) : yMI l yX7_right (.code yX7_right cX7_right 2 (some .int) :: wsN) { frames := 0, cells := 0, slots := 0, locals := 0 } (fun ad => [.ref (ad 0 6), .int (jI a0)]) Q u := yMI_of (own := RX7) rfl (by decide +kernel) (fun _ => Nat.le_of_ble_eq_true rfl) (fun X hRf hRl hret hw hl => f_7_right_s X hRf hRl hret ra0 hw hl h)

/-! ProofHouse$Evaluator.begin -/
theorem dX2_begin_0 : decode cX2_begin 0 = .ok (.aload_n 0, 1) := by decide +kernel
theorem dX2_begin_1 : decode cX2_begin 1 = .ok (.getfield 34, 3) := by decide +kernel
theorem dX2_begin_4 : decode cX2_begin 4 = .ok (.sipush 300, 3) := by decide +kernel
theorem dX2_begin_7 : decode cX2_begin 7 = .ok (.if_icmp .lt 11, 3) := by decide +kernel
theorem dX2_begin_10 : decode cX2_begin 10 = .ok (.aload_n 0, 1) := by decide +kernel
theorem dX2_begin_11 : decode cX2_begin 11 = .ok (.iconst 2, 1) := by decide +kernel
theorem dX2_begin_12 : decode cX2_begin 12 = .ok (.putfield 50, 3) := by decide +kernel
theorem dX2_begin_15 : decode cX2_begin 15 = .ok (.goto 139, 3) := by decide +kernel
theorem dX2_begin_18 : decode cX2_begin 18 = .ok (.aload_n 0, 1) := by decide +kernel
theorem dX2_begin_19 : decode cX2_begin 19 = .ok (.getfield 47, 3) := by decide +kernel
theorem dX2_begin_22 : decode cX2_begin 22 = .ok (.ifCond .ne 11, 3) := by decide +kernel
theorem dX2_begin_25 : decode cX2_begin 25 = .ok (.aload_n 0, 1) := by decide +kernel
theorem dX2_begin_26 : decode cX2_begin 26 = .ok (.iconst 5, 1) := by decide +kernel
theorem dX2_begin_27 : decode cX2_begin 27 = .ok (.putfield 50, 3) := by decide +kernel
theorem dX2_begin_30 : decode cX2_begin 30 = .ok (.goto 124, 3) := by decide +kernel
theorem dX2_begin_33 : decode cX2_begin 33 = .ok (.aload_n 0, 1) := by decide +kernel
theorem dX2_begin_34 : decode cX2_begin 34 = .ok (.getfield 53, 3) := by decide +kernel
theorem dX2_begin_37 : decode cX2_begin 37 = .ok (.invokevirtual 101, 3) := by decide +kernel
theorem dX2_begin_40 : decode cX2_begin 40 = .ok (.ifCond .ne 11, 3) := by decide +kernel
theorem dX2_begin_43 : decode cX2_begin 43 = .ok (.aload_n 0, 1) := by decide +kernel
theorem dX2_begin_44 : decode cX2_begin 44 = .ok (.iconst 1, 1) := by decide +kernel
theorem dX2_begin_45 : decode cX2_begin 45 = .ok (.putfield 50, 3) := by decide +kernel
theorem dX2_begin_48 : decode cX2_begin 48 = .ok (.goto 106, 3) := by decide +kernel
theorem dX2_begin_51 : decode cX2_begin 51 = .ok (.aload_n 0, 1) := by decide +kernel
theorem dX2_begin_52 : decode cX2_begin 52 = .ok (.dup, 1) := by decide +kernel
theorem dX2_begin_53 : decode cX2_begin 53 = .ok (.getfield 47, 3) := by decide +kernel
theorem dX2_begin_56 : decode cX2_begin 56 = .ok (.iconst 1, 1) := by decide +kernel
theorem dX2_begin_57 : decode cX2_begin 57 = .ok (.isub, 1) := by decide +kernel
theorem dX2_begin_58 : decode cX2_begin 58 = .ok (.putfield 47, 3) := by decide +kernel
theorem dX2_begin_61 : decode cX2_begin 61 = .ok (.aload_n 0, 1) := by decide +kernel
theorem dX2_begin_62 : decode cX2_begin 62 = .ok (.getfield 11, 3) := by decide +kernel
theorem dX2_begin_65 : decode cX2_begin 65 = .ok (.aload_n 0, 1) := by decide +kernel
theorem dX2_begin_66 : decode cX2_begin 66 = .ok (.getfield 34, 3) := by decide +kernel
theorem dX2_begin_69 : decode cX2_begin 69 = .ok (.aload_n 0, 1) := by decide +kernel
theorem dX2_begin_70 : decode cX2_begin 70 = .ok (.getfield 53, 3) := by decide +kernel
theorem dX2_begin_73 : decode cX2_begin 73 = .ok (.iload_n 1, 1) := by decide +kernel
theorem dX2_begin_74 : decode cX2_begin 74 = .ok (.invokevirtual 105, 3) := by decide +kernel
theorem dX2_begin_77 : decode cX2_begin 77 = .ok (.iastore, 1) := by decide +kernel
theorem dX2_begin_78 : decode cX2_begin 78 = .ok (.aload_n 0, 1) := by decide +kernel
theorem dX2_begin_79 : decode cX2_begin 79 = .ok (.getfield 15, 3) := by decide +kernel
theorem dX2_begin_82 : decode cX2_begin 82 = .ok (.aload_n 0, 1) := by decide +kernel
theorem dX2_begin_83 : decode cX2_begin 83 = .ok (.getfield 34, 3) := by decide +kernel
theorem dX2_begin_86 : decode cX2_begin 86 = .ok (.aload_n 0, 1) := by decide +kernel
theorem dX2_begin_87 : decode cX2_begin 87 = .ok (.getfield 53, 3) := by decide +kernel
theorem dX2_begin_90 : decode cX2_begin 90 = .ok (.iload_n 1, 1) := by decide +kernel
theorem dX2_begin_91 : decode cX2_begin 91 = .ok (.invokevirtual 108, 3) := by decide +kernel
theorem dX2_begin_94 : decode cX2_begin 94 = .ok (.iastore, 1) := by decide +kernel
theorem dX2_begin_95 : decode cX2_begin 95 = .ok (.aload_n 0, 1) := by decide +kernel
theorem dX2_begin_96 : decode cX2_begin 96 = .ok (.getfield 18, 3) := by decide +kernel
theorem dX2_begin_99 : decode cX2_begin 99 = .ok (.aload_n 0, 1) := by decide +kernel
theorem dX2_begin_100 : decode cX2_begin 100 = .ok (.getfield 34, 3) := by decide +kernel
theorem dX2_begin_103 : decode cX2_begin 103 = .ok (.aload_n 0, 1) := by decide +kernel
theorem dX2_begin_104 : decode cX2_begin 104 = .ok (.getfield 38, 3) := by decide +kernel
theorem dX2_begin_107 : decode cX2_begin 107 = .ok (.iastore, 1) := by decide +kernel
theorem dX2_begin_108 : decode cX2_begin 108 = .ok (.aload_n 0, 1) := by decide +kernel
theorem dX2_begin_109 : decode cX2_begin 109 = .ok (.getfield 21, 3) := by decide +kernel
theorem dX2_begin_112 : decode cX2_begin 112 = .ok (.aload_n 0, 1) := by decide +kernel
theorem dX2_begin_113 : decode cX2_begin 113 = .ok (.getfield 34, 3) := by decide +kernel
theorem dX2_begin_116 : decode cX2_begin 116 = .ok (.iconst 0, 1) := by decide +kernel
theorem dX2_begin_117 : decode cX2_begin 117 = .ok (.bastore, 1) := by decide +kernel
theorem dX2_begin_118 : decode cX2_begin 118 = .ok (.aload_n 0, 1) := by decide +kernel
theorem dX2_begin_119 : decode cX2_begin 119 = .ok (.getfield 25, 3) := by decide +kernel
theorem dX2_begin_122 : decode cX2_begin 122 = .ok (.aload_n 0, 1) := by decide +kernel
theorem dX2_begin_123 : decode cX2_begin 123 = .ok (.getfield 34, 3) := by decide +kernel
theorem dX2_begin_126 : decode cX2_begin 126 = .ok (.aload_n 0, 1) := by decide +kernel
theorem dX2_begin_127 : decode cX2_begin 127 = .ok (.getfield 41, 3) := by decide +kernel
theorem dX2_begin_130 : decode cX2_begin 130 = .ok (.iastore, 1) := by decide +kernel
theorem dX2_begin_131 : decode cX2_begin 131 = .ok (.aload_n 0, 1) := by decide +kernel
theorem dX2_begin_132 : decode cX2_begin 132 = .ok (.getfield 28, 3) := by decide +kernel
theorem dX2_begin_135 : decode cX2_begin 135 = .ok (.aload_n 0, 1) := by decide +kernel
theorem dX2_begin_136 : decode cX2_begin 136 = .ok (.getfield 34, 3) := by decide +kernel
theorem dX2_begin_139 : decode cX2_begin 139 = .ok (.aload_n 0, 1) := by decide +kernel
theorem dX2_begin_140 : decode cX2_begin 140 = .ok (.getfield 44, 3) := by decide +kernel
theorem dX2_begin_143 : decode cX2_begin 143 = .ok (.iastore, 1) := by decide +kernel
theorem dX2_begin_144 : decode cX2_begin 144 = .ok (.aload_n 0, 1) := by decide +kernel
theorem dX2_begin_145 : decode cX2_begin 145 = .ok (.dup, 1) := by decide +kernel
theorem dX2_begin_146 : decode cX2_begin 146 = .ok (.getfield 34, 3) := by decide +kernel
theorem dX2_begin_149 : decode cX2_begin 149 = .ok (.iconst 1, 1) := by decide +kernel
theorem dX2_begin_150 : decode cX2_begin 150 = .ok (.iadd, 1) := by decide +kernel
theorem dX2_begin_151 : decode cX2_begin 151 = .ok (.putfield 34, 3) := by decide +kernel
theorem dX2_begin_154 : decode cX2_begin 154 = .ok (.return_, 1) := by decide +kernel

section
variable {p : Program} {l : Launch} {e : Env} {R : Room} {s : State} {m : MethodId} {args : Array Value} {below : List Frame} {meth : Method} {c : Code} {H : Heap} {locs : List Loc} {Qf : State → Prop}
variable {ls : Array Slot} {D : va_G} {ca : Nat → ClassId} {A : Nat → Prop} {ad : Nat → Nat → Nat} {u : iST}
def v_2_begin (a0 : Int) (Q : iST → Prop) (u : iST) : Prop :=
  rd (u.1 4) (fun v1 => 
  br (v1 < 300) (
    rd (u.1 8) (fun v2 => 
    br (v2 ≠ 0) (
      v_7_step (fun v3 u => 
      br (v3 ≠ 0) (
        rd (u.1 8) (fun v4 => 
        ov (v4 - 1) (
        sw (iI u 8 (v4 - 1)) (fun u => 
        rd (u.1 4) (fun v6 => 
        v_7_left a0 (fun v7 u => 
        bd v6 300 (sw (iA u 16 v6 v7) (fun u => 
        rd (u.1 4) (fun v8 => 
        v_7_right a0 (fun v9 u => 
        bd v8 300 (sw (iA u 17 v8 v9) (fun u => 
        rd (u.1 4) (fun v10 => 
        rd (u.1 5) (fun v11 => 
        bd v10 300 (sw (iA u 18 v10 v11) (fun u => 
        rd (u.1 4) (fun v12 => 
        zt 0 (bd v12 300 (sw (iA u 19 v12 0) (fun u => 
        rd (u.1 4) (fun v13 => 
        rd (u.1 6) (fun v14 => 
        bd v13 300 (sw (iA u 20 v13 v14) (fun u => 
        rd (u.1 4) (fun v15 => 
        rd (u.1 7) (fun v16 => 
        bd v15 300 (sw (iA u 21 v15 v16) (fun u => 
        rd (u.1 4) (fun v17 => 
        ov (v17 + 1) (
        sw (iI u 4 (v17 + 1)) (fun u => 
        Q u)))))))))))))))))))))) u)))) u))))) (
        sw (iI u 9 1) (fun u => 
        Q u))) u) (
      sw (iI u 9 5) (fun u => 
      Q u)))) (
    sw (iI u 9 2) (fun u => 
    Q u)))
set_option maxRecDepth 20000 in
set_option maxHeartbeats 4000000 in
theorem f_2_begin_s (X : yX RX2 p m c cX2_begin 2 s args D ca ad A) (hRf : 1 ≤ R.frames) (hRl : 21 ≤ R.locals) {Q : iST → Prop} (hret : ∀ (u : iST) (H : Heap) (locs : List Loc) (ls : Array Slot) (pc : Nat), Q u → yW D ca A ad s H locs u → decode cX2_begin pc = .ok (.return_, 1) → W p l e R s m args below meth c H locs 0 0 Qf (F0 m pc ls [])) {a0 : Int} (ra0 : inR a0) (hw : yW D ca A ad s H locs u) (hl : lv_has ls 2 [(0, .ref (ad 0 1)), (1, .int (jI a0))]) (h : v_2_begin a0 Q u) : W p l e R s m args below meth c H locs 0 0 Qf (F0 m 0 ls []) := by
  have hx := X.1.1
  have hb := X.1.2.1
  unfold v_2_begin at h
  refine lv_aload_n hx hb dX2_begin_0 rfl (lv_at hl 0 rfl) ?_
  refine yg_2_34 X hw dX2_begin_1 h (fun v1 rv1 h => ?_)
  refine lv_sipush hx hb dX2_begin_4 (v := jI 300) rfl ?_
  refine k_icmp_lt hx hb rv1 (by decide) dX2_begin_7 (tgt := 18) rfl h (fun h => ?_) (fun h => ?_)
  · refine lv_aload_n hx hb dX2_begin_18 rfl (lv_at hl 0 rfl) ?_
    refine yg_2_47 X hw dX2_begin_19 h (fun v2 rv2 h => ?_)
    refine k_if_ne hx hb rv2 dX2_begin_22 (tgt := 33) rfl h (fun h => ?_) (fun h => ?_)
    · refine lv_aload_n hx hb dX2_begin_33 rfl (lv_at hl 0 rfl) ?_
      refine yg_2_53 X hw dX2_begin_34 ?_
      refine ycI (n := 0) (e_7_step h) 7 6 (r := (RX7, TX7, 9)) rfl yG_2_101 yD_7_step X hw rfl yGo_7 (Nat.le_trans (Nat.le_of_ble_eq_true rfl) hRf) (Nat.le_trans (Nat.le_of_ble_eq_true rfl) hRl) rfl hl.1 (Nat.le_of_ble_eq_true rfl) rfl dX2_begin_37 (fun v3 u H locs rv3 h hw => ?_)
      refine k_if_ne hx hb rv3 dX2_begin_40 (tgt := 51) rfl h (fun h => ?_) (fun h => ?_)
      · refine lv_aload_n hx hb dX2_begin_51 rfl (lv_at hl 0 rfl) ?_
        refine lv_dup hx hb dX2_begin_52 rfl ?_
        refine yg_2_47 X hw dX2_begin_53 h (fun v4 rv4 h => ?_)
        refine lv_iconst hx hb dX2_begin_56 (v := jI 1) rfl ?_
        refine k_isub hx hb dX2_begin_57 h (fun r5 h => ?_)
        refine yp_2_47 X hw r5 dX2_begin_58 h (fun H locs u hw h => ?_)
        refine lv_aload_n hx hb dX2_begin_61 rfl (lv_at hl 0 rfl) ?_
        refine yg_2_11 X hw dX2_begin_62 ?_
        refine lv_aload_n hx hb dX2_begin_65 rfl (lv_at hl 0 rfl) ?_
        refine yg_2_34 X hw dX2_begin_66 h (fun v6 rv6 h => ?_)
        refine lv_aload_n hx hb dX2_begin_69 rfl (lv_at hl 0 rfl) ?_
        refine yg_2_53 X hw dX2_begin_70 ?_
        refine lv_iload_n hx hb dX2_begin_73 rfl (lv_at hl 1 rfl) ?_
        refine ycI (n := 1) (e_7_left ra0 h) 7 6 (r := (RX7, TX7, 9)) rfl yG_2_105 yD_7_left X hw rfl yGo_7 (Nat.le_trans (Nat.le_of_ble_eq_true rfl) hRf) (Nat.le_trans (Nat.le_of_ble_eq_true rfl) hRl) rfl hl.1 (Nat.le_of_ble_eq_true rfl) rfl dX2_begin_74 (fun v7 u H locs rv7 h hw => ?_)
        refine yt_16 X hw rv6 rv7 dX2_begin_77 h (fun H locs u hw h => ?_)
        refine lv_aload_n hx hb dX2_begin_78 rfl (lv_at hl 0 rfl) ?_
        refine yg_2_15 X hw dX2_begin_79 ?_
        refine lv_aload_n hx hb dX2_begin_82 rfl (lv_at hl 0 rfl) ?_
        refine yg_2_34 X hw dX2_begin_83 h (fun v8 rv8 h => ?_)
        refine lv_aload_n hx hb dX2_begin_86 rfl (lv_at hl 0 rfl) ?_
        refine yg_2_53 X hw dX2_begin_87 ?_
        refine lv_iload_n hx hb dX2_begin_90 rfl (lv_at hl 1 rfl) ?_
        refine ycI (n := 1) (e_7_right ra0 h) 7 6 (r := (RX7, TX7, 9)) rfl yG_2_108 yD_7_right X hw rfl yGo_7 (Nat.le_trans (Nat.le_of_ble_eq_true rfl) hRf) (Nat.le_trans (Nat.le_of_ble_eq_true rfl) hRl) rfl hl.1 (Nat.le_of_ble_eq_true rfl) rfl dX2_begin_91 (fun v9 u H locs rv9 h hw => ?_)
        refine yt_17 X hw rv8 rv9 dX2_begin_94 h (fun H locs u hw h => ?_)
        refine lv_aload_n hx hb dX2_begin_95 rfl (lv_at hl 0 rfl) ?_
        refine yg_2_18 X hw dX2_begin_96 ?_
        refine lv_aload_n hx hb dX2_begin_99 rfl (lv_at hl 0 rfl) ?_
        refine yg_2_34 X hw dX2_begin_100 h (fun v10 rv10 h => ?_)
        refine lv_aload_n hx hb dX2_begin_103 rfl (lv_at hl 0 rfl) ?_
        refine yg_2_38 X hw dX2_begin_104 h (fun v11 rv11 h => ?_)
        refine yt_18 X hw rv10 rv11 dX2_begin_107 h (fun H locs u hw h => ?_)
        refine lv_aload_n hx hb dX2_begin_108 rfl (lv_at hl 0 rfl) ?_
        refine yg_2_21 X hw dX2_begin_109 ?_
        refine lv_aload_n hx hb dX2_begin_112 rfl (lv_at hl 0 rfl) ?_
        refine yg_2_34 X hw dX2_begin_113 h (fun v12 rv12 h => ?_)
        refine lv_iconst hx hb dX2_begin_116 (v := jI 0) rfl ?_
        refine yt_19 X hw rv12 dX2_begin_117 h (fun H locs u hw h => ?_)
        refine lv_aload_n hx hb dX2_begin_118 rfl (lv_at hl 0 rfl) ?_
        refine yg_2_25 X hw dX2_begin_119 ?_
        refine lv_aload_n hx hb dX2_begin_122 rfl (lv_at hl 0 rfl) ?_
        refine yg_2_34 X hw dX2_begin_123 h (fun v13 rv13 h => ?_)
        refine lv_aload_n hx hb dX2_begin_126 rfl (lv_at hl 0 rfl) ?_
        refine yg_2_41 X hw dX2_begin_127 h (fun v14 rv14 h => ?_)
        refine yt_20 X hw rv13 rv14 dX2_begin_130 h (fun H locs u hw h => ?_)
        refine lv_aload_n hx hb dX2_begin_131 rfl (lv_at hl 0 rfl) ?_
        refine yg_2_28 X hw dX2_begin_132 ?_
        refine lv_aload_n hx hb dX2_begin_135 rfl (lv_at hl 0 rfl) ?_
        refine yg_2_34 X hw dX2_begin_136 h (fun v15 rv15 h => ?_)
        refine lv_aload_n hx hb dX2_begin_139 rfl (lv_at hl 0 rfl) ?_
        refine yg_2_44 X hw dX2_begin_140 h (fun v16 rv16 h => ?_)
        refine yt_21 X hw rv15 rv16 dX2_begin_143 h (fun H locs u hw h => ?_)
        refine lv_aload_n hx hb dX2_begin_144 rfl (lv_at hl 0 rfl) ?_
        refine lv_dup hx hb dX2_begin_145 rfl ?_
        refine yg_2_34 X hw dX2_begin_146 h (fun v17 rv17 h => ?_)
        refine lv_iconst hx hb dX2_begin_149 (v := jI 1) rfl ?_
        refine k_iadd hx hb dX2_begin_150 h (fun r18 h => ?_)
        refine yp_2_34 X hw r18 dX2_begin_151 h (fun H locs u hw h => ?_)
        exact hret _ _ _ _ _ h hw dX2_begin_154
      · refine lv_aload_n hx hb dX2_begin_43 rfl (lv_at hl 0 rfl) ?_
        refine lv_iconst hx hb dX2_begin_44 (v := jI 1) rfl ?_
        refine yp_2_50 X hw (by decide) dX2_begin_45 h (fun H locs u hw h => ?_)
        refine lv_goto hx hb dX2_begin_48 (tgt := 154) rfl ?_
        exact hret _ _ _ _ _ h hw dX2_begin_154
    · refine lv_aload_n hx hb dX2_begin_25 rfl (lv_at hl 0 rfl) ?_
      refine lv_iconst hx hb dX2_begin_26 (v := jI 5) rfl ?_
      refine yp_2_50 X hw (by decide) dX2_begin_27 h (fun H locs u hw h => ?_)
      refine lv_goto hx hb dX2_begin_30 (tgt := 154) rfl ?_
      exact hret _ _ _ _ _ h hw dX2_begin_154
  · refine lv_aload_n hx hb dX2_begin_10 rfl (lv_at hl 0 rfl) ?_
    refine lv_iconst hx hb dX2_begin_11 (v := jI 2) rfl ?_
    refine yp_2_50 X hw (by decide) dX2_begin_12 h (fun H locs u hw h => ?_)
    refine lv_goto hx hb dX2_begin_15 (tgt := 154) rfl ?_
    exact hret _ _ _ _ _ h hw dX2_begin_154

end
theorem e_2_begin {l : Launch} {a0 : Int} (ra0 : inR a0) {Q : iST → Prop} {u : iST} (h : v_2_begin a0 Q u) : yMV l yX2_begin (.code yX2_begin cX2_begin 2 none :: wsN) { frames := 1, cells := 0, slots := 0, locals := 21 } (fun ad => [.ref (ad 0 1), .int (jI a0)]) Q u := yMV_of (own := RX2) rfl (by decide +kernel) (fun _ => Nat.le_of_ble_eq_true rfl) (fun X hRf hRl hret hw hl => f_2_begin_s X hRf hRl hret ra0 hw hl h)

/-! ProofHouse$Room.isVariable -/
theorem dX7_isVariable_0 : decode cX7_isVariable 0 = .ok (.iload_n 1, 1) := by decide +kernel
theorem dX7_isVariable_1 : decode cX7_isVariable 1 = .ok (.iconst 1, 1) := by decide +kernel
theorem dX7_isVariable_2 : decode cX7_isVariable 2 = .ok (.if_icmp .le 29, 3) := by decide +kernel
theorem dX7_isVariable_5 : decode cX7_isVariable 5 = .ok (.iload_n 1, 1) := by decide +kernel
theorem dX7_isVariable_6 : decode cX7_isVariable 6 = .ok (.aload_n 0, 1) := by decide +kernel
theorem dX7_isVariable_7 : decode cX7_isVariable 7 = .ok (.getfield 30, 3) := by decide +kernel
theorem dX7_isVariable_10 : decode cX7_isVariable 10 = .ok (.if_icmp .ge 21, 3) := by decide +kernel
theorem dX7_isVariable_13 : decode cX7_isVariable 13 = .ok (.aload_n 0, 1) := by decide +kernel
theorem dX7_isVariable_14 : decode cX7_isVariable 14 = .ok (.getfield 12, 3) := by decide +kernel
theorem dX7_isVariable_17 : decode cX7_isVariable 17 = .ok (.iload_n 1, 1) := by decide +kernel
theorem dX7_isVariable_18 : decode cX7_isVariable 18 = .ok (.laload, 1) := by decide +kernel
theorem dX7_isVariable_19 : decode cX7_isVariable 19 = .ok (.bipush 62, 2) := by decide +kernel
theorem dX7_isVariable_21 : decode cX7_isVariable 21 = .ok (.lushr, 1) := by decide +kernel
theorem dX7_isVariable_22 : decode cX7_isVariable 22 = .ok (.lconst 1, 1) := by decide +kernel
theorem dX7_isVariable_23 : decode cX7_isVariable 23 = .ok (.lcmp, 1) := by decide +kernel
theorem dX7_isVariable_24 : decode cX7_isVariable 24 = .ok (.ifCond .ne 7, 3) := by decide +kernel
theorem dX7_isVariable_27 : decode cX7_isVariable 27 = .ok (.iconst 1, 1) := by decide +kernel
theorem dX7_isVariable_28 : decode cX7_isVariable 28 = .ok (.goto 4, 3) := by decide +kernel
theorem dX7_isVariable_31 : decode cX7_isVariable 31 = .ok (.iconst 0, 1) := by decide +kernel
theorem dX7_isVariable_32 : decode cX7_isVariable 32 = .ok (.ireturn, 1) := by decide +kernel

section
variable {p : Program} {l : Launch} {e : Env} {R : Room} {s : State} {m : MethodId} {args : Array Value} {below : List Frame} {meth : Method} {c : Code} {H : Heap} {locs : List Loc} {Qf : State → Prop}
variable {ls : Array Slot} {D : va_G} {ca : Nat → ClassId} {A : Nat → Prop} {ad : Nat → Nat → Nat} {u : iST}
def v_7_isVariable (a0 : Int) (Q : Int → iST → Prop) (u : iST) : Prop :=
  br (a0 ≤ 1) (
    zt 0 (Q 0 u)) (
    rd (u.1 29) (fun v1 => 
    br (v1 ≤ a0) (
      zt 0 (Q 0 u)) (
      bd a0 160000 (rl (u.2.2 a0) (fun v2 => 
      rl (wlushr v2 62) (fun v3 => 
      br (v3 ≠ 1) (
        zt 0 (Q 0 u)) (
        zt 1 (Q 1 u))))))))
set_option maxRecDepth 20000 in
set_option maxHeartbeats 4000000 in
theorem f_7_isVariable_s (X : yX RX7 p m c cX7_isVariable 2 s args D ca ad A) (hRf : 0 ≤ R.frames) (hRl : 0 ≤ R.locals) {Q : Int → iST → Prop} (hret : ∀ (v : Int) (u : iST) (H : Heap) (locs : List Loc) (ls : Array Slot) (pc : Nat), bz v → Q v u → yW D ca A ad s H locs u → decode cX7_isVariable pc = .ok (.ireturn, 1) → W p l e R s m args below meth c H locs 0 0 Qf (F0 m pc ls [.int (jI v)])) {a0 : Int} (ra0 : inR a0) (hw : yW D ca A ad s H locs u) (hl : lv_has ls 2 [(0, .ref (ad 0 6)), (1, .int (jI a0))]) (h : v_7_isVariable a0 Q u) : W p l e R s m args below meth c H locs 0 0 Qf (F0 m 0 ls []) := by
  have hx := X.1.1
  have hb := X.1.2.1
  unfold v_7_isVariable at h
  refine lv_iload_n hx hb dX7_isVariable_0 rfl (lv_at hl 1 rfl) ?_
  refine lv_iconst hx hb dX7_isVariable_1 (v := jI 1) rfl ?_
  refine k_icmp_le hx hb ra0 (by decide) dX7_isVariable_2 (tgt := 31) rfl h (fun h => ?_) (fun h => ?_)
  · refine lv_iconst hx hb dX7_isVariable_31 (v := jI 0) rfl ?_
    exact hret _ _ _ _ _ _ h.1 h.2 hw dX7_isVariable_32
  · refine lv_iload_n hx hb dX7_isVariable_5 rfl (lv_at hl 1 rfl) ?_
    refine lv_aload_n hx hb dX7_isVariable_6 rfl (lv_at hl 0 rfl) ?_
    refine yg_7_30 X hw dX7_isVariable_7 h (fun v1 rv1 h => ?_)
    refine k_icmp_ge hx hb ra0 rv1 dX7_isVariable_10 (tgt := 31) rfl h (fun h => ?_) (fun h => ?_)
    · refine lv_iconst hx hb dX7_isVariable_31 (v := jI 0) rfl ?_
      exact hret _ _ _ _ _ _ h.1 h.2 hw dX7_isVariable_32
    · refine lv_aload_n hx hb dX7_isVariable_13 rfl (lv_at hl 0 rfl) ?_
      refine yg_7_12 X hw dX7_isVariable_14 ?_
      refine lv_iload_n hx hb dX7_isVariable_17 rfl (lv_at hl 1 rfl) ?_
      refine yJl X hw ra0 dX7_isVariable_18 h (fun v2 rv2 h => ?_)
      refine lv_bipush hx hb dX7_isVariable_19 (v := jI 62) rfl ?_
      refine k_wlushr hx hb dX7_isVariable_21 h (fun v3 rv3 h => ?_)
      refine lv_lconst hx hb dX7_isVariable_22 (v := jL 1) rfl ?_
      refine k_lcmp_ne hx hb rv3 (by decide) dX7_isVariable_23 dX7_isVariable_24 (tgt := 31) rfl h (fun h => ?_) (fun h => ?_)
      · refine lv_iconst hx hb dX7_isVariable_31 (v := jI 0) rfl ?_
        exact hret _ _ _ _ _ _ h.1 h.2 hw dX7_isVariable_32
      · refine lv_iconst hx hb dX7_isVariable_27 (v := jI 1) rfl ?_
        refine lv_goto hx hb dX7_isVariable_28 (tgt := 32) rfl ?_
        exact hret _ _ _ _ _ _ h.1 h.2 hw dX7_isVariable_32

end
theorem e_7_isVariable {l : Launch} {a0 : Int} (ra0 : inR a0) {Q : Int → iST → Prop} {u : iST} (h : v_7_isVariable a0 Q u) : yMI l yX7_isVariable (.code yX7_isVariable cX7_isVariable 2 (some .boolean) :: wsN) { frames := 0, cells := 0, slots := 0, locals := 0 } (fun ad => [.ref (ad 0 6), .int (jI a0)]) Q u := yMZ_of (own := RX7) rfl (by decide +kernel) (fun _ => Nat.le_of_ble_eq_true rfl) (fun X hRf hRl hret hw hl => f_7_isVariable_s X hRf hRl hret ra0 hw hl h)

/-! ProofHouse$Room.isPair -/
theorem dX7_isPair_0 : decode cX7_isPair 0 = .ok (.iload_n 1, 1) := by decide +kernel
theorem dX7_isPair_1 : decode cX7_isPair 1 = .ok (.ifCond .lt 26, 3) := by decide +kernel
theorem dX7_isPair_4 : decode cX7_isPair 4 = .ok (.iload_n 1, 1) := by decide +kernel
theorem dX7_isPair_5 : decode cX7_isPair 5 = .ok (.aload_n 0, 1) := by decide +kernel
theorem dX7_isPair_6 : decode cX7_isPair 6 = .ok (.getfield 30, 3) := by decide +kernel
theorem dX7_isPair_9 : decode cX7_isPair 9 = .ok (.if_icmp .ge 18, 3) := by decide +kernel
theorem dX7_isPair_12 : decode cX7_isPair 12 = .ok (.aload_n 0, 1) := by decide +kernel
theorem dX7_isPair_13 : decode cX7_isPair 13 = .ok (.getfield 12, 3) := by decide +kernel
theorem dX7_isPair_16 : decode cX7_isPair 16 = .ok (.iload_n 1, 1) := by decide +kernel
theorem dX7_isPair_17 : decode cX7_isPair 17 = .ok (.laload, 1) := by decide +kernel
theorem dX7_isPair_18 : decode cX7_isPair 18 = .ok (.lconst 0, 1) := by decide +kernel
theorem dX7_isPair_19 : decode cX7_isPair 19 = .ok (.lcmp, 1) := by decide +kernel
theorem dX7_isPair_20 : decode cX7_isPair 20 = .ok (.ifCond .ge 7, 3) := by decide +kernel
theorem dX7_isPair_23 : decode cX7_isPair 23 = .ok (.iconst 1, 1) := by decide +kernel
theorem dX7_isPair_24 : decode cX7_isPair 24 = .ok (.goto 4, 3) := by decide +kernel
theorem dX7_isPair_27 : decode cX7_isPair 27 = .ok (.iconst 0, 1) := by decide +kernel
theorem dX7_isPair_28 : decode cX7_isPair 28 = .ok (.ireturn, 1) := by decide +kernel

section
variable {p : Program} {l : Launch} {e : Env} {R : Room} {s : State} {m : MethodId} {args : Array Value} {below : List Frame} {meth : Method} {c : Code} {H : Heap} {locs : List Loc} {Qf : State → Prop}
variable {ls : Array Slot} {D : va_G} {ca : Nat → ClassId} {A : Nat → Prop} {ad : Nat → Nat → Nat} {u : iST}
def v_7_isPair (a0 : Int) (Q : Int → iST → Prop) (u : iST) : Prop :=
  br (a0 < 0) (
    zt 0 (Q 0 u)) (
    rd (u.1 29) (fun v1 => 
    br (v1 ≤ a0) (
      zt 0 (Q 0 u)) (
      bd a0 160000 (rl (u.2.2 a0) (fun v2 => 
      br (0 ≤ v2) (
        zt 0 (Q 0 u)) (
        zt 1 (Q 1 u)))))))
set_option maxRecDepth 20000 in
set_option maxHeartbeats 4000000 in
theorem f_7_isPair_s (X : yX RX7 p m c cX7_isPair 2 s args D ca ad A) (hRf : 0 ≤ R.frames) (hRl : 0 ≤ R.locals) {Q : Int → iST → Prop} (hret : ∀ (v : Int) (u : iST) (H : Heap) (locs : List Loc) (ls : Array Slot) (pc : Nat), bz v → Q v u → yW D ca A ad s H locs u → decode cX7_isPair pc = .ok (.ireturn, 1) → W p l e R s m args below meth c H locs 0 0 Qf (F0 m pc ls [.int (jI v)])) {a0 : Int} (ra0 : inR a0) (hw : yW D ca A ad s H locs u) (hl : lv_has ls 2 [(0, .ref (ad 0 6)), (1, .int (jI a0))]) (h : v_7_isPair a0 Q u) : W p l e R s m args below meth c H locs 0 0 Qf (F0 m 0 ls []) := by
  have hx := X.1.1
  have hb := X.1.2.1
  unfold v_7_isPair at h
  refine lv_iload_n hx hb dX7_isPair_0 rfl (lv_at hl 1 rfl) ?_
  refine k_if_lt hx hb ra0 dX7_isPair_1 (tgt := 27) rfl h (fun h => ?_) (fun h => ?_)
  · refine lv_iconst hx hb dX7_isPair_27 (v := jI 0) rfl ?_
    exact hret _ _ _ _ _ _ h.1 h.2 hw dX7_isPair_28
  · refine lv_iload_n hx hb dX7_isPair_4 rfl (lv_at hl 1 rfl) ?_
    refine lv_aload_n hx hb dX7_isPair_5 rfl (lv_at hl 0 rfl) ?_
    refine yg_7_30 X hw dX7_isPair_6 h (fun v1 rv1 h => ?_)
    refine k_icmp_ge hx hb ra0 rv1 dX7_isPair_9 (tgt := 27) rfl h (fun h => ?_) (fun h => ?_)
    · refine lv_iconst hx hb dX7_isPair_27 (v := jI 0) rfl ?_
      exact hret _ _ _ _ _ _ h.1 h.2 hw dX7_isPair_28
    · refine lv_aload_n hx hb dX7_isPair_12 rfl (lv_at hl 0 rfl) ?_
      refine yg_7_12 X hw dX7_isPair_13 ?_
      refine lv_iload_n hx hb dX7_isPair_16 rfl (lv_at hl 1 rfl) ?_
      refine yJl X hw ra0 dX7_isPair_17 h (fun v2 rv2 h => ?_)
      refine lv_lconst hx hb dX7_isPair_18 (v := jL 0) rfl ?_
      refine k_lcmp_ge hx hb rv2 (by decide) dX7_isPair_19 dX7_isPair_20 (tgt := 27) rfl h (fun h => ?_) (fun h => ?_)
      · refine lv_iconst hx hb dX7_isPair_27 (v := jI 0) rfl ?_
        exact hret _ _ _ _ _ _ h.1 h.2 hw dX7_isPair_28
      · refine lv_iconst hx hb dX7_isPair_23 (v := jI 1) rfl ?_
        refine lv_goto hx hb dX7_isPair_24 (tgt := 28) rfl ?_
        exact hret _ _ _ _ _ _ h.1 h.2 hw dX7_isPair_28

end
theorem e_7_isPair {l : Launch} {a0 : Int} (ra0 : inR a0) {Q : Int → iST → Prop} {u : iST} (h : v_7_isPair a0 Q u) : yMI l yX7_isPair (.code yX7_isPair cX7_isPair 2 (some .boolean) :: wsN) { frames := 0, cells := 0, slots := 0, locals := 0 } (fun ad => [.ref (ad 0 6), .int (jI a0)]) Q u := yMZ_of (own := RX7) rfl (by decide +kernel) (fun _ => Nat.le_of_ble_eq_true rfl) (fun X hRf hRl hret hw hl => f_7_isPair_s X hRf hRl hret ra0 hw hl h)

/-! ProofHouse$Evaluator.parameterValue -/
theorem dX2_parameterValue_0 : decode cX2_parameterValue 0 = .ok (.aload_n 0, 1) := by decide +kernel
theorem dX2_parameterValue_1 : decode cX2_parameterValue 1 = .ok (.getfield 44, 3) := by decide +kernel
theorem dX2_parameterValue_4 : decode cX2_parameterValue 4 = .ok (.istore_n 2, 1) := by decide +kernel
theorem dX2_parameterValue_5 : decode cX2_parameterValue 5 = .ok (.aload_n 0, 1) := by decide +kernel
theorem dX2_parameterValue_6 : decode cX2_parameterValue 6 = .ok (.getfield 41, 3) := by decide +kernel
theorem dX2_parameterValue_9 : decode cX2_parameterValue 9 = .ok (.iconst (-1), 1) := by decide +kernel
theorem dX2_parameterValue_10 : decode cX2_parameterValue 10 = .ok (.if_icmp .ne 7, 3) := by decide +kernel
theorem dX2_parameterValue_13 : decode cX2_parameterValue 13 = .ok (.iconst 0, 1) := by decide +kernel
theorem dX2_parameterValue_14 : decode cX2_parameterValue 14 = .ok (.goto 15, 3) := by decide +kernel
theorem dX2_parameterValue_17 : decode cX2_parameterValue 17 = .ok (.aload_n 0, 1) := by decide +kernel
theorem dX2_parameterValue_18 : decode cX2_parameterValue 18 = .ok (.getfield 57, 3) := by decide +kernel
theorem dX2_parameterValue_21 : decode cX2_parameterValue 21 = .ok (.getfield 111, 3) := by decide +kernel
theorem dX2_parameterValue_24 : decode cX2_parameterValue 24 = .ok (.aload_n 0, 1) := by decide +kernel
theorem dX2_parameterValue_25 : decode cX2_parameterValue 25 = .ok (.getfield 41, 3) := by decide +kernel
theorem dX2_parameterValue_28 : decode cX2_parameterValue 28 = .ok (.iaload, 1) := by decide +kernel
theorem dX2_parameterValue_29 : decode cX2_parameterValue 29 = .ok (.istore_n 3, 1) := by decide +kernel
theorem dX2_parameterValue_30 : decode cX2_parameterValue 30 = .ok (.iload_n 3, 1) := by decide +kernel
theorem dX2_parameterValue_31 : decode cX2_parameterValue 31 = .ok (.istore 4, 2) := by decide +kernel
theorem dX2_parameterValue_33 : decode cX2_parameterValue 33 = .ok (.aload_n 0, 1) := by decide +kernel
theorem dX2_parameterValue_34 : decode cX2_parameterValue 34 = .ok (.getfield 53, 3) := by decide +kernel
theorem dX2_parameterValue_37 : decode cX2_parameterValue 37 = .ok (.iload 4, 2) := by decide +kernel
theorem dX2_parameterValue_39 : decode cX2_parameterValue 39 = .ok (.invokevirtual 98, 3) := by decide +kernel
theorem dX2_parameterValue_42 : decode cX2_parameterValue 42 = .ok (.ifCond .eq 48, 3) := by decide +kernel
theorem dX2_parameterValue_45 : decode cX2_parameterValue 45 = .ok (.iload_n 2, 1) := by decide +kernel
theorem dX2_parameterValue_46 : decode cX2_parameterValue 46 = .ok (.aload_n 0, 1) := by decide +kernel
theorem dX2_parameterValue_47 : decode cX2_parameterValue 47 = .ok (.getfield 38, 3) := by decide +kernel
theorem dX2_parameterValue_50 : decode cX2_parameterValue 50 = .ok (.if_icmp .ge 40, 3) := by decide +kernel
theorem dX2_parameterValue_53 : decode cX2_parameterValue 53 = .ok (.aload_n 0, 1) := by decide +kernel
theorem dX2_parameterValue_54 : decode cX2_parameterValue 54 = .ok (.getfield 53, 3) := by decide +kernel
theorem dX2_parameterValue_57 : decode cX2_parameterValue 57 = .ok (.iload 4, 2) := by decide +kernel
theorem dX2_parameterValue_59 : decode cX2_parameterValue 59 = .ok (.invokevirtual 105, 3) := by decide +kernel
theorem dX2_parameterValue_62 : decode cX2_parameterValue 62 = .ok (.iload_n 1, 1) := by decide +kernel
theorem dX2_parameterValue_63 : decode cX2_parameterValue 63 = .ok (.if_icmp .ne 10, 3) := by decide +kernel
theorem dX2_parameterValue_66 : decode cX2_parameterValue 66 = .ok (.aload_n 0, 1) := by decide +kernel
theorem dX2_parameterValue_67 : decode cX2_parameterValue 67 = .ok (.getfield 31, 3) := by decide +kernel
theorem dX2_parameterValue_70 : decode cX2_parameterValue 70 = .ok (.iload_n 2, 1) := by decide +kernel
theorem dX2_parameterValue_71 : decode cX2_parameterValue 71 = .ok (.iaload, 1) := by decide +kernel
theorem dX2_parameterValue_72 : decode cX2_parameterValue 72 = .ok (.ireturn, 1) := by decide +kernel
theorem dX2_parameterValue_73 : decode cX2_parameterValue 73 = .ok (.iinc 2 1, 3) := by decide +kernel
theorem dX2_parameterValue_76 : decode cX2_parameterValue 76 = .ok (.aload_n 0, 1) := by decide +kernel
theorem dX2_parameterValue_77 : decode cX2_parameterValue 77 = .ok (.getfield 53, 3) := by decide +kernel
theorem dX2_parameterValue_80 : decode cX2_parameterValue 80 = .ok (.iload 4, 2) := by decide +kernel
theorem dX2_parameterValue_82 : decode cX2_parameterValue 82 = .ok (.invokevirtual 108, 3) := by decide +kernel
theorem dX2_parameterValue_85 : decode cX2_parameterValue 85 = .ok (.istore 4, 2) := by decide +kernel
theorem dX2_parameterValue_87 : decode cX2_parameterValue 87 = .ok (.goto (-54), 3) := by decide +kernel
theorem dX2_parameterValue_90 : decode cX2_parameterValue 90 = .ok (.iconst 0, 1) := by decide +kernel
theorem dX2_parameterValue_91 : decode cX2_parameterValue 91 = .ok (.ireturn, 1) := by decide +kernel

section
variable {p : Program} {l : Launch} {e : Env} {R : Room} {s : State} {m : MethodId} {args : Array Value} {below : List Frame} {meth : Method} {c : Code} {H : Heap} {locs : List Loc} {Qf : State → Prop}
variable {ls : Array Slot} {D : va_G} {ca : Nat → ClassId} {A : Nat → Prop} {ad : Nat → Nat → Nat} {u : iST}
def v_2_parameterValue_33b (R33 : Int → Int → Int → iST → Prop) (Q : Int → iST → Prop) (x1 : Int) (x2 : Int) (x4 : Int) (u : iST) : Prop :=
  v_7_isPair x4 (fun v5 u => 
  br (v5 = 0) (
    Q 0 u) (
    rd (u.1 5) (fun v6 => 
    br (v6 ≤ x2) (
      Q 0 u) (
      v_7_left x4 (fun v7 u => 
      br (v7 ≠ x1) (
        ov (x2 + 1) (
        v_7_right x4 (fun v9 u => 
        R33 x1 (x2 + 1) v9 u) u)) (
        bd x2 1803 (rd (u.2.1 22 x2) (fun v10 => 
        Q v10 u)))) u)))) u
def v_2_parameterValue_33 (Q : Int → iST → Prop) (x1 : Int) (x2 : Int) (x4 : Int) (u : iST) : Prop := ∀ R33 : Int → Int → Int → iST → Prop, (∀ (x1 : Int) (x2 : Int) (x4 : Int) (u : iST), v_2_parameterValue_33b R33 Q x1 x2 x4 u → R33 x1 x2 x4 u) → R33 x1 x2 x4 u
set_option maxRecDepth 20000 in
set_option maxHeartbeats 4000000 in
theorem f_2_parameterValue_33 (X : yX RX2 p m c cX2_parameterValue 5 s args D ca ad A) (hRf : 1 ≤ R.frames) (hRl : 21 ≤ R.locals) {Q : Int → iST → Prop} (hret : ∀ (v : Int) (u : iST) (H : Heap) (locs : List Loc) (ls : Array Slot) (pc : Nat), inR v → Q v u → yW D ca A ad s H locs u → decode cX2_parameterValue pc = .ok (.ireturn, 1) → W p l e R s m args below meth c H locs 0 0 Qf (F0 m pc ls [.int (jI v)])) {x1 x2 x4 : Int} (rx1 : inR x1) (rx2 : inR x2) (rx4 : inR x4) (hw : yW D ca A ad s H locs u) (hl : lv_has ls 5 [(0, .ref (ad 0 1)), (1, .int (jI x1)), (2, .int (jI x2)), (4, .int (jI x4))]) (h : v_2_parameterValue_33 Q x1 x2 x4 u) : W p l e R s m args below meth c H locs 0 0 Qf (F0 m 33 ls []) := by
  refine h (fun x1 x2 x4 u => ∀ (H : Heap) (locs : List Loc) (ls : Array Slot), inR x1 → inR x2 → inR x4 → yW D ca A ad s H locs u → lv_has ls 5 [(0, .ref (ad 0 1)), (1, .int (jI x1)), (2, .int (jI x2)), (4, .int (jI x4))] → W p l e R s m args below meth c H locs 0 0 Qf (F0 m 33 ls [])) ?_ H locs ls rx1 rx2 rx4 hw hl
  clear h hl hw rx1 rx2 rx4
  intro x1 x2 x4 u h H locs ls rx1 rx2 rx4 hw hl
  have hR33 : ∀ (x1 : Int) (x2 : Int) (x4 : Int) (u : iST) (H : Heap) (locs : List Loc) (ls : Array Slot), inR x1 → inR x2 → inR x4 → yW D ca A ad s H locs u → lv_has ls 5 [(0, .ref (ad 0 1)), (1, .int (jI x1)), (2, .int (jI x2)), (4, .int (jI x4))] → (fun (x1 : Int) (x2 : Int) (x4 : Int) u => ∀ (H : Heap) (locs : List Loc) (ls : Array Slot), inR x1 → inR x2 → inR x4 → yW D ca A ad s H locs u → lv_has ls 5 [(0, .ref (ad 0 1)), (1, .int (jI x1)), (2, .int (jI x2)), (4, .int (jI x4))] → W p l e R s m args below meth c H locs 0 0 Qf (F0 m 33 ls [])) x1 x2 x4 u → W p l e R s m args below meth c H locs 0 0 Qf (F0 m 33 ls []) := fun x1 x2 x4 u H locs ls rx1 rx2 rx4 hw hl h => h H locs ls rx1 rx2 rx4 hw hl
  have hx := X.1.1
  have hb := X.1.2.1
  unfold v_2_parameterValue_33b at h
  refine lv_aload_n hx hb dX2_parameterValue_33 rfl (lv_at hl 0 rfl) ?_
  refine yg_2_53 X hw dX2_parameterValue_34 ?_
  refine lv_iload hx hb dX2_parameterValue_37 (lv_at hl 3 rfl) ?_
  refine ycI (n := 1) (e_7_isPair rx4 h) 7 6 (r := (RX7, TX7, 9)) rfl yG_2_98 yD_7_isPair X hw rfl yGo_7 (Nat.le_trans (Nat.le_of_ble_eq_true rfl) hRf) (Nat.le_trans (Nat.le_of_ble_eq_true rfl) hRl) rfl hl.1 (Nat.le_of_ble_eq_true rfl) rfl dX2_parameterValue_39 (fun v5 u H locs rv5 h hw => ?_)
  refine k_if_eq hx hb rv5 dX2_parameterValue_42 (tgt := 90) rfl h (fun h => ?_) (fun h => ?_)
  · refine lv_iconst hx hb dX2_parameterValue_90 (v := jI 0) rfl ?_
    exact hret _ _ _ _ _ _ (by decide) h hw dX2_parameterValue_91
  · refine lv_iload_n hx hb dX2_parameterValue_45 rfl (lv_at hl 2 rfl) ?_
    refine lv_aload_n hx hb dX2_parameterValue_46 rfl (lv_at hl 0 rfl) ?_
    refine yg_2_38 X hw dX2_parameterValue_47 h (fun v6 rv6 h => ?_)
    refine k_icmp_ge hx hb rx2 rv6 dX2_parameterValue_50 (tgt := 90) rfl h (fun h => ?_) (fun h => ?_)
    · refine lv_iconst hx hb dX2_parameterValue_90 (v := jI 0) rfl ?_
      exact hret _ _ _ _ _ _ (by decide) h hw dX2_parameterValue_91
    · refine lv_aload_n hx hb dX2_parameterValue_53 rfl (lv_at hl 0 rfl) ?_
      refine yg_2_53 X hw dX2_parameterValue_54 ?_
      refine lv_iload hx hb dX2_parameterValue_57 (lv_at hl 3 rfl) ?_
      refine ycI (n := 1) (e_7_left rx4 h) 7 6 (r := (RX7, TX7, 9)) rfl yG_2_105 yD_7_left X hw rfl yGo_7 (Nat.le_trans (Nat.le_of_ble_eq_true rfl) hRf) (Nat.le_trans (Nat.le_of_ble_eq_true rfl) hRl) rfl hl.1 (Nat.le_of_ble_eq_true rfl) rfl dX2_parameterValue_59 (fun v7 u H locs rv7 h hw => ?_)
      refine lv_iload_n hx hb dX2_parameterValue_62 rfl (lv_at hl 1 rfl) ?_
      refine k_icmp_ne hx hb rv7 rx1 dX2_parameterValue_63 (tgt := 73) rfl h (fun h => ?_) (fun h => ?_)
      · refine k_iinc (k := 2) hx hb dX2_parameterValue_73 hl rfl (by decide) rfl h (fun ls r8 h hl => ?_)
        have hl : lv_has ls 5 [(2, .int (jI (x2 + 1))), (0, .ref (ad 0 1)), (1, .int (jI x1)), (4, .int (jI x4))] := hl
        refine lv_aload_n hx hb dX2_parameterValue_76 rfl (lv_at hl 1 rfl) ?_
        refine yg_2_53 X hw dX2_parameterValue_77 ?_
        refine lv_iload hx hb dX2_parameterValue_80 (lv_at hl 3 rfl) ?_
        refine ycI (n := 1) (e_7_right rx4 h) 7 6 (r := (RX7, TX7, 9)) rfl yG_2_108 yD_7_right X hw rfl yGo_7 (Nat.le_trans (Nat.le_of_ble_eq_true rfl) hRf) (Nat.le_trans (Nat.le_of_ble_eq_true rfl) hRl) rfl hl.1 (Nat.le_of_ble_eq_true rfl) rfl dX2_parameterValue_82 (fun v9 u H locs rv9 h hw => ?_)
        refine lv_istore hx hb dX2_parameterValue_85 hl (by decide) rfl (fun ls hl => ?_)
        have hl : lv_has ls 5 [(4, .int (jI v9)), (2, .int (jI (x2 + 1))), (0, .ref (ad 0 1)), (1, .int (jI x1))] := hl
        refine lv_goto hx hb dX2_parameterValue_87 (tgt := 33) rfl ?_
        exact hR33 _ _ _ _ H locs ls rx1 r8 rv9 hw (lv_sub hl [2, 3, 1, 0] rfl) h
      · refine lv_aload_n hx hb dX2_parameterValue_66 rfl (lv_at hl 0 rfl) ?_
        refine yg_2_31 X hw dX2_parameterValue_67 ?_
        refine lv_iload_n hx hb dX2_parameterValue_70 rfl (lv_at hl 2 rfl) ?_
        refine yl_22 X hw rx2 dX2_parameterValue_71 h (fun v10 rv10 h => ?_)
        exact hret _ _ _ _ _ _ rv10 h hw dX2_parameterValue_72

def v_2_parameterValue_29 (Q : Int → iST → Prop) (x1 : Int) (x2 : Int) (y0 : Int) (u : iST) : Prop :=
  v_2_parameterValue_33 Q x1 x2 y0 u
set_option maxRecDepth 20000 in
set_option maxHeartbeats 4000000 in
theorem f_2_parameterValue_29 (X : yX RX2 p m c cX2_parameterValue 5 s args D ca ad A) (hRf : 1 ≤ R.frames) (hRl : 21 ≤ R.locals) {Q : Int → iST → Prop} (hret : ∀ (v : Int) (u : iST) (H : Heap) (locs : List Loc) (ls : Array Slot) (pc : Nat), inR v → Q v u → yW D ca A ad s H locs u → decode cX2_parameterValue pc = .ok (.ireturn, 1) → W p l e R s m args below meth c H locs 0 0 Qf (F0 m pc ls [.int (jI v)])) {x1 x2 y0 : Int} (rx1 : inR x1) (rx2 : inR x2) (ry0 : inR y0) (hw : yW D ca A ad s H locs u) (hl : lv_has ls 5 [(0, .ref (ad 0 1)), (1, .int (jI x1)), (2, .int (jI x2))]) (h : v_2_parameterValue_29 Q x1 x2 y0 u) : W p l e R s m args below meth c H locs 0 0 Qf (F0 m 29 ls [.int (jI y0)]) := by
  have hx := X.1.1
  have hb := X.1.2.1
  unfold v_2_parameterValue_29 at h
  refine lv_istore_n hx hb dX2_parameterValue_29 rfl hl (by decide) rfl (fun ls hl => ?_)
  have hl : lv_has ls 5 [(3, .int (jI y0)), (0, .ref (ad 0 1)), (1, .int (jI x1)), (2, .int (jI x2))] := hl
  refine lv_iload_n hx hb dX2_parameterValue_30 rfl (lv_at hl 0 rfl) ?_
  refine lv_istore hx hb dX2_parameterValue_31 hl (by decide) rfl (fun ls hl => ?_)
  have hl : lv_has ls 5 [(4, .int (jI y0)), (3, .int (jI y0)), (0, .ref (ad 0 1)), (1, .int (jI x1)), (2, .int (jI x2))] := hl
  exact f_2_parameterValue_33 X hRf hRl hret rx1 rx2 ry0 hw (lv_sub hl [2, 3, 4, 0] rfl) h

def v_2_parameterValue (a0 : Int) (Q : Int → iST → Prop) (u : iST) : Prop :=
  rd (u.1 7) (fun v1 => 
  rd (u.1 6) (fun v2 => 
  br (v2 ≠ (-1)) (
    rd (u.1 6) (fun v3 => 
    bd v3 40 (rd (u.2.1 1 v3) (fun v4 => 
    v_2_parameterValue_29 Q a0 v1 v4 u)))) (
    v_2_parameterValue_29 Q a0 v1 0 u)))
set_option maxRecDepth 20000 in
set_option maxHeartbeats 4000000 in
theorem f_2_parameterValue_s (X : yX RX2 p m c cX2_parameterValue 5 s args D ca ad A) (hRf : 1 ≤ R.frames) (hRl : 21 ≤ R.locals) {Q : Int → iST → Prop} (hret : ∀ (v : Int) (u : iST) (H : Heap) (locs : List Loc) (ls : Array Slot) (pc : Nat), inR v → Q v u → yW D ca A ad s H locs u → decode cX2_parameterValue pc = .ok (.ireturn, 1) → W p l e R s m args below meth c H locs 0 0 Qf (F0 m pc ls [.int (jI v)])) {a0 : Int} (ra0 : inR a0) (hw : yW D ca A ad s H locs u) (hl : lv_has ls 5 [(0, .ref (ad 0 1)), (1, .int (jI a0))]) (h : v_2_parameterValue a0 Q u) : W p l e R s m args below meth c H locs 0 0 Qf (F0 m 0 ls []) := by
  have hx := X.1.1
  have hb := X.1.2.1
  unfold v_2_parameterValue at h
  refine lv_aload_n hx hb dX2_parameterValue_0 rfl (lv_at hl 0 rfl) ?_
  refine yg_2_44 X hw dX2_parameterValue_1 h (fun v1 rv1 h => ?_)
  refine lv_istore_n hx hb dX2_parameterValue_4 rfl hl (by decide) rfl (fun ls hl => ?_)
  have hl : lv_has ls 5 [(2, .int (jI v1)), (0, .ref (ad 0 1)), (1, .int (jI a0))] := hl
  refine lv_aload_n hx hb dX2_parameterValue_5 rfl (lv_at hl 1 rfl) ?_
  refine yg_2_41 X hw dX2_parameterValue_6 h (fun v2 rv2 h => ?_)
  refine lv_iconst hx hb dX2_parameterValue_9 (v := jI (-1)) rfl ?_
  refine k_icmp_ne hx hb rv2 (by decide) dX2_parameterValue_10 (tgt := 17) rfl h (fun h => ?_) (fun h => ?_)
  · refine lv_aload_n hx hb dX2_parameterValue_17 rfl (lv_at hl 1 rfl) ?_
    refine yg_2_57 X hw dX2_parameterValue_18 ?_
    refine yg_2_111 X hw dX2_parameterValue_21 ?_
    refine lv_aload_n hx hb dX2_parameterValue_24 rfl (lv_at hl 1 rfl) ?_
    refine yg_2_41 X hw dX2_parameterValue_25 h (fun v3 rv3 h => ?_)
    refine yl_1 X hw rv3 dX2_parameterValue_28 h (fun v4 rv4 h => ?_)
    exact f_2_parameterValue_29 X hRf hRl hret ra0 rv1 rv4 hw (lv_sub hl [1, 2, 0] rfl) h
  · refine lv_iconst hx hb dX2_parameterValue_13 (v := jI 0) rfl ?_
    refine lv_goto hx hb dX2_parameterValue_14 (tgt := 29) rfl ?_
    exact f_2_parameterValue_29 X hRf hRl hret ra0 rv1 (by decide) hw (lv_sub hl [1, 2, 0] rfl) h

end
theorem e_2_parameterValue {l : Launch} {a0 : Int} (ra0 : inR a0) {Q : Int → iST → Prop} {u : iST} (h : v_2_parameterValue a0 Q u) : yMI l yX2_parameterValue (.code yX2_parameterValue cX2_parameterValue 5 (some .int) :: wsN) { frames := 1, cells := 0, slots := 0, locals := 21 } (fun ad => [.ref (ad 0 1), .int (jI a0)]) Q u := yMI_of (own := RX2) rfl (by decide +kernel) (fun _ => Nat.le_of_ble_eq_true rfl) (fun X hRf hRl hret hw hl => f_2_parameterValue_s X hRf hRl hret ra0 hw hl h)

/-! ProofHouse$Room.valueOf -/
theorem dX7_valueOf_0 : decode cX7_valueOf 0 = .ok (.iload_n 1, 1) := by decide +kernel
theorem dX7_valueOf_1 : decode cX7_valueOf 1 = .ok (.ifCond .lt 22, 3) := by decide +kernel
theorem dX7_valueOf_4 : decode cX7_valueOf 4 = .ok (.iload_n 1, 1) := by decide +kernel
theorem dX7_valueOf_5 : decode cX7_valueOf 5 = .ok (.aload_n 0, 1) := by decide +kernel
theorem dX7_valueOf_6 : decode cX7_valueOf 6 = .ok (.getfield 30, 3) := by decide +kernel
theorem dX7_valueOf_9 : decode cX7_valueOf 9 = .ok (.if_icmp .ge 14, 3) := by decide +kernel
theorem dX7_valueOf_12 : decode cX7_valueOf 12 = .ok (.aload_n 0, 1) := by decide +kernel
theorem dX7_valueOf_13 : decode cX7_valueOf 13 = .ok (.getfield 12, 3) := by decide +kernel
theorem dX7_valueOf_16 : decode cX7_valueOf 16 = .ok (.iload_n 1, 1) := by decide +kernel
theorem dX7_valueOf_17 : decode cX7_valueOf 17 = .ok (.laload, 1) := by decide +kernel
theorem dX7_valueOf_18 : decode cX7_valueOf 18 = .ok (.lconst 0, 1) := by decide +kernel
theorem dX7_valueOf_19 : decode cX7_valueOf 19 = .ok (.lcmp, 1) := by decide +kernel
theorem dX7_valueOf_20 : decode cX7_valueOf 20 = .ok (.ifCond .lt 5, 3) := by decide +kernel
theorem dX7_valueOf_23 : decode cX7_valueOf 23 = .ok (.iload_n 1, 1) := by decide +kernel
theorem dX7_valueOf_24 : decode cX7_valueOf 24 = .ok (.ireturn, 1) := by decide +kernel
theorem dX7_valueOf_25 : decode cX7_valueOf 25 = .ok (.aload_n 0, 1) := by decide +kernel
theorem dX7_valueOf_26 : decode cX7_valueOf 26 = .ok (.getfield 12, 3) := by decide +kernel
theorem dX7_valueOf_29 : decode cX7_valueOf 29 = .ok (.aload_n 0, 1) := by decide +kernel
theorem dX7_valueOf_30 : decode cX7_valueOf 30 = .ok (.getfield 12, 3) := by decide +kernel
theorem dX7_valueOf_33 : decode cX7_valueOf 33 = .ok (.iload_n 1, 1) := by decide +kernel
theorem dX7_valueOf_34 : decode cX7_valueOf 34 = .ok (.laload, 1) := by decide +kernel
theorem dX7_valueOf_35 : decode cX7_valueOf 35 = .ok (.l2i, 1) := by decide +kernel
theorem dX7_valueOf_36 : decode cX7_valueOf 36 = .ok (.ldc 77, 2) := by decide +kernel
theorem dX7_valueOf_38 : decode cX7_valueOf 38 = .ok (.iand, 1) := by decide +kernel
theorem dX7_valueOf_39 : decode cX7_valueOf 39 = .ok (.laload, 1) := by decide +kernel
theorem dX7_valueOf_40 : decode cX7_valueOf 40 = .ok (.lstore_n 2, 1) := by decide +kernel
theorem dX7_valueOf_41 : decode cX7_valueOf 41 = .ok (.lload_n 2, 1) := by decide +kernel
theorem dX7_valueOf_42 : decode cX7_valueOf 42 = .ok (.lconst 0, 1) := by decide +kernel
theorem dX7_valueOf_43 : decode cX7_valueOf 43 = .ok (.lcmp, 1) := by decide +kernel
theorem dX7_valueOf_44 : decode cX7_valueOf 44 = .ok (.ifCond .ge 14, 3) := by decide +kernel
theorem dX7_valueOf_47 : decode cX7_valueOf 47 = .ok (.lload_n 2, 1) := by decide +kernel
theorem dX7_valueOf_48 : decode cX7_valueOf 48 = .ok (.bipush 31, 2) := by decide +kernel
theorem dX7_valueOf_50 : decode cX7_valueOf 50 = .ok (.lushr, 1) := by decide +kernel
theorem dX7_valueOf_51 : decode cX7_valueOf 51 = .ok (.l2i, 1) := by decide +kernel
theorem dX7_valueOf_52 : decode cX7_valueOf 52 = .ok (.ldc 77, 2) := by decide +kernel
theorem dX7_valueOf_54 : decode cX7_valueOf 54 = .ok (.iand, 1) := by decide +kernel
theorem dX7_valueOf_55 : decode cX7_valueOf 55 = .ok (.goto 4, 3) := by decide +kernel
theorem dX7_valueOf_58 : decode cX7_valueOf 58 = .ok (.iconst 0, 1) := by decide +kernel
theorem dX7_valueOf_59 : decode cX7_valueOf 59 = .ok (.ireturn, 1) := by decide +kernel

section
variable {p : Program} {l : Launch} {e : Env} {R : Room} {s : State} {m : MethodId} {args : Array Value} {below : List Frame} {meth : Method} {c : Code} {H : Heap} {locs : List Loc} {Qf : State → Prop}
variable {ls : Array Slot} {D : va_G} {ca : Nat → ClassId} {A : Nat → Prop} {ad : Nat → Nat → Nat} {u : iST}
def v_7_valueOf (a0 : Int) (Q : Int → iST → Prop) (u : iST) : Prop :=
  br (a0 < 0) (
    Q a0 u) (
    rd (u.1 29) (fun v1 => 
    br (v1 ≤ a0) (
      Q a0 u) (
      bd a0 160000 (rl (u.2.2 a0) (fun v2 => 
      br (v2 < 0) (
        bd a0 160000 (rl (u.2.2 a0) (fun v3 => 
        rd (wl2i v3) (fun v4 => 
        rd (wand v4 2147483647) (fun v5 => 
        bd v5 160000 (rl (u.2.2 v5) (fun v6 => 
        br (0 ≤ v6) (
          Q 0 u) (
          rl (wlushr v6 31) (fun v7 => 
          rd (wl2i v7) (fun v8 => 
          rd (wand v8 2147483647) (fun v9 => 
          Q v9 u))))))))))) (
        Q a0 u))))))
set_option maxRecDepth 20000 in
set_option maxHeartbeats 4000000 in
theorem f_7_valueOf_s (X : yX RX7 p m c cX7_valueOf 4 s args D ca ad A) (hRf : 0 ≤ R.frames) (hRl : 0 ≤ R.locals) {Q : Int → iST → Prop} (hret : ∀ (v : Int) (u : iST) (H : Heap) (locs : List Loc) (ls : Array Slot) (pc : Nat), inR v → Q v u → yW D ca A ad s H locs u → decode cX7_valueOf pc = .ok (.ireturn, 1) → W p l e R s m args below meth c H locs 0 0 Qf (F0 m pc ls [.int (jI v)])) {a0 : Int} (ra0 : inR a0) (hw : yW D ca A ad s H locs u) (hl : lv_has ls 4 [(0, .ref (ad 0 6)), (1, .int (jI a0))]) (h : v_7_valueOf a0 Q u) : W p l e R s m args below meth c H locs 0 0 Qf (F0 m 0 ls []) := by
  have hx := X.1.1
  have hb := X.1.2.1
  unfold v_7_valueOf at h
  refine lv_iload_n hx hb dX7_valueOf_0 rfl (lv_at hl 1 rfl) ?_
  refine k_if_lt hx hb ra0 dX7_valueOf_1 (tgt := 23) rfl h (fun h => ?_) (fun h => ?_)
  · refine lv_iload_n hx hb dX7_valueOf_23 rfl (lv_at hl 1 rfl) ?_
    exact hret _ _ _ _ _ _ ra0 h hw dX7_valueOf_24
  · refine lv_iload_n hx hb dX7_valueOf_4 rfl (lv_at hl 1 rfl) ?_
    refine lv_aload_n hx hb dX7_valueOf_5 rfl (lv_at hl 0 rfl) ?_
    refine yg_7_30 X hw dX7_valueOf_6 h (fun v1 rv1 h => ?_)
    refine k_icmp_ge hx hb ra0 rv1 dX7_valueOf_9 (tgt := 23) rfl h (fun h => ?_) (fun h => ?_)
    · refine lv_iload_n hx hb dX7_valueOf_23 rfl (lv_at hl 1 rfl) ?_
      exact hret _ _ _ _ _ _ ra0 h hw dX7_valueOf_24
    · refine lv_aload_n hx hb dX7_valueOf_12 rfl (lv_at hl 0 rfl) ?_
      refine yg_7_12 X hw dX7_valueOf_13 ?_
      refine lv_iload_n hx hb dX7_valueOf_16 rfl (lv_at hl 1 rfl) ?_
      refine yJl X hw ra0 dX7_valueOf_17 h (fun v2 rv2 h => ?_)
      refine lv_lconst hx hb dX7_valueOf_18 (v := jL 0) rfl ?_
      refine k_lcmp_lt hx hb rv2 (by decide) dX7_valueOf_19 dX7_valueOf_20 (tgt := 25) rfl h (fun h => ?_) (fun h => ?_)
      · refine lv_aload_n hx hb dX7_valueOf_25 rfl (lv_at hl 0 rfl) ?_
        refine yg_7_12 X hw dX7_valueOf_26 ?_
        refine lv_aload_n hx hb dX7_valueOf_29 rfl (lv_at hl 0 rfl) ?_
        refine yg_7_12 X hw dX7_valueOf_30 ?_
        refine lv_iload_n hx hb dX7_valueOf_33 rfl (lv_at hl 1 rfl) ?_
        refine yJl X hw ra0 dX7_valueOf_34 h (fun v3 rv3 h => ?_)
        refine k_l2i hx hb dX7_valueOf_35 h (fun v4 rv4 h => ?_)
        refine yld 77 yK_7_77 X dX7_valueOf_36 ?_
        refine k_iand hx hb dX7_valueOf_38 h (fun v5 rv5 h => ?_)
        refine yJl X hw rv5 dX7_valueOf_39 h (fun v6 rv6 h => ?_)
        refine lv_lstore_n hx hb dX7_valueOf_40 rfl hl (by decide) rfl (fun ls hl => ?_)
        have hl : lv_has ls 4 [(2, .long (jL v6)), (0, .ref (ad 0 6)), (1, .int (jI a0))] := hl
        refine lv_lload_n hx hb dX7_valueOf_41 rfl (lv_at hl 0 rfl) ?_
        refine lv_lconst hx hb dX7_valueOf_42 (v := jL 0) rfl ?_
        refine k_lcmp_ge hx hb rv6 (by decide) dX7_valueOf_43 dX7_valueOf_44 (tgt := 58) rfl h (fun h => ?_) (fun h => ?_)
        · refine lv_iconst hx hb dX7_valueOf_58 (v := jI 0) rfl ?_
          exact hret _ _ _ _ _ _ (by decide) h hw dX7_valueOf_59
        · refine lv_lload_n hx hb dX7_valueOf_47 rfl (lv_at hl 0 rfl) ?_
          refine lv_bipush hx hb dX7_valueOf_48 (v := jI 31) rfl ?_
          refine k_wlushr hx hb dX7_valueOf_50 h (fun v7 rv7 h => ?_)
          refine k_l2i hx hb dX7_valueOf_51 h (fun v8 rv8 h => ?_)
          refine yld 77 yK_7_77 X dX7_valueOf_52 ?_
          refine k_iand hx hb dX7_valueOf_54 h (fun v9 rv9 h => ?_)
          refine lv_goto hx hb dX7_valueOf_55 (tgt := 59) rfl ?_
          exact hret _ _ _ _ _ _ rv9 h hw dX7_valueOf_59
      · refine lv_iload_n hx hb dX7_valueOf_23 rfl (lv_at hl 1 rfl) ?_
        exact hret _ _ _ _ _ _ ra0 h hw dX7_valueOf_24

end
theorem e_7_valueOf {l : Launch} {a0 : Int} (ra0 : inR a0) {Q : Int → iST → Prop} {u : iST} (h : v_7_valueOf a0 Q u) : yMI l yX7_valueOf (.code yX7_valueOf cX7_valueOf 4 (some .int) :: wsN) { frames := 0, cells := 0, slots := 0, locals := 0 } (fun ad => [.ref (ad 0 6), .int (jI a0)]) Q u := yMI_of (own := RX7) rfl (by decide +kernel) (fun _ => Nat.le_of_ble_eq_true rfl) (fun X hRf hRl hret hw hl => f_7_valueOf_s X hRf hRl hret ra0 hw hl h)

/-! ProofHouse$Evaluator.hold -/
theorem dX2_hold_0 : decode cX2_hold 0 = .ok (.aload_n 0, 1) := by decide +kernel
theorem dX2_hold_1 : decode cX2_hold 1 = .ok (.getfield 38, 3) := by decide +kernel
theorem dX2_hold_4 : decode cX2_hold 4 = .ok (.aload_n 0, 1) := by decide +kernel
theorem dX2_hold_5 : decode cX2_hold 5 = .ok (.getfield 31, 3) := by decide +kernel
theorem dX2_hold_8 : decode cX2_hold 8 = .ok (.arraylength, 1) := by decide +kernel
theorem dX2_hold_9 : decode cX2_hold 9 = .ok (.if_icmp .ge 23, 3) := by decide +kernel
theorem dX2_hold_12 : decode cX2_hold 12 = .ok (.aload_n 0, 1) := by decide +kernel
theorem dX2_hold_13 : decode cX2_hold 13 = .ok (.getfield 31, 3) := by decide +kernel
theorem dX2_hold_16 : decode cX2_hold 16 = .ok (.aload_n 0, 1) := by decide +kernel
theorem dX2_hold_17 : decode cX2_hold 17 = .ok (.getfield 38, 3) := by decide +kernel
theorem dX2_hold_20 : decode cX2_hold 20 = .ok (.iload_n 1, 1) := by decide +kernel
theorem dX2_hold_21 : decode cX2_hold 21 = .ok (.iastore, 1) := by decide +kernel
theorem dX2_hold_22 : decode cX2_hold 22 = .ok (.aload_n 0, 1) := by decide +kernel
theorem dX2_hold_23 : decode cX2_hold 23 = .ok (.dup, 1) := by decide +kernel
theorem dX2_hold_24 : decode cX2_hold 24 = .ok (.getfield 38, 3) := by decide +kernel
theorem dX2_hold_27 : decode cX2_hold 27 = .ok (.iconst 1, 1) := by decide +kernel
theorem dX2_hold_28 : decode cX2_hold 28 = .ok (.iadd, 1) := by decide +kernel
theorem dX2_hold_29 : decode cX2_hold 29 = .ok (.putfield 38, 3) := by decide +kernel
theorem dX2_hold_32 : decode cX2_hold 32 = .ok (.return_, 1) := by decide +kernel

section
variable {p : Program} {l : Launch} {e : Env} {R : Room} {s : State} {m : MethodId} {args : Array Value} {below : List Frame} {meth : Method} {c : Code} {H : Heap} {locs : List Loc} {Qf : State → Prop}
variable {ls : Array Slot} {D : va_G} {ca : Nat → ClassId} {A : Nat → Prop} {ad : Nat → Nat → Nat} {u : iST}
def v_2_hold (a0 : Int) (Q : iST → Prop) (u : iST) : Prop :=
  rd (u.1 5) (fun v1 => 
  br (1803 ≤ v1) (
    Q u) (
    rd (u.1 5) (fun v2 => 
    bd v2 1803 (sw (iA u 22 v2 a0) (fun u => 
    rd (u.1 5) (fun v3 => 
    ov (v3 + 1) (
    sw (iI u 5 (v3 + 1)) (fun u => 
    Q u))))))))
set_option maxRecDepth 20000 in
set_option maxHeartbeats 4000000 in
theorem f_2_hold_s (X : yX RX2 p m c cX2_hold 2 s args D ca ad A) (hRf : 0 ≤ R.frames) (hRl : 0 ≤ R.locals) {Q : iST → Prop} (hret : ∀ (u : iST) (H : Heap) (locs : List Loc) (ls : Array Slot) (pc : Nat), Q u → yW D ca A ad s H locs u → decode cX2_hold pc = .ok (.return_, 1) → W p l e R s m args below meth c H locs 0 0 Qf (F0 m pc ls [])) {a0 : Int} (ra0 : inR a0) (hw : yW D ca A ad s H locs u) (hl : lv_has ls 2 [(0, .ref (ad 0 1)), (1, .int (jI a0))]) (h : v_2_hold a0 Q u) : W p l e R s m args below meth c H locs 0 0 Qf (F0 m 0 ls []) := by
  have hx := X.1.1
  have hb := X.1.2.1
  unfold v_2_hold at h
  refine lv_aload_n hx hb dX2_hold_0 rfl (lv_at hl 0 rfl) ?_
  refine yg_2_38 X hw dX2_hold_1 h (fun v1 rv1 h => ?_)
  refine lv_aload_n hx hb dX2_hold_4 rfl (lv_at hl 0 rfl) ?_
  refine yg_2_31 X hw dX2_hold_5 ?_
  refine yn_22 X hw dX2_hold_8 ?_
  refine k_icmp_ge hx hb rv1 (by decide) dX2_hold_9 (tgt := 32) rfl h (fun h => ?_) (fun h => ?_)
  · exact hret _ _ _ _ _ h hw dX2_hold_32
  · refine lv_aload_n hx hb dX2_hold_12 rfl (lv_at hl 0 rfl) ?_
    refine yg_2_31 X hw dX2_hold_13 ?_
    refine lv_aload_n hx hb dX2_hold_16 rfl (lv_at hl 0 rfl) ?_
    refine yg_2_38 X hw dX2_hold_17 h (fun v2 rv2 h => ?_)
    refine lv_iload_n hx hb dX2_hold_20 rfl (lv_at hl 1 rfl) ?_
    refine yt_22 X hw rv2 ra0 dX2_hold_21 h (fun H locs u hw h => ?_)
    refine lv_aload_n hx hb dX2_hold_22 rfl (lv_at hl 0 rfl) ?_
    refine lv_dup hx hb dX2_hold_23 rfl ?_
    refine yg_2_38 X hw dX2_hold_24 h (fun v3 rv3 h => ?_)
    refine lv_iconst hx hb dX2_hold_27 (v := jI 1) rfl ?_
    refine k_iadd hx hb dX2_hold_28 h (fun r4 h => ?_)
    refine yp_2_38 X hw r4 dX2_hold_29 h (fun H locs u hw h => ?_)
    exact hret _ _ _ _ _ h hw dX2_hold_32

end
theorem e_2_hold {l : Launch} {a0 : Int} (ra0 : inR a0) {Q : iST → Prop} {u : iST} (h : v_2_hold a0 Q u) : yMV l yX2_hold (.code yX2_hold cX2_hold 2 none :: wsN) { frames := 0, cells := 0, slots := 0, locals := 0 } (fun ad => [.ref (ad 0 1), .int (jI a0)]) Q u := yMV_of (own := RX2) rfl (by decide +kernel) (fun _ => Nat.le_of_ble_eq_true rfl) (fun X hRf hRl hret hw hl => f_2_hold_s X hRf hRl hret ra0 hw hl h)

/-! ProofHouse$Evaluator.isReady -/
theorem dX2_isReady_0 : decode cX2_isReady 0 = .ok (.aload_n 0, 1) := by decide +kernel
theorem dX2_isReady_1 : decode cX2_isReady 1 = .ok (.getfield 21, 3) := by decide +kernel
theorem dX2_isReady_4 : decode cX2_isReady 4 = .ok (.iload_n 1, 1) := by decide +kernel
theorem dX2_isReady_5 : decode cX2_isReady 5 = .ok (.baload, 1) := by decide +kernel
theorem dX2_isReady_6 : decode cX2_isReady 6 = .ok (.ifCond .ne 34, 3) := by decide +kernel
theorem dX2_isReady_9 : decode cX2_isReady 9 = .ok (.aload_n 0, 1) := by decide +kernel
theorem dX2_isReady_10 : decode cX2_isReady 10 = .ok (.getfield 11, 3) := by decide +kernel
theorem dX2_isReady_13 : decode cX2_isReady 13 = .ok (.iload_n 1, 1) := by decide +kernel
theorem dX2_isReady_14 : decode cX2_isReady 14 = .ok (.iaload, 1) := by decide +kernel
theorem dX2_isReady_15 : decode cX2_isReady 15 = .ok (.bipush 16, 2) := by decide +kernel
theorem dX2_isReady_17 : decode cX2_isReady 17 = .ok (.if_icmp .gt 23, 3) := by decide +kernel
theorem dX2_isReady_20 : decode cX2_isReady 20 = .ok (.aload_n 0, 1) := by decide +kernel
theorem dX2_isReady_21 : decode cX2_isReady 21 = .ok (.getfield 53, 3) := by decide +kernel
theorem dX2_isReady_24 : decode cX2_isReady 24 = .ok (.aload_n 0, 1) := by decide +kernel
theorem dX2_isReady_25 : decode cX2_isReady 25 = .ok (.getfield 15, 3) := by decide +kernel
theorem dX2_isReady_28 : decode cX2_isReady 28 = .ok (.iload_n 1, 1) := by decide +kernel
theorem dX2_isReady_29 : decode cX2_isReady 29 = .ok (.iaload, 1) := by decide +kernel
theorem dX2_isReady_30 : decode cX2_isReady 30 = .ok (.invokevirtual 98, 3) := by decide +kernel
theorem dX2_isReady_33 : decode cX2_isReady 33 = .ok (.ifCond .ne 7, 3) := by decide +kernel
theorem dX2_isReady_36 : decode cX2_isReady 36 = .ok (.iconst 1, 1) := by decide +kernel
theorem dX2_isReady_37 : decode cX2_isReady 37 = .ok (.goto 4, 3) := by decide +kernel
theorem dX2_isReady_40 : decode cX2_isReady 40 = .ok (.iconst 0, 1) := by decide +kernel
theorem dX2_isReady_41 : decode cX2_isReady 41 = .ok (.ireturn, 1) := by decide +kernel

section
variable {p : Program} {l : Launch} {e : Env} {R : Room} {s : State} {m : MethodId} {args : Array Value} {below : List Frame} {meth : Method} {c : Code} {H : Heap} {locs : List Loc} {Qf : State → Prop}
variable {ls : Array Slot} {D : va_G} {ca : Nat → ClassId} {A : Nat → Prop} {ad : Nat → Nat → Nat} {u : iST}
def v_2_isReady (a0 : Int) (Q : Int → iST → Prop) (u : iST) : Prop :=
  bd a0 300 (rz (u.2.1 19 a0) (fun v1 => 
  br (v1 ≠ 0) (
    zt 0 (Q 0 u)) (
    bd a0 300 (rd (u.2.1 16 a0) (fun v2 => 
    br (16 < v2) (
      zt 0 (Q 0 u)) (
      bd a0 300 (rd (u.2.1 17 a0) (fun v3 => 
      v_7_isPair v3 (fun v4 u => 
      br (v4 ≠ 0) (
        zt 0 (Q 0 u)) (
        zt 1 (Q 1 u))) u))))))))
set_option maxRecDepth 20000 in
set_option maxHeartbeats 4000000 in
theorem f_2_isReady_s (X : yX RX2 p m c cX2_isReady 2 s args D ca ad A) (hRf : 1 ≤ R.frames) (hRl : 21 ≤ R.locals) {Q : Int → iST → Prop} (hret : ∀ (v : Int) (u : iST) (H : Heap) (locs : List Loc) (ls : Array Slot) (pc : Nat), bz v → Q v u → yW D ca A ad s H locs u → decode cX2_isReady pc = .ok (.ireturn, 1) → W p l e R s m args below meth c H locs 0 0 Qf (F0 m pc ls [.int (jI v)])) {a0 : Int} (ra0 : inR a0) (hw : yW D ca A ad s H locs u) (hl : lv_has ls 2 [(0, .ref (ad 0 1)), (1, .int (jI a0))]) (h : v_2_isReady a0 Q u) : W p l e R s m args below meth c H locs 0 0 Qf (F0 m 0 ls []) := by
  have hx := X.1.1
  have hb := X.1.2.1
  unfold v_2_isReady at h
  refine lv_aload_n hx hb dX2_isReady_0 rfl (lv_at hl 0 rfl) ?_
  refine yg_2_21 X hw dX2_isReady_1 ?_
  refine lv_iload_n hx hb dX2_isReady_4 rfl (lv_at hl 1 rfl) ?_
  refine yl_19 X hw ra0 dX2_isReady_5 h (fun v1 rv1 h => ?_)
  refine k_if_ne hx hb (bz_in rv1) dX2_isReady_6 (tgt := 40) rfl h (fun h => ?_) (fun h => ?_)
  · refine lv_iconst hx hb dX2_isReady_40 (v := jI 0) rfl ?_
    exact hret _ _ _ _ _ _ h.1 h.2 hw dX2_isReady_41
  · refine lv_aload_n hx hb dX2_isReady_9 rfl (lv_at hl 0 rfl) ?_
    refine yg_2_11 X hw dX2_isReady_10 ?_
    refine lv_iload_n hx hb dX2_isReady_13 rfl (lv_at hl 1 rfl) ?_
    refine yl_16 X hw ra0 dX2_isReady_14 h (fun v2 rv2 h => ?_)
    refine lv_bipush hx hb dX2_isReady_15 (v := jI 16) rfl ?_
    refine k_icmp_gt hx hb rv2 (by decide) dX2_isReady_17 (tgt := 40) rfl h (fun h => ?_) (fun h => ?_)
    · refine lv_iconst hx hb dX2_isReady_40 (v := jI 0) rfl ?_
      exact hret _ _ _ _ _ _ h.1 h.2 hw dX2_isReady_41
    · refine lv_aload_n hx hb dX2_isReady_20 rfl (lv_at hl 0 rfl) ?_
      refine yg_2_53 X hw dX2_isReady_21 ?_
      refine lv_aload_n hx hb dX2_isReady_24 rfl (lv_at hl 0 rfl) ?_
      refine yg_2_15 X hw dX2_isReady_25 ?_
      refine lv_iload_n hx hb dX2_isReady_28 rfl (lv_at hl 1 rfl) ?_
      refine yl_17 X hw ra0 dX2_isReady_29 h (fun v3 rv3 h => ?_)
      refine ycI (n := 1) (e_7_isPair rv3 h) 7 6 (r := (RX7, TX7, 9)) rfl yG_2_98 yD_7_isPair X hw rfl yGo_7 (Nat.le_trans (Nat.le_of_ble_eq_true rfl) hRf) (Nat.le_trans (Nat.le_of_ble_eq_true rfl) hRl) rfl hl.1 (Nat.le_of_ble_eq_true rfl) rfl dX2_isReady_30 (fun v4 u H locs rv4 h hw => ?_)
      refine k_if_ne hx hb rv4 dX2_isReady_33 (tgt := 40) rfl h (fun h => ?_) (fun h => ?_)
      · refine lv_iconst hx hb dX2_isReady_40 (v := jI 0) rfl ?_
        exact hret _ _ _ _ _ _ h.1 h.2 hw dX2_isReady_41
      · refine lv_iconst hx hb dX2_isReady_36 (v := jI 1) rfl ?_
        refine lv_goto hx hb dX2_isReady_37 (tgt := 41) rfl ?_
        exact hret _ _ _ _ _ _ h.1 h.2 hw dX2_isReady_41

end
theorem e_2_isReady {l : Launch} {a0 : Int} (ra0 : inR a0) {Q : Int → iST → Prop} {u : iST} (h : v_2_isReady a0 Q u) : yMI l yX2_isReady (.code yX2_isReady cX2_isReady 2 (some .boolean) :: wsN) { frames := 1, cells := 0, slots := 0, locals := 21 } (fun ad => [.ref (ad 0 1), .int (jI a0)]) Q u := yMZ_of (own := RX2) rfl (by decide +kernel) (fun _ => Nat.le_of_ble_eq_true rfl) (fun X hRf hRl hret hw hl => f_2_isReady_s X hRf hRl hret ra0 hw hl h)

/-! ProofHouse.pairCell -/
theorem dX11_pairCell_0 : decode cX11_pairCell 0 = .ok (.ldc2_w 3, 3) := by decide +kernel
theorem dX11_pairCell_3 : decode cX11_pairCell 3 = .ok (.iload_n 0, 1) := by decide +kernel
theorem dX11_pairCell_4 : decode cX11_pairCell 4 = .ok (.ifCond .ge 7, 3) := by decide +kernel
theorem dX11_pairCell_7 : decode cX11_pairCell 7 = .ok (.iconst 0, 1) := by decide +kernel
theorem dX11_pairCell_8 : decode cX11_pairCell 8 = .ok (.goto 4, 3) := by decide +kernel
theorem dX11_pairCell_11 : decode cX11_pairCell 11 = .ok (.iload_n 0, 1) := by decide +kernel
theorem dX11_pairCell_12 : decode cX11_pairCell 12 = .ok (.i2l, 1) := by decide +kernel
theorem dX11_pairCell_13 : decode cX11_pairCell 13 = .ok (.bipush 31, 2) := by decide +kernel
theorem dX11_pairCell_15 : decode cX11_pairCell 15 = .ok (.lshl, 1) := by decide +kernel
theorem dX11_pairCell_16 : decode cX11_pairCell 16 = .ok (.lor, 1) := by decide +kernel
theorem dX11_pairCell_17 : decode cX11_pairCell 17 = .ok (.iload_n 1, 1) := by decide +kernel
theorem dX11_pairCell_18 : decode cX11_pairCell 18 = .ok (.ifCond .ge 7, 3) := by decide +kernel
theorem dX11_pairCell_21 : decode cX11_pairCell 21 = .ok (.iconst 0, 1) := by decide +kernel
theorem dX11_pairCell_22 : decode cX11_pairCell 22 = .ok (.goto 4, 3) := by decide +kernel
theorem dX11_pairCell_25 : decode cX11_pairCell 25 = .ok (.iload_n 1, 1) := by decide +kernel
theorem dX11_pairCell_26 : decode cX11_pairCell 26 = .ok (.i2l, 1) := by decide +kernel
theorem dX11_pairCell_27 : decode cX11_pairCell 27 = .ok (.lor, 1) := by decide +kernel
theorem dX11_pairCell_28 : decode cX11_pairCell 28 = .ok (.lreturn, 1) := by decide +kernel

section
variable {p : Program} {l : Launch} {e : Env} {R : Room} {s : State} {m : MethodId} {args : Array Value} {below : List Frame} {meth : Method} {c : Code} {H : Heap} {locs : List Loc} {Qf : State → Prop}
variable {ls : Array Slot} {D : va_G} {ca : Nat → ClassId} {A : Nat → Prop} {ad : Nat → Nat → Nat} {u : iST}
def v_11_pairCell_12 (Q : Int → iST → Prop) (x1 : Int) (y0 : Int) (y1 : Int) (u : iST) : Prop :=
  rl (wlshl y1 31) (fun v2 => 
  rl (wlor y0 v2) (fun v3 => 
  br (0 ≤ x1) (
    rl (wlor v3 x1) (fun v5 => 
    Q v5 u)) (
    rl (wlor v3 0) (fun v7 => 
    Q v7 u))))
set_option maxRecDepth 20000 in
set_option maxHeartbeats 4000000 in
theorem f_11_pairCell_12 (X : yX RX11 p m c cX11_pairCell 2 s args D ca ad A) (hRf : 0 ≤ R.frames) (hRl : 0 ≤ R.locals) {Q : Int → iST → Prop} (hret : ∀ (v : Int) (u : iST) (H : Heap) (locs : List Loc) (ls : Array Slot) (pc : Nat), inL v → Q v u → yW D ca A ad s H locs u → decode cX11_pairCell pc = .ok (.lreturn, 1) → W p l e R s m args below meth c H locs 0 0 Qf (F0 m pc ls [.long (jL v)])) {x1 y0 y1 : Int} (rx1 : inR x1) (ry0 : inL y0) (ry1 : inR y1) (hw : yW D ca A ad s H locs u) (hl : lv_has ls 2 [(1, .int (jI x1))]) (h : v_11_pairCell_12 Q x1 y0 y1 u) : W p l e R s m args below meth c H locs 0 0 Qf (F0 m 12 ls [.int (jI y1), .long (jL y0)]) := by
  have hx := X.1.1
  have hb := X.1.2.1
  unfold v_11_pairCell_12 at h
  refine k_i2l hx hb ry1 dX11_pairCell_12 (fun r1 => ?_)
  refine lv_bipush hx hb dX11_pairCell_13 (v := jI 31) rfl ?_
  refine k_wlshl hx hb dX11_pairCell_15 h (fun v2 rv2 h => ?_)
  refine k_wlor hx hb dX11_pairCell_16 h (fun v3 rv3 h => ?_)
  refine lv_iload_n hx hb dX11_pairCell_17 rfl (lv_at hl 0 rfl) ?_
  refine k_if_ge hx hb rx1 dX11_pairCell_18 (tgt := 25) rfl h (fun h => ?_) (fun h => ?_)
  · refine lv_iload_n hx hb dX11_pairCell_25 rfl (lv_at hl 0 rfl) ?_
    refine k_i2l hx hb rx1 dX11_pairCell_26 (fun r4 => ?_)
    refine k_wlor hx hb dX11_pairCell_27 h (fun v5 rv5 h => ?_)
    exact hret _ _ _ _ _ _ rv5 h hw dX11_pairCell_28
  · refine lv_iconst hx hb dX11_pairCell_21 (v := jI 0) rfl ?_
    refine lv_goto hx hb dX11_pairCell_22 (tgt := 26) rfl ?_
    refine k_i2l hx hb (by decide) dX11_pairCell_26 (fun r6 => ?_)
    refine k_wlor hx hb dX11_pairCell_27 h (fun v7 rv7 h => ?_)
    exact hret _ _ _ _ _ _ rv7 h hw dX11_pairCell_28

def v_11_pairCell (a0 : Int) (a1 : Int) (Q : Int → iST → Prop) (u : iST) : Prop :=
  br (0 ≤ a0) (
    v_11_pairCell_12 Q a1 (-9223372036854775808) a0 u) (
    v_11_pairCell_12 Q a1 (-9223372036854775808) 0 u)
set_option maxRecDepth 20000 in
set_option maxHeartbeats 4000000 in
theorem f_11_pairCell_s (X : yX RX11 p m c cX11_pairCell 2 s args D ca ad A) (hRf : 0 ≤ R.frames) (hRl : 0 ≤ R.locals) {Q : Int → iST → Prop} (hret : ∀ (v : Int) (u : iST) (H : Heap) (locs : List Loc) (ls : Array Slot) (pc : Nat), inL v → Q v u → yW D ca A ad s H locs u → decode cX11_pairCell pc = .ok (.lreturn, 1) → W p l e R s m args below meth c H locs 0 0 Qf (F0 m pc ls [.long (jL v)])) {a0 a1 : Int} (ra0 : inR a0) (ra1 : inR a1) (hw : yW D ca A ad s H locs u) (hl : lv_has ls 2 [(0, .int (jI a0)), (1, .int (jI a1))]) (h : v_11_pairCell a0 a1 Q u) : W p l e R s m args below meth c H locs 0 0 Qf (F0 m 0 ls []) := by
  have hx := X.1.1
  have hb := X.1.2.1
  unfold v_11_pairCell at h
  refine yld2 3 yK_11_3 X dX11_pairCell_0 ?_
  refine lv_iload_n hx hb dX11_pairCell_3 rfl (lv_at hl 0 rfl) ?_
  refine k_if_ge hx hb ra0 dX11_pairCell_4 (tgt := 11) rfl h (fun h => ?_) (fun h => ?_)
  · refine lv_iload_n hx hb dX11_pairCell_11 rfl (lv_at hl 0 rfl) ?_
    exact f_11_pairCell_12 X hRf hRl hret ra1 (by decide) ra0 hw (lv_sub hl [1] rfl) h
  · refine lv_iconst hx hb dX11_pairCell_7 (v := jI 0) rfl ?_
    refine lv_goto hx hb dX11_pairCell_8 (tgt := 12) rfl ?_
    exact f_11_pairCell_12 X hRf hRl hret ra1 (by decide) (by decide) hw (lv_sub hl [1] rfl) h

end
theorem e_11_pairCell {l : Launch} {a0 : Int} {a1 : Int} (ra0 : inR a0) (ra1 : inR a1) {Q : Int → iST → Prop} {u : iST} (h : v_11_pairCell a0 a1 Q u) : yML l yX11_pairCell (.code yX11_pairCell cX11_pairCell 2 (some .long) :: wsN) { frames := 0, cells := 0, slots := 0, locals := 0 } (fun ad => [.int (jI a0), .int (jI a1)]) Q u := yML_of (own := RX11) rfl (by decide +kernel) (fun _ => Nat.le_of_ble_eq_true rfl) (fun X hRf hRl hret hw hl => f_11_pairCell_s X hRf hRl hret ra0 ra1 hw hl h)

/-! ProofHouse$Room.made -/
theorem dX7_made_0 : decode cX7_made 0 = .ok (.lload_n 1, 1) := by decide +kernel
theorem dX7_made_1 : decode cX7_made 1 = .ok (.ldc2_w 75, 3) := by decide +kernel
theorem dX7_made_4 : decode cX7_made 4 = .ok (.lmul, 1) := by decide +kernel
theorem dX7_made_5 : decode cX7_made 5 = .ok (.bipush 49, 2) := by decide +kernel
theorem dX7_made_7 : decode cX7_made 7 = .ok (.lushr, 1) := by decide +kernel
theorem dX7_made_8 : decode cX7_made 8 = .ok (.l2i, 1) := by decide +kernel
theorem dX7_made_9 : decode cX7_made 9 = .ok (.istore_n 3, 1) := by decide +kernel
theorem dX7_made_10 : decode cX7_made 10 = .ok (.aload_n 0, 1) := by decide +kernel
theorem dX7_made_11 : decode cX7_made 11 = .ok (.getfield 27, 3) := by decide +kernel
theorem dX7_made_14 : decode cX7_made 14 = .ok (.iload_n 3, 1) := by decide +kernel
theorem dX7_made_15 : decode cX7_made 15 = .ok (.iaload, 1) := by decide +kernel
theorem dX7_made_16 : decode cX7_made 16 = .ok (.istore 4, 2) := by decide +kernel
theorem dX7_made_18 : decode cX7_made 18 = .ok (.iload 4, 2) := by decide +kernel
theorem dX7_made_20 : decode cX7_made 20 = .ok (.ifCond .lt 30, 3) := by decide +kernel
theorem dX7_made_23 : decode cX7_made 23 = .ok (.aload_n 0, 1) := by decide +kernel
theorem dX7_made_24 : decode cX7_made 24 = .ok (.getfield 12, 3) := by decide +kernel
theorem dX7_made_27 : decode cX7_made 27 = .ok (.iload 4, 2) := by decide +kernel
theorem dX7_made_29 : decode cX7_made 29 = .ok (.laload, 1) := by decide +kernel
theorem dX7_made_30 : decode cX7_made 30 = .ok (.lload_n 1, 1) := by decide +kernel
theorem dX7_made_31 : decode cX7_made 31 = .ok (.lcmp, 1) := by decide +kernel
theorem dX7_made_32 : decode cX7_made 32 = .ok (.ifCond .ne 6, 3) := by decide +kernel
theorem dX7_made_35 : decode cX7_made 35 = .ok (.iload 4, 2) := by decide +kernel
theorem dX7_made_37 : decode cX7_made 37 = .ok (.ireturn, 1) := by decide +kernel
theorem dX7_made_38 : decode cX7_made 38 = .ok (.aload_n 0, 1) := by decide +kernel
theorem dX7_made_39 : decode cX7_made 39 = .ok (.getfield 16, 3) := by decide +kernel
theorem dX7_made_42 : decode cX7_made 42 = .ok (.iload 4, 2) := by decide +kernel
theorem dX7_made_44 : decode cX7_made 44 = .ok (.iaload, 1) := by decide +kernel
theorem dX7_made_45 : decode cX7_made 45 = .ok (.istore 4, 2) := by decide +kernel
theorem dX7_made_47 : decode cX7_made 47 = .ok (.goto (-29), 3) := by decide +kernel
theorem dX7_made_50 : decode cX7_made 50 = .ok (.aload_n 0, 1) := by decide +kernel
theorem dX7_made_51 : decode cX7_made 51 = .ok (.getfield 30, 3) := by decide +kernel
theorem dX7_made_54 : decode cX7_made 54 = .ok (.ldc 11, 2) := by decide +kernel
theorem dX7_made_56 : decode cX7_made 56 = .ok (.if_icmp .lt 24, 3) := by decide +kernel
theorem dX7_made_59 : decode cX7_made 59 = .ok (.aload_n 0, 1) := by decide +kernel
theorem dX7_made_60 : decode cX7_made 60 = .ok (.aload_n 0, 1) := by decide +kernel
theorem dX7_made_61 : decode cX7_made 61 = .ok (.getfield 40, 3) := by decide +kernel
theorem dX7_made_64 : decode cX7_made 64 = .ok (.ifCond .ne 7, 3) := by decide +kernel
theorem dX7_made_67 : decode cX7_made 67 = .ok (.iconst 4, 1) := by decide +kernel
theorem dX7_made_68 : decode cX7_made 68 = .ok (.goto 7, 3) := by decide +kernel
theorem dX7_made_71 : decode cX7_made 71 = .ok (.aload_n 0, 1) := by decide +kernel
theorem dX7_made_72 : decode cX7_made 72 = .ok (.getfield 40, 3) := by decide +kernel
theorem dX7_made_75 : decode cX7_made 75 = .ok (.putfield 40, 3) := by decide +kernel
theorem dX7_made_78 : decode cX7_made 78 = .ok (.iconst 0, 1) := by decide +kernel
theorem dX7_made_79 : decode cX7_made 79 = .ok (.ireturn, 1) := by decide +kernel
theorem dX7_made_80 : decode cX7_made 80 = .ok (.aload_n 0, 1) := by decide +kernel
theorem dX7_made_81 : decode cX7_made 81 = .ok (.getfield 30, 3) := by decide +kernel
theorem dX7_made_84 : decode cX7_made 84 = .ok (.istore 4, 2) := by decide +kernel
theorem dX7_made_86 : decode cX7_made 86 = .ok (.aload_n 0, 1) := by decide +kernel
theorem dX7_made_87 : decode cX7_made 87 = .ok (.dup, 1) := by decide +kernel
theorem dX7_made_88 : decode cX7_made 88 = .ok (.getfield 30, 3) := by decide +kernel
theorem dX7_made_91 : decode cX7_made 91 = .ok (.iconst 1, 1) := by decide +kernel
theorem dX7_made_92 : decode cX7_made 92 = .ok (.iadd, 1) := by decide +kernel
theorem dX7_made_93 : decode cX7_made 93 = .ok (.putfield 30, 3) := by decide +kernel
theorem dX7_made_96 : decode cX7_made 96 = .ok (.aload_n 0, 1) := by decide +kernel
theorem dX7_made_97 : decode cX7_made 97 = .ok (.getfield 12, 3) := by decide +kernel
theorem dX7_made_100 : decode cX7_made 100 = .ok (.iload 4, 2) := by decide +kernel
theorem dX7_made_102 : decode cX7_made 102 = .ok (.lload_n 1, 1) := by decide +kernel
theorem dX7_made_103 : decode cX7_made 103 = .ok (.lastore, 1) := by decide +kernel
theorem dX7_made_104 : decode cX7_made 104 = .ok (.aload_n 0, 1) := by decide +kernel
theorem dX7_made_105 : decode cX7_made 105 = .ok (.getfield 16, 3) := by decide +kernel
theorem dX7_made_108 : decode cX7_made 108 = .ok (.iload 4, 2) := by decide +kernel
theorem dX7_made_110 : decode cX7_made 110 = .ok (.aload_n 0, 1) := by decide +kernel
theorem dX7_made_111 : decode cX7_made 111 = .ok (.getfield 27, 3) := by decide +kernel
theorem dX7_made_114 : decode cX7_made 114 = .ok (.iload_n 3, 1) := by decide +kernel
theorem dX7_made_115 : decode cX7_made 115 = .ok (.iaload, 1) := by decide +kernel
theorem dX7_made_116 : decode cX7_made 116 = .ok (.iastore, 1) := by decide +kernel
theorem dX7_made_117 : decode cX7_made 117 = .ok (.aload_n 0, 1) := by decide +kernel
theorem dX7_made_118 : decode cX7_made 118 = .ok (.getfield 27, 3) := by decide +kernel
theorem dX7_made_121 : decode cX7_made 121 = .ok (.iload_n 3, 1) := by decide +kernel
theorem dX7_made_122 : decode cX7_made 122 = .ok (.iload 4, 2) := by decide +kernel
theorem dX7_made_124 : decode cX7_made 124 = .ok (.iastore, 1) := by decide +kernel
theorem dX7_made_125 : decode cX7_made 125 = .ok (.aload_n 0, 1) := by decide +kernel
theorem dX7_made_126 : decode cX7_made 126 = .ok (.getfield 20, 3) := by decide +kernel
theorem dX7_made_129 : decode cX7_made 129 = .ok (.iload 4, 2) := by decide +kernel
theorem dX7_made_131 : decode cX7_made 131 = .ok (.iconst 0, 1) := by decide +kernel
theorem dX7_made_132 : decode cX7_made 132 = .ok (.iastore, 1) := by decide +kernel
theorem dX7_made_133 : decode cX7_made 133 = .ok (.aload_n 0, 1) := by decide +kernel
theorem dX7_made_134 : decode cX7_made 134 = .ok (.getfield 23, 3) := by decide +kernel
theorem dX7_made_137 : decode cX7_made 137 = .ok (.iload 4, 2) := by decide +kernel
theorem dX7_made_139 : decode cX7_made 139 = .ok (.iconst 0, 1) := by decide +kernel
theorem dX7_made_140 : decode cX7_made 140 = .ok (.iastore, 1) := by decide +kernel
theorem dX7_made_141 : decode cX7_made 141 = .ok (.lload_n 1, 1) := by decide +kernel
theorem dX7_made_142 : decode cX7_made 142 = .ok (.bipush 31, 2) := by decide +kernel
theorem dX7_made_144 : decode cX7_made 144 = .ok (.lushr, 1) := by decide +kernel
theorem dX7_made_145 : decode cX7_made 145 = .ok (.l2i, 1) := by decide +kernel
theorem dX7_made_146 : decode cX7_made 146 = .ok (.ldc 77, 2) := by decide +kernel
theorem dX7_made_148 : decode cX7_made 148 = .ok (.iand, 1) := by decide +kernel
theorem dX7_made_149 : decode cX7_made 149 = .ok (.istore 5, 2) := by decide +kernel
theorem dX7_made_151 : decode cX7_made 151 = .ok (.lload_n 1, 1) := by decide +kernel
theorem dX7_made_152 : decode cX7_made 152 = .ok (.l2i, 1) := by decide +kernel
theorem dX7_made_153 : decode cX7_made 153 = .ok (.ldc 77, 2) := by decide +kernel
theorem dX7_made_155 : decode cX7_made 155 = .ok (.iand, 1) := by decide +kernel
theorem dX7_made_156 : decode cX7_made 156 = .ok (.istore 6, 2) := by decide +kernel
theorem dX7_made_158 : decode cX7_made 158 = .ok (.lload_n 1, 1) := by decide +kernel
theorem dX7_made_159 : decode cX7_made 159 = .ok (.lconst 0, 1) := by decide +kernel
theorem dX7_made_160 : decode cX7_made 160 = .ok (.lcmp, 1) := by decide +kernel
theorem dX7_made_161 : decode cX7_made 161 = .ok (.ifCond .ge 149, 3) := by decide +kernel
theorem dX7_made_164 : decode cX7_made 164 = .ok (.iload 5, 2) := by decide +kernel
theorem dX7_made_166 : decode cX7_made 166 = .ok (.iload 4, 2) := by decide +kernel
theorem dX7_made_168 : decode cX7_made 168 = .ok (.if_icmp .ge 142, 3) := by decide +kernel
theorem dX7_made_171 : decode cX7_made 171 = .ok (.iload 6, 2) := by decide +kernel
theorem dX7_made_173 : decode cX7_made 173 = .ok (.iload 4, 2) := by decide +kernel
theorem dX7_made_175 : decode cX7_made 175 = .ok (.if_icmp .ge 135, 3) := by decide +kernel
theorem dX7_made_178 : decode cX7_made 178 = .ok (.aload_n 0, 1) := by decide +kernel
theorem dX7_made_179 : decode cX7_made 179 = .ok (.getfield 12, 3) := by decide +kernel
theorem dX7_made_182 : decode cX7_made 182 = .ok (.iload 5, 2) := by decide +kernel
theorem dX7_made_184 : decode cX7_made 184 = .ok (.laload, 1) := by decide +kernel
theorem dX7_made_185 : decode cX7_made 185 = .ok (.lstore 7, 2) := by decide +kernel
theorem dX7_made_187 : decode cX7_made 187 = .ok (.lload 7, 2) := by decide +kernel
theorem dX7_made_189 : decode cX7_made 189 = .ok (.lconst 0, 1) := by decide +kernel
theorem dX7_made_190 : decode cX7_made 190 = .ok (.lcmp, 1) := by decide +kernel
theorem dX7_made_191 : decode cX7_made 191 = .ok (.ifCond .ge 20, 3) := by decide +kernel
theorem dX7_made_194 : decode cX7_made 194 = .ok (.lload 7, 2) := by decide +kernel
theorem dX7_made_196 : decode cX7_made 196 = .ok (.bipush 31, 2) := by decide +kernel
theorem dX7_made_198 : decode cX7_made 198 = .ok (.lushr, 1) := by decide +kernel
theorem dX7_made_199 : decode cX7_made 199 = .ok (.l2i, 1) := by decide +kernel
theorem dX7_made_200 : decode cX7_made 200 = .ok (.ldc 77, 2) := by decide +kernel
theorem dX7_made_202 : decode cX7_made 202 = .ok (.iand, 1) := by decide +kernel
theorem dX7_made_203 : decode cX7_made 203 = .ok (.iconst 2, 1) := by decide +kernel
theorem dX7_made_204 : decode cX7_made 204 = .ok (.if_icmp .eq 7, 3) := by decide +kernel
theorem dX7_made_207 : decode cX7_made 207 = .ok (.iconst 1, 1) := by decide +kernel
theorem dX7_made_208 : decode cX7_made 208 = .ok (.goto 4, 3) := by decide +kernel
theorem dX7_made_211 : decode cX7_made 211 = .ok (.iconst 0, 1) := by decide +kernel
theorem dX7_made_212 : decode cX7_made 212 = .ok (.istore 9, 2) := by decide +kernel
theorem dX7_made_214 : decode cX7_made 214 = .ok (.iconst 1, 1) := by decide +kernel
theorem dX7_made_215 : decode cX7_made 215 = .ok (.iload 9, 2) := by decide +kernel
theorem dX7_made_217 : decode cX7_made 217 = .ok (.ifCond .eq 17, 3) := by decide +kernel
theorem dX7_made_220 : decode cX7_made 220 = .ok (.aload_n 0, 1) := by decide +kernel
theorem dX7_made_221 : decode cX7_made 221 = .ok (.getfield 20, 3) := by decide +kernel
theorem dX7_made_224 : decode cX7_made 224 = .ok (.lload 7, 2) := by decide +kernel
theorem dX7_made_226 : decode cX7_made 226 = .ok (.l2i, 1) := by decide +kernel
theorem dX7_made_227 : decode cX7_made 227 = .ok (.ldc 77, 2) := by decide +kernel
theorem dX7_made_229 : decode cX7_made 229 = .ok (.iand, 1) := by decide +kernel
theorem dX7_made_230 : decode cX7_made 230 = .ok (.iaload, 1) := by decide +kernel
theorem dX7_made_231 : decode cX7_made 231 = .ok (.goto 4, 3) := by decide +kernel
theorem dX7_made_234 : decode cX7_made 234 = .ok (.iconst 0, 1) := by decide +kernel
theorem dX7_made_235 : decode cX7_made 235 = .ok (.iadd, 1) := by decide +kernel
theorem dX7_made_236 : decode cX7_made 236 = .ok (.aload_n 0, 1) := by decide +kernel
theorem dX7_made_237 : decode cX7_made 237 = .ok (.getfield 20, 3) := by decide +kernel
theorem dX7_made_240 : decode cX7_made 240 = .ok (.iload 6, 2) := by decide +kernel
theorem dX7_made_242 : decode cX7_made 242 = .ok (.iaload, 1) := by decide +kernel
theorem dX7_made_243 : decode cX7_made 243 = .ok (.iadd, 1) := by decide +kernel
theorem dX7_made_244 : decode cX7_made 244 = .ok (.istore 10, 2) := by decide +kernel
theorem dX7_made_246 : decode cX7_made 246 = .ok (.aload_n 0, 1) := by decide +kernel
theorem dX7_made_247 : decode cX7_made 247 = .ok (.getfield 20, 3) := by decide +kernel
theorem dX7_made_250 : decode cX7_made 250 = .ok (.iload 4, 2) := by decide +kernel
theorem dX7_made_252 : decode cX7_made 252 = .ok (.iload 10, 2) := by decide +kernel
theorem dX7_made_254 : decode cX7_made 254 = .ok (.ldc 78, 2) := by decide +kernel
theorem dX7_made_256 : decode cX7_made 256 = .ok (.if_icmp .ge 8, 3) := by decide +kernel
theorem dX7_made_259 : decode cX7_made 259 = .ok (.iload 10, 2) := by decide +kernel
theorem dX7_made_261 : decode cX7_made 261 = .ok (.goto 5, 3) := by decide +kernel
theorem dX7_made_264 : decode cX7_made 264 = .ok (.ldc 78, 2) := by decide +kernel
theorem dX7_made_266 : decode cX7_made 266 = .ok (.iastore, 1) := by decide +kernel
theorem dX7_made_267 : decode cX7_made 267 = .ok (.aload_n 0, 1) := by decide +kernel
theorem dX7_made_268 : decode cX7_made 268 = .ok (.getfield 23, 3) := by decide +kernel
theorem dX7_made_271 : decode cX7_made 271 = .ok (.iload 4, 2) := by decide +kernel
theorem dX7_made_273 : decode cX7_made 273 = .ok (.iconst 1, 1) := by decide +kernel
theorem dX7_made_274 : decode cX7_made 274 = .ok (.aload_n 0, 1) := by decide +kernel
theorem dX7_made_275 : decode cX7_made 275 = .ok (.getfield 23, 3) := by decide +kernel
theorem dX7_made_278 : decode cX7_made 278 = .ok (.iload 5, 2) := by decide +kernel
theorem dX7_made_280 : decode cX7_made 280 = .ok (.iaload, 1) := by decide +kernel
theorem dX7_made_281 : decode cX7_made 281 = .ok (.aload_n 0, 1) := by decide +kernel
theorem dX7_made_282 : decode cX7_made 282 = .ok (.getfield 23, 3) := by decide +kernel
theorem dX7_made_285 : decode cX7_made 285 = .ok (.iload 6, 2) := by decide +kernel
theorem dX7_made_287 : decode cX7_made 287 = .ok (.iaload, 1) := by decide +kernel
theorem dX7_made_288 : decode cX7_made 288 = .ok (.if_icmp .le 13, 3) := by decide +kernel
theorem dX7_made_291 : decode cX7_made 291 = .ok (.aload_n 0, 1) := by decide +kernel
theorem dX7_made_292 : decode cX7_made 292 = .ok (.getfield 23, 3) := by decide +kernel
theorem dX7_made_295 : decode cX7_made 295 = .ok (.iload 5, 2) := by decide +kernel
theorem dX7_made_297 : decode cX7_made 297 = .ok (.iaload, 1) := by decide +kernel
theorem dX7_made_298 : decode cX7_made 298 = .ok (.goto 10, 3) := by decide +kernel
theorem dX7_made_301 : decode cX7_made 301 = .ok (.aload_n 0, 1) := by decide +kernel
theorem dX7_made_302 : decode cX7_made 302 = .ok (.getfield 23, 3) := by decide +kernel
theorem dX7_made_305 : decode cX7_made 305 = .ok (.iload 6, 2) := by decide +kernel
theorem dX7_made_307 : decode cX7_made 307 = .ok (.iaload, 1) := by decide +kernel
theorem dX7_made_308 : decode cX7_made 308 = .ok (.iadd, 1) := by decide +kernel
theorem dX7_made_309 : decode cX7_made 309 = .ok (.iastore, 1) := by decide +kernel
theorem dX7_made_310 : decode cX7_made 310 = .ok (.iload 4, 2) := by decide +kernel
theorem dX7_made_312 : decode cX7_made 312 = .ok (.ireturn, 1) := by decide +kernel

section
variable {p : Program} {l : Launch} {e : Env} {R : Room} {s : State} {m : MethodId} {args : Array Value} {below : List Frame} {meth : Method} {c : Code} {H : Heap} {locs : List Loc} {Qf : State → Prop}
variable {ls : Array Slot} {D : va_G} {ca : Nat → ClassId} {A : Nat → Prop} {ad : Nat → Nat → Nat} {u : iST}
def v_7_made_308 (Q : Int → iST → Prop) (x4 : Int) (y1 : Int) (y2 : Int) (y3 : Int) (u : iST) : Prop :=
  ov (y2 + y3) (
  bd y1 160000 (sw (iA u 29 y1 (y2 + y3)) (fun u => 
  Q x4 u)))
set_option maxRecDepth 20000 in
set_option maxHeartbeats 4000000 in
theorem f_7_made_308 (X : yX RX7 p m c cX7_made 11 s args D ca ad A) (hRf : 0 ≤ R.frames) (hRl : 0 ≤ R.locals) {Q : Int → iST → Prop} (hret : ∀ (v : Int) (u : iST) (H : Heap) (locs : List Loc) (ls : Array Slot) (pc : Nat), inR v → Q v u → yW D ca A ad s H locs u → decode cX7_made pc = .ok (.ireturn, 1) → W p l e R s m args below meth c H locs 0 0 Qf (F0 m pc ls [.int (jI v)])) {x4 y1 y2 y3 : Int} (rx4 : inR x4) (ry1 : inR y1) (ry2 : inR y2) (ry3 : inR y3) (hw : yW D ca A ad s H locs u) (hl : lv_has ls 11 [(0, .ref (ad 0 6)), (4, .int (jI x4))]) (h : v_7_made_308 Q x4 y1 y2 y3 u) : W p l e R s m args below meth c H locs 0 0 Qf (F0 m 308 ls [.int (jI y3), .int (jI y2), .int (jI y1), .ref (ad 1 29)]) := by
  have hx := X.1.1
  have hb := X.1.2.1
  unfold v_7_made_308 at h
  refine k_iadd hx hb dX7_made_308 h (fun r22 h => ?_)
  refine yt_29 X hw ry1 r22 dX7_made_309 h (fun H locs u hw h => ?_)
  refine lv_iload hx hb dX7_made_310 (lv_at hl 1 rfl) ?_
  exact hret _ _ _ _ _ _ rx4 h hw dX7_made_312

def v_7_made_266 (Q : Int → iST → Prop) (x4 : Int) (x5 : Int) (x6 : Int) (y1 : Int) (y2 : Int) (u : iST) : Prop :=
  bd y1 160000 (sw (iA u 28 y1 y2) (fun u => 
  bd x5 160000 (rd (u.2.1 29 x5) (fun v19 => 
  bd x6 160000 (rd (u.2.1 29 x6) (fun v20 => 
  br (v19 ≤ v20) (
    bd x6 160000 (rd (u.2.1 29 x6) (fun v21 => 
    v_7_made_308 Q x4 x4 1 v21 u))) (
    bd x5 160000 (rd (u.2.1 29 x5) (fun v23 => 
    v_7_made_308 Q x4 x4 1 v23 u)))))))))
set_option maxRecDepth 20000 in
set_option maxHeartbeats 4000000 in
theorem f_7_made_266 (X : yX RX7 p m c cX7_made 11 s args D ca ad A) (hRf : 0 ≤ R.frames) (hRl : 0 ≤ R.locals) {Q : Int → iST → Prop} (hret : ∀ (v : Int) (u : iST) (H : Heap) (locs : List Loc) (ls : Array Slot) (pc : Nat), inR v → Q v u → yW D ca A ad s H locs u → decode cX7_made pc = .ok (.ireturn, 1) → W p l e R s m args below meth c H locs 0 0 Qf (F0 m pc ls [.int (jI v)])) {x4 x5 x6 y1 y2 : Int} (rx4 : inR x4) (rx5 : inR x5) (rx6 : inR x6) (ry1 : inR y1) (ry2 : inR y2) (hw : yW D ca A ad s H locs u) (hl : lv_has ls 11 [(0, .ref (ad 0 6)), (4, .int (jI x4)), (5, .int (jI x5)), (6, .int (jI x6))]) (h : v_7_made_266 Q x4 x5 x6 y1 y2 u) : W p l e R s m args below meth c H locs 0 0 Qf (F0 m 266 ls [.int (jI y2), .int (jI y1), .ref (ad 1 28)]) := by
  have hx := X.1.1
  have hb := X.1.2.1
  unfold v_7_made_266 at h
  refine yt_28 X hw ry1 ry2 dX7_made_266 h (fun H locs u hw h => ?_)
  refine lv_aload_n hx hb dX7_made_267 rfl (lv_at hl 0 rfl) ?_
  refine yg_7_23 X hw dX7_made_268 ?_
  refine lv_iload hx hb dX7_made_271 (lv_at hl 1 rfl) ?_
  refine lv_iconst hx hb dX7_made_273 (v := jI 1) rfl ?_
  refine lv_aload_n hx hb dX7_made_274 rfl (lv_at hl 0 rfl) ?_
  refine yg_7_23 X hw dX7_made_275 ?_
  refine lv_iload hx hb dX7_made_278 (lv_at hl 2 rfl) ?_
  refine yl_29 X hw rx5 dX7_made_280 h (fun v19 rv19 h => ?_)
  refine lv_aload_n hx hb dX7_made_281 rfl (lv_at hl 0 rfl) ?_
  refine yg_7_23 X hw dX7_made_282 ?_
  refine lv_iload hx hb dX7_made_285 (lv_at hl 3 rfl) ?_
  refine yl_29 X hw rx6 dX7_made_287 h (fun v20 rv20 h => ?_)
  refine k_icmp_le hx hb rv19 rv20 dX7_made_288 (tgt := 301) rfl h (fun h => ?_) (fun h => ?_)
  · refine lv_aload_n hx hb dX7_made_301 rfl (lv_at hl 0 rfl) ?_
    refine yg_7_23 X hw dX7_made_302 ?_
    refine lv_iload hx hb dX7_made_305 (lv_at hl 3 rfl) ?_
    refine yl_29 X hw rx6 dX7_made_307 h (fun v21 rv21 h => ?_)
    exact f_7_made_308 X hRf hRl hret rx4 rx4 (by decide) rv21 hw (lv_sub hl [0, 1] rfl) h
  · refine lv_aload_n hx hb dX7_made_291 rfl (lv_at hl 0 rfl) ?_
    refine yg_7_23 X hw dX7_made_292 ?_
    refine lv_iload hx hb dX7_made_295 (lv_at hl 2 rfl) ?_
    refine yl_29 X hw rx5 dX7_made_297 h (fun v23 rv23 h => ?_)
    refine lv_goto hx hb dX7_made_298 (tgt := 308) rfl ?_
    exact f_7_made_308 X hRf hRl hret rx4 rx4 (by decide) rv23 hw (lv_sub hl [0, 1] rfl) h

def v_7_made_235 (Q : Int → iST → Prop) (x4 : Int) (x5 : Int) (x6 : Int) (y0 : Int) (y1 : Int) (u : iST) : Prop :=
  ov (y0 + y1) (
  bd x6 160000 (rd (u.2.1 28 x6) (fun v17 => 
  ov ((y0 + y1) + v17) (
  br (1000000 ≤ ((y0 + y1) + v17)) (
    v_7_made_266 Q x4 x5 x6 x4 1000000 u) (
    v_7_made_266 Q x4 x5 x6 x4 ((y0 + y1) + v17) u)))))
set_option maxRecDepth 20000 in
set_option maxHeartbeats 4000000 in
theorem f_7_made_235 (X : yX RX7 p m c cX7_made 11 s args D ca ad A) (hRf : 0 ≤ R.frames) (hRl : 0 ≤ R.locals) {Q : Int → iST → Prop} (hret : ∀ (v : Int) (u : iST) (H : Heap) (locs : List Loc) (ls : Array Slot) (pc : Nat), inR v → Q v u → yW D ca A ad s H locs u → decode cX7_made pc = .ok (.ireturn, 1) → W p l e R s m args below meth c H locs 0 0 Qf (F0 m pc ls [.int (jI v)])) {x4 x5 x6 y0 y1 : Int} (rx4 : inR x4) (rx5 : inR x5) (rx6 : inR x6) (ry0 : inR y0) (ry1 : inR y1) (hw : yW D ca A ad s H locs u) (hl : lv_has ls 11 [(0, .ref (ad 0 6)), (4, .int (jI x4)), (5, .int (jI x5)), (6, .int (jI x6))]) (h : v_7_made_235 Q x4 x5 x6 y0 y1 u) : W p l e R s m args below meth c H locs 0 0 Qf (F0 m 235 ls [.int (jI y1), .int (jI y0)]) := by
  have hx := X.1.1
  have hb := X.1.2.1
  unfold v_7_made_235 at h
  refine k_iadd hx hb dX7_made_235 h (fun r16 h => ?_)
  refine lv_aload_n hx hb dX7_made_236 rfl (lv_at hl 0 rfl) ?_
  refine yg_7_20 X hw dX7_made_237 ?_
  refine lv_iload hx hb dX7_made_240 (lv_at hl 3 rfl) ?_
  refine yl_28 X hw rx6 dX7_made_242 h (fun v17 rv17 h => ?_)
  refine k_iadd hx hb dX7_made_243 h (fun r18 h => ?_)
  refine lv_istore hx hb dX7_made_244 hl (by decide) rfl (fun ls hl => ?_)
  have hl : lv_has ls 11 [(10, .int (jI ((y0 + y1) + v17))), (0, .ref (ad 0 6)), (4, .int (jI x4)), (5, .int (jI x5)), (6, .int (jI x6))] := hl
  refine lv_aload_n hx hb dX7_made_246 rfl (lv_at hl 1 rfl) ?_
  refine yg_7_20 X hw dX7_made_247 ?_
  refine lv_iload hx hb dX7_made_250 (lv_at hl 2 rfl) ?_
  refine lv_iload hx hb dX7_made_252 (lv_at hl 0 rfl) ?_
  refine yld 78 yK_7_78 X dX7_made_254 ?_
  refine k_icmp_ge hx hb r18 (by decide) dX7_made_256 (tgt := 264) rfl h (fun h => ?_) (fun h => ?_)
  · refine yld 78 yK_7_78 X dX7_made_264 ?_
    exact f_7_made_266 X hRf hRl hret rx4 rx5 rx6 rx4 (by decide) hw (lv_sub hl [1, 2, 3, 4] rfl) h
  · refine lv_iload hx hb dX7_made_259 (lv_at hl 0 rfl) ?_
    refine lv_goto hx hb dX7_made_261 (tgt := 266) rfl ?_
    exact f_7_made_266 X hRf hRl hret rx4 rx5 rx6 rx4 r18 hw (lv_sub hl [1, 2, 3, 4] rfl) h

def v_7_made_212 (Q : Int → iST → Prop) (x4 : Int) (x5 : Int) (x6 : Int) (x7 : Int) (y0 : Int) (u : iST) : Prop :=
  br (y0 = 0) (
    v_7_made_235 Q x4 x5 x6 1 0 u) (
    rd (wl2i x7) (fun v24 => 
    rd (wand v24 2147483647) (fun v25 => 
    bd v25 160000 (rd (u.2.1 28 v25) (fun v26 => 
    v_7_made_235 Q x4 x5 x6 1 v26 u)))))
set_option maxRecDepth 20000 in
set_option maxHeartbeats 4000000 in
theorem f_7_made_212 (X : yX RX7 p m c cX7_made 11 s args D ca ad A) (hRf : 0 ≤ R.frames) (hRl : 0 ≤ R.locals) {Q : Int → iST → Prop} (hret : ∀ (v : Int) (u : iST) (H : Heap) (locs : List Loc) (ls : Array Slot) (pc : Nat), inR v → Q v u → yW D ca A ad s H locs u → decode cX7_made pc = .ok (.ireturn, 1) → W p l e R s m args below meth c H locs 0 0 Qf (F0 m pc ls [.int (jI v)])) {x4 x5 x6 x7 y0 : Int} (rx4 : inR x4) (rx5 : inR x5) (rx6 : inR x6) (rx7 : inL x7) (ry0 : inR y0) (hw : yW D ca A ad s H locs u) (hl : lv_has ls 11 [(0, .ref (ad 0 6)), (4, .int (jI x4)), (5, .int (jI x5)), (6, .int (jI x6)), (7, .long (jL x7))]) (h : v_7_made_212 Q x4 x5 x6 x7 y0 u) : W p l e R s m args below meth c H locs 0 0 Qf (F0 m 212 ls [.int (jI y0)]) := by
  have hx := X.1.1
  have hb := X.1.2.1
  unfold v_7_made_212 at h
  refine lv_istore hx hb dX7_made_212 hl (by decide) rfl (fun ls hl => ?_)
  have hl : lv_has ls 11 [(9, .int (jI y0)), (0, .ref (ad 0 6)), (4, .int (jI x4)), (5, .int (jI x5)), (6, .int (jI x6)), (7, .long (jL x7))] := hl
  refine lv_iconst hx hb dX7_made_214 (v := jI 1) rfl ?_
  refine lv_iload hx hb dX7_made_215 (lv_at hl 0 rfl) ?_
  refine k_if_eq hx hb ry0 dX7_made_217 (tgt := 234) rfl h (fun h => ?_) (fun h => ?_)
  · refine lv_iconst hx hb dX7_made_234 (v := jI 0) rfl ?_
    exact f_7_made_235 X hRf hRl hret rx4 rx5 rx6 (by decide) (by decide) hw (lv_sub hl [1, 2, 3, 4] rfl) h
  · refine lv_aload_n hx hb dX7_made_220 rfl (lv_at hl 1 rfl) ?_
    refine yg_7_20 X hw dX7_made_221 ?_
    refine lv_lload hx hb dX7_made_224 (lv_at hl 5 rfl) ?_
    refine k_l2i hx hb dX7_made_226 h (fun v24 rv24 h => ?_)
    refine yld 77 yK_7_77 X dX7_made_227 ?_
    refine k_iand hx hb dX7_made_229 h (fun v25 rv25 h => ?_)
    refine yl_28 X hw rv25 dX7_made_230 h (fun v26 rv26 h => ?_)
    refine lv_goto hx hb dX7_made_231 (tgt := 235) rfl ?_
    exact f_7_made_235 X hRf hRl hret rx4 rx5 rx6 (by decide) rv26 hw (lv_sub hl [1, 2, 3, 4] rfl) h

def v_7_made_211 (Q : Int → iST → Prop) (x4 : Int) (x5 : Int) (x6 : Int) (x7 : Int) (u : iST) : Prop :=
  v_7_made_212 Q x4 x5 x6 x7 0 u
set_option maxRecDepth 20000 in
set_option maxHeartbeats 4000000 in
theorem f_7_made_211 (X : yX RX7 p m c cX7_made 11 s args D ca ad A) (hRf : 0 ≤ R.frames) (hRl : 0 ≤ R.locals) {Q : Int → iST → Prop} (hret : ∀ (v : Int) (u : iST) (H : Heap) (locs : List Loc) (ls : Array Slot) (pc : Nat), inR v → Q v u → yW D ca A ad s H locs u → decode cX7_made pc = .ok (.ireturn, 1) → W p l e R s m args below meth c H locs 0 0 Qf (F0 m pc ls [.int (jI v)])) {x4 x5 x6 x7 : Int} (rx4 : inR x4) (rx5 : inR x5) (rx6 : inR x6) (rx7 : inL x7) (hw : yW D ca A ad s H locs u) (hl : lv_has ls 11 [(0, .ref (ad 0 6)), (4, .int (jI x4)), (5, .int (jI x5)), (6, .int (jI x6)), (7, .long (jL x7))]) (h : v_7_made_211 Q x4 x5 x6 x7 u) : W p l e R s m args below meth c H locs 0 0 Qf (F0 m 211 ls []) := by
  have hx := X.1.1
  have hb := X.1.2.1
  unfold v_7_made_211 at h
  refine lv_iconst hx hb dX7_made_211 (v := jI 0) rfl ?_
  exact f_7_made_212 X hRf hRl hret rx4 rx5 rx6 rx7 (by decide) hw hl h

def v_7_made_75 (Q : Int → iST → Prop) (y1 : Int) (u : iST) : Prop :=
  sw (iI u 32 y1) (fun u => 
  Q 0 u)
set_option maxRecDepth 20000 in
set_option maxHeartbeats 4000000 in
theorem f_7_made_75 (X : yX RX7 p m c cX7_made 11 s args D ca ad A) (hRf : 0 ≤ R.frames) (hRl : 0 ≤ R.locals) {Q : Int → iST → Prop} (hret : ∀ (v : Int) (u : iST) (H : Heap) (locs : List Loc) (ls : Array Slot) (pc : Nat), inR v → Q v u → yW D ca A ad s H locs u → decode cX7_made pc = .ok (.ireturn, 1) → W p l e R s m args below meth c H locs 0 0 Qf (F0 m pc ls [.int (jI v)])) {y1 : Int} (ry1 : inR y1) (hw : yW D ca A ad s H locs u) (hl : lv_has ls 11 [(0, .ref (ad 0 6))]) (h : v_7_made_75 Q y1 u) : W p l e R s m args below meth c H locs 0 0 Qf (F0 m 75 ls [.int (jI y1), .ref (ad 0 6)]) := by
  have hx := X.1.1
  have hb := X.1.2.1
  unfold v_7_made_75 at h
  refine yp_7_40 X hw ry1 dX7_made_75 h (fun H locs u hw h => ?_)
  refine lv_iconst hx hb dX7_made_78 (v := jI 0) rfl ?_
  exact hret _ _ _ _ _ _ (by decide) h hw dX7_made_79

def v_7_made_18b (R18 : Int → Int → Int → iST → Prop) (Q : Int → iST → Prop) (x1 : Int) (x3 : Int) (x4 : Int) (u : iST) : Prop :=
  br (x4 < 0) (
    rd (u.1 29) (fun v5 => 
    br (v5 < 160000) (
      rd (u.1 29) (fun v6 => 
      rd (u.1 29) (fun v7 => 
      ov (v7 + 1) (
      sw (iI u 29 (v7 + 1)) (fun u => 
      bd v6 160000 (sw (iL u v6 x1) (fun u => 
      bd x3 32768 (rd (u.2.1 30 x3) (fun v9 => 
      bd v6 160000 (sw (iA u 27 v6 v9) (fun u => 
      bd x3 32768 (sw (iA u 30 x3 v6) (fun u => 
      bd v6 160000 (sw (iA u 28 v6 0) (fun u => 
      bd v6 160000 (sw (iA u 29 v6 0) (fun u => 
      rl (wlushr x1 31) (fun v10 => 
      rd (wl2i v10) (fun v11 => 
      rd (wand v11 2147483647) (fun v12 => 
      rd (wl2i x1) (fun v13 => 
      rd (wand v13 2147483647) (fun v14 => 
      br (0 ≤ x1) (
        Q v6 u) (
        br (v6 ≤ v12) (
          Q v6 u) (
          br (v6 ≤ v14) (
            Q v6 u) (
            bd v12 160000 (rl (u.2.2 v12) (fun v15 => 
            br (0 ≤ v15) (
              v_7_made_211 Q v6 v12 v14 v15 u) (
              rl (wlushr v15 31) (fun v27 => 
              rd (wl2i v27) (fun v28 => 
              rd (wand v28 2147483647) (fun v29 => 
              br (v29 = 2) (
                v_7_made_211 Q v6 v12 v14 v15 u) (
                v_7_made_212 Q v6 v12 v14 v15 1 u)))))))))))))))))))))))))))))))) (
      rd (u.1 32) (fun v30 => 
      br (v30 ≠ 0) (
        rd (u.1 32) (fun v31 => 
        v_7_made_75 Q v31 u)) (
        v_7_made_75 Q 4 u))))) (
    bd x4 160000 (rl (u.2.2 x4) (fun v32 => 
    br (v32 ≠ x1) (
      bd x4 160000 (rd (u.2.1 27 x4) (fun v33 => 
      R18 x1 x3 v33 u))) (
      Q x4 u))))
def v_7_made_18 (Q : Int → iST → Prop) (x1 : Int) (x3 : Int) (x4 : Int) (u : iST) : Prop := ∀ R18 : Int → Int → Int → iST → Prop, (∀ (x1 : Int) (x3 : Int) (x4 : Int) (u : iST), v_7_made_18b R18 Q x1 x3 x4 u → R18 x1 x3 x4 u) → R18 x1 x3 x4 u
set_option maxRecDepth 20000 in
set_option maxHeartbeats 4000000 in
theorem f_7_made_18 (X : yX RX7 p m c cX7_made 11 s args D ca ad A) (hRf : 0 ≤ R.frames) (hRl : 0 ≤ R.locals) {Q : Int → iST → Prop} (hret : ∀ (v : Int) (u : iST) (H : Heap) (locs : List Loc) (ls : Array Slot) (pc : Nat), inR v → Q v u → yW D ca A ad s H locs u → decode cX7_made pc = .ok (.ireturn, 1) → W p l e R s m args below meth c H locs 0 0 Qf (F0 m pc ls [.int (jI v)])) {x1 x3 x4 : Int} (rx1 : inL x1) (rx3 : inR x3) (rx4 : inR x4) (hw : yW D ca A ad s H locs u) (hl : lv_has ls 11 [(0, .ref (ad 0 6)), (1, .long (jL x1)), (3, .int (jI x3)), (4, .int (jI x4))]) (h : v_7_made_18 Q x1 x3 x4 u) : W p l e R s m args below meth c H locs 0 0 Qf (F0 m 18 ls []) := by
  refine h (fun x1 x3 x4 u => ∀ (H : Heap) (locs : List Loc) (ls : Array Slot), inL x1 → inR x3 → inR x4 → yW D ca A ad s H locs u → lv_has ls 11 [(0, .ref (ad 0 6)), (1, .long (jL x1)), (3, .int (jI x3)), (4, .int (jI x4))] → W p l e R s m args below meth c H locs 0 0 Qf (F0 m 18 ls [])) ?_ H locs ls rx1 rx3 rx4 hw hl
  clear h hl hw rx1 rx3 rx4
  intro x1 x3 x4 u h H locs ls rx1 rx3 rx4 hw hl
  have hR18 : ∀ (x1 : Int) (x3 : Int) (x4 : Int) (u : iST) (H : Heap) (locs : List Loc) (ls : Array Slot), inL x1 → inR x3 → inR x4 → yW D ca A ad s H locs u → lv_has ls 11 [(0, .ref (ad 0 6)), (1, .long (jL x1)), (3, .int (jI x3)), (4, .int (jI x4))] → (fun (x1 : Int) (x3 : Int) (x4 : Int) u => ∀ (H : Heap) (locs : List Loc) (ls : Array Slot), inL x1 → inR x3 → inR x4 → yW D ca A ad s H locs u → lv_has ls 11 [(0, .ref (ad 0 6)), (1, .long (jL x1)), (3, .int (jI x3)), (4, .int (jI x4))] → W p l e R s m args below meth c H locs 0 0 Qf (F0 m 18 ls [])) x1 x3 x4 u → W p l e R s m args below meth c H locs 0 0 Qf (F0 m 18 ls []) := fun x1 x3 x4 u H locs ls rx1 rx3 rx4 hw hl h => h H locs ls rx1 rx3 rx4 hw hl
  have hx := X.1.1
  have hb := X.1.2.1
  unfold v_7_made_18b at h
  refine lv_iload hx hb dX7_made_18 (lv_at hl 3 rfl) ?_
  refine k_if_lt hx hb rx4 dX7_made_20 (tgt := 50) rfl h (fun h => ?_) (fun h => ?_)
  · refine lv_aload_n hx hb dX7_made_50 rfl (lv_at hl 0 rfl) ?_
    refine yg_7_30 X hw dX7_made_51 h (fun v5 rv5 h => ?_)
    refine yld 11 yK_7_11 X dX7_made_54 ?_
    refine k_icmp_lt hx hb rv5 (by decide) dX7_made_56 (tgt := 80) rfl h (fun h => ?_) (fun h => ?_)
    · refine lv_aload_n hx hb dX7_made_80 rfl (lv_at hl 0 rfl) ?_
      refine yg_7_30 X hw dX7_made_81 h (fun v6 rv6 h => ?_)
      refine lv_istore hx hb dX7_made_84 hl (by decide) rfl (fun ls hl => ?_)
      have hl : lv_has ls 11 [(4, .int (jI v6)), (0, .ref (ad 0 6)), (1, .long (jL x1)), (3, .int (jI x3))] := hl
      refine lv_aload_n hx hb dX7_made_86 rfl (lv_at hl 1 rfl) ?_
      refine lv_dup hx hb dX7_made_87 rfl ?_
      refine yg_7_30 X hw dX7_made_88 h (fun v7 rv7 h => ?_)
      refine lv_iconst hx hb dX7_made_91 (v := jI 1) rfl ?_
      refine k_iadd hx hb dX7_made_92 h (fun r8 h => ?_)
      refine yp_7_30 X hw r8 dX7_made_93 h (fun H locs u hw h => ?_)
      refine lv_aload_n hx hb dX7_made_96 rfl (lv_at hl 1 rfl) ?_
      refine yg_7_12 X hw dX7_made_97 ?_
      refine lv_iload hx hb dX7_made_100 (lv_at hl 0 rfl) ?_
      refine lv_lload_n hx hb dX7_made_102 rfl (lv_at hl 2 rfl) ?_
      refine yJt X hw rv6 rx1 dX7_made_103 h (fun H locs u hw h => ?_)
      refine lv_aload_n hx hb dX7_made_104 rfl (lv_at hl 1 rfl) ?_
      refine yg_7_16 X hw dX7_made_105 ?_
      refine lv_iload hx hb dX7_made_108 (lv_at hl 0 rfl) ?_
      refine lv_aload_n hx hb dX7_made_110 rfl (lv_at hl 1 rfl) ?_
      refine yg_7_27 X hw dX7_made_111 ?_
      refine lv_iload_n hx hb dX7_made_114 rfl (lv_at hl 3 rfl) ?_
      refine yl_30 X hw rx3 dX7_made_115 h (fun v9 rv9 h => ?_)
      refine yt_27 X hw rv6 rv9 dX7_made_116 h (fun H locs u hw h => ?_)
      refine lv_aload_n hx hb dX7_made_117 rfl (lv_at hl 1 rfl) ?_
      refine yg_7_27 X hw dX7_made_118 ?_
      refine lv_iload_n hx hb dX7_made_121 rfl (lv_at hl 3 rfl) ?_
      refine lv_iload hx hb dX7_made_122 (lv_at hl 0 rfl) ?_
      refine yt_30 X hw rx3 rv6 dX7_made_124 h (fun H locs u hw h => ?_)
      refine lv_aload_n hx hb dX7_made_125 rfl (lv_at hl 1 rfl) ?_
      refine yg_7_20 X hw dX7_made_126 ?_
      refine lv_iload hx hb dX7_made_129 (lv_at hl 0 rfl) ?_
      refine lv_iconst hx hb dX7_made_131 (v := jI 0) rfl ?_
      refine yt_28 X hw rv6 (by decide) dX7_made_132 h (fun H locs u hw h => ?_)
      refine lv_aload_n hx hb dX7_made_133 rfl (lv_at hl 1 rfl) ?_
      refine yg_7_23 X hw dX7_made_134 ?_
      refine lv_iload hx hb dX7_made_137 (lv_at hl 0 rfl) ?_
      refine lv_iconst hx hb dX7_made_139 (v := jI 0) rfl ?_
      refine yt_29 X hw rv6 (by decide) dX7_made_140 h (fun H locs u hw h => ?_)
      refine lv_lload_n hx hb dX7_made_141 rfl (lv_at hl 2 rfl) ?_
      refine lv_bipush hx hb dX7_made_142 (v := jI 31) rfl ?_
      refine k_wlushr hx hb dX7_made_144 h (fun v10 rv10 h => ?_)
      refine k_l2i hx hb dX7_made_145 h (fun v11 rv11 h => ?_)
      refine yld 77 yK_7_77 X dX7_made_146 ?_
      refine k_iand hx hb dX7_made_148 h (fun v12 rv12 h => ?_)
      refine lv_istore hx hb dX7_made_149 hl (by decide) rfl (fun ls hl => ?_)
      have hl : lv_has ls 11 [(5, .int (jI v12)), (4, .int (jI v6)), (0, .ref (ad 0 6)), (1, .long (jL x1)), (3, .int (jI x3))] := hl
      refine lv_lload_n hx hb dX7_made_151 rfl (lv_at hl 3 rfl) ?_
      refine k_l2i hx hb dX7_made_152 h (fun v13 rv13 h => ?_)
      refine yld 77 yK_7_77 X dX7_made_153 ?_
      refine k_iand hx hb dX7_made_155 h (fun v14 rv14 h => ?_)
      refine lv_istore hx hb dX7_made_156 hl (by decide) rfl (fun ls hl => ?_)
      have hl : lv_has ls 11 [(6, .int (jI v14)), (5, .int (jI v12)), (4, .int (jI v6)), (0, .ref (ad 0 6)), (1, .long (jL x1)), (3, .int (jI x3))] := hl
      refine lv_lload_n hx hb dX7_made_158 rfl (lv_at hl 4 rfl) ?_
      refine lv_lconst hx hb dX7_made_159 (v := jL 0) rfl ?_
      refine k_lcmp_ge hx hb rx1 (by decide) dX7_made_160 dX7_made_161 (tgt := 310) rfl h (fun h => ?_) (fun h => ?_)
      · refine lv_iload hx hb dX7_made_310 (lv_at hl 2 rfl) ?_
        exact hret _ _ _ _ _ _ rv6 h hw dX7_made_312
      · refine lv_iload hx hb dX7_made_164 (lv_at hl 1 rfl) ?_
        refine lv_iload hx hb dX7_made_166 (lv_at hl 2 rfl) ?_
        refine k_icmp_ge hx hb rv12 rv6 dX7_made_168 (tgt := 310) rfl h (fun h => ?_) (fun h => ?_)
        · refine lv_iload hx hb dX7_made_310 (lv_at hl 2 rfl) ?_
          exact hret _ _ _ _ _ _ rv6 h hw dX7_made_312
        · refine lv_iload hx hb dX7_made_171 (lv_at hl 0 rfl) ?_
          refine lv_iload hx hb dX7_made_173 (lv_at hl 2 rfl) ?_
          refine k_icmp_ge hx hb rv14 rv6 dX7_made_175 (tgt := 310) rfl h (fun h => ?_) (fun h => ?_)
          · refine lv_iload hx hb dX7_made_310 (lv_at hl 2 rfl) ?_
            exact hret _ _ _ _ _ _ rv6 h hw dX7_made_312
          · refine lv_aload_n hx hb dX7_made_178 rfl (lv_at hl 3 rfl) ?_
            refine yg_7_12 X hw dX7_made_179 ?_
            refine lv_iload hx hb dX7_made_182 (lv_at hl 1 rfl) ?_
            refine yJl X hw rv12 dX7_made_184 h (fun v15 rv15 h => ?_)
            refine lv_lstore hx hb dX7_made_185 hl (by decide) rfl (fun ls hl => ?_)
            have hl : lv_has ls 11 [(7, .long (jL v15)), (6, .int (jI v14)), (5, .int (jI v12)), (4, .int (jI v6)), (0, .ref (ad 0 6)), (1, .long (jL x1)), (3, .int (jI x3))] := hl
            refine lv_lload hx hb dX7_made_187 (lv_at hl 0 rfl) ?_
            refine lv_lconst hx hb dX7_made_189 (v := jL 0) rfl ?_
            refine k_lcmp_ge hx hb rv15 (by decide) dX7_made_190 dX7_made_191 (tgt := 211) rfl h (fun h => ?_) (fun h => ?_)
            · exact f_7_made_211 X hRf hRl hret rv6 rv12 rv14 rv15 hw (lv_sub hl [4, 3, 2, 1, 0] rfl) h
            · refine lv_lload hx hb dX7_made_194 (lv_at hl 0 rfl) ?_
              refine lv_bipush hx hb dX7_made_196 (v := jI 31) rfl ?_
              refine k_wlushr hx hb dX7_made_198 h (fun v27 rv27 h => ?_)
              refine k_l2i hx hb dX7_made_199 h (fun v28 rv28 h => ?_)
              refine yld 77 yK_7_77 X dX7_made_200 ?_
              refine k_iand hx hb dX7_made_202 h (fun v29 rv29 h => ?_)
              refine lv_iconst hx hb dX7_made_203 (v := jI 2) rfl ?_
              refine k_icmp_eq hx hb rv29 (by decide) dX7_made_204 (tgt := 211) rfl h (fun h => ?_) (fun h => ?_)
              · exact f_7_made_211 X hRf hRl hret rv6 rv12 rv14 rv15 hw (lv_sub hl [4, 3, 2, 1, 0] rfl) h
              · refine lv_iconst hx hb dX7_made_207 (v := jI 1) rfl ?_
                refine lv_goto hx hb dX7_made_208 (tgt := 212) rfl ?_
                exact f_7_made_212 X hRf hRl hret rv6 rv12 rv14 rv15 (by decide) hw (lv_sub hl [4, 3, 2, 1, 0] rfl) h
    · refine lv_aload_n hx hb dX7_made_59 rfl (lv_at hl 0 rfl) ?_
      refine lv_aload_n hx hb dX7_made_60 rfl (lv_at hl 0 rfl) ?_
      refine yg_7_40 X hw dX7_made_61 h (fun v30 rv30 h => ?_)
      refine k_if_ne hx hb rv30 dX7_made_64 (tgt := 71) rfl h (fun h => ?_) (fun h => ?_)
      · refine lv_aload_n hx hb dX7_made_71 rfl (lv_at hl 0 rfl) ?_
        refine yg_7_40 X hw dX7_made_72 h (fun v31 rv31 h => ?_)
        exact f_7_made_75 X hRf hRl hret rv31 hw (lv_sub hl [0] rfl) h
      · refine lv_iconst hx hb dX7_made_67 (v := jI 4) rfl ?_
        refine lv_goto hx hb dX7_made_68 (tgt := 75) rfl ?_
        exact f_7_made_75 X hRf hRl hret (by decide) hw (lv_sub hl [0] rfl) h
  · refine lv_aload_n hx hb dX7_made_23 rfl (lv_at hl 0 rfl) ?_
    refine yg_7_12 X hw dX7_made_24 ?_
    refine lv_iload hx hb dX7_made_27 (lv_at hl 3 rfl) ?_
    refine yJl X hw rx4 dX7_made_29 h (fun v32 rv32 h => ?_)
    refine lv_lload_n hx hb dX7_made_30 rfl (lv_at hl 1 rfl) ?_
    refine k_lcmp_ne hx hb rv32 rx1 dX7_made_31 dX7_made_32 (tgt := 38) rfl h (fun h => ?_) (fun h => ?_)
    · refine lv_aload_n hx hb dX7_made_38 rfl (lv_at hl 0 rfl) ?_
      refine yg_7_16 X hw dX7_made_39 ?_
      refine lv_iload hx hb dX7_made_42 (lv_at hl 3 rfl) ?_
      refine yl_27 X hw rx4 dX7_made_44 h (fun v33 rv33 h => ?_)
      refine lv_istore hx hb dX7_made_45 hl (by decide) rfl (fun ls hl => ?_)
      have hl : lv_has ls 11 [(4, .int (jI v33)), (0, .ref (ad 0 6)), (1, .long (jL x1)), (3, .int (jI x3))] := hl
      refine lv_goto hx hb dX7_made_47 (tgt := 18) rfl ?_
      exact hR18 _ _ _ _ H locs ls rx1 rx3 rv33 hw (lv_sub hl [1, 2, 3, 0] rfl) h
    · refine lv_iload hx hb dX7_made_35 (lv_at hl 3 rfl) ?_
      exact hret _ _ _ _ _ _ rx4 h hw dX7_made_37

def v_7_made (a0 : Int) (Q : Int → iST → Prop) (u : iST) : Prop :=
  rl (wlmul a0 (-7046029254386353131)) (fun v1 => 
  rl (wlushr v1 49) (fun v2 => 
  rd (wl2i v2) (fun v3 => 
  bd v3 32768 (rd (u.2.1 30 v3) (fun v4 => 
  v_7_made_18 Q a0 v3 v4 u)))))
set_option maxRecDepth 20000 in
set_option maxHeartbeats 4000000 in
theorem f_7_made_s (X : yX RX7 p m c cX7_made 11 s args D ca ad A) (hRf : 0 ≤ R.frames) (hRl : 0 ≤ R.locals) {Q : Int → iST → Prop} (hret : ∀ (v : Int) (u : iST) (H : Heap) (locs : List Loc) (ls : Array Slot) (pc : Nat), inR v → Q v u → yW D ca A ad s H locs u → decode cX7_made pc = .ok (.ireturn, 1) → W p l e R s m args below meth c H locs 0 0 Qf (F0 m pc ls [.int (jI v)])) {a0 : Int} (ra0 : inL a0) (hw : yW D ca A ad s H locs u) (hl : lv_has ls 11 [(0, .ref (ad 0 6)), (1, .long (jL a0))]) (h : v_7_made a0 Q u) : W p l e R s m args below meth c H locs 0 0 Qf (F0 m 0 ls []) := by
  have hx := X.1.1
  have hb := X.1.2.1
  unfold v_7_made at h
  refine lv_lload_n hx hb dX7_made_0 rfl (lv_at hl 1 rfl) ?_
  refine yld2 75 yK_7_75 X dX7_made_1 ?_
  refine k_wlmul hx hb dX7_made_4 h (fun v1 rv1 h => ?_)
  refine lv_bipush hx hb dX7_made_5 (v := jI 49) rfl ?_
  refine k_wlushr hx hb dX7_made_7 h (fun v2 rv2 h => ?_)
  refine k_l2i hx hb dX7_made_8 h (fun v3 rv3 h => ?_)
  refine lv_istore_n hx hb dX7_made_9 rfl hl (by decide) rfl (fun ls hl => ?_)
  have hl : lv_has ls 11 [(3, .int (jI v3)), (0, .ref (ad 0 6)), (1, .long (jL a0))] := hl
  refine lv_aload_n hx hb dX7_made_10 rfl (lv_at hl 1 rfl) ?_
  refine yg_7_27 X hw dX7_made_11 ?_
  refine lv_iload_n hx hb dX7_made_14 rfl (lv_at hl 0 rfl) ?_
  refine yl_30 X hw rv3 dX7_made_15 h (fun v4 rv4 h => ?_)
  refine lv_istore hx hb dX7_made_16 hl (by decide) rfl (fun ls hl => ?_)
  have hl : lv_has ls 11 [(4, .int (jI v4)), (3, .int (jI v3)), (0, .ref (ad 0 6)), (1, .long (jL a0))] := hl
  exact f_7_made_18 X hRf hRl hret ra0 rv3 rv4 hw (lv_sub hl [2, 3, 1, 0] rfl) h

end
theorem e_7_made {l : Launch} {a0 : Int} (ra0 : inL a0) {Q : Int → iST → Prop} {u : iST} (h : v_7_made a0 Q u) : yMI l yX7_made (.code yX7_made cX7_made 11 (some .int) :: wsN) { frames := 0, cells := 0, slots := 0, locals := 0 } (fun ad => [.ref (ad 0 6), .long (jL a0)]) Q u := yMI_of (own := RX7) rfl (by decide +kernel) (fun _ => Nat.le_of_ble_eq_true rfl) (fun X hRf hRl hret hw hl => f_7_made_s X hRf hRl hret ra0 hw hl h)
