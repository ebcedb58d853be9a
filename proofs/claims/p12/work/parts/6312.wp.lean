/-! ProofHouse$Room.numberOf -/
theorem dX7_numberOf_0 : decode cX7_numberOf 0 = .ok (.iload_n 1, 1) := by decide +kernel
theorem dX7_numberOf_1 : decode cX7_numberOf 1 = .ok (.ifCond .lt 34, 3) := by decide +kernel
theorem dX7_numberOf_4 : decode cX7_numberOf 4 = .ok (.iload_n 1, 1) := by decide +kernel
theorem dX7_numberOf_5 : decode cX7_numberOf 5 = .ok (.aload_n 0, 1) := by decide +kernel
theorem dX7_numberOf_6 : decode cX7_numberOf 6 = .ok (.getfield 30, 3) := by decide +kernel
theorem dX7_numberOf_9 : decode cX7_numberOf 9 = .ok (.if_icmp .ge 26, 3) := by decide +kernel
theorem dX7_numberOf_12 : decode cX7_numberOf 12 = .ok (.aload_n 0, 1) := by decide +kernel
theorem dX7_numberOf_13 : decode cX7_numberOf 13 = .ok (.getfield 12, 3) := by decide +kernel
theorem dX7_numberOf_16 : decode cX7_numberOf 16 = .ok (.iload_n 1, 1) := by decide +kernel
theorem dX7_numberOf_17 : decode cX7_numberOf 17 = .ok (.laload, 1) := by decide +kernel
theorem dX7_numberOf_18 : decode cX7_numberOf 18 = .ok (.bipush 62, 2) := by decide +kernel
theorem dX7_numberOf_20 : decode cX7_numberOf 20 = .ok (.lushr, 1) := by decide +kernel
theorem dX7_numberOf_21 : decode cX7_numberOf 21 = .ok (.lconst 0, 1) := by decide +kernel
theorem dX7_numberOf_22 : decode cX7_numberOf 22 = .ok (.lcmp, 1) := by decide +kernel
theorem dX7_numberOf_23 : decode cX7_numberOf 23 = .ok (.ifCond .ne 12, 3) := by decide +kernel
theorem dX7_numberOf_26 : decode cX7_numberOf 26 = .ok (.aload_n 0, 1) := by decide +kernel
theorem dX7_numberOf_27 : decode cX7_numberOf 27 = .ok (.getfield 12, 3) := by decide +kernel
theorem dX7_numberOf_30 : decode cX7_numberOf 30 = .ok (.iload_n 1, 1) := by decide +kernel
theorem dX7_numberOf_31 : decode cX7_numberOf 31 = .ok (.laload, 1) := by decide +kernel
theorem dX7_numberOf_32 : decode cX7_numberOf 32 = .ok (.goto 4, 3) := by decide +kernel
theorem dX7_numberOf_35 : decode cX7_numberOf 35 = .ok (.lconst 0, 1) := by decide +kernel
theorem dX7_numberOf_36 : decode cX7_numberOf 36 = .ok (.lreturn, 1) := by decide +kernel

section
variable {p : Program} {l : Launch} {e : Env} {R : Room} {s : State} {m : MethodId} {args : Array Value} {below : List Frame} {meth : Method} {c : Code} {H : Heap} {locs : List Loc} {Qf : State → Prop}
variable {ls : Array Slot} {D : va_G} {ca : Nat → ClassId} {A : Nat → Prop} {ad : Nat → Nat → Nat} {u : iST}
def v_7_numberOf (a0 : Int) (Q : Int → iST → Prop) (u : iST) : Prop :=
  br (a0 < 0) (
    Q 0 u) (
    rd (u.1 29) (fun v1 => 
    br (v1 ≤ a0) (
      Q 0 u) (
      bd a0 160000 (rl (u.2.2 a0) (fun v2 => 
      rl (wlushr v2 62) (fun v3 => 
      br (v3 ≠ 0) (
        Q 0 u) (
        bd a0 160000 (rl (u.2.2 a0) (fun v4 => 
        Q v4 u)))))))))
set_option maxRecDepth 20000 in
set_option maxHeartbeats 4000000 in
theorem f_7_numberOf_s (X : yX RX7 p m c cX7_numberOf 2 s args D ca ad A) (hRf : 0 ≤ R.frames) (hRl : 0 ≤ R.locals) {Q : Int → iST → Prop} (hret : ∀ (v : Int) (u : iST) (H : Heap) (locs : List Loc) (ls : Array Slot) (pc : Nat), inL v → Q v u → yW D ca A ad s H locs u → decode cX7_numberOf pc = .ok (.lreturn, 1) → W p l e R s m args below meth c H locs 0 0 Qf (F0 m pc ls [.long (jL v)])) {a0 : Int} (ra0 : inR a0) (hw : yW D ca A ad s H locs u) (hl : lv_has ls 2 [(0, .ref (ad 0 6)), (1, .int (jI a0))]) (h : v_7_numberOf a0 Q u) : W p l e R s m args below meth c H locs 0 0 Qf (F0 m 0 ls []) := by
  have hx := X.1.1
  have hb := X.1.2.1
  unfold v_7_numberOf at h
  refine lv_iload_n hx hb dX7_numberOf_0 rfl (lv_at hl 1 rfl) ?_
  refine k_if_lt hx hb ra0 dX7_numberOf_1 (tgt := 35) rfl h (fun h => ?_) (fun h => ?_)
  · refine lv_lconst hx hb dX7_numberOf_35 (v := jL 0) rfl ?_
    exact hret _ _ _ _ _ _ (by decide) h hw dX7_numberOf_36
  · refine lv_iload_n hx hb dX7_numberOf_4 rfl (lv_at hl 1 rfl) ?_
    refine lv_aload_n hx hb dX7_numberOf_5 rfl (lv_at hl 0 rfl) ?_
    refine yg_7_30 X hw dX7_numberOf_6 h (fun v1 rv1 h => ?_)
    refine k_icmp_ge hx hb ra0 rv1 dX7_numberOf_9 (tgt := 35) rfl h (fun h => ?_) (fun h => ?_)
    · refine lv_lconst hx hb dX7_numberOf_35 (v := jL 0) rfl ?_
      exact hret _ _ _ _ _ _ (by decide) h hw dX7_numberOf_36
    · refine lv_aload_n hx hb dX7_numberOf_12 rfl (lv_at hl 0 rfl) ?_
      refine yg_7_12 X hw dX7_numberOf_13 ?_
      refine lv_iload_n hx hb dX7_numberOf_16 rfl (lv_at hl 1 rfl) ?_
      refine yJl X hw ra0 dX7_numberOf_17 h (fun v2 rv2 h => ?_)
      refine lv_bipush hx hb dX7_numberOf_18 (v := jI 62) rfl ?_
      refine k_wlushr hx hb dX7_numberOf_20 h (fun v3 rv3 h => ?_)
      refine lv_lconst hx hb dX7_numberOf_21 (v := jL 0) rfl ?_
      refine k_lcmp_ne hx hb rv3 (by decide) dX7_numberOf_22 dX7_numberOf_23 (tgt := 35) rfl h (fun h => ?_) (fun h => ?_)
      · refine lv_lconst hx hb dX7_numberOf_35 (v := jL 0) rfl ?_
        exact hret _ _ _ _ _ _ (by decide) h hw dX7_numberOf_36
      · refine lv_aload_n hx hb dX7_numberOf_26 rfl (lv_at hl 0 rfl) ?_
        refine yg_7_12 X hw dX7_numberOf_27 ?_
        refine lv_iload_n hx hb dX7_numberOf_30 rfl (lv_at hl 1 rfl) ?_
        refine yJl X hw ra0 dX7_numberOf_31 h (fun v4 rv4 h => ?_)
        refine lv_goto hx hb dX7_numberOf_32 (tgt := 36) rfl ?_
        exact hret _ _ _ _ _ _ rv4 h hw dX7_numberOf_36

end
theorem e_7_numberOf {l : Launch} {a0 : Int} (ra0 : inR a0) {Q : Int → iST → Prop} {u : iST} (h : v_7_numberOf a0 Q u) : yML l yX7_numberOf (.code yX7_numberOf cX7_numberOf 2 (some .long) :: wsN) { frames := 0, cells := 0, slots := 0, locals := 0 } (fun ad => [.ref (ad 0 6), .int (jI a0)]) Q u := yML_of (own := RX7) rfl (by decide +kernel) (fun _ => Nat.le_of_ble_eq_true rfl) (fun X hRf hRl hret hw hl => f_7_numberOf_s X hRf hRl hret ra0 hw hl h)

/-! ProofHouse$Room.isNatural -/
theorem dX7_isNatural_0 : decode cX7_isNatural 0 = .ok (.iload_n 1, 1) := by decide +kernel
theorem dX7_isNatural_1 : decode cX7_isNatural 1 = .ok (.ifCond .lt 29, 3) := by decide +kernel
theorem dX7_isNatural_4 : decode cX7_isNatural 4 = .ok (.iload_n 1, 1) := by decide +kernel
theorem dX7_isNatural_5 : decode cX7_isNatural 5 = .ok (.aload_n 0, 1) := by decide +kernel
theorem dX7_isNatural_6 : decode cX7_isNatural 6 = .ok (.getfield 30, 3) := by decide +kernel
theorem dX7_isNatural_9 : decode cX7_isNatural 9 = .ok (.if_icmp .ge 21, 3) := by decide +kernel
theorem dX7_isNatural_12 : decode cX7_isNatural 12 = .ok (.aload_n 0, 1) := by decide +kernel
theorem dX7_isNatural_13 : decode cX7_isNatural 13 = .ok (.getfield 12, 3) := by decide +kernel
theorem dX7_isNatural_16 : decode cX7_isNatural 16 = .ok (.iload_n 1, 1) := by decide +kernel
theorem dX7_isNatural_17 : decode cX7_isNatural 17 = .ok (.laload, 1) := by decide +kernel
theorem dX7_isNatural_18 : decode cX7_isNatural 18 = .ok (.bipush 62, 2) := by decide +kernel
theorem dX7_isNatural_20 : decode cX7_isNatural 20 = .ok (.lushr, 1) := by decide +kernel
theorem dX7_isNatural_21 : decode cX7_isNatural 21 = .ok (.lconst 0, 1) := by decide +kernel
theorem dX7_isNatural_22 : decode cX7_isNatural 22 = .ok (.lcmp, 1) := by decide +kernel
theorem dX7_isNatural_23 : decode cX7_isNatural 23 = .ok (.ifCond .ne 7, 3) := by decide +kernel
theorem dX7_isNatural_26 : decode cX7_isNatural 26 = .ok (.iconst 1, 1) := by decide +kernel
theorem dX7_isNatural_27 : decode cX7_isNatural 27 = .ok (.goto 4, 3) := by decide +kernel
theorem dX7_isNatural_30 : decode cX7_isNatural 30 = .ok (.iconst 0, 1) := by decide +kernel
theorem dX7_isNatural_31 : decode cX7_isNatural 31 = .ok (.ireturn, 1) := by decide +kernel

section
variable {p : Program} {l : Launch} {e : Env} {R : Room} {s : State} {m : MethodId} {args : Array Value} {below : List Frame} {meth : Method} {c : Code} {H : Heap} {locs : List Loc} {Qf : State → Prop}
variable {ls : Array Slot} {D : va_G} {ca : Nat → ClassId} {A : Nat → Prop} {ad : Nat → Nat → Nat} {u : iST}
def v_7_isNatural (a0 : Int) (Q : Int → iST → Prop) (u : iST) : Prop :=
  br (a0 < 0) (
    zt 0 (Q 0 u)) (
    rd (u.1 29) (fun v1 => 
    br (v1 ≤ a0) (
      zt 0 (Q 0 u)) (
      bd a0 160000 (rl (u.2.2 a0) (fun v2 => 
      rl (wlushr v2 62) (fun v3 => 
      br (v3 ≠ 0) (
        zt 0 (Q 0 u)) (
        zt 1 (Q 1 u))))))))
set_option maxRecDepth 20000 in
set_option maxHeartbeats 4000000 in
theorem f_7_isNatural_s (X : yX RX7 p m c cX7_isNatural 2 s args D ca ad A) (hRf : 0 ≤ R.frames) (hRl : 0 ≤ R.locals) {Q : Int → iST → Prop} (hret : ∀ (v : Int) (u : iST) (H : Heap) (locs : List Loc) (ls : Array Slot) (pc : Nat), bz v → Q v u → yW D ca A ad s H locs u → decode cX7_isNatural pc = .ok (.ireturn, 1) → W p l e R s m args below meth c H locs 0 0 Qf (F0 m pc ls [.int (jI v)])) {a0 : Int} (ra0 : inR a0) (hw : yW D ca A ad s H locs u) (hl : lv_has ls 2 [(0, .ref (ad 0 6)), (1, .int (jI a0))]) (h : v_7_isNatural a0 Q u) : W p l e R s m args below meth c H locs 0 0 Qf (F0 m 0 ls []) := by
  have hx := X.1.1
  have hb := X.1.2.1
  unfold v_7_isNatural at h
  refine lv_iload_n hx hb dX7_isNatural_0 rfl (lv_at hl 1 rfl) ?_
  refine k_if_lt hx hb ra0 dX7_isNatural_1 (tgt := 30) rfl h (fun h => ?_) (fun h => ?_)
  · refine lv_iconst hx hb dX7_isNatural_30 (v := jI 0) rfl ?_
    exact hret _ _ _ _ _ _ h.1 h.2 hw dX7_isNatural_31
  · refine lv_iload_n hx hb dX7_isNatural_4 rfl (lv_at hl 1 rfl) ?_
    refine lv_aload_n hx hb dX7_isNatural_5 rfl (lv_at hl 0 rfl) ?_
    refine yg_7_30 X hw dX7_isNatural_6 h (fun v1 rv1 h => ?_)
    refine k_icmp_ge hx hb ra0 rv1 dX7_isNatural_9 (tgt := 30) rfl h (fun h => ?_) (fun h => ?_)
    · refine lv_iconst hx hb dX7_isNatural_30 (v := jI 0) rfl ?_
      exact hret _ _ _ _ _ _ h.1 h.2 hw dX7_isNatural_31
    · refine lv_aload_n hx hb dX7_isNatural_12 rfl (lv_at hl 0 rfl) ?_
      refine yg_7_12 X hw dX7_isNatural_13 ?_
      refine lv_iload_n hx hb dX7_isNatural_16 rfl (lv_at hl 1 rfl) ?_
      refine yJl X hw ra0 dX7_isNatural_17 h (fun v2 rv2 h => ?_)
      refine lv_bipush hx hb dX7_isNatural_18 (v := jI 62) rfl ?_
      refine k_wlushr hx hb dX7_isNatural_20 h (fun v3 rv3 h => ?_)
      refine lv_lconst hx hb dX7_isNatural_21 (v := jL 0) rfl ?_
      refine k_lcmp_ne hx hb rv3 (by decide) dX7_isNatural_22 dX7_isNatural_23 (tgt := 30) rfl h (fun h => ?_) (fun h => ?_)
      · refine lv_iconst hx hb dX7_isNatural_30 (v := jI 0) rfl ?_
        exact hret _ _ _ _ _ _ h.1 h.2 hw dX7_isNatural_31
      · refine lv_iconst hx hb dX7_isNatural_26 (v := jI 1) rfl ?_
        refine lv_goto hx hb dX7_isNatural_27 (tgt := 31) rfl ?_
        exact hret _ _ _ _ _ _ h.1 h.2 hw dX7_isNatural_31

end
theorem e_7_isNatural {l : Launch} {a0 : Int} (ra0 : inR a0) {Q : Int → iST → Prop} {u : iST} (h : v_7_isNatural a0 Q u) : yMI l yX7_isNatural (.code yX7_isNatural cX7_isNatural 2 (some .boolean) :: wsN) { frames := 0, cells := 0, slots := 0, locals := 0 } (fun ad => [.ref (ad 0 6), .int (jI a0)]) Q u := yMZ_of (own := RX7) rfl (by decide +kernel) (fun _ => Nat.le_of_ble_eq_true rfl) (fun X hRf hRl hret hw hl => f_7_isNatural_s X hRf hRl hret ra0 hw hl h)

/-! ProofHouse$Room.isSymbol -/
theorem dX7_isSymbol_0 : decode cX7_isSymbol 0 = .ok (.iload_n 1, 1) := by decide +kernel
theorem dX7_isSymbol_1 : decode cX7_isSymbol 1 = .ok (.ifCond .lt 29, 3) := by decide +kernel
theorem dX7_isSymbol_4 : decode cX7_isSymbol 4 = .ok (.iload_n 1, 1) := by decide +kernel
theorem dX7_isSymbol_5 : decode cX7_isSymbol 5 = .ok (.aload_n 0, 1) := by decide +kernel
theorem dX7_isSymbol_6 : decode cX7_isSymbol 6 = .ok (.getfield 30, 3) := by decide +kernel
theorem dX7_isSymbol_9 : decode cX7_isSymbol 9 = .ok (.if_icmp .ge 21, 3) := by decide +kernel
theorem dX7_isSymbol_12 : decode cX7_isSymbol 12 = .ok (.aload_n 0, 1) := by decide +kernel
theorem dX7_isSymbol_13 : decode cX7_isSymbol 13 = .ok (.getfield 12, 3) := by decide +kernel
theorem dX7_isSymbol_16 : decode cX7_isSymbol 16 = .ok (.iload_n 1, 1) := by decide +kernel
theorem dX7_isSymbol_17 : decode cX7_isSymbol 17 = .ok (.laload, 1) := by decide +kernel
theorem dX7_isSymbol_18 : decode cX7_isSymbol 18 = .ok (.bipush 62, 2) := by decide +kernel
theorem dX7_isSymbol_20 : decode cX7_isSymbol 20 = .ok (.lushr, 1) := by decide +kernel
theorem dX7_isSymbol_21 : decode cX7_isSymbol 21 = .ok (.lconst 1, 1) := by decide +kernel
theorem dX7_isSymbol_22 : decode cX7_isSymbol 22 = .ok (.lcmp, 1) := by decide +kernel
theorem dX7_isSymbol_23 : decode cX7_isSymbol 23 = .ok (.ifCond .ne 7, 3) := by decide +kernel
theorem dX7_isSymbol_26 : decode cX7_isSymbol 26 = .ok (.iconst 1, 1) := by decide +kernel
theorem dX7_isSymbol_27 : decode cX7_isSymbol 27 = .ok (.goto 4, 3) := by decide +kernel
theorem dX7_isSymbol_30 : decode cX7_isSymbol 30 = .ok (.iconst 0, 1) := by decide +kernel
theorem dX7_isSymbol_31 : decode cX7_isSymbol 31 = .ok (.ireturn, 1) := by decide +kernel

section
variable {p : Program} {l : Launch} {e : Env} {R : Room} {s : State} {m : MethodId} {args : Array Value} {below : List Frame} {meth : Method} {c : Code} {H : Heap} {locs : List Loc} {Qf : State → Prop}
variable {ls : Array Slot} {D : va_G} {ca : Nat → ClassId} {A : Nat → Prop} {ad : Nat → Nat → Nat} {u : iST}
def v_7_isSymbol (a0 : Int) (Q : Int → iST → Prop) (u : iST) : Prop :=
  br (a0 < 0) (
    zt 0 (Q 0 u)) (
    rd (u.1 29) (fun v1 => 
    br (v1 ≤ a0) (
      zt 0 (Q 0 u)) (
      bd a0 160000 (rl (u.2.2 a0) (fun v2 => 
      rl (wlushr v2 62) (fun v3 => 
      br (v3 ≠ 1) (
        zt 0 (Q 0 u)) (
        zt 1 (Q 1 u))))))))
set_option maxRecDepth 20000 in
set_option maxHeartbeats 4000000 in
theorem f_7_isSymbol_s (X : yX RX7 p m c cX7_isSymbol 2 s args D ca ad A) (hRf : 0 ≤ R.frames) (hRl : 0 ≤ R.locals) {Q : Int → iST → Prop} (hret : ∀ (v : Int) (u : iST) (H : Heap) (locs : List Loc) (ls : Array Slot) (pc : Nat), bz v → Q v u → yW D ca A ad s H locs u → decode cX7_isSymbol pc = .ok (.ireturn, 1) → W p l e R s m args below meth c H locs 0 0 Qf (F0 m pc ls [.int (jI v)])) {a0 : Int} (ra0 : inR a0) (hw : yW D ca A ad s H locs u) (hl : lv_has ls 2 [(0, .ref (ad 0 6)), (1, .int (jI a0))]) (h : v_7_isSymbol a0 Q u) : W p l e R s m args below meth c H locs 0 0 Qf (F0 m 0 ls []) := by
  have hx := X.1.1
  have hb := X.1.2.1
  unfold v_7_isSymbol at h
  refine lv_iload_n hx hb dX7_isSymbol_0 rfl (lv_at hl 1 rfl) ?_
  refine k_if_lt hx hb ra0 dX7_isSymbol_1 (tgt := 30) rfl h (fun h => ?_) (fun h => ?_)
  · refine lv_iconst hx hb dX7_isSymbol_30 (v := jI 0) rfl ?_
    exact hret _ _ _ _ _ _ h.1 h.2 hw dX7_isSymbol_31
  · refine lv_iload_n hx hb dX7_isSymbol_4 rfl (lv_at hl 1 rfl) ?_
    refine lv_aload_n hx hb dX7_isSymbol_5 rfl (lv_at hl 0 rfl) ?_
    refine yg_7_30 X hw dX7_isSymbol_6 h (fun v1 rv1 h => ?_)
    refine k_icmp_ge hx hb ra0 rv1 dX7_isSymbol_9 (tgt := 30) rfl h (fun h => ?_) (fun h => ?_)
    · refine lv_iconst hx hb dX7_isSymbol_30 (v := jI 0) rfl ?_
      exact hret _ _ _ _ _ _ h.1 h.2 hw dX7_isSymbol_31
    · refine lv_aload_n hx hb dX7_isSymbol_12 rfl (lv_at hl 0 rfl) ?_
      refine yg_7_12 X hw dX7_isSymbol_13 ?_
      refine lv_iload_n hx hb dX7_isSymbol_16 rfl (lv_at hl 1 rfl) ?_
      refine yJl X hw ra0 dX7_isSymbol_17 h (fun v2 rv2 h => ?_)
      refine lv_bipush hx hb dX7_isSymbol_18 (v := jI 62) rfl ?_
      refine k_wlushr hx hb dX7_isSymbol_20 h (fun v3 rv3 h => ?_)
      refine lv_lconst hx hb dX7_isSymbol_21 (v := jL 1) rfl ?_
      refine k_lcmp_ne hx hb rv3 (by decide) dX7_isSymbol_22 dX7_isSymbol_23 (tgt := 30) rfl h (fun h => ?_) (fun h => ?_)
      · refine lv_iconst hx hb dX7_isSymbol_30 (v := jI 0) rfl ?_
        exact hret _ _ _ _ _ _ h.1 h.2 hw dX7_isSymbol_31
      · refine lv_iconst hx hb dX7_isSymbol_26 (v := jI 1) rfl ?_
        refine lv_goto hx hb dX7_isSymbol_27 (tgt := 31) rfl ?_
        exact hret _ _ _ _ _ _ h.1 h.2 hw dX7_isSymbol_31

end
theorem e_7_isSymbol {l : Launch} {a0 : Int} (ra0 : inR a0) {Q : Int → iST → Prop} {u : iST} (h : v_7_isSymbol a0 Q u) : yMI l yX7_isSymbol (.code yX7_isSymbol cX7_isSymbol 2 (some .boolean) :: wsN) { frames := 0, cells := 0, slots := 0, locals := 0 } (fun ad => [.ref (ad 0 6), .int (jI a0)]) Q u := yMZ_of (own := RX7) rfl (by decide +kernel) (fun _ => Nat.le_of_ble_eq_true rfl) (fun X hRf hRl hret hw hl => f_7_isSymbol_s X hRf hRl hret ra0 hw hl h)

/-! ProofHouse$Room.heightOf -/
theorem dX7_heightOf_0 : decode cX7_heightOf 0 = .ok (.iload_n 1, 1) := by decide +kernel
theorem dX7_heightOf_1 : decode cX7_heightOf 1 = .ok (.ifCond .lt 20, 3) := by decide +kernel
theorem dX7_heightOf_4 : decode cX7_heightOf 4 = .ok (.iload_n 1, 1) := by decide +kernel
theorem dX7_heightOf_5 : decode cX7_heightOf 5 = .ok (.aload_n 0, 1) := by decide +kernel
theorem dX7_heightOf_6 : decode cX7_heightOf 6 = .ok (.getfield 30, 3) := by decide +kernel
theorem dX7_heightOf_9 : decode cX7_heightOf 9 = .ok (.if_icmp .ge 12, 3) := by decide +kernel
theorem dX7_heightOf_12 : decode cX7_heightOf 12 = .ok (.aload_n 0, 1) := by decide +kernel
theorem dX7_heightOf_13 : decode cX7_heightOf 13 = .ok (.getfield 23, 3) := by decide +kernel
theorem dX7_heightOf_16 : decode cX7_heightOf 16 = .ok (.iload_n 1, 1) := by decide +kernel
theorem dX7_heightOf_17 : decode cX7_heightOf 17 = .ok (.iaload, 1) := by decide +kernel
theorem dX7_heightOf_18 : decode cX7_heightOf 18 = .ok (.goto 4, 3) := by decide +kernel
theorem dX7_heightOf_21 : decode cX7_heightOf 21 = .ok (.iconst 0, 1) := by decide +kernel
theorem dX7_heightOf_22 : decode cX7_heightOf 22 = .ok (.ireturn, 1) := by decide +kernel

section
variable {p : Program} {l : Launch} {e : Env} {R : Room} {s : State} {m : MethodId} {args : Array Value} {below : List Frame} {meth : Method} {c : Code} {H : Heap} {locs : List Loc} {Qf : State → Prop}
variable {ls : Array Slot} {D : va_G} {ca : Nat → ClassId} {A : Nat → Prop} {ad : Nat → Nat → Nat} {u : iST}
def v_7_heightOf (a0 : Int) (Q : Int → iST → Prop) (u : iST) : Prop :=
  br (a0 < 0) (
    Q 0 u) (
    rd (u.1 29) (fun v1 => 
    br (v1 ≤ a0) (
      Q 0 u) (
      bd a0 160000 (rd (u.2.1 29 a0) (fun v2 => 
      Q v2 u)))))
set_option maxRecDepth 20000 in
set_option maxHeartbeats 4000000 in
theorem f_7_heightOf_s (X : yX RX7 p m c cX7_heightOf 2 s args D ca ad A) (hRf : 0 ≤ R.frames) (hRl : 0 ≤ R.locals) {Q : Int → iST → Prop} (hret : ∀ (v : Int) (u : iST) (H : Heap) (locs : List Loc) (ls : Array Slot) (pc : Nat), inR v → Q v u → yW D ca A ad s H locs u → decode cX7_heightOf pc = .ok (.ireturn, 1) → W p l e R s m args below meth c H locs 0 0 Qf (F0 m pc ls [.int (jI v)])) {a0 : Int} (ra0 : inR a0) (hw : yW D ca A ad s H locs u) (hl : lv_has ls 2 [(0, .ref (ad 0 6)), (1, .int (jI a0))]) (h : v_7_heightOf a0 Q u) : W p l e R s m args below meth c H locs 0 0 Qf (F0 m 0 ls []) := by
  have hx := X.1.1
  have hb := X.1.2.1
  unfold v_7_heightOf at h
  refine lv_iload_n hx hb dX7_heightOf_0 rfl (lv_at hl 1 rfl) ?_
  refine k_if_lt hx hb ra0 dX7_heightOf_1 (tgt := 21) rfl h (fun h => ?_) (fun h => ?_)
  · refine lv_iconst hx hb dX7_heightOf_21 (v := jI 0) rfl ?_
    exact hret _ _ _ _ _ _ (by decide) h hw dX7_heightOf_22
  · refine lv_iload_n hx hb dX7_heightOf_4 rfl (lv_at hl 1 rfl) ?_
    refine lv_aload_n hx hb dX7_heightOf_5 rfl (lv_at hl 0 rfl) ?_
    refine yg_7_30 X hw dX7_heightOf_6 h (fun v1 rv1 h => ?_)
    refine k_icmp_ge hx hb ra0 rv1 dX7_heightOf_9 (tgt := 21) rfl h (fun h => ?_) (fun h => ?_)
    · refine lv_iconst hx hb dX7_heightOf_21 (v := jI 0) rfl ?_
      exact hret _ _ _ _ _ _ (by decide) h hw dX7_heightOf_22
    · refine lv_aload_n hx hb dX7_heightOf_12 rfl (lv_at hl 0 rfl) ?_
      refine yg_7_23 X hw dX7_heightOf_13 ?_
      refine lv_iload_n hx hb dX7_heightOf_16 rfl (lv_at hl 1 rfl) ?_
      refine yl_29 X hw ra0 dX7_heightOf_17 h (fun v2 rv2 h => ?_)
      refine lv_goto hx hb dX7_heightOf_18 (tgt := 22) rfl ?_
      exact hret _ _ _ _ _ _ rv2 h hw dX7_heightOf_22

end
theorem e_7_heightOf {l : Launch} {a0 : Int} (ra0 : inR a0) {Q : Int → iST → Prop} {u : iST} (h : v_7_heightOf a0 Q u) : yMI l yX7_heightOf (.code yX7_heightOf cX7_heightOf 2 (some .int) :: wsN) { frames := 0, cells := 0, slots := 0, locals := 0 } (fun ad => [.ref (ad 0 6), .int (jI a0)]) Q u := yMI_of (own := RX7) rfl (by decide +kernel) (fun _ => Nat.le_of_ble_eq_true rfl) (fun X hRf hRl hret hw hl => f_7_heightOf_s X hRf hRl hret ra0 hw hl h)

/-! ProofHouse$Evaluator.baseValue -/
theorem dX2_baseValue_0 : decode cX2_baseValue 0 = .ok (.iload_n 1, 1) := by decide +kernel
theorem dX2_baseValue_1 : decode cX2_baseValue 1 = .ok (.tableswitch 310 3 15 #[67, 78, 89, 102, 116, 158, 198, 224, 241, 250, 259, 276, 293], 67) := by decide +kernel
theorem dX2_baseValue_68 : decode cX2_baseValue 68 = .ok (.iload_n 2, 1) := by decide +kernel
theorem dX2_baseValue_69 : decode cX2_baseValue 69 = .ok (.ifCond .eq 7, 3) := by decide +kernel
theorem dX2_baseValue_72 : decode cX2_baseValue 72 = .ok (.iload_n 3, 1) := by decide +kernel
theorem dX2_baseValue_73 : decode cX2_baseValue 73 = .ok (.goto 5, 3) := by decide +kernel
theorem dX2_baseValue_76 : decode cX2_baseValue 76 = .ok (.iload 4, 2) := by decide +kernel
theorem dX2_baseValue_78 : decode cX2_baseValue 78 = .ok (.ireturn, 1) := by decide +kernel
theorem dX2_baseValue_79 : decode cX2_baseValue 79 = .ok (.iload_n 2, 1) := by decide +kernel
theorem dX2_baseValue_80 : decode cX2_baseValue 80 = .ok (.iload_n 3, 1) := by decide +kernel
theorem dX2_baseValue_81 : decode cX2_baseValue 81 = .ok (.if_icmp .ne 7, 3) := by decide +kernel
theorem dX2_baseValue_84 : decode cX2_baseValue 84 = .ok (.iconst 1, 1) := by decide +kernel
theorem dX2_baseValue_85 : decode cX2_baseValue 85 = .ok (.goto 4, 3) := by decide +kernel
theorem dX2_baseValue_88 : decode cX2_baseValue 88 = .ok (.iconst 0, 1) := by decide +kernel
theorem dX2_baseValue_89 : decode cX2_baseValue 89 = .ok (.ireturn, 1) := by decide +kernel
theorem dX2_baseValue_90 : decode cX2_baseValue 90 = .ok (.aload_n 0, 1) := by decide +kernel
theorem dX2_baseValue_91 : decode cX2_baseValue 91 = .ok (.getfield 53, 3) := by decide +kernel
theorem dX2_baseValue_94 : decode cX2_baseValue 94 = .ok (.iload_n 2, 1) := by decide +kernel
theorem dX2_baseValue_95 : decode cX2_baseValue 95 = .ok (.iload_n 3, 1) := by decide +kernel
theorem dX2_baseValue_96 : decode cX2_baseValue 96 = .ok (.invokestatic 122, 3) := by decide +kernel
theorem dX2_baseValue_99 : decode cX2_baseValue 99 = .ok (.invokevirtual 126, 3) := by decide +kernel
theorem dX2_baseValue_102 : decode cX2_baseValue 102 = .ok (.ireturn, 1) := by decide +kernel
theorem dX2_baseValue_103 : decode cX2_baseValue 103 = .ok (.iload_n 2, 1) := by decide +kernel
theorem dX2_baseValue_104 : decode cX2_baseValue 104 = .ok (.ifCond .eq 11, 3) := by decide +kernel
theorem dX2_baseValue_107 : decode cX2_baseValue 107 = .ok (.iload_n 3, 1) := by decide +kernel
theorem dX2_baseValue_108 : decode cX2_baseValue 108 = .ok (.ifCond .ne 7, 3) := by decide +kernel
theorem dX2_baseValue_111 : decode cX2_baseValue 111 = .ok (.iconst 0, 1) := by decide +kernel
theorem dX2_baseValue_112 : decode cX2_baseValue 112 = .ok (.goto 4, 3) := by decide +kernel
theorem dX2_baseValue_115 : decode cX2_baseValue 115 = .ok (.iconst 1, 1) := by decide +kernel
theorem dX2_baseValue_116 : decode cX2_baseValue 116 = .ok (.ireturn, 1) := by decide +kernel
theorem dX2_baseValue_117 : decode cX2_baseValue 117 = .ok (.aload_n 0, 1) := by decide +kernel
theorem dX2_baseValue_118 : decode cX2_baseValue 118 = .ok (.getfield 53, 3) := by decide +kernel
theorem dX2_baseValue_121 : decode cX2_baseValue 121 = .ok (.iload_n 2, 1) := by decide +kernel
theorem dX2_baseValue_122 : decode cX2_baseValue 122 = .ok (.invokevirtual 130, 3) := by decide +kernel
theorem dX2_baseValue_125 : decode cX2_baseValue 125 = .ok (.aload_n 0, 1) := by decide +kernel
theorem dX2_baseValue_126 : decode cX2_baseValue 126 = .ok (.getfield 53, 3) := by decide +kernel
theorem dX2_baseValue_129 : decode cX2_baseValue 129 = .ok (.iload_n 3, 1) := by decide +kernel
theorem dX2_baseValue_130 : decode cX2_baseValue 130 = .ok (.invokevirtual 130, 3) := by decide +kernel
theorem dX2_baseValue_133 : decode cX2_baseValue 133 = .ok (.ladd, 1) := by decide +kernel
theorem dX2_baseValue_134 : decode cX2_baseValue 134 = .ok (.lstore 5, 2) := by decide +kernel
theorem dX2_baseValue_136 : decode cX2_baseValue 136 = .ok (.lload 5, 2) := by decide +kernel
theorem dX2_baseValue_138 : decode cX2_baseValue 138 = .ok (.ldc2_w 134, 3) := by decide +kernel
theorem dX2_baseValue_141 : decode cX2_baseValue 141 = .ok (.lcmp, 1) := by decide +kernel
theorem dX2_baseValue_142 : decode cX2_baseValue 142 = .ok (.ifCond .le 7, 3) := by decide +kernel
theorem dX2_baseValue_145 : decode cX2_baseValue 145 = .ok (.iconst (-1), 1) := by decide +kernel
theorem dX2_baseValue_146 : decode cX2_baseValue 146 = .ok (.goto 12, 3) := by decide +kernel
theorem dX2_baseValue_149 : decode cX2_baseValue 149 = .ok (.aload_n 0, 1) := by decide +kernel
theorem dX2_baseValue_150 : decode cX2_baseValue 150 = .ok (.getfield 53, 3) := by decide +kernel
theorem dX2_baseValue_153 : decode cX2_baseValue 153 = .ok (.lload 5, 2) := by decide +kernel
theorem dX2_baseValue_155 : decode cX2_baseValue 155 = .ok (.invokevirtual 126, 3) := by decide +kernel
theorem dX2_baseValue_158 : decode cX2_baseValue 158 = .ok (.ireturn, 1) := by decide +kernel
theorem dX2_baseValue_159 : decode cX2_baseValue 159 = .ok (.aload_n 0, 1) := by decide +kernel
theorem dX2_baseValue_160 : decode cX2_baseValue 160 = .ok (.getfield 53, 3) := by decide +kernel
theorem dX2_baseValue_163 : decode cX2_baseValue 163 = .ok (.iload_n 2, 1) := by decide +kernel
theorem dX2_baseValue_164 : decode cX2_baseValue 164 = .ok (.invokevirtual 130, 3) := by decide +kernel
theorem dX2_baseValue_167 : decode cX2_baseValue 167 = .ok (.aload_n 0, 1) := by decide +kernel
theorem dX2_baseValue_168 : decode cX2_baseValue 168 = .ok (.getfield 53, 3) := by decide +kernel
theorem dX2_baseValue_171 : decode cX2_baseValue 171 = .ok (.iload_n 3, 1) := by decide +kernel
theorem dX2_baseValue_172 : decode cX2_baseValue 172 = .ok (.invokevirtual 130, 3) := by decide +kernel
theorem dX2_baseValue_175 : decode cX2_baseValue 175 = .ok (.lsub, 1) := by decide +kernel
theorem dX2_baseValue_176 : decode cX2_baseValue 176 = .ok (.lstore 7, 2) := by decide +kernel
theorem dX2_baseValue_178 : decode cX2_baseValue 178 = .ok (.aload_n 0, 1) := by decide +kernel
theorem dX2_baseValue_179 : decode cX2_baseValue 179 = .ok (.getfield 53, 3) := by decide +kernel
theorem dX2_baseValue_182 : decode cX2_baseValue 182 = .ok (.lload 7, 2) := by decide +kernel
theorem dX2_baseValue_184 : decode cX2_baseValue 184 = .ok (.lconst 0, 1) := by decide +kernel
theorem dX2_baseValue_185 : decode cX2_baseValue 185 = .ok (.lcmp, 1) := by decide +kernel
theorem dX2_baseValue_186 : decode cX2_baseValue 186 = .ok (.ifCond .ge 7, 3) := by decide +kernel
theorem dX2_baseValue_189 : decode cX2_baseValue 189 = .ok (.lconst 0, 1) := by decide +kernel
theorem dX2_baseValue_190 : decode cX2_baseValue 190 = .ok (.goto 5, 3) := by decide +kernel
theorem dX2_baseValue_193 : decode cX2_baseValue 193 = .ok (.lload 7, 2) := by decide +kernel
theorem dX2_baseValue_195 : decode cX2_baseValue 195 = .ok (.invokevirtual 126, 3) := by decide +kernel
theorem dX2_baseValue_198 : decode cX2_baseValue 198 = .ok (.ireturn, 1) := by decide +kernel
theorem dX2_baseValue_199 : decode cX2_baseValue 199 = .ok (.aload_n 0, 1) := by decide +kernel
theorem dX2_baseValue_200 : decode cX2_baseValue 200 = .ok (.getfield 53, 3) := by decide +kernel
theorem dX2_baseValue_203 : decode cX2_baseValue 203 = .ok (.iload_n 2, 1) := by decide +kernel
theorem dX2_baseValue_204 : decode cX2_baseValue 204 = .ok (.invokevirtual 130, 3) := by decide +kernel
theorem dX2_baseValue_207 : decode cX2_baseValue 207 = .ok (.aload_n 0, 1) := by decide +kernel
theorem dX2_baseValue_208 : decode cX2_baseValue 208 = .ok (.getfield 53, 3) := by decide +kernel
theorem dX2_baseValue_211 : decode cX2_baseValue 211 = .ok (.iload_n 3, 1) := by decide +kernel
theorem dX2_baseValue_212 : decode cX2_baseValue 212 = .ok (.invokevirtual 130, 3) := by decide +kernel
theorem dX2_baseValue_215 : decode cX2_baseValue 215 = .ok (.lcmp, 1) := by decide +kernel
theorem dX2_baseValue_216 : decode cX2_baseValue 216 = .ok (.ifCond .ge 7, 3) := by decide +kernel
theorem dX2_baseValue_219 : decode cX2_baseValue 219 = .ok (.iconst 1, 1) := by decide +kernel
theorem dX2_baseValue_220 : decode cX2_baseValue 220 = .ok (.goto 4, 3) := by decide +kernel
theorem dX2_baseValue_223 : decode cX2_baseValue 223 = .ok (.iconst 0, 1) := by decide +kernel
theorem dX2_baseValue_224 : decode cX2_baseValue 224 = .ok (.ireturn, 1) := by decide +kernel
theorem dX2_baseValue_225 : decode cX2_baseValue 225 = .ok (.aload_n 0, 1) := by decide +kernel
theorem dX2_baseValue_226 : decode cX2_baseValue 226 = .ok (.getfield 53, 3) := by decide +kernel
theorem dX2_baseValue_229 : decode cX2_baseValue 229 = .ok (.iload_n 2, 1) := by decide +kernel
theorem dX2_baseValue_230 : decode cX2_baseValue 230 = .ok (.invokevirtual 98, 3) := by decide +kernel
theorem dX2_baseValue_233 : decode cX2_baseValue 233 = .ok (.ifCond .eq 7, 3) := by decide +kernel
theorem dX2_baseValue_236 : decode cX2_baseValue 236 = .ok (.iconst 1, 1) := by decide +kernel
theorem dX2_baseValue_237 : decode cX2_baseValue 237 = .ok (.goto 4, 3) := by decide +kernel
theorem dX2_baseValue_240 : decode cX2_baseValue 240 = .ok (.iconst 0, 1) := by decide +kernel
theorem dX2_baseValue_241 : decode cX2_baseValue 241 = .ok (.ireturn, 1) := by decide +kernel
theorem dX2_baseValue_242 : decode cX2_baseValue 242 = .ok (.aload_n 0, 1) := by decide +kernel
theorem dX2_baseValue_243 : decode cX2_baseValue 243 = .ok (.getfield 53, 3) := by decide +kernel
theorem dX2_baseValue_246 : decode cX2_baseValue 246 = .ok (.iload_n 2, 1) := by decide +kernel
theorem dX2_baseValue_247 : decode cX2_baseValue 247 = .ok (.invokevirtual 105, 3) := by decide +kernel
theorem dX2_baseValue_250 : decode cX2_baseValue 250 = .ok (.ireturn, 1) := by decide +kernel
theorem dX2_baseValue_251 : decode cX2_baseValue 251 = .ok (.aload_n 0, 1) := by decide +kernel
theorem dX2_baseValue_252 : decode cX2_baseValue 252 = .ok (.getfield 53, 3) := by decide +kernel
theorem dX2_baseValue_255 : decode cX2_baseValue 255 = .ok (.iload_n 2, 1) := by decide +kernel
theorem dX2_baseValue_256 : decode cX2_baseValue 256 = .ok (.invokevirtual 108, 3) := by decide +kernel
theorem dX2_baseValue_259 : decode cX2_baseValue 259 = .ok (.ireturn, 1) := by decide +kernel
theorem dX2_baseValue_260 : decode cX2_baseValue 260 = .ok (.aload_n 0, 1) := by decide +kernel
theorem dX2_baseValue_261 : decode cX2_baseValue 261 = .ok (.getfield 53, 3) := by decide +kernel
theorem dX2_baseValue_264 : decode cX2_baseValue 264 = .ok (.iload_n 2, 1) := by decide +kernel
theorem dX2_baseValue_265 : decode cX2_baseValue 265 = .ok (.invokevirtual 136, 3) := by decide +kernel
theorem dX2_baseValue_268 : decode cX2_baseValue 268 = .ok (.ifCond .eq 7, 3) := by decide +kernel
theorem dX2_baseValue_271 : decode cX2_baseValue 271 = .ok (.iconst 1, 1) := by decide +kernel
theorem dX2_baseValue_272 : decode cX2_baseValue 272 = .ok (.goto 4, 3) := by decide +kernel
theorem dX2_baseValue_275 : decode cX2_baseValue 275 = .ok (.iconst 0, 1) := by decide +kernel
theorem dX2_baseValue_276 : decode cX2_baseValue 276 = .ok (.ireturn, 1) := by decide +kernel
theorem dX2_baseValue_277 : decode cX2_baseValue 277 = .ok (.aload_n 0, 1) := by decide +kernel
theorem dX2_baseValue_278 : decode cX2_baseValue 278 = .ok (.getfield 53, 3) := by decide +kernel
theorem dX2_baseValue_281 : decode cX2_baseValue 281 = .ok (.iload_n 2, 1) := by decide +kernel
theorem dX2_baseValue_282 : decode cX2_baseValue 282 = .ok (.invokevirtual 139, 3) := by decide +kernel
theorem dX2_baseValue_285 : decode cX2_baseValue 285 = .ok (.ifCond .eq 7, 3) := by decide +kernel
theorem dX2_baseValue_288 : decode cX2_baseValue 288 = .ok (.iconst 1, 1) := by decide +kernel
theorem dX2_baseValue_289 : decode cX2_baseValue 289 = .ok (.goto 4, 3) := by decide +kernel
theorem dX2_baseValue_292 : decode cX2_baseValue 292 = .ok (.iconst 0, 1) := by decide +kernel
theorem dX2_baseValue_293 : decode cX2_baseValue 293 = .ok (.ireturn, 1) := by decide +kernel
theorem dX2_baseValue_294 : decode cX2_baseValue 294 = .ok (.aload_n 0, 1) := by decide +kernel
theorem dX2_baseValue_295 : decode cX2_baseValue 295 = .ok (.getfield 53, 3) := by decide +kernel
theorem dX2_baseValue_298 : decode cX2_baseValue 298 = .ok (.aload_n 0, 1) := by decide +kernel
theorem dX2_baseValue_299 : decode cX2_baseValue 299 = .ok (.getfield 53, 3) := by decide +kernel
theorem dX2_baseValue_302 : decode cX2_baseValue 302 = .ok (.iload_n 2, 1) := by decide +kernel
theorem dX2_baseValue_303 : decode cX2_baseValue 303 = .ok (.invokevirtual 142, 3) := by decide +kernel
theorem dX2_baseValue_306 : decode cX2_baseValue 306 = .ok (.i2l, 1) := by decide +kernel
theorem dX2_baseValue_307 : decode cX2_baseValue 307 = .ok (.invokevirtual 126, 3) := by decide +kernel
theorem dX2_baseValue_310 : decode cX2_baseValue 310 = .ok (.ireturn, 1) := by decide +kernel
theorem dX2_baseValue_311 : decode cX2_baseValue 311 = .ok (.iload_n 2, 1) := by decide +kernel
theorem dX2_baseValue_312 : decode cX2_baseValue 312 = .ok (.ifCond .ne 7, 3) := by decide +kernel
theorem dX2_baseValue_315 : decode cX2_baseValue 315 = .ok (.iconst 1, 1) := by decide +kernel
theorem dX2_baseValue_316 : decode cX2_baseValue 316 = .ok (.goto 4, 3) := by decide +kernel
theorem dX2_baseValue_319 : decode cX2_baseValue 319 = .ok (.iconst 0, 1) := by decide +kernel
theorem dX2_baseValue_320 : decode cX2_baseValue 320 = .ok (.ireturn, 1) := by decide +kernel

section
variable {p : Program} {l : Launch} {e : Env} {R : Room} {s : State} {m : MethodId} {args : Array Value} {below : List Frame} {meth : Method} {c : Code} {H : Heap} {locs : List Loc} {Qf : State → Prop}
variable {ls : Array Slot} {D : va_G} {ca : Nat → ClassId} {A : Nat → Prop} {ad : Nat → Nat → Nat} {u : iST}
def v_2_baseValue_195 (Q : Int → iST → Prop) (y1 : Int) (u : iST) : Prop :=
  v_7_made y1 (fun v15 u => 
  Q v15 u) u
set_option maxRecDepth 20000 in
set_option maxHeartbeats 4000000 in
theorem f_2_baseValue_195 (X : yX RX2 p m c cX2_baseValue 9 s args D ca ad A) (hRf : 1 ≤ R.frames) (hRl : 30 ≤ R.locals) {Q : Int → iST → Prop} (hret : ∀ (v : Int) (u : iST) (H : Heap) (locs : List Loc) (ls : Array Slot) (pc : Nat), inR v → Q v u → yW D ca A ad s H locs u → decode cX2_baseValue pc = .ok (.ireturn, 1) → W p l e R s m args below meth c H locs 0 0 Qf (F0 m pc ls [.int (jI v)])) {y1 : Int} (ry1 : inL y1) (hw : yW D ca A ad s H locs u) (hl : lv_has ls 9 [(0, .ref (ad 0 1))]) (h : v_2_baseValue_195 Q y1 u) : W p l e R s m args below meth c H locs 0 0 Qf (F0 m 195 ls [.long (jL y1), .ref (ad 0 6)]) := by
  have hx := X.1.1
  have hb := X.1.2.1
  unfold v_2_baseValue_195 at h
  refine ycI (n := 1) (e_7_made ry1 h) 7 6 (r := (RX7, TX7, 9)) rfl yG_2_126 yD_7_made X hw rfl yGo_7 (Nat.le_trans (Nat.le_of_ble_eq_true rfl) hRf) (Nat.le_trans (Nat.le_of_ble_eq_true rfl) hRl) rfl hl.1 (Nat.le_of_ble_eq_true rfl) rfl dX2_baseValue_195 (fun v15 u H locs rv15 h hw => ?_)
  exact hret _ _ _ _ _ _ rv15 h hw dX2_baseValue_198

def v_2_baseValue (a0 : Int) (a1 : Int) (a2 : Int) (a3 : Int) (Q : Int → iST → Prop) (u : iST) : Prop :=
  br (a0 = 3) (
    br (a1 = 0) (
      Q a3 u) (
      Q a2 u)) (
  br (a0 = 4) (
    br (a1 ≠ a2) (
      Q 0 u) (
      Q 1 u)) (
  br (a0 = 5) (
    v_11_pairCell a1 a2 (fun v3 u => 
    v_7_made v3 (fun v4 u => 
    Q v4 u) u) u) (
  br (a0 = 6) (
    br (a1 = 0) (
      Q 1 u) (
      br (a2 ≠ 0) (
        Q 1 u) (
        Q 0 u))) (
  br (a0 = 7) (
    v_7_numberOf a1 (fun v7 u => 
    v_7_numberOf a2 (fun v8 u => 
    rl (wladd v7 v8) (fun v9 => 
    br (v9 ≤ 4611686018427387903) (
      v_7_made v9 (fun v10 u => 
      Q v10 u) u) (
      Q (-1) u))) u) u) (
  br (a0 = 8) (
    v_7_numberOf a1 (fun v12 u => 
    v_7_numberOf a2 (fun v13 u => 
    rl (wlsub v12 v13) (fun v14 => 
    br (0 ≤ v14) (
      v_2_baseValue_195 Q v14 u) (
      v_2_baseValue_195 Q 0 u))) u) u) (
  br (a0 = 9) (
    v_7_numberOf a1 (fun v17 u => 
    v_7_numberOf a2 (fun v18 u => 
    br (v18 ≤ v17) (
      Q 0 u) (
      Q 1 u)) u) u) (
  br (a0 = 10) (
    v_7_isPair a1 (fun v20 u => 
    br (v20 = 0) (
      Q 0 u) (
      Q 1 u)) u) (
  br (a0 = 11) (
    v_7_left a1 (fun v22 u => 
    Q v22 u) u) (
  br (a0 = 12) (
    v_7_right a1 (fun v24 u => 
    Q v24 u) u) (
  br (a0 = 13) (
    v_7_isNatural a1 (fun v26 u => 
    br (v26 = 0) (
      Q 0 u) (
      Q 1 u)) u) (
  br (a0 = 14) (
    v_7_isSymbol a1 (fun v28 u => 
    br (v28 = 0) (
      Q 0 u) (
      Q 1 u)) u) (
  br (a0 = 15) (
    v_7_heightOf a1 (fun v30 u => 
    v_7_made v30 (fun v32 u => 
    Q v32 u) u) u) (
  br (a1 ≠ 0) (
    Q 0 u) (
    Q 1 u))))))))))))))
set_option maxRecDepth 20000 in
set_option maxHeartbeats 4000000 in
theorem f_2_baseValue_s (X : yX RX2 p m c cX2_baseValue 9 s args D ca ad A) (hRf : 1 ≤ R.frames) (hRl : 30 ≤ R.locals) {Q : Int → iST → Prop} (hret : ∀ (v : Int) (u : iST) (H : Heap) (locs : List Loc) (ls : Array Slot) (pc : Nat), inR v → Q v u → yW D ca A ad s H locs u → decode cX2_baseValue pc = .ok (.ireturn, 1) → W p l e R s m args below meth c H locs 0 0 Qf (F0 m pc ls [.int (jI v)])) {a0 a1 a2 a3 : Int} (ra0 : inR a0) (ra1 : inR a1) (ra2 : inR a2) (ra3 : inR a3) (hw : yW D ca A ad s H locs u) (hl : lv_has ls 9 [(0, .ref (ad 0 1)), (1, .int (jI a0)), (2, .int (jI a1)), (3, .int (jI a2)), (4, .int (jI a3))]) (h : v_2_baseValue a0 a1 a2 a3 Q u) : W p l e R s m args below meth c H locs 0 0 Qf (F0 m 0 ls []) := by
  have hx := X.1.1
  have hb := X.1.2.1
  unfold v_2_baseValue at h
  refine lv_iload_n hx hb dX2_baseValue_0 rfl (lv_at hl 1 rfl) ?_
  refine br_sp h (fun ek h => ?_) (fun n1 h => ?_)
  · refine k_tabIn (tgt := 68) (off := 67) hx hb dX2_baseValue_1 ek (by decide) (by decide) rfl rfl ?_
    refine lv_iload_n hx hb dX2_baseValue_68 rfl (lv_at hl 2 rfl) ?_
    refine k_if_eq hx hb ra1 dX2_baseValue_69 (tgt := 76) rfl h (fun h => ?_) (fun h => ?_)
    · refine lv_iload hx hb dX2_baseValue_76 (lv_at hl 4 rfl) ?_
      exact hret _ _ _ _ _ _ ra3 h hw dX2_baseValue_78
    · refine lv_iload_n hx hb dX2_baseValue_72 rfl (lv_at hl 3 rfl) ?_
      refine lv_goto hx hb dX2_baseValue_73 (tgt := 78) rfl ?_
      exact hret _ _ _ _ _ _ ra2 h hw dX2_baseValue_78
  refine br_sp h (fun ek h => ?_) (fun n2 h => ?_)
  · refine k_tabIn (tgt := 79) (off := 78) hx hb dX2_baseValue_1 ek (by decide) (by decide) rfl rfl ?_
    refine lv_iload_n hx hb dX2_baseValue_79 rfl (lv_at hl 2 rfl) ?_
    refine lv_iload_n hx hb dX2_baseValue_80 rfl (lv_at hl 3 rfl) ?_
    refine k_icmp_ne hx hb ra1 ra2 dX2_baseValue_81 (tgt := 88) rfl h (fun h => ?_) (fun h => ?_)
    · refine lv_iconst hx hb dX2_baseValue_88 (v := jI 0) rfl ?_
      exact hret _ _ _ _ _ _ (by decide) h hw dX2_baseValue_89
    · refine lv_iconst hx hb dX2_baseValue_84 (v := jI 1) rfl ?_
      refine lv_goto hx hb dX2_baseValue_85 (tgt := 89) rfl ?_
      exact hret _ _ _ _ _ _ (by decide) h hw dX2_baseValue_89
  refine br_sp h (fun ek h => ?_) (fun n5 h => ?_)
  · refine k_tabIn (tgt := 90) (off := 89) hx hb dX2_baseValue_1 ek (by decide) (by decide) rfl rfl ?_
    refine lv_aload_n hx hb dX2_baseValue_90 rfl (lv_at hl 0 rfl) ?_
    refine yg_2_53 X hw dX2_baseValue_91 ?_
    refine lv_iload_n hx hb dX2_baseValue_94 rfl (lv_at hl 2 rfl) ?_
    refine lv_iload_n hx hb dX2_baseValue_95 rfl (lv_at hl 3 rfl) ?_
    refine ycSN (n := 2) (e_11_pairCell ra1 ra2 h) (host := "ProofHouse") rfl goodPair yD_11_pairCell.2 X hw (yNm_2_122 X.2.2.1) (ysI_in (List.mem_of_getElem? (i := 11) rfl)) statPair (Nat.le_trans (Nat.le_of_ble_eq_true rfl) hRf) (Nat.le_trans (Nat.le_of_ble_eq_true rfl) hRl) rfl hl.1 (Nat.le_of_ble_eq_true rfl) rfl dX2_baseValue_96 (fun v3 u H locs rv3 h hw => ?_)
    refine ycI (n := 1) (e_7_made rv3 h) 7 6 (r := (RX7, TX7, 9)) rfl yG_2_126 yD_7_made X hw rfl yGo_7 (Nat.le_trans (Nat.le_of_ble_eq_true rfl) hRf) (Nat.le_trans (Nat.le_of_ble_eq_true rfl) hRl) rfl hl.1 (Nat.le_of_ble_eq_true rfl) rfl dX2_baseValue_99 (fun v4 u H locs rv4 h hw => ?_)
    exact hret _ _ _ _ _ _ rv4 h hw dX2_baseValue_102
  refine br_sp h (fun ek h => ?_) (fun n6 h => ?_)
  · refine k_tabIn (tgt := 103) (off := 102) hx hb dX2_baseValue_1 ek (by decide) (by decide) rfl rfl ?_
    refine lv_iload_n hx hb dX2_baseValue_103 rfl (lv_at hl 2 rfl) ?_
    refine k_if_eq hx hb ra1 dX2_baseValue_104 (tgt := 115) rfl h (fun h => ?_) (fun h => ?_)
    · refine lv_iconst hx hb dX2_baseValue_115 (v := jI 1) rfl ?_
      exact hret _ _ _ _ _ _ (by decide) h hw dX2_baseValue_116
    · refine lv_iload_n hx hb dX2_baseValue_107 rfl (lv_at hl 3 rfl) ?_
      refine k_if_ne hx hb ra2 dX2_baseValue_108 (tgt := 115) rfl h (fun h => ?_) (fun h => ?_)
      · refine lv_iconst hx hb dX2_baseValue_115 (v := jI 1) rfl ?_
        exact hret _ _ _ _ _ _ (by decide) h hw dX2_baseValue_116
      · refine lv_iconst hx hb dX2_baseValue_111 (v := jI 0) rfl ?_
        refine lv_goto hx hb dX2_baseValue_112 (tgt := 116) rfl ?_
        exact hret _ _ _ _ _ _ (by decide) h hw dX2_baseValue_116
  refine br_sp h (fun ek h => ?_) (fun n11 h => ?_)
  · refine k_tabIn (tgt := 117) (off := 116) hx hb dX2_baseValue_1 ek (by decide) (by decide) rfl rfl ?_
    refine lv_aload_n hx hb dX2_baseValue_117 rfl (lv_at hl 0 rfl) ?_
    refine yg_2_53 X hw dX2_baseValue_118 ?_
    refine lv_iload_n hx hb dX2_baseValue_121 rfl (lv_at hl 2 rfl) ?_
    refine ycL (n := 1) (e_7_numberOf ra1 h) 7 6 (r := (RX7, TX7, 9)) rfl yG_2_130 yD_7_numberOf X hw rfl yGo_7 (Nat.le_trans (Nat.le_of_ble_eq_true rfl) hRf) (Nat.le_trans (Nat.le_of_ble_eq_true rfl) hRl) rfl hl.1 (Nat.le_of_ble_eq_true rfl) rfl dX2_baseValue_122 (fun v7 u H locs rv7 h hw => ?_)
    refine lv_aload_n hx hb dX2_baseValue_125 rfl (lv_at hl 0 rfl) ?_
    refine yg_2_53 X hw dX2_baseValue_126 ?_
    refine lv_iload_n hx hb dX2_baseValue_129 rfl (lv_at hl 3 rfl) ?_
    refine ycL (n := 1) (e_7_numberOf ra2 h) 7 6 (r := (RX7, TX7, 9)) rfl yG_2_130 yD_7_numberOf X hw rfl yGo_7 (Nat.le_trans (Nat.le_of_ble_eq_true rfl) hRf) (Nat.le_trans (Nat.le_of_ble_eq_true rfl) hRl) rfl hl.1 (Nat.le_of_ble_eq_true rfl) rfl dX2_baseValue_130 (fun v8 u H locs rv8 h hw => ?_)
    refine k_wladd hx hb dX2_baseValue_133 h (fun v9 rv9 h => ?_)
    refine lv_lstore hx hb dX2_baseValue_134 hl (by decide) rfl (fun ls hl => ?_)
    have hl : lv_has ls 9 [(5, .long (jL v9)), (0, .ref (ad 0 1)), (1, .int (jI a0)), (2, .int (jI a1)), (3, .int (jI a2)), (4, .int (jI a3))] := hl
    refine lv_lload hx hb dX2_baseValue_136 (lv_at hl 0 rfl) ?_
    refine yld2 134 yK_2_134 X dX2_baseValue_138 ?_
    refine k_lcmp_le hx hb rv9 (by decide) dX2_baseValue_141 dX2_baseValue_142 (tgt := 149) rfl h (fun h => ?_) (fun h => ?_)
    · refine lv_aload_n hx hb dX2_baseValue_149 rfl (lv_at hl 1 rfl) ?_
      refine yg_2_53 X hw dX2_baseValue_150 ?_
      refine lv_lload hx hb dX2_baseValue_153 (lv_at hl 0 rfl) ?_
      refine ycI (n := 1) (e_7_made rv9 h) 7 6 (r := (RX7, TX7, 9)) rfl yG_2_126 yD_7_made X hw rfl yGo_7 (Nat.le_trans (Nat.le_of_ble_eq_true rfl) hRf) (Nat.le_trans (Nat.le_of_ble_eq_true rfl) hRl) rfl hl.1 (Nat.le_of_ble_eq_true rfl) rfl dX2_baseValue_155 (fun v10 u H locs rv10 h hw => ?_)
      exact hret _ _ _ _ _ _ rv10 h hw dX2_baseValue_158
    · refine lv_iconst hx hb dX2_baseValue_145 (v := jI (-1)) rfl ?_
      refine lv_goto hx hb dX2_baseValue_146 (tgt := 158) rfl ?_
      exact hret _ _ _ _ _ _ (by decide) h hw dX2_baseValue_158
  refine br_sp h (fun ek h => ?_) (fun n16 h => ?_)
  · refine k_tabIn (tgt := 159) (off := 158) hx hb dX2_baseValue_1 ek (by decide) (by decide) rfl rfl ?_
    refine lv_aload_n hx hb dX2_baseValue_159 rfl (lv_at hl 0 rfl) ?_
    refine yg_2_53 X hw dX2_baseValue_160 ?_
    refine lv_iload_n hx hb dX2_baseValue_163 rfl (lv_at hl 2 rfl) ?_
    refine ycL (n := 1) (e_7_numberOf ra1 h) 7 6 (r := (RX7, TX7, 9)) rfl yG_2_130 yD_7_numberOf X hw rfl yGo_7 (Nat.le_trans (Nat.le_of_ble_eq_true rfl) hRf) (Nat.le_trans (Nat.le_of_ble_eq_true rfl) hRl) rfl hl.1 (Nat.le_of_ble_eq_true rfl) rfl dX2_baseValue_164 (fun v12 u H locs rv12 h hw => ?_)
    refine lv_aload_n hx hb dX2_baseValue_167 rfl (lv_at hl 0 rfl) ?_
    refine yg_2_53 X hw dX2_baseValue_168 ?_
    refine lv_iload_n hx hb dX2_baseValue_171 rfl (lv_at hl 3 rfl) ?_
    refine ycL (n := 1) (e_7_numberOf ra2 h) 7 6 (r := (RX7, TX7, 9)) rfl yG_2_130 yD_7_numberOf X hw rfl yGo_7 (Nat.le_trans (Nat.le_of_ble_eq_true rfl) hRf) (Nat.le_trans (Nat.le_of_ble_eq_true rfl) hRl) rfl hl.1 (Nat.le_of_ble_eq_true rfl) rfl dX2_baseValue_172 (fun v13 u H locs rv13 h hw => ?_)
    refine k_wlsub hx hb dX2_baseValue_175 h (fun v14 rv14 h => ?_)
    refine lv_lstore hx hb dX2_baseValue_176 hl (by decide) rfl (fun ls hl => ?_)
    have hl : lv_has ls 9 [(7, .long (jL v14)), (0, .ref (ad 0 1)), (1, .int (jI a0)), (2, .int (jI a1)), (3, .int (jI a2)), (4, .int (jI a3))] := hl
    refine lv_aload_n hx hb dX2_baseValue_178 rfl (lv_at hl 1 rfl) ?_
    refine yg_2_53 X hw dX2_baseValue_179 ?_
    refine lv_lload hx hb dX2_baseValue_182 (lv_at hl 0 rfl) ?_
    refine lv_lconst hx hb dX2_baseValue_184 (v := jL 0) rfl ?_
    refine k_lcmp_ge hx hb rv14 (by decide) dX2_baseValue_185 dX2_baseValue_186 (tgt := 193) rfl h (fun h => ?_) (fun h => ?_)
    · refine lv_lload hx hb dX2_baseValue_193 (lv_at hl 0 rfl) ?_
      exact f_2_baseValue_195 X hRf hRl hret rv14 hw (lv_sub hl [1] rfl) h
    · refine lv_lconst hx hb dX2_baseValue_189 (v := jL 0) rfl ?_
      refine lv_goto hx hb dX2_baseValue_190 (tgt := 195) rfl ?_
      exact f_2_baseValue_195 X hRf hRl hret (by decide) hw (lv_sub hl [1] rfl) h
  refine br_sp h (fun ek h => ?_) (fun n19 h => ?_)
  · refine k_tabIn (tgt := 199) (off := 198) hx hb dX2_baseValue_1 ek (by decide) (by decide) rfl rfl ?_
    refine lv_aload_n hx hb dX2_baseValue_199 rfl (lv_at hl 0 rfl) ?_
    refine yg_2_53 X hw dX2_baseValue_200 ?_
    refine lv_iload_n hx hb dX2_baseValue_203 rfl (lv_at hl 2 rfl) ?_
    refine ycL (n := 1) (e_7_numberOf ra1 h) 7 6 (r := (RX7, TX7, 9)) rfl yG_2_130 yD_7_numberOf X hw rfl yGo_7 (Nat.le_trans (Nat.le_of_ble_eq_true rfl) hRf) (Nat.le_trans (Nat.le_of_ble_eq_true rfl) hRl) rfl hl.1 (Nat.le_of_ble_eq_true rfl) rfl dX2_baseValue_204 (fun v17 u H locs rv17 h hw => ?_)
    refine lv_aload_n hx hb dX2_baseValue_207 rfl (lv_at hl 0 rfl) ?_
    refine yg_2_53 X hw dX2_baseValue_208 ?_
    refine lv_iload_n hx hb dX2_baseValue_211 rfl (lv_at hl 3 rfl) ?_
    refine ycL (n := 1) (e_7_numberOf ra2 h) 7 6 (r := (RX7, TX7, 9)) rfl yG_2_130 yD_7_numberOf X hw rfl yGo_7 (Nat.le_trans (Nat.le_of_ble_eq_true rfl) hRf) (Nat.le_trans (Nat.le_of_ble_eq_true rfl) hRl) rfl hl.1 (Nat.le_of_ble_eq_true rfl) rfl dX2_baseValue_212 (fun v18 u H locs rv18 h hw => ?_)
    refine k_lcmp_ge hx hb rv17 rv18 dX2_baseValue_215 dX2_baseValue_216 (tgt := 223) rfl h (fun h => ?_) (fun h => ?_)
    · refine lv_iconst hx hb dX2_baseValue_223 (v := jI 0) rfl ?_
      exact hret _ _ _ _ _ _ (by decide) h hw dX2_baseValue_224
    · refine lv_iconst hx hb dX2_baseValue_219 (v := jI 1) rfl ?_
      refine lv_goto hx hb dX2_baseValue_220 (tgt := 224) rfl ?_
      exact hret _ _ _ _ _ _ (by decide) h hw dX2_baseValue_224
  refine br_sp h (fun ek h => ?_) (fun n21 h => ?_)
  · refine k_tabIn (tgt := 225) (off := 224) hx hb dX2_baseValue_1 ek (by decide) (by decide) rfl rfl ?_
    refine lv_aload_n hx hb dX2_baseValue_225 rfl (lv_at hl 0 rfl) ?_
    refine yg_2_53 X hw dX2_baseValue_226 ?_
    refine lv_iload_n hx hb dX2_baseValue_229 rfl (lv_at hl 2 rfl) ?_
    refine ycI (n := 1) (e_7_isPair ra1 h) 7 6 (r := (RX7, TX7, 9)) rfl yG_2_98 yD_7_isPair X hw rfl yGo_7 (Nat.le_trans (Nat.le_of_ble_eq_true rfl) hRf) (Nat.le_trans (Nat.le_of_ble_eq_true rfl) hRl) rfl hl.1 (Nat.le_of_ble_eq_true rfl) rfl dX2_baseValue_230 (fun v20 u H locs rv20 h hw => ?_)
    refine k_if_eq hx hb rv20 dX2_baseValue_233 (tgt := 240) rfl h (fun h => ?_) (fun h => ?_)
    · refine lv_iconst hx hb dX2_baseValue_240 (v := jI 0) rfl ?_
      exact hret _ _ _ _ _ _ (by decide) h hw dX2_baseValue_241
    · refine lv_iconst hx hb dX2_baseValue_236 (v := jI 1) rfl ?_
      refine lv_goto hx hb dX2_baseValue_237 (tgt := 241) rfl ?_
      exact hret _ _ _ _ _ _ (by decide) h hw dX2_baseValue_241
  refine br_sp h (fun ek h => ?_) (fun n23 h => ?_)
  · refine k_tabIn (tgt := 242) (off := 241) hx hb dX2_baseValue_1 ek (by decide) (by decide) rfl rfl ?_
    refine lv_aload_n hx hb dX2_baseValue_242 rfl (lv_at hl 0 rfl) ?_
    refine yg_2_53 X hw dX2_baseValue_243 ?_
    refine lv_iload_n hx hb dX2_baseValue_246 rfl (lv_at hl 2 rfl) ?_
    refine ycI (n := 1) (e_7_left ra1 h) 7 6 (r := (RX7, TX7, 9)) rfl yG_2_105 yD_7_left X hw rfl yGo_7 (Nat.le_trans (Nat.le_of_ble_eq_true rfl) hRf) (Nat.le_trans (Nat.le_of_ble_eq_true rfl) hRl) rfl hl.1 (Nat.le_of_ble_eq_true rfl) rfl dX2_baseValue_247 (fun v22 u H locs rv22 h hw => ?_)
    exact hret _ _ _ _ _ _ rv22 h hw dX2_baseValue_250
  refine br_sp h (fun ek h => ?_) (fun n25 h => ?_)
  · refine k_tabIn (tgt := 251) (off := 250) hx hb dX2_baseValue_1 ek (by decide) (by decide) rfl rfl ?_
    refine lv_aload_n hx hb dX2_baseValue_251 rfl (lv_at hl 0 rfl) ?_
    refine yg_2_53 X hw dX2_baseValue_252 ?_
    refine lv_iload_n hx hb dX2_baseValue_255 rfl (lv_at hl 2 rfl) ?_
    refine ycI (n := 1) (e_7_right ra1 h) 7 6 (r := (RX7, TX7, 9)) rfl yG_2_108 yD_7_right X hw rfl yGo_7 (Nat.le_trans (Nat.le_of_ble_eq_true rfl) hRf) (Nat.le_trans (Nat.le_of_ble_eq_true rfl) hRl) rfl hl.1 (Nat.le_of_ble_eq_true rfl) rfl dX2_baseValue_256 (fun v24 u H locs rv24 h hw => ?_)
    exact hret _ _ _ _ _ _ rv24 h hw dX2_baseValue_259
  refine br_sp h (fun ek h => ?_) (fun n27 h => ?_)
  · refine k_tabIn (tgt := 260) (off := 259) hx hb dX2_baseValue_1 ek (by decide) (by decide) rfl rfl ?_
    refine lv_aload_n hx hb dX2_baseValue_260 rfl (lv_at hl 0 rfl) ?_
    refine yg_2_53 X hw dX2_baseValue_261 ?_
    refine lv_iload_n hx hb dX2_baseValue_264 rfl (lv_at hl 2 rfl) ?_
    refine ycI (n := 1) (e_7_isNatural ra1 h) 7 6 (r := (RX7, TX7, 9)) rfl yG_2_136 yD_7_isNatural X hw rfl yGo_7 (Nat.le_trans (Nat.le_of_ble_eq_true rfl) hRf) (Nat.le_trans (Nat.le_of_ble_eq_true rfl) hRl) rfl hl.1 (Nat.le_of_ble_eq_true rfl) rfl dX2_baseValue_265 (fun v26 u H locs rv26 h hw => ?_)
    refine k_if_eq hx hb rv26 dX2_baseValue_268 (tgt := 275) rfl h (fun h => ?_) (fun h => ?_)
    · refine lv_iconst hx hb dX2_baseValue_275 (v := jI 0) rfl ?_
      exact hret _ _ _ _ _ _ (by decide) h hw dX2_baseValue_276
    · refine lv_iconst hx hb dX2_baseValue_271 (v := jI 1) rfl ?_
      refine lv_goto hx hb dX2_baseValue_272 (tgt := 276) rfl ?_
      exact hret _ _ _ _ _ _ (by decide) h hw dX2_baseValue_276
  refine br_sp h (fun ek h => ?_) (fun n29 h => ?_)
  · refine k_tabIn (tgt := 277) (off := 276) hx hb dX2_baseValue_1 ek (by decide) (by decide) rfl rfl ?_
    refine lv_aload_n hx hb dX2_baseValue_277 rfl (lv_at hl 0 rfl) ?_
    refine yg_2_53 X hw dX2_baseValue_278 ?_
    refine lv_iload_n hx hb dX2_baseValue_281 rfl (lv_at hl 2 rfl) ?_
    refine ycI (n := 1) (e_7_isSymbol ra1 h) 7 6 (r := (RX7, TX7, 9)) rfl yG_2_139 yD_7_isSymbol X hw rfl yGo_7 (Nat.le_trans (Nat.le_of_ble_eq_true rfl) hRf) (Nat.le_trans (Nat.le_of_ble_eq_true rfl) hRl) rfl hl.1 (Nat.le_of_ble_eq_true rfl) rfl dX2_baseValue_282 (fun v28 u H locs rv28 h hw => ?_)
    refine k_if_eq hx hb rv28 dX2_baseValue_285 (tgt := 292) rfl h (fun h => ?_) (fun h => ?_)
    · refine lv_iconst hx hb dX2_baseValue_292 (v := jI 0) rfl ?_
      exact hret _ _ _ _ _ _ (by decide) h hw dX2_baseValue_293
    · refine lv_iconst hx hb dX2_baseValue_288 (v := jI 1) rfl ?_
      refine lv_goto hx hb dX2_baseValue_289 (tgt := 293) rfl ?_
      exact hret _ _ _ _ _ _ (by decide) h hw dX2_baseValue_293
  refine br_sp h (fun ek h => ?_) (fun n33 h => ?_)
  · refine k_tabIn (tgt := 294) (off := 293) hx hb dX2_baseValue_1 ek (by decide) (by decide) rfl rfl ?_
    refine lv_aload_n hx hb dX2_baseValue_294 rfl (lv_at hl 0 rfl) ?_
    refine yg_2_53 X hw dX2_baseValue_295 ?_
    refine lv_aload_n hx hb dX2_baseValue_298 rfl (lv_at hl 0 rfl) ?_
    refine yg_2_53 X hw dX2_baseValue_299 ?_
    refine lv_iload_n hx hb dX2_baseValue_302 rfl (lv_at hl 2 rfl) ?_
    refine ycI (n := 1) (e_7_heightOf ra1 h) 7 6 (r := (RX7, TX7, 9)) rfl yG_2_142 yD_7_heightOf X hw rfl yGo_7 (Nat.le_trans (Nat.le_of_ble_eq_true rfl) hRf) (Nat.le_trans (Nat.le_of_ble_eq_true rfl) hRl) rfl hl.1 (Nat.le_of_ble_eq_true rfl) rfl dX2_baseValue_303 (fun v30 u H locs rv30 h hw => ?_)
    refine k_i2l hx hb rv30 dX2_baseValue_306 (fun r31 => ?_)
    refine ycI (n := 1) (e_7_made r31 h) 7 6 (r := (RX7, TX7, 9)) rfl yG_2_126 yD_7_made X hw rfl yGo_7 (Nat.le_trans (Nat.le_of_ble_eq_true rfl) hRf) (Nat.le_trans (Nat.le_of_ble_eq_true rfl) hRl) rfl hl.1 (Nat.le_of_ble_eq_true rfl) rfl dX2_baseValue_307 (fun v32 u H locs rv32 h hw => ?_)
    exact hret _ _ _ _ _ _ rv32 h hw dX2_baseValue_310
  refine k_tabOut (tgt := 311) hx hb ra0 dX2_baseValue_1 (by omega) rfl ?_
  refine lv_iload_n hx hb dX2_baseValue_311 rfl (lv_at hl 2 rfl) ?_
  refine k_if_ne hx hb ra1 dX2_baseValue_312 (tgt := 319) rfl h (fun h => ?_) (fun h => ?_)
  · refine lv_iconst hx hb dX2_baseValue_319 (v := jI 0) rfl ?_
    exact hret _ _ _ _ _ _ (by decide) h hw dX2_baseValue_320
  · refine lv_iconst hx hb dX2_baseValue_315 (v := jI 1) rfl ?_
    refine lv_goto hx hb dX2_baseValue_316 (tgt := 320) rfl ?_
    exact hret _ _ _ _ _ _ (by decide) h hw dX2_baseValue_320

end
theorem e_2_baseValue {l : Launch} {a0 : Int} {a1 : Int} {a2 : Int} {a3 : Int} (ra0 : inR a0) (ra1 : inR a1) (ra2 : inR a2) (ra3 : inR a3) {Q : Int → iST → Prop} {u : iST} (h : v_2_baseValue a0 a1 a2 a3 Q u) : yMI l yX2_baseValue (.code yX2_baseValue cX2_baseValue 9 (some .int) :: wsN) { frames := 1, cells := 0, slots := 0, locals := 30 } (fun ad => [.ref (ad 0 1), .int (jI a0), .int (jI a1), .int (jI a2), .int (jI a3)]) Q u := yMI_of (own := RX2) rfl (by decide +kernel) (fun _ => Nat.le_of_ble_eq_true rfl) (fun X hRf hRl hret hw hl => f_2_baseValue_s X hRf hRl hret ra0 ra1 ra2 ra3 hw hl h)

/-! ProofHouse$Evaluator.close -/
theorem dX2_close_0 : decode cX2_close 0 = .ok (.aload_n 0, 1) := by decide +kernel
theorem dX2_close_1 : decode cX2_close 1 = .ok (.dup, 1) := by decide +kernel
theorem dX2_close_2 : decode cX2_close 2 = .ok (.getfield 34, 3) := by decide +kernel
theorem dX2_close_5 : decode cX2_close 5 = .ok (.iconst 1, 1) := by decide +kernel
theorem dX2_close_6 : decode cX2_close 6 = .ok (.isub, 1) := by decide +kernel
theorem dX2_close_7 : decode cX2_close 7 = .ok (.putfield 34, 3) := by decide +kernel
theorem dX2_close_10 : decode cX2_close 10 = .ok (.aload_n 0, 1) := by decide +kernel
theorem dX2_close_11 : decode cX2_close 11 = .ok (.aload_n 0, 1) := by decide +kernel
theorem dX2_close_12 : decode cX2_close 12 = .ok (.getfield 18, 3) := by decide +kernel
theorem dX2_close_15 : decode cX2_close 15 = .ok (.aload_n 0, 1) := by decide +kernel
theorem dX2_close_16 : decode cX2_close 16 = .ok (.getfield 34, 3) := by decide +kernel
theorem dX2_close_19 : decode cX2_close 19 = .ok (.iaload, 1) := by decide +kernel
theorem dX2_close_20 : decode cX2_close 20 = .ok (.putfield 38, 3) := by decide +kernel
theorem dX2_close_23 : decode cX2_close 23 = .ok (.aload_n 0, 1) := by decide +kernel
theorem dX2_close_24 : decode cX2_close 24 = .ok (.getfield 31, 3) := by decide +kernel
theorem dX2_close_27 : decode cX2_close 27 = .ok (.aload_n 0, 1) := by decide +kernel
theorem dX2_close_28 : decode cX2_close 28 = .ok (.getfield 38, 3) := by decide +kernel
theorem dX2_close_31 : decode cX2_close 31 = .ok (.iload_n 1, 1) := by decide +kernel
theorem dX2_close_32 : decode cX2_close 32 = .ok (.iastore, 1) := by decide +kernel
theorem dX2_close_33 : decode cX2_close 33 = .ok (.aload_n 0, 1) := by decide +kernel
theorem dX2_close_34 : decode cX2_close 34 = .ok (.dup, 1) := by decide +kernel
theorem dX2_close_35 : decode cX2_close 35 = .ok (.getfield 38, 3) := by decide +kernel
theorem dX2_close_38 : decode cX2_close 38 = .ok (.iconst 1, 1) := by decide +kernel
theorem dX2_close_39 : decode cX2_close 39 = .ok (.iadd, 1) := by decide +kernel
theorem dX2_close_40 : decode cX2_close 40 = .ok (.putfield 38, 3) := by decide +kernel
theorem dX2_close_43 : decode cX2_close 43 = .ok (.aload_n 0, 1) := by decide +kernel
theorem dX2_close_44 : decode cX2_close 44 = .ok (.aload_n 0, 1) := by decide +kernel
theorem dX2_close_45 : decode cX2_close 45 = .ok (.getfield 25, 3) := by decide +kernel
theorem dX2_close_48 : decode cX2_close 48 = .ok (.aload_n 0, 1) := by decide +kernel
theorem dX2_close_49 : decode cX2_close 49 = .ok (.getfield 34, 3) := by decide +kernel
theorem dX2_close_52 : decode cX2_close 52 = .ok (.iaload, 1) := by decide +kernel
theorem dX2_close_53 : decode cX2_close 53 = .ok (.putfield 41, 3) := by decide +kernel
theorem dX2_close_56 : decode cX2_close 56 = .ok (.aload_n 0, 1) := by decide +kernel
theorem dX2_close_57 : decode cX2_close 57 = .ok (.aload_n 0, 1) := by decide +kernel
theorem dX2_close_58 : decode cX2_close 58 = .ok (.getfield 28, 3) := by decide +kernel
theorem dX2_close_61 : decode cX2_close 61 = .ok (.aload_n 0, 1) := by decide +kernel
theorem dX2_close_62 : decode cX2_close 62 = .ok (.getfield 34, 3) := by decide +kernel
theorem dX2_close_65 : decode cX2_close 65 = .ok (.iaload, 1) := by decide +kernel
theorem dX2_close_66 : decode cX2_close 66 = .ok (.putfield 44, 3) := by decide +kernel
theorem dX2_close_69 : decode cX2_close 69 = .ok (.return_, 1) := by decide +kernel

section
variable {p : Program} {l : Launch} {e : Env} {R : Room} {s : State} {m : MethodId} {args : Array Value} {below : List Frame} {meth : Method} {c : Code} {H : Heap} {locs : List Loc} {Qf : State → Prop}
variable {ls : Array Slot} {D : va_G} {ca : Nat → ClassId} {A : Nat → Prop} {ad : Nat → Nat → Nat} {u : iST}
def v_2_close (a0 : Int) (Q : iST → Prop) (u : iST) : Prop :=
  rd (u.1 4) (fun v1 => 
  ov (v1 - 1) (
  sw (iI u 4 (v1 - 1)) (fun u => 
  rd (u.1 4) (fun v3 => 
  bd v3 300 (rd (u.2.1 18 v3) (fun v4 => 
  sw (iI u 5 v4) (fun u => 
  rd (u.1 5) (fun v5 => 
  bd v5 1803 (sw (iA u 22 v5 a0) (fun u => 
  rd (u.1 5) (fun v6 => 
  ov (v6 + 1) (
  sw (iI u 5 (v6 + 1)) (fun u => 
  rd (u.1 4) (fun v8 => 
  bd v8 300 (rd (u.2.1 20 v8) (fun v9 => 
  sw (iI u 6 v9) (fun u => 
  rd (u.1 4) (fun v10 => 
  bd v10 300 (rd (u.2.1 21 v10) (fun v11 => 
  sw (iI u 7 v11) (fun u => 
  Q u)))))))))))))))))))))
set_option maxRecDepth 20000 in
set_option maxHeartbeats 4000000 in
theorem f_2_close_s (X : yX RX2 p m c cX2_close 2 s args D ca ad A) (hRf : 0 ≤ R.frames) (hRl : 0 ≤ R.locals) {Q : iST → Prop} (hret : ∀ (u : iST) (H : Heap) (locs : List Loc) (ls : Array Slot) (pc : Nat), Q u → yW D ca A ad s H locs u → decode cX2_close pc = .ok (.return_, 1) → W p l e R s m args below meth c H locs 0 0 Qf (F0 m pc ls [])) {a0 : Int} (ra0 : inR a0) (hw : yW D ca A ad s H locs u) (hl : lv_has ls 2 [(0, .ref (ad 0 1)), (1, .int (jI a0))]) (h : v_2_close a0 Q u) : W p l e R s m args below meth c H locs 0 0 Qf (F0 m 0 ls []) := by
  have hx := X.1.1
  have hb := X.1.2.1
  unfold v_2_close at h
  refine lv_aload_n hx hb dX2_close_0 rfl (lv_at hl 0 rfl) ?_
  refine lv_dup hx hb dX2_close_1 rfl ?_
  refine yg_2_34 X hw dX2_close_2 h (fun v1 rv1 h => ?_)
  refine lv_iconst hx hb dX2_close_5 (v := jI 1) rfl ?_
  refine k_isub hx hb dX2_close_6 h (fun r2 h => ?_)
  refine yp_2_34 X hw r2 dX2_close_7 h (fun H locs u hw h => ?_)
  refine lv_aload_n hx hb dX2_close_10 rfl (lv_at hl 0 rfl) ?_
  refine lv_aload_n hx hb dX2_close_11 rfl (lv_at hl 0 rfl) ?_
  refine yg_2_18 X hw dX2_close_12 ?_
  refine lv_aload_n hx hb dX2_close_15 rfl (lv_at hl 0 rfl) ?_
  refine yg_2_34 X hw dX2_close_16 h (fun v3 rv3 h => ?_)
  refine yl_18 X hw rv3 dX2_close_19 h (fun v4 rv4 h => ?_)
  refine yp_2_38 X hw rv4 dX2_close_20 h (fun H locs u hw h => ?_)
  refine lv_aload_n hx hb dX2_close_23 rfl (lv_at hl 0 rfl) ?_
  refine yg_2_31 X hw dX2_close_24 ?_
  refine lv_aload_n hx hb dX2_close_27 rfl (lv_at hl 0 rfl) ?_
  refine yg_2_38 X hw dX2_close_28 h (fun v5 rv5 h => ?_)
  refine lv_iload_n hx hb dX2_close_31 rfl (lv_at hl 1 rfl) ?_
  refine yt_22 X hw rv5 ra0 dX2_close_32 h (fun H locs u hw h => ?_)
  refine lv_aload_n hx hb dX2_close_33 rfl (lv_at hl 0 rfl) ?_
  refine lv_dup hx hb dX2_close_34 rfl ?_
  refine yg_2_38 X hw dX2_close_35 h (fun v6 rv6 h => ?_)
  refine lv_iconst hx hb dX2_close_38 (v := jI 1) rfl ?_
  refine k_iadd hx hb dX2_close_39 h (fun r7 h => ?_)
  refine yp_2_38 X hw r7 dX2_close_40 h (fun H locs u hw h => ?_)
  refine lv_aload_n hx hb dX2_close_43 rfl (lv_at hl 0 rfl) ?_
  refine lv_aload_n hx hb dX2_close_44 rfl (lv_at hl 0 rfl) ?_
  refine yg_2_25 X hw dX2_close_45 ?_
  refine lv_aload_n hx hb dX2_close_48 rfl (lv_at hl 0 rfl) ?_
  refine yg_2_34 X hw dX2_close_49 h (fun v8 rv8 h => ?_)
  refine yl_20 X hw rv8 dX2_close_52 h (fun v9 rv9 h => ?_)
  refine yp_2_41 X hw rv9 dX2_close_53 h (fun H locs u hw h => ?_)
  refine lv_aload_n hx hb dX2_close_56 rfl (lv_at hl 0 rfl) ?_
  refine lv_aload_n hx hb dX2_close_57 rfl (lv_at hl 0 rfl) ?_
  refine yg_2_28 X hw dX2_close_58 ?_
  refine lv_aload_n hx hb dX2_close_61 rfl (lv_at hl 0 rfl) ?_
  refine yg_2_34 X hw dX2_close_62 h (fun v10 rv10 h => ?_)
  refine yl_21 X hw rv10 dX2_close_65 h (fun v11 rv11 h => ?_)
  refine yp_2_44 X hw rv11 dX2_close_66 h (fun H locs u hw h => ?_)
  exact hret _ _ _ _ _ h hw dX2_close_69

end
theorem e_2_close {l : Launch} {a0 : Int} (ra0 : inR a0) {Q : iST → Prop} {u : iST} (h : v_2_close a0 Q u) : yMV l yX2_close (.code yX2_close cX2_close 2 none :: wsN) { frames := 0, cells := 0, slots := 0, locals := 0 } (fun ad => [.ref (ad 0 1), .int (jI a0)]) Q u := yMV_of (own := RX2) rfl (by decide +kernel) (fun _ => Nat.le_of_ble_eq_true rfl) (fun X hRf hRl hret hw hl => f_2_close_s X hRf hRl hret ra0 hw hl h)

/-! ProofHouse$Evaluator.goOn -/
theorem dX2_goOn_0 : decode cX2_goOn 0 = .ok (.aload_n 0, 1) := by decide +kernel
theorem dX2_goOn_1 : decode cX2_goOn 1 = .ok (.getfield 21, 3) := by decide +kernel
theorem dX2_goOn_4 : decode cX2_goOn 4 = .ok (.iload_n 1, 1) := by decide +kernel
theorem dX2_goOn_5 : decode cX2_goOn 5 = .ok (.baload, 1) := by decide +kernel
theorem dX2_goOn_6 : decode cX2_goOn 6 = .ok (.ifCond .eq 31, 3) := by decide +kernel
theorem dX2_goOn_9 : decode cX2_goOn 9 = .ok (.aload_n 0, 1) := by decide +kernel
theorem dX2_goOn_10 : decode cX2_goOn 10 = .ok (.aload_n 0, 1) := by decide +kernel
theorem dX2_goOn_11 : decode cX2_goOn 11 = .ok (.getfield 38, 3) := by decide +kernel
theorem dX2_goOn_14 : decode cX2_goOn 14 = .ok (.ifCond .le 17, 3) := by decide +kernel
theorem dX2_goOn_17 : decode cX2_goOn 17 = .ok (.aload_n 0, 1) := by decide +kernel
theorem dX2_goOn_18 : decode cX2_goOn 18 = .ok (.getfield 31, 3) := by decide +kernel
theorem dX2_goOn_21 : decode cX2_goOn 21 = .ok (.aload_n 0, 1) := by decide +kernel
theorem dX2_goOn_22 : decode cX2_goOn 22 = .ok (.getfield 38, 3) := by decide +kernel
theorem dX2_goOn_25 : decode cX2_goOn 25 = .ok (.iconst 1, 1) := by decide +kernel
theorem dX2_goOn_26 : decode cX2_goOn 26 = .ok (.isub, 1) := by decide +kernel
theorem dX2_goOn_27 : decode cX2_goOn 27 = .ok (.iaload, 1) := by decide +kernel
theorem dX2_goOn_28 : decode cX2_goOn 28 = .ok (.goto 4, 3) := by decide +kernel
theorem dX2_goOn_31 : decode cX2_goOn 31 = .ok (.iconst 0, 1) := by decide +kernel
theorem dX2_goOn_32 : decode cX2_goOn 32 = .ok (.invokevirtual 92, 3) := by decide +kernel
theorem dX2_goOn_35 : decode cX2_goOn 35 = .ok (.iconst (-1), 1) := by decide +kernel
theorem dX2_goOn_36 : decode cX2_goOn 36 = .ok (.ireturn, 1) := by decide +kernel
theorem dX2_goOn_37 : decode cX2_goOn 37 = .ok (.aload_n 0, 1) := by decide +kernel
theorem dX2_goOn_38 : decode cX2_goOn 38 = .ok (.getfield 15, 3) := by decide +kernel
theorem dX2_goOn_41 : decode cX2_goOn 41 = .ok (.iload_n 1, 1) := by decide +kernel
theorem dX2_goOn_42 : decode cX2_goOn 42 = .ok (.iaload, 1) := by decide +kernel
theorem dX2_goOn_43 : decode cX2_goOn 43 = .ok (.istore_n 2, 1) := by decide +kernel
theorem dX2_goOn_44 : decode cX2_goOn 44 = .ok (.aload_n 0, 1) := by decide +kernel
theorem dX2_goOn_45 : decode cX2_goOn 45 = .ok (.getfield 53, 3) := by decide +kernel
theorem dX2_goOn_48 : decode cX2_goOn 48 = .ok (.iload_n 2, 1) := by decide +kernel
theorem dX2_goOn_49 : decode cX2_goOn 49 = .ok (.invokevirtual 98, 3) := by decide +kernel
theorem dX2_goOn_52 : decode cX2_goOn 52 = .ok (.ifCond .ne 62, 3) := by decide +kernel
theorem dX2_goOn_55 : decode cX2_goOn 55 = .ok (.aload_n 0, 1) := by decide +kernel
theorem dX2_goOn_56 : decode cX2_goOn 56 = .ok (.getfield 21, 3) := by decide +kernel
theorem dX2_goOn_59 : decode cX2_goOn 59 = .ok (.iload_n 1, 1) := by decide +kernel
theorem dX2_goOn_60 : decode cX2_goOn 60 = .ok (.iconst 1, 1) := by decide +kernel
theorem dX2_goOn_61 : decode cX2_goOn 61 = .ok (.bastore, 1) := by decide +kernel
theorem dX2_goOn_62 : decode cX2_goOn 62 = .ok (.aload_n 0, 1) := by decide +kernel
theorem dX2_goOn_63 : decode cX2_goOn 63 = .ok (.aload_n 0, 1) := by decide +kernel
theorem dX2_goOn_64 : decode cX2_goOn 64 = .ok (.getfield 57, 3) := by decide +kernel
theorem dX2_goOn_67 : decode cX2_goOn 67 = .ok (.aload_n 0, 1) := by decide +kernel
theorem dX2_goOn_68 : decode cX2_goOn 68 = .ok (.getfield 11, 3) := by decide +kernel
theorem dX2_goOn_71 : decode cX2_goOn 71 = .ok (.iload_n 1, 1) := by decide +kernel
theorem dX2_goOn_72 : decode cX2_goOn 72 = .ok (.iaload, 1) := by decide +kernel
theorem dX2_goOn_73 : decode cX2_goOn 73 = .ok (.invokevirtual 116, 3) := by decide +kernel
theorem dX2_goOn_76 : decode cX2_goOn 76 = .ok (.putfield 41, 3) := by decide +kernel
theorem dX2_goOn_79 : decode cX2_goOn 79 = .ok (.aload_n 0, 1) := by decide +kernel
theorem dX2_goOn_80 : decode cX2_goOn 80 = .ok (.aload_n 0, 1) := by decide +kernel
theorem dX2_goOn_81 : decode cX2_goOn 81 = .ok (.getfield 18, 3) := by decide +kernel
theorem dX2_goOn_84 : decode cX2_goOn 84 = .ok (.iload_n 1, 1) := by decide +kernel
theorem dX2_goOn_85 : decode cX2_goOn 85 = .ok (.iaload, 1) := by decide +kernel
theorem dX2_goOn_86 : decode cX2_goOn 86 = .ok (.putfield 44, 3) := by decide +kernel
theorem dX2_goOn_89 : decode cX2_goOn 89 = .ok (.aload_n 0, 1) := by decide +kernel
theorem dX2_goOn_90 : decode cX2_goOn 90 = .ok (.getfield 41, 3) := by decide +kernel
theorem dX2_goOn_93 : decode cX2_goOn 93 = .ok (.iconst (-1), 1) := by decide +kernel
theorem dX2_goOn_94 : decode cX2_goOn 94 = .ok (.if_icmp .ne 7, 3) := by decide +kernel
theorem dX2_goOn_97 : decode cX2_goOn 97 = .ok (.iconst 0, 1) := by decide +kernel
theorem dX2_goOn_98 : decode cX2_goOn 98 = .ok (.goto 15, 3) := by decide +kernel
theorem dX2_goOn_101 : decode cX2_goOn 101 = .ok (.aload_n 0, 1) := by decide +kernel
theorem dX2_goOn_102 : decode cX2_goOn 102 = .ok (.getfield 57, 3) := by decide +kernel
theorem dX2_goOn_105 : decode cX2_goOn 105 = .ok (.getfield 119, 3) := by decide +kernel
theorem dX2_goOn_108 : decode cX2_goOn 108 = .ok (.aload_n 0, 1) := by decide +kernel
theorem dX2_goOn_109 : decode cX2_goOn 109 = .ok (.getfield 41, 3) := by decide +kernel
theorem dX2_goOn_112 : decode cX2_goOn 112 = .ok (.iaload, 1) := by decide +kernel
theorem dX2_goOn_113 : decode cX2_goOn 113 = .ok (.ireturn, 1) := by decide +kernel
theorem dX2_goOn_114 : decode cX2_goOn 114 = .ok (.aload_n 0, 1) := by decide +kernel
theorem dX2_goOn_115 : decode cX2_goOn 115 = .ok (.getfield 11, 3) := by decide +kernel
theorem dX2_goOn_118 : decode cX2_goOn 118 = .ok (.iload_n 1, 1) := by decide +kernel
theorem dX2_goOn_119 : decode cX2_goOn 119 = .ok (.iaload, 1) := by decide +kernel
theorem dX2_goOn_120 : decode cX2_goOn 120 = .ok (.iconst 3, 1) := by decide +kernel
theorem dX2_goOn_121 : decode cX2_goOn 121 = .ok (.if_icmp .ne 72, 3) := by decide +kernel
theorem dX2_goOn_124 : decode cX2_goOn 124 = .ok (.aload_n 0, 1) := by decide +kernel
theorem dX2_goOn_125 : decode cX2_goOn 125 = .ok (.getfield 38, 3) := by decide +kernel
theorem dX2_goOn_128 : decode cX2_goOn 128 = .ok (.aload_n 0, 1) := by decide +kernel
theorem dX2_goOn_129 : decode cX2_goOn 129 = .ok (.getfield 18, 3) := by decide +kernel
theorem dX2_goOn_132 : decode cX2_goOn 132 = .ok (.iload_n 1, 1) := by decide +kernel
theorem dX2_goOn_133 : decode cX2_goOn 133 = .ok (.iaload, 1) := by decide +kernel
theorem dX2_goOn_134 : decode cX2_goOn 134 = .ok (.if_icmp .le 59, 3) := by decide +kernel
theorem dX2_goOn_137 : decode cX2_goOn 137 = .ok (.aload_n 0, 1) := by decide +kernel
theorem dX2_goOn_138 : decode cX2_goOn 138 = .ok (.aload_n 0, 1) := by decide +kernel
theorem dX2_goOn_139 : decode cX2_goOn 139 = .ok (.getfield 18, 3) := by decide +kernel
theorem dX2_goOn_142 : decode cX2_goOn 142 = .ok (.iload_n 1, 1) := by decide +kernel
theorem dX2_goOn_143 : decode cX2_goOn 143 = .ok (.iaload, 1) := by decide +kernel
theorem dX2_goOn_144 : decode cX2_goOn 144 = .ok (.putfield 38, 3) := by decide +kernel
theorem dX2_goOn_147 : decode cX2_goOn 147 = .ok (.aload_n 0, 1) := by decide +kernel
theorem dX2_goOn_148 : decode cX2_goOn 148 = .ok (.getfield 21, 3) := by decide +kernel
theorem dX2_goOn_151 : decode cX2_goOn 151 = .ok (.iload_n 1, 1) := by decide +kernel
theorem dX2_goOn_152 : decode cX2_goOn 152 = .ok (.iconst 1, 1) := by decide +kernel
theorem dX2_goOn_153 : decode cX2_goOn 153 = .ok (.bastore, 1) := by decide +kernel
theorem dX2_goOn_154 : decode cX2_goOn 154 = .ok (.aload_n 0, 1) := by decide +kernel
theorem dX2_goOn_155 : decode cX2_goOn 155 = .ok (.getfield 31, 3) := by decide +kernel
theorem dX2_goOn_158 : decode cX2_goOn 158 = .ok (.aload_n 0, 1) := by decide +kernel
theorem dX2_goOn_159 : decode cX2_goOn 159 = .ok (.getfield 38, 3) := by decide +kernel
theorem dX2_goOn_162 : decode cX2_goOn 162 = .ok (.iaload, 1) := by decide +kernel
theorem dX2_goOn_163 : decode cX2_goOn 163 = .ok (.ifCond .eq 14, 3) := by decide +kernel
theorem dX2_goOn_166 : decode cX2_goOn 166 = .ok (.aload_n 0, 1) := by decide +kernel
theorem dX2_goOn_167 : decode cX2_goOn 167 = .ok (.getfield 53, 3) := by decide +kernel
theorem dX2_goOn_170 : decode cX2_goOn 170 = .ok (.iload_n 2, 1) := by decide +kernel
theorem dX2_goOn_171 : decode cX2_goOn 171 = .ok (.invokevirtual 105, 3) := by decide +kernel
theorem dX2_goOn_174 : decode cX2_goOn 174 = .ok (.goto 18, 3) := by decide +kernel
theorem dX2_goOn_177 : decode cX2_goOn 177 = .ok (.aload_n 0, 1) := by decide +kernel
theorem dX2_goOn_178 : decode cX2_goOn 178 = .ok (.getfield 53, 3) := by decide +kernel
theorem dX2_goOn_181 : decode cX2_goOn 181 = .ok (.aload_n 0, 1) := by decide +kernel
theorem dX2_goOn_182 : decode cX2_goOn 182 = .ok (.getfield 53, 3) := by decide +kernel
theorem dX2_goOn_185 : decode cX2_goOn 185 = .ok (.iload_n 2, 1) := by decide +kernel
theorem dX2_goOn_186 : decode cX2_goOn 186 = .ok (.invokevirtual 108, 3) := by decide +kernel
theorem dX2_goOn_189 : decode cX2_goOn 189 = .ok (.invokevirtual 105, 3) := by decide +kernel
theorem dX2_goOn_192 : decode cX2_goOn 192 = .ok (.ireturn, 1) := by decide +kernel
theorem dX2_goOn_193 : decode cX2_goOn 193 = .ok (.aload_n 0, 1) := by decide +kernel
theorem dX2_goOn_194 : decode cX2_goOn 194 = .ok (.getfield 15, 3) := by decide +kernel
theorem dX2_goOn_197 : decode cX2_goOn 197 = .ok (.iload_n 1, 1) := by decide +kernel
theorem dX2_goOn_198 : decode cX2_goOn 198 = .ok (.aload_n 0, 1) := by decide +kernel
theorem dX2_goOn_199 : decode cX2_goOn 199 = .ok (.getfield 53, 3) := by decide +kernel
theorem dX2_goOn_202 : decode cX2_goOn 202 = .ok (.iload_n 2, 1) := by decide +kernel
theorem dX2_goOn_203 : decode cX2_goOn 203 = .ok (.invokevirtual 108, 3) := by decide +kernel
theorem dX2_goOn_206 : decode cX2_goOn 206 = .ok (.iastore, 1) := by decide +kernel
theorem dX2_goOn_207 : decode cX2_goOn 207 = .ok (.aload_n 0, 1) := by decide +kernel
theorem dX2_goOn_208 : decode cX2_goOn 208 = .ok (.getfield 53, 3) := by decide +kernel
theorem dX2_goOn_211 : decode cX2_goOn 211 = .ok (.iload_n 2, 1) := by decide +kernel
theorem dX2_goOn_212 : decode cX2_goOn 212 = .ok (.invokevirtual 105, 3) := by decide +kernel
theorem dX2_goOn_215 : decode cX2_goOn 215 = .ok (.ireturn, 1) := by decide +kernel

section
variable {p : Program} {l : Launch} {e : Env} {R : Room} {s : State} {m : MethodId} {args : Array Value} {below : List Frame} {meth : Method} {c : Code} {H : Heap} {locs : List Loc} {Qf : State → Prop}
variable {ls : Array Slot} {D : va_G} {ca : Nat → ClassId} {A : Nat → Prop} {ad : Nat → Nat → Nat} {u : iST}
def v_2_goOn_193 (Q : Int → iST → Prop) (x1 : Int) (x2 : Int) (u : iST) : Prop :=
  v_7_right x2 (fun v5 u => 
  bd x1 300 (sw (iA u 17 x1 v5) (fun u => 
  v_7_left x2 (fun v6 u => 
  Q v6 u) u))) u
set_option maxRecDepth 20000 in
set_option maxHeartbeats 4000000 in
theorem f_2_goOn_193 (X : yX RX2 p m c cX2_goOn 3 s args D ca ad A) (hRf : 1 ≤ R.frames) (hRl : 22 ≤ R.locals) {Q : Int → iST → Prop} (hret : ∀ (v : Int) (u : iST) (H : Heap) (locs : List Loc) (ls : Array Slot) (pc : Nat), inR v → Q v u → yW D ca A ad s H locs u → decode cX2_goOn pc = .ok (.ireturn, 1) → W p l e R s m args below meth c H locs 0 0 Qf (F0 m pc ls [.int (jI v)])) {x1 x2 : Int} (rx1 : inR x1) (rx2 : inR x2) (hw : yW D ca A ad s H locs u) (hl : lv_has ls 3 [(0, .ref (ad 0 1)), (1, .int (jI x1)), (2, .int (jI x2))]) (h : v_2_goOn_193 Q x1 x2 u) : W p l e R s m args below meth c H locs 0 0 Qf (F0 m 193 ls []) := by
  have hx := X.1.1
  have hb := X.1.2.1
  unfold v_2_goOn_193 at h
  refine lv_aload_n hx hb dX2_goOn_193 rfl (lv_at hl 0 rfl) ?_
  refine yg_2_15 X hw dX2_goOn_194 ?_
  refine lv_iload_n hx hb dX2_goOn_197 rfl (lv_at hl 1 rfl) ?_
  refine lv_aload_n hx hb dX2_goOn_198 rfl (lv_at hl 0 rfl) ?_
  refine yg_2_53 X hw dX2_goOn_199 ?_
  refine lv_iload_n hx hb dX2_goOn_202 rfl (lv_at hl 2 rfl) ?_
  refine ycI (n := 1) (e_7_right rx2 h) 7 6 (r := (RX7, TX7, 9)) rfl yG_2_108 yD_7_right X hw rfl yGo_7 (Nat.le_trans (Nat.le_of_ble_eq_true rfl) hRf) (Nat.le_trans (Nat.le_of_ble_eq_true rfl) hRl) rfl hl.1 (Nat.le_of_ble_eq_true rfl) rfl dX2_goOn_203 (fun v5 u H locs rv5 h hw => ?_)
  refine yt_17 X hw rx1 rv5 dX2_goOn_206 h (fun H locs u hw h => ?_)
  refine lv_aload_n hx hb dX2_goOn_207 rfl (lv_at hl 0 rfl) ?_
  refine yg_2_53 X hw dX2_goOn_208 ?_
  refine lv_iload_n hx hb dX2_goOn_211 rfl (lv_at hl 2 rfl) ?_
  refine ycI (n := 1) (e_7_left rx2 h) 7 6 (r := (RX7, TX7, 9)) rfl yG_2_105 yD_7_left X hw rfl yGo_7 (Nat.le_trans (Nat.le_of_ble_eq_true rfl) hRf) (Nat.le_trans (Nat.le_of_ble_eq_true rfl) hRl) rfl hl.1 (Nat.le_of_ble_eq_true rfl) rfl dX2_goOn_212 (fun v6 u H locs rv6 h hw => ?_)
  exact hret _ _ _ _ _ _ rv6 h hw dX2_goOn_215

def v_2_goOn_32 (Q : Int → iST → Prop) (y1 : Int) (u : iST) : Prop :=
  v_2_close y1 (fun u => 
  Q (-1) u) u
set_option maxRecDepth 20000 in
set_option maxHeartbeats 4000000 in
theorem f_2_goOn_32 (X : yX RX2 p m c cX2_goOn 3 s args D ca ad A) (hRf : 1 ≤ R.frames) (hRl : 22 ≤ R.locals) {Q : Int → iST → Prop} (hret : ∀ (v : Int) (u : iST) (H : Heap) (locs : List Loc) (ls : Array Slot) (pc : Nat), inR v → Q v u → yW D ca A ad s H locs u → decode cX2_goOn pc = .ok (.ireturn, 1) → W p l e R s m args below meth c H locs 0 0 Qf (F0 m pc ls [.int (jI v)])) {y1 : Int} (ry1 : inR y1) (hw : yW D ca A ad s H locs u) (hl : lv_has ls 3 [(0, .ref (ad 0 1))]) (h : v_2_goOn_32 Q y1 u) : W p l e R s m args below meth c H locs 0 0 Qf (F0 m 32 ls [.int (jI y1), .ref (ad 0 1)]) := by
  have hx := X.1.1
  have hb := X.1.2.1
  unfold v_2_goOn_32 at h
  refine ycV (n := 1) (e_2_close ry1 h) 2 1 (r := (RX2, TX2, 15)) rfl yG_2_92 yD_2_close X hw rfl yGo_2 (Nat.le_trans (Nat.le_of_ble_eq_true rfl) hRf) (Nat.le_trans (Nat.le_of_ble_eq_true rfl) hRl) rfl hl.1 (Nat.le_of_ble_eq_true rfl) rfl dX2_goOn_32 (fun u H locs h hw => ?_)
  refine lv_iconst hx hb dX2_goOn_35 (v := jI (-1)) rfl ?_
  exact hret _ _ _ _ _ _ (by decide) h hw dX2_goOn_36

def v_2_goOn (a0 : Int) (Q : Int → iST → Prop) (u : iST) : Prop :=
  bd a0 300 (rz (u.2.1 19 a0) (fun v1 => 
  br (v1 = 0) (
    bd a0 300 (rd (u.2.1 17 a0) (fun v2 => 
    v_7_isPair v2 (fun v3 u => 
    br (v3 ≠ 0) (
      bd a0 300 (rd (u.2.1 16 a0) (fun v4 => 
      br (v4 ≠ 3) (
        v_2_goOn_193 Q a0 v2 u) (
        rd (u.1 5) (fun v7 => 
        bd a0 300 (rd (u.2.1 18 a0) (fun v8 => 
        br (v7 ≤ v8) (
          v_2_goOn_193 Q a0 v2 u) (
          bd a0 300 (rd (u.2.1 18 a0) (fun v9 => 
          sw (iI u 5 v9) (fun u => 
          zt 1 (bd a0 300 (sw (iA u 19 a0 1) (fun u => 
          rd (u.1 5) (fun v10 => 
          bd v10 1803 (rd (u.2.1 22 v10) (fun v11 => 
          br (v11 = 0) (
            v_7_right v2 (fun v12 u => 
            v_7_left v12 (fun v13 u => 
            Q v13 u) u) u) (
            v_7_left v2 (fun v14 u => 
            Q v14 u) u)))))))))))))))))) (
      zt 1 (bd a0 300 (sw (iA u 19 a0 1) (fun u => 
      bd a0 300 (rd (u.2.1 16 a0) (fun v15 => 
      v_0_functionOf v15 (fun v16 u => 
      sw (iI u 6 v16) (fun u => 
      bd a0 300 (rd (u.2.1 18 a0) (fun v17 => 
      sw (iI u 7 v17) (fun u => 
      rd (u.1 6) (fun v18 => 
      br (v18 ≠ (-1)) (
        rd (u.1 6) (fun v19 => 
        bd v19 40 (rd (u.2.1 3 v19) (fun v20 => 
        Q v20 u)))) (
        Q 0 u))))))) u))))))) u))) (
    rd (u.1 5) (fun v21 => 
    br (v21 ≤ 0) (
      v_2_goOn_32 Q 0 u) (
      rd (u.1 5) (fun v23 => 
      ov (v23 - 1) (
      bd (v23 - 1) 1803 (rd (u.2.1 22 (v23 - 1)) (fun v25 => 
      v_2_goOn_32 Q v25 u)))))))))
set_option maxRecDepth 20000 in
set_option maxHeartbeats 4000000 in
theorem f_2_goOn_s (X : yX RX2 p m c cX2_goOn 3 s args D ca ad A) (hRf : 1 ≤ R.frames) (hRl : 22 ≤ R.locals) {Q : Int → iST → Prop} (hret : ∀ (v : Int) (u : iST) (H : Heap) (locs : List Loc) (ls : Array Slot) (pc : Nat), inR v → Q v u → yW D ca A ad s H locs u → decode cX2_goOn pc = .ok (.ireturn, 1) → W p l e R s m args below meth c H locs 0 0 Qf (F0 m pc ls [.int (jI v)])) {a0 : Int} (ra0 : inR a0) (hw : yW D ca A ad s H locs u) (hl : lv_has ls 3 [(0, .ref (ad 0 1)), (1, .int (jI a0))]) (h : v_2_goOn a0 Q u) : W p l e R s m args below meth c H locs 0 0 Qf (F0 m 0 ls []) := by
  have hx := X.1.1
  have hb := X.1.2.1
  unfold v_2_goOn at h
  refine lv_aload_n hx hb dX2_goOn_0 rfl (lv_at hl 0 rfl) ?_
  refine yg_2_21 X hw dX2_goOn_1 ?_
  refine lv_iload_n hx hb dX2_goOn_4 rfl (lv_at hl 1 rfl) ?_
  refine yl_19 X hw ra0 dX2_goOn_5 h (fun v1 rv1 h => ?_)
  refine k_if_eq hx hb (bz_in rv1) dX2_goOn_6 (tgt := 37) rfl h (fun h => ?_) (fun h => ?_)
  · refine lv_aload_n hx hb dX2_goOn_37 rfl (lv_at hl 0 rfl) ?_
    refine yg_2_15 X hw dX2_goOn_38 ?_
    refine lv_iload_n hx hb dX2_goOn_41 rfl (lv_at hl 1 rfl) ?_
    refine yl_17 X hw ra0 dX2_goOn_42 h (fun v2 rv2 h => ?_)
    refine lv_istore_n hx hb dX2_goOn_43 rfl hl (by decide) rfl (fun ls hl => ?_)
    have hl : lv_has ls 3 [(2, .int (jI v2)), (0, .ref (ad 0 1)), (1, .int (jI a0))] := hl
    refine lv_aload_n hx hb dX2_goOn_44 rfl (lv_at hl 1 rfl) ?_
    refine yg_2_53 X hw dX2_goOn_45 ?_
    refine lv_iload_n hx hb dX2_goOn_48 rfl (lv_at hl 0 rfl) ?_
    refine ycI (n := 1) (e_7_isPair rv2 h) 7 6 (r := (RX7, TX7, 9)) rfl yG_2_98 yD_7_isPair X hw rfl yGo_7 (Nat.le_trans (Nat.le_of_ble_eq_true rfl) hRf) (Nat.le_trans (Nat.le_of_ble_eq_true rfl) hRl) rfl hl.1 (Nat.le_of_ble_eq_true rfl) rfl dX2_goOn_49 (fun v3 u H locs rv3 h hw => ?_)
    refine k_if_ne hx hb rv3 dX2_goOn_52 (tgt := 114) rfl h (fun h => ?_) (fun h => ?_)
    · refine lv_aload_n hx hb dX2_goOn_114 rfl (lv_at hl 1 rfl) ?_
      refine yg_2_11 X hw dX2_goOn_115 ?_
      refine lv_iload_n hx hb dX2_goOn_118 rfl (lv_at hl 2 rfl) ?_
      refine yl_16 X hw ra0 dX2_goOn_119 h (fun v4 rv4 h => ?_)
      refine lv_iconst hx hb dX2_goOn_120 (v := jI 3) rfl ?_
      refine k_icmp_ne hx hb rv4 (by decide) dX2_goOn_121 (tgt := 193) rfl h (fun h => ?_) (fun h => ?_)
      · exact f_2_goOn_193 X hRf hRl hret ra0 rv2 hw (lv_sub hl [1, 2, 0] rfl) h
      · refine lv_aload_n hx hb dX2_goOn_124 rfl (lv_at hl 1 rfl) ?_
        refine yg_2_38 X hw dX2_goOn_125 h (fun v7 rv7 h => ?_)
        refine lv_aload_n hx hb dX2_goOn_128 rfl (lv_at hl 1 rfl) ?_
        refine yg_2_18 X hw dX2_goOn_129 ?_
        refine lv_iload_n hx hb dX2_goOn_132 rfl (lv_at hl 2 rfl) ?_
        refine yl_18 X hw ra0 dX2_goOn_133 h (fun v8 rv8 h => ?_)
        refine k_icmp_le hx hb rv7 rv8 dX2_goOn_134 (tgt := 193) rfl h (fun h => ?_) (fun h => ?_)
        · exact f_2_goOn_193 X hRf hRl hret ra0 rv2 hw (lv_sub hl [1, 2, 0] rfl) h
        · refine lv_aload_n hx hb dX2_goOn_137 rfl (lv_at hl 1 rfl) ?_
          refine lv_aload_n hx hb dX2_goOn_138 rfl (lv_at hl 1 rfl) ?_
          refine yg_2_18 X hw dX2_goOn_139 ?_
          refine lv_iload_n hx hb dX2_goOn_142 rfl (lv_at hl 2 rfl) ?_
          refine yl_18 X hw ra0 dX2_goOn_143 h (fun v9 rv9 h => ?_)
          refine yp_2_38 X hw rv9 dX2_goOn_144 h (fun H locs u hw h => ?_)
          refine lv_aload_n hx hb dX2_goOn_147 rfl (lv_at hl 1 rfl) ?_
          refine yg_2_21 X hw dX2_goOn_148 ?_
          refine lv_iload_n hx hb dX2_goOn_151 rfl (lv_at hl 2 rfl) ?_
          refine lv_iconst hx hb dX2_goOn_152 (v := jI 1) rfl ?_
          refine yt_19 X hw ra0 dX2_goOn_153 h (fun H locs u hw h => ?_)
          refine lv_aload_n hx hb dX2_goOn_154 rfl (lv_at hl 1 rfl) ?_
          refine yg_2_31 X hw dX2_goOn_155 ?_
          refine lv_aload_n hx hb dX2_goOn_158 rfl (lv_at hl 1 rfl) ?_
          refine yg_2_38 X hw dX2_goOn_159 h (fun v10 rv10 h => ?_)
          refine yl_22 X hw rv10 dX2_goOn_162 h (fun v11 rv11 h => ?_)
          refine k_if_eq hx hb rv11 dX2_goOn_163 (tgt := 177) rfl h (fun h => ?_) (fun h => ?_)
          · refine lv_aload_n hx hb dX2_goOn_177 rfl (lv_at hl 1 rfl) ?_
            refine yg_2_53 X hw dX2_goOn_178 ?_
            refine lv_aload_n hx hb dX2_goOn_181 rfl (lv_at hl 1 rfl) ?_
            refine yg_2_53 X hw dX2_goOn_182 ?_
            refine lv_iload_n hx hb dX2_goOn_185 rfl (lv_at hl 0 rfl) ?_
            refine ycI (n := 1) (e_7_right rv2 h) 7 6 (r := (RX7, TX7, 9)) rfl yG_2_108 yD_7_right X hw rfl yGo_7 (Nat.le_trans (Nat.le_of_ble_eq_true rfl) hRf) (Nat.le_trans (Nat.le_of_ble_eq_true rfl) hRl) rfl hl.1 (Nat.le_of_ble_eq_true rfl) rfl dX2_goOn_186 (fun v12 u H locs rv12 h hw => ?_)
            refine ycI (n := 1) (e_7_left rv12 h) 7 6 (r := (RX7, TX7, 9)) rfl yG_2_105 yD_7_left X hw rfl yGo_7 (Nat.le_trans (Nat.le_of_ble_eq_true rfl) hRf) (Nat.le_trans (Nat.le_of_ble_eq_true rfl) hRl) rfl hl.1 (Nat.le_of_ble_eq_true rfl) rfl dX2_goOn_189 (fun v13 u H locs rv13 h hw => ?_)
            exact hret _ _ _ _ _ _ rv13 h hw dX2_goOn_192
          · refine lv_aload_n hx hb dX2_goOn_166 rfl (lv_at hl 1 rfl) ?_
            refine yg_2_53 X hw dX2_goOn_167 ?_
            refine lv_iload_n hx hb dX2_goOn_170 rfl (lv_at hl 0 rfl) ?_
            refine ycI (n := 1) (e_7_left rv2 h) 7 6 (r := (RX7, TX7, 9)) rfl yG_2_105 yD_7_left X hw rfl yGo_7 (Nat.le_trans (Nat.le_of_ble_eq_true rfl) hRf) (Nat.le_trans (Nat.le_of_ble_eq_true rfl) hRl) rfl hl.1 (Nat.le_of_ble_eq_true rfl) rfl dX2_goOn_171 (fun v14 u H locs rv14 h hw => ?_)
            refine lv_goto hx hb dX2_goOn_174 (tgt := 192) rfl ?_
            exact hret _ _ _ _ _ _ rv14 h hw dX2_goOn_192
    · refine lv_aload_n hx hb dX2_goOn_55 rfl (lv_at hl 1 rfl) ?_
      refine yg_2_21 X hw dX2_goOn_56 ?_
      refine lv_iload_n hx hb dX2_goOn_59 rfl (lv_at hl 2 rfl) ?_
      refine lv_iconst hx hb dX2_goOn_60 (v := jI 1) rfl ?_
      refine yt_19 X hw ra0 dX2_goOn_61 h (fun H locs u hw h => ?_)
      refine lv_aload_n hx hb dX2_goOn_62 rfl (lv_at hl 1 rfl) ?_
      refine lv_aload_n hx hb dX2_goOn_63 rfl (lv_at hl 1 rfl) ?_
      refine yg_2_57 X hw dX2_goOn_64 ?_
      refine lv_aload_n hx hb dX2_goOn_67 rfl (lv_at hl 1 rfl) ?_
      refine yg_2_11 X hw dX2_goOn_68 ?_
      refine lv_iload_n hx hb dX2_goOn_71 rfl (lv_at hl 2 rfl) ?_
      refine yl_16 X hw ra0 dX2_goOn_72 h (fun v15 rv15 h => ?_)
      refine ycI (n := 1) (e_0_functionOf rv15 h) 0 0 (r := (RX0, TX0, 21)) rfl yG_2_116 yD_0_functionOf X hw rfl yGo_0 (Nat.le_trans (Nat.le_of_ble_eq_true rfl) hRf) (Nat.le_trans (Nat.le_of_ble_eq_true rfl) hRl) rfl hl.1 (Nat.le_of_ble_eq_true rfl) rfl dX2_goOn_73 (fun v16 u H locs rv16 h hw => ?_)
      refine yp_2_41 X hw rv16 dX2_goOn_76 h (fun H locs u hw h => ?_)
      refine lv_aload_n hx hb dX2_goOn_79 rfl (lv_at hl 1 rfl) ?_
      refine lv_aload_n hx hb dX2_goOn_80 rfl (lv_at hl 1 rfl) ?_
      refine yg_2_18 X hw dX2_goOn_81 ?_
      refine lv_iload_n hx hb dX2_goOn_84 rfl (lv_at hl 2 rfl) ?_
      refine yl_18 X hw ra0 dX2_goOn_85 h (fun v17 rv17 h => ?_)
      refine yp_2_44 X hw rv17 dX2_goOn_86 h (fun H locs u hw h => ?_)
      refine lv_aload_n hx hb dX2_goOn_89 rfl (lv_at hl 1 rfl) ?_
      refine yg_2_41 X hw dX2_goOn_90 h (fun v18 rv18 h => ?_)
      refine lv_iconst hx hb dX2_goOn_93 (v := jI (-1)) rfl ?_
      refine k_icmp_ne hx hb rv18 (by decide) dX2_goOn_94 (tgt := 101) rfl h (fun h => ?_) (fun h => ?_)
      · refine lv_aload_n hx hb dX2_goOn_101 rfl (lv_at hl 1 rfl) ?_
        refine yg_2_57 X hw dX2_goOn_102 ?_
        refine yg_2_119 X hw dX2_goOn_105 ?_
        refine lv_aload_n hx hb dX2_goOn_108 rfl (lv_at hl 1 rfl) ?_
        refine yg_2_41 X hw dX2_goOn_109 h (fun v19 rv19 h => ?_)
        refine yl_3 X hw rv19 dX2_goOn_112 h (fun v20 rv20 h => ?_)
        exact hret _ _ _ _ _ _ rv20 h hw dX2_goOn_113
      · refine lv_iconst hx hb dX2_goOn_97 (v := jI 0) rfl ?_
        refine lv_goto hx hb dX2_goOn_98 (tgt := 113) rfl ?_
        exact hret _ _ _ _ _ _ (by decide) h hw dX2_goOn_113
  · refine lv_aload_n hx hb dX2_goOn_9 rfl (lv_at hl 0 rfl) ?_
    refine lv_aload_n hx hb dX2_goOn_10 rfl (lv_at hl 0 rfl) ?_
    refine yg_2_38 X hw dX2_goOn_11 h (fun v21 rv21 h => ?_)
    refine k_if_le hx hb rv21 dX2_goOn_14 (tgt := 31) rfl h (fun h => ?_) (fun h => ?_)
    · refine lv_iconst hx hb dX2_goOn_31 (v := jI 0) rfl ?_
      exact f_2_goOn_32 X hRf hRl hret (by decide) hw (lv_sub hl [0] rfl) h
    · refine lv_aload_n hx hb dX2_goOn_17 rfl (lv_at hl 0 rfl) ?_
      refine yg_2_31 X hw dX2_goOn_18 ?_
      refine lv_aload_n hx hb dX2_goOn_21 rfl (lv_at hl 0 rfl) ?_
      refine yg_2_38 X hw dX2_goOn_22 h (fun v23 rv23 h => ?_)
      refine lv_iconst hx hb dX2_goOn_25 (v := jI 1) rfl ?_
      refine k_isub hx hb dX2_goOn_26 h (fun r24 h => ?_)
      refine yl_22 X hw r24 dX2_goOn_27 h (fun v25 rv25 h => ?_)
      refine lv_goto hx hb dX2_goOn_28 (tgt := 32) rfl ?_
      exact f_2_goOn_32 X hRf hRl hret rv25 hw (lv_sub hl [0] rfl) h

end
theorem e_2_goOn {l : Launch} {a0 : Int} (ra0 : inR a0) {Q : Int → iST → Prop} {u : iST} (h : v_2_goOn a0 Q u) : yMI l yX2_goOn (.code yX2_goOn cX2_goOn 3 (some .int) :: wsN) { frames := 1, cells := 0, slots := 0, locals := 22 } (fun ad => [.ref (ad 0 1), .int (jI a0)]) Q u := yMI_of (own := RX2) rfl (by decide +kernel) (fun _ => Nat.le_of_ble_eq_true rfl) (fun X hRf hRl hret hw hl => f_2_goOn_s X hRf hRl hret ra0 hw hl h)

/-! ProofHouse$Evaluator.evaluated -/
theorem dX2_evaluated_0 : decode cX2_evaluated 0 = .ok (.aload_n 0, 1) := by decide +kernel
theorem dX2_evaluated_1 : decode cX2_evaluated 1 = .ok (.iconst 0, 1) := by decide +kernel
theorem dX2_evaluated_2 : decode cX2_evaluated 2 = .ok (.putfield 34, 3) := by decide +kernel
theorem dX2_evaluated_5 : decode cX2_evaluated 5 = .ok (.aload_n 0, 1) := by decide +kernel
theorem dX2_evaluated_6 : decode cX2_evaluated 6 = .ok (.iconst 0, 1) := by decide +kernel
theorem dX2_evaluated_7 : decode cX2_evaluated 7 = .ok (.putfield 38, 3) := by decide +kernel
theorem dX2_evaluated_10 : decode cX2_evaluated 10 = .ok (.aload_n 0, 1) := by decide +kernel
theorem dX2_evaluated_11 : decode cX2_evaluated 11 = .ok (.iconst (-1), 1) := by decide +kernel
theorem dX2_evaluated_12 : decode cX2_evaluated 12 = .ok (.putfield 41, 3) := by decide +kernel
theorem dX2_evaluated_15 : decode cX2_evaluated 15 = .ok (.aload_n 0, 1) := by decide +kernel
theorem dX2_evaluated_16 : decode cX2_evaluated 16 = .ok (.iconst 0, 1) := by decide +kernel
theorem dX2_evaluated_17 : decode cX2_evaluated 17 = .ok (.putfield 44, 3) := by decide +kernel
theorem dX2_evaluated_20 : decode cX2_evaluated 20 = .ok (.aload_n 0, 1) := by decide +kernel
theorem dX2_evaluated_21 : decode cX2_evaluated 21 = .ok (.iload_n 2, 1) := by decide +kernel
theorem dX2_evaluated_22 : decode cX2_evaluated 22 = .ok (.putfield 47, 3) := by decide +kernel
theorem dX2_evaluated_25 : decode cX2_evaluated 25 = .ok (.aload_n 0, 1) := by decide +kernel
theorem dX2_evaluated_26 : decode cX2_evaluated 26 = .ok (.iconst 0, 1) := by decide +kernel
theorem dX2_evaluated_27 : decode cX2_evaluated 27 = .ok (.putfield 50, 3) := by decide +kernel
theorem dX2_evaluated_30 : decode cX2_evaluated 30 = .ok (.iload_n 1, 1) := by decide +kernel
theorem dX2_evaluated_31 : decode cX2_evaluated 31 = .ok (.istore_n 3, 1) := by decide +kernel
theorem dX2_evaluated_32 : decode cX2_evaluated 32 = .ok (.iconst 0, 1) := by decide +kernel
theorem dX2_evaluated_33 : decode cX2_evaluated 33 = .ok (.istore 4, 2) := by decide +kernel
theorem dX2_evaluated_35 : decode cX2_evaluated 35 = .ok (.iload 4, 2) := by decide +kernel
theorem dX2_evaluated_37 : decode cX2_evaluated 37 = .ok (.ldc 61, 2) := by decide +kernel
theorem dX2_evaluated_39 : decode cX2_evaluated 39 = .ok (.if_icmp .ge 193, 3) := by decide +kernel
theorem dX2_evaluated_42 : decode cX2_evaluated 42 = .ok (.aload_n 0, 1) := by decide +kernel
theorem dX2_evaluated_43 : decode cX2_evaluated 43 = .ok (.getfield 50, 3) := by decide +kernel
theorem dX2_evaluated_46 : decode cX2_evaluated 46 = .ok (.ifCond .ne 186, 3) := by decide +kernel
theorem dX2_evaluated_49 : decode cX2_evaluated 49 = .ok (.iload_n 3, 1) := by decide +kernel
theorem dX2_evaluated_50 : decode cX2_evaluated 50 = .ok (.iconst (-1), 1) := by decide +kernel
theorem dX2_evaluated_51 : decode cX2_evaluated 51 = .ok (.if_icmp .eq 58, 3) := by decide +kernel
theorem dX2_evaluated_54 : decode cX2_evaluated 54 = .ok (.aload_n 0, 1) := by decide +kernel
theorem dX2_evaluated_55 : decode cX2_evaluated 55 = .ok (.getfield 53, 3) := by decide +kernel
theorem dX2_evaluated_58 : decode cX2_evaluated 58 = .ok (.iload_n 3, 1) := by decide +kernel
theorem dX2_evaluated_59 : decode cX2_evaluated 59 = .ok (.invokevirtual 62, 3) := by decide +kernel
theorem dX2_evaluated_62 : decode cX2_evaluated 62 = .ok (.ifCond .eq 11, 3) := by decide +kernel
theorem dX2_evaluated_65 : decode cX2_evaluated 65 = .ok (.aload_n 0, 1) := by decide +kernel
theorem dX2_evaluated_66 : decode cX2_evaluated 66 = .ok (.iload_n 3, 1) := by decide +kernel
theorem dX2_evaluated_67 : decode cX2_evaluated 67 = .ok (.invokevirtual 68, 3) := by decide +kernel
theorem dX2_evaluated_70 : decode cX2_evaluated 70 = .ok (.goto 34, 3) := by decide +kernel
theorem dX2_evaluated_73 : decode cX2_evaluated 73 = .ok (.aload_n 0, 1) := by decide +kernel
theorem dX2_evaluated_74 : decode cX2_evaluated 74 = .ok (.aload_n 0, 1) := by decide +kernel
theorem dX2_evaluated_75 : decode cX2_evaluated 75 = .ok (.getfield 53, 3) := by decide +kernel
theorem dX2_evaluated_78 : decode cX2_evaluated 78 = .ok (.iload_n 3, 1) := by decide +kernel
theorem dX2_evaluated_79 : decode cX2_evaluated 79 = .ok (.invokevirtual 72, 3) := by decide +kernel
theorem dX2_evaluated_82 : decode cX2_evaluated 82 = .ok (.ifCond .eq 11, 3) := by decide +kernel
theorem dX2_evaluated_85 : decode cX2_evaluated 85 = .ok (.aload_n 0, 1) := by decide +kernel
theorem dX2_evaluated_86 : decode cX2_evaluated 86 = .ok (.iload_n 3, 1) := by decide +kernel
theorem dX2_evaluated_87 : decode cX2_evaluated 87 = .ok (.invokevirtual 75, 3) := by decide +kernel
theorem dX2_evaluated_90 : decode cX2_evaluated 90 = .ok (.goto 11, 3) := by decide +kernel
theorem dX2_evaluated_93 : decode cX2_evaluated 93 = .ok (.aload_n 0, 1) := by decide +kernel
theorem dX2_evaluated_94 : decode cX2_evaluated 94 = .ok (.getfield 53, 3) := by decide +kernel
theorem dX2_evaluated_97 : decode cX2_evaluated 97 = .ok (.iload_n 3, 1) := by decide +kernel
theorem dX2_evaluated_98 : decode cX2_evaluated 98 = .ok (.invokevirtual 79, 3) := by decide +kernel
theorem dX2_evaluated_101 : decode cX2_evaluated 101 = .ok (.invokevirtual 82, 3) := by decide +kernel
theorem dX2_evaluated_104 : decode cX2_evaluated 104 = .ok (.iconst (-1), 1) := by decide +kernel
theorem dX2_evaluated_105 : decode cX2_evaluated 105 = .ok (.istore_n 3, 1) := by decide +kernel
theorem dX2_evaluated_106 : decode cX2_evaluated 106 = .ok (.goto 120, 3) := by decide +kernel
theorem dX2_evaluated_109 : decode cX2_evaluated 109 = .ok (.aload_n 0, 1) := by decide +kernel
theorem dX2_evaluated_110 : decode cX2_evaluated 110 = .ok (.getfield 34, 3) := by decide +kernel
theorem dX2_evaluated_113 : decode cX2_evaluated 113 = .ok (.ifCond .ne 10, 3) := by decide +kernel
theorem dX2_evaluated_116 : decode cX2_evaluated 116 = .ok (.aload_n 0, 1) := by decide +kernel
theorem dX2_evaluated_117 : decode cX2_evaluated 117 = .ok (.getfield 31, 3) := by decide +kernel
theorem dX2_evaluated_120 : decode cX2_evaluated 120 = .ok (.iconst 0, 1) := by decide +kernel
theorem dX2_evaluated_121 : decode cX2_evaluated 121 = .ok (.iaload, 1) := by decide +kernel
theorem dX2_evaluated_122 : decode cX2_evaluated 122 = .ok (.ireturn, 1) := by decide +kernel
theorem dX2_evaluated_123 : decode cX2_evaluated 123 = .ok (.aload_n 0, 1) := by decide +kernel
theorem dX2_evaluated_124 : decode cX2_evaluated 124 = .ok (.aload_n 0, 1) := by decide +kernel
theorem dX2_evaluated_125 : decode cX2_evaluated 125 = .ok (.getfield 34, 3) := by decide +kernel
theorem dX2_evaluated_128 : decode cX2_evaluated 128 = .ok (.iconst 1, 1) := by decide +kernel
theorem dX2_evaluated_129 : decode cX2_evaluated 129 = .ok (.isub, 1) := by decide +kernel
theorem dX2_evaluated_130 : decode cX2_evaluated 130 = .ok (.invokevirtual 85, 3) := by decide +kernel
theorem dX2_evaluated_133 : decode cX2_evaluated 133 = .ok (.ifCond .eq 82, 3) := by decide +kernel
theorem dX2_evaluated_136 : decode cX2_evaluated 136 = .ok (.aload_n 0, 1) := by decide +kernel
theorem dX2_evaluated_137 : decode cX2_evaluated 137 = .ok (.getfield 18, 3) := by decide +kernel
theorem dX2_evaluated_140 : decode cX2_evaluated 140 = .ok (.aload_n 0, 1) := by decide +kernel
theorem dX2_evaluated_141 : decode cX2_evaluated 141 = .ok (.getfield 34, 3) := by decide +kernel
theorem dX2_evaluated_144 : decode cX2_evaluated 144 = .ok (.iconst 1, 1) := by decide +kernel
theorem dX2_evaluated_145 : decode cX2_evaluated 145 = .ok (.isub, 1) := by decide +kernel
theorem dX2_evaluated_146 : decode cX2_evaluated 146 = .ok (.iaload, 1) := by decide +kernel
theorem dX2_evaluated_147 : decode cX2_evaluated 147 = .ok (.istore 5, 2) := by decide +kernel
theorem dX2_evaluated_149 : decode cX2_evaluated 149 = .ok (.aload_n 0, 1) := by decide +kernel
theorem dX2_evaluated_150 : decode cX2_evaluated 150 = .ok (.aload_n 0, 1) := by decide +kernel
theorem dX2_evaluated_151 : decode cX2_evaluated 151 = .ok (.getfield 11, 3) := by decide +kernel
theorem dX2_evaluated_154 : decode cX2_evaluated 154 = .ok (.aload_n 0, 1) := by decide +kernel
theorem dX2_evaluated_155 : decode cX2_evaluated 155 = .ok (.getfield 34, 3) := by decide +kernel
theorem dX2_evaluated_158 : decode cX2_evaluated 158 = .ok (.iconst 1, 1) := by decide +kernel
theorem dX2_evaluated_159 : decode cX2_evaluated 159 = .ok (.isub, 1) := by decide +kernel
theorem dX2_evaluated_160 : decode cX2_evaluated 160 = .ok (.iaload, 1) := by decide +kernel
theorem dX2_evaluated_161 : decode cX2_evaluated 161 = .ok (.aload_n 0, 1) := by decide +kernel
theorem dX2_evaluated_162 : decode cX2_evaluated 162 = .ok (.getfield 31, 3) := by decide +kernel
theorem dX2_evaluated_165 : decode cX2_evaluated 165 = .ok (.iload 5, 2) := by decide +kernel
theorem dX2_evaluated_167 : decode cX2_evaluated 167 = .ok (.iaload, 1) := by decide +kernel
theorem dX2_evaluated_168 : decode cX2_evaluated 168 = .ok (.aload_n 0, 1) := by decide +kernel
theorem dX2_evaluated_169 : decode cX2_evaluated 169 = .ok (.getfield 31, 3) := by decide +kernel
theorem dX2_evaluated_172 : decode cX2_evaluated 172 = .ok (.iload 5, 2) := by decide +kernel
theorem dX2_evaluated_174 : decode cX2_evaluated 174 = .ok (.iconst 1, 1) := by decide +kernel
theorem dX2_evaluated_175 : decode cX2_evaluated 175 = .ok (.iadd, 1) := by decide +kernel
theorem dX2_evaluated_176 : decode cX2_evaluated 176 = .ok (.iaload, 1) := by decide +kernel
theorem dX2_evaluated_177 : decode cX2_evaluated 177 = .ok (.aload_n 0, 1) := by decide +kernel
theorem dX2_evaluated_178 : decode cX2_evaluated 178 = .ok (.getfield 31, 3) := by decide +kernel
theorem dX2_evaluated_181 : decode cX2_evaluated 181 = .ok (.iload 5, 2) := by decide +kernel
theorem dX2_evaluated_183 : decode cX2_evaluated 183 = .ok (.iconst 2, 1) := by decide +kernel
theorem dX2_evaluated_184 : decode cX2_evaluated 184 = .ok (.iadd, 1) := by decide +kernel
theorem dX2_evaluated_185 : decode cX2_evaluated 185 = .ok (.iaload, 1) := by decide +kernel
theorem dX2_evaluated_186 : decode cX2_evaluated 186 = .ok (.invokevirtual 88, 3) := by decide +kernel
theorem dX2_evaluated_189 : decode cX2_evaluated 189 = .ok (.istore 6, 2) := by decide +kernel
theorem dX2_evaluated_191 : decode cX2_evaluated 191 = .ok (.aload_n 0, 1) := by decide +kernel
theorem dX2_evaluated_192 : decode cX2_evaluated 192 = .ok (.iload 6, 2) := by decide +kernel
theorem dX2_evaluated_194 : decode cX2_evaluated 194 = .ok (.iconst (-1), 1) := by decide +kernel
theorem dX2_evaluated_195 : decode cX2_evaluated 195 = .ok (.if_icmp .ne 7, 3) := by decide +kernel
theorem dX2_evaluated_198 : decode cX2_evaluated 198 = .ok (.iconst 3, 1) := by decide +kernel
theorem dX2_evaluated_199 : decode cX2_evaluated 199 = .ok (.goto 4, 3) := by decide +kernel
theorem dX2_evaluated_202 : decode cX2_evaluated 202 = .ok (.iconst 0, 1) := by decide +kernel
theorem dX2_evaluated_203 : decode cX2_evaluated 203 = .ok (.putfield 50, 3) := by decide +kernel
theorem dX2_evaluated_206 : decode cX2_evaluated 206 = .ok (.aload_n 0, 1) := by decide +kernel
theorem dX2_evaluated_207 : decode cX2_evaluated 207 = .ok (.iload 6, 2) := by decide +kernel
theorem dX2_evaluated_209 : decode cX2_evaluated 209 = .ok (.invokevirtual 92, 3) := by decide +kernel
theorem dX2_evaluated_212 : decode cX2_evaluated 212 = .ok (.goto 14, 3) := by decide +kernel
theorem dX2_evaluated_215 : decode cX2_evaluated 215 = .ok (.aload_n 0, 1) := by decide +kernel
theorem dX2_evaluated_216 : decode cX2_evaluated 216 = .ok (.aload_n 0, 1) := by decide +kernel
theorem dX2_evaluated_217 : decode cX2_evaluated 217 = .ok (.getfield 34, 3) := by decide +kernel
theorem dX2_evaluated_220 : decode cX2_evaluated 220 = .ok (.iconst 1, 1) := by decide +kernel
theorem dX2_evaluated_221 : decode cX2_evaluated 221 = .ok (.isub, 1) := by decide +kernel
theorem dX2_evaluated_222 : decode cX2_evaluated 222 = .ok (.invokevirtual 95, 3) := by decide +kernel
theorem dX2_evaluated_225 : decode cX2_evaluated 225 = .ok (.istore_n 3, 1) := by decide +kernel
theorem dX2_evaluated_226 : decode cX2_evaluated 226 = .ok (.iinc 4 1, 3) := by decide +kernel
theorem dX2_evaluated_229 : decode cX2_evaluated 229 = .ok (.goto (-194), 3) := by decide +kernel
theorem dX2_evaluated_232 : decode cX2_evaluated 232 = .ok (.iconst (-1), 1) := by decide +kernel
theorem dX2_evaluated_233 : decode cX2_evaluated 233 = .ok (.ireturn, 1) := by decide +kernel

section
variable {p : Program} {l : Launch} {e : Env} {R : Room} {s : State} {m : MethodId} {args : Array Value} {below : List Frame} {meth : Method} {c : Code} {H : Heap} {locs : List Loc} {Qf : State → Prop}
variable {ls : Array Slot} {D : va_G} {ca : Nat → ClassId} {A : Nat → Prop} {ad : Nat → Nat → Nat} {u : iST}
def v_2_evaluated_203 (R35 : Int → Int → iST → Prop) (Q : Int → iST → Prop) (x3 : Int) (x4 : Int) (x6 : Int) (y1 : Int) (u : iST) : Prop :=
  sw (iI u 9 y1) (fun u => 
  v_2_close x6 (fun u => 
  ov (x4 + 1) (
  R35 x3 (x4 + 1) u)) u)
set_option maxRecDepth 20000 in
set_option maxHeartbeats 4000000 in
theorem f_2_evaluated_203 (X : yX RX2 p m c cX2_evaluated 7 s args D ca ad A) (hRf : 2 ≤ R.frames) (hRl : 58 ≤ R.locals) {Q : Int → iST → Prop} (hret : ∀ (v : Int) (u : iST) (H : Heap) (locs : List Loc) (ls : Array Slot) (pc : Nat), inR v → Q v u → yW D ca A ad s H locs u → decode cX2_evaluated pc = .ok (.ireturn, 1) → W p l e R s m args below meth c H locs 0 0 Qf (F0 m pc ls [.int (jI v)])) {R35 : Int → Int → iST → Prop} (hR35 : ∀ (x3 : Int) (x4 : Int) (u : iST) (H : Heap) (locs : List Loc) (ls : Array Slot), inR x3 → inR x4 → yW D ca A ad s H locs u → lv_has ls 7 [(0, .ref (ad 0 1)), (3, .int (jI x3)), (4, .int (jI x4))] → R35 x3 x4 u → W p l e R s m args below meth c H locs 0 0 Qf (F0 m 35 ls [])) {x3 x4 x6 y1 : Int} (rx3 : inR x3) (rx4 : inR x4) (rx6 : inR x6) (ry1 : inR y1) (hw : yW D ca A ad s H locs u) (hl : lv_has ls 7 [(0, .ref (ad 0 1)), (3, .int (jI x3)), (4, .int (jI x4)), (6, .int (jI x6))]) (h : v_2_evaluated_203 R35 Q x3 x4 x6 y1 u) : W p l e R s m args below meth c H locs 0 0 Qf (F0 m 203 ls [.int (jI y1), .ref (ad 0 1)]) := by
  have hx := X.1.1
  have hb := X.1.2.1
  unfold v_2_evaluated_203 at h
  refine yp_2_50 X hw ry1 dX2_evaluated_203 h (fun H locs u hw h => ?_)
  refine lv_aload_n hx hb dX2_evaluated_206 rfl (lv_at hl 0 rfl) ?_
  refine lv_iload hx hb dX2_evaluated_207 (lv_at hl 3 rfl) ?_
  refine ycV (n := 1) (e_2_close rx6 h) 2 1 (r := (RX2, TX2, 15)) rfl yG_2_92 yD_2_close X hw rfl yGo_2 (Nat.le_trans (Nat.le_of_ble_eq_true rfl) hRf) (Nat.le_trans (Nat.le_of_ble_eq_true rfl) hRl) rfl hl.1 (Nat.le_of_ble_eq_true rfl) rfl dX2_evaluated_209 (fun u H locs h hw => ?_)
  refine lv_goto hx hb dX2_evaluated_212 (tgt := 226) rfl ?_
  refine k_iinc (k := 2) hx hb dX2_evaluated_226 hl rfl (by decide) rfl h (fun ls r23 h hl => ?_)
  have hl : lv_has ls 7 [(4, .int (jI (x4 + 1))), (0, .ref (ad 0 1)), (3, .int (jI x3)), (6, .int (jI x6))] := hl
  refine lv_goto hx hb dX2_evaluated_229 (tgt := 35) rfl ?_
  exact hR35 _ _ _ H locs ls rx3 r23 hw (lv_sub hl [1, 2, 0] rfl) h

def v_2_evaluated_104 (R35 : Int → Int → iST → Prop) (Q : Int → iST → Prop) (x4 : Int) (u : iST) : Prop :=
  ov (x4 + 1) (
  R35 (-1) (x4 + 1) u)
set_option maxRecDepth 20000 in
set_option maxHeartbeats 4000000 in
theorem f_2_evaluated_104 (X : yX RX2 p m c cX2_evaluated 7 s args D ca ad A) (hRf : 2 ≤ R.frames) (hRl : 58 ≤ R.locals) {Q : Int → iST → Prop} (hret : ∀ (v : Int) (u : iST) (H : Heap) (locs : List Loc) (ls : Array Slot) (pc : Nat), inR v → Q v u → yW D ca A ad s H locs u → decode cX2_evaluated pc = .ok (.ireturn, 1) → W p l e R s m args below meth c H locs 0 0 Qf (F0 m pc ls [.int (jI v)])) {R35 : Int → Int → iST → Prop} (hR35 : ∀ (x3 : Int) (x4 : Int) (u : iST) (H : Heap) (locs : List Loc) (ls : Array Slot), inR x3 → inR x4 → yW D ca A ad s H locs u → lv_has ls 7 [(0, .ref (ad 0 1)), (3, .int (jI x3)), (4, .int (jI x4))] → R35 x3 x4 u → W p l e R s m args below meth c H locs 0 0 Qf (F0 m 35 ls [])) {x4 : Int} (rx4 : inR x4) (hw : yW D ca A ad s H locs u) (hl : lv_has ls 7 [(0, .ref (ad 0 1)), (4, .int (jI x4))]) (h : v_2_evaluated_104 R35 Q x4 u) : W p l e R s m args below meth c H locs 0 0 Qf (F0 m 104 ls []) := by
  have hx := X.1.1
  have hb := X.1.2.1
  unfold v_2_evaluated_104 at h
  refine lv_iconst hx hb dX2_evaluated_104 (v := jI (-1)) rfl ?_
  refine lv_istore_n hx hb dX2_evaluated_105 rfl hl (by decide) rfl (fun ls hl => ?_)
  have hl : lv_has ls 7 [(3, .int (jI (-1))), (0, .ref (ad 0 1)), (4, .int (jI x4))] := hl
  refine lv_goto hx hb dX2_evaluated_106 (tgt := 226) rfl ?_
  refine k_iinc (k := 2) hx hb dX2_evaluated_226 hl rfl (by decide) rfl h (fun ls r29 h hl => ?_)
  have hl : lv_has ls 7 [(4, .int (jI (x4 + 1))), (3, .int (jI (-1))), (0, .ref (ad 0 1))] := hl
  refine lv_goto hx hb dX2_evaluated_229 (tgt := 35) rfl ?_
  exact hR35 _ _ _ H locs ls (by decide) r29 hw (lv_sub hl [2, 1, 0] rfl) h

def v_2_evaluated_101 (R35 : Int → Int → iST → Prop) (Q : Int → iST → Prop) (x4 : Int) (y1 : Int) (u : iST) : Prop :=
  v_2_hold y1 (fun u => 
  v_2_evaluated_104 R35 Q x4 u) u
set_option maxRecDepth 20000 in
set_option maxHeartbeats 4000000 in
theorem f_2_evaluated_101 (X : yX RX2 p m c cX2_evaluated 7 s args D ca ad A) (hRf : 2 ≤ R.frames) (hRl : 58 ≤ R.locals) {Q : Int → iST → Prop} (hret : ∀ (v : Int) (u : iST) (H : Heap) (locs : List Loc) (ls : Array Slot) (pc : Nat), inR v → Q v u → yW D ca A ad s H locs u → decode cX2_evaluated pc = .ok (.ireturn, 1) → W p l e R s m args below meth c H locs 0 0 Qf (F0 m pc ls [.int (jI v)])) {R35 : Int → Int → iST → Prop} (hR35 : ∀ (x3 : Int) (x4 : Int) (u : iST) (H : Heap) (locs : List Loc) (ls : Array Slot), inR x3 → inR x4 → yW D ca A ad s H locs u → lv_has ls 7 [(0, .ref (ad 0 1)), (3, .int (jI x3)), (4, .int (jI x4))] → R35 x3 x4 u → W p l e R s m args below meth c H locs 0 0 Qf (F0 m 35 ls [])) {x4 y1 : Int} (rx4 : inR x4) (ry1 : inR y1) (hw : yW D ca A ad s H locs u) (hl : lv_has ls 7 [(0, .ref (ad 0 1)), (4, .int (jI x4))]) (h : v_2_evaluated_101 R35 Q x4 y1 u) : W p l e R s m args below meth c H locs 0 0 Qf (F0 m 101 ls [.int (jI y1), .ref (ad 0 1)]) := by
  have hx := X.1.1
  have hb := X.1.2.1
  unfold v_2_evaluated_101 at h
  refine ycV (n := 1) (e_2_hold ry1 h) 2 1 (r := (RX2, TX2, 15)) rfl yG_2_82 yD_2_hold X hw rfl yGo_2 (Nat.le_trans (Nat.le_of_ble_eq_true rfl) hRf) (Nat.le_trans (Nat.le_of_ble_eq_true rfl) hRl) rfl hl.1 (Nat.le_of_ble_eq_true rfl) rfl dX2_evaluated_101 (fun u H locs h hw => ?_)
  exact f_2_evaluated_104 X hRf hRl hret hR35 rx4 hw hl h

def v_2_evaluated_35b (R35 : Int → Int → iST → Prop) (Q : Int → iST → Prop) (x3 : Int) (x4 : Int) (u : iST) : Prop :=
  br (1000000 ≤ x4) (
    Q (-1) u) (
    rd (u.1 9) (fun v1 => 
    br (v1 ≠ 0) (
      Q (-1) u) (
      br (x3 = (-1)) (
        rd (u.1 4) (fun v2 => 
        br (v2 ≠ 0) (
          rd (u.1 4) (fun v3 => 
          ov (v3 - 1) (
          v_2_isReady (v3 - 1) (fun v5 u => 
          br (v5 = 0) (
            rd (u.1 4) (fun v6 => 
            ov (v6 - 1) (
            v_2_goOn (v6 - 1) (fun v8 u => 
            ov (x4 + 1) (
            R35 v8 (x4 + 1) u)) u))) (
            rd (u.1 4) (fun v10 => 
            ov (v10 - 1) (
            bd (v10 - 1) 300 (rd (u.2.1 18 (v10 - 1)) (fun v12 => 
            rd (u.1 4) (fun v13 => 
            ov (v13 - 1) (
            bd (v13 - 1) 300 (rd (u.2.1 16 (v13 - 1)) (fun v15 => 
            bd v12 1803 (rd (u.2.1 22 v12) (fun v16 => 
            ov (v12 + 1) (
            bd (v12 + 1) 1803 (rd (u.2.1 22 (v12 + 1)) (fun v18 => 
            ov (v12 + 2) (
            bd (v12 + 2) 1803 (rd (u.2.1 22 (v12 + 2)) (fun v20 => 
            v_2_baseValue v15 v16 v18 v20 (fun v21 u => 
            br (v21 ≠ (-1)) (
              v_2_evaluated_203 R35 Q x3 x4 v21 0 u) (
              v_2_evaluated_203 R35 Q x3 x4 v21 3 u)) u)))))))))))))))))) u))) (
          bd 0 1803 (rd (u.2.1 22 0) (fun v24 => 
          Q v24 u))))) (
        v_7_isCall x3 (fun v25 u => 
        br (v25 = 0) (
          v_7_isVariable x3 (fun v26 u => 
          br (v26 = 0) (
            v_7_valueOf x3 (fun v27 u => 
            v_2_evaluated_101 R35 Q x4 v27 u) u) (
            v_2_parameterValue x3 (fun v30 u => 
            v_2_evaluated_101 R35 Q x4 v30 u) u)) u) (
          v_2_begin x3 (fun u => 
          v_2_evaluated_104 R35 Q x4 u) u)) u))))
def v_2_evaluated_35 (Q : Int → iST → Prop) (x3 : Int) (x4 : Int) (u : iST) : Prop := ∀ R35 : Int → Int → iST → Prop, (∀ (x3 : Int) (x4 : Int) (u : iST), v_2_evaluated_35b R35 Q x3 x4 u → R35 x3 x4 u) → R35 x3 x4 u
set_option maxRecDepth 20000 in
set_option maxHeartbeats 4000000 in
theorem f_2_evaluated_35 (X : yX RX2 p m c cX2_evaluated 7 s args D ca ad A) (hRf : 2 ≤ R.frames) (hRl : 58 ≤ R.locals) {Q : Int → iST → Prop} (hret : ∀ (v : Int) (u : iST) (H : Heap) (locs : List Loc) (ls : Array Slot) (pc : Nat), inR v → Q v u → yW D ca A ad s H locs u → decode cX2_evaluated pc = .ok (.ireturn, 1) → W p l e R s m args below meth c H locs 0 0 Qf (F0 m pc ls [.int (jI v)])) {x3 x4 : Int} (rx3 : inR x3) (rx4 : inR x4) (hw : yW D ca A ad s H locs u) (hl : lv_has ls 7 [(0, .ref (ad 0 1)), (3, .int (jI x3)), (4, .int (jI x4))]) (h : v_2_evaluated_35 Q x3 x4 u) : W p l e R s m args below meth c H locs 0 0 Qf (F0 m 35 ls []) := by
  refine h (fun x3 x4 u => ∀ (H : Heap) (locs : List Loc) (ls : Array Slot), inR x3 → inR x4 → yW D ca A ad s H locs u → lv_has ls 7 [(0, .ref (ad 0 1)), (3, .int (jI x3)), (4, .int (jI x4))] → W p l e R s m args below meth c H locs 0 0 Qf (F0 m 35 ls [])) ?_ H locs ls rx3 rx4 hw hl
  clear h hl hw rx3 rx4
  intro x3 x4 u h H locs ls rx3 rx4 hw hl
  have hR35 : ∀ (x3 : Int) (x4 : Int) (u : iST) (H : Heap) (locs : List Loc) (ls : Array Slot), inR x3 → inR x4 → yW D ca A ad s H locs u → lv_has ls 7 [(0, .ref (ad 0 1)), (3, .int (jI x3)), (4, .int (jI x4))] → (fun (x3 : Int) (x4 : Int) u => ∀ (H : Heap) (locs : List Loc) (ls : Array Slot), inR x3 → inR x4 → yW D ca A ad s H locs u → lv_has ls 7 [(0, .ref (ad 0 1)), (3, .int (jI x3)), (4, .int (jI x4))] → W p l e R s m args below meth c H locs 0 0 Qf (F0 m 35 ls [])) x3 x4 u → W p l e R s m args below meth c H locs 0 0 Qf (F0 m 35 ls []) := fun x3 x4 u H locs ls rx3 rx4 hw hl h => h H locs ls rx3 rx4 hw hl
  have hx := X.1.1
  have hb := X.1.2.1
  unfold v_2_evaluated_35b at h
  refine lv_iload hx hb dX2_evaluated_35 (lv_at hl 2 rfl) ?_
  refine yld 61 yK_2_61 X dX2_evaluated_37 ?_
  refine k_icmp_ge hx hb rx4 (by decide) dX2_evaluated_39 (tgt := 232) rfl h (fun h => ?_) (fun h => ?_)
  · refine lv_iconst hx hb dX2_evaluated_232 (v := jI (-1)) rfl ?_
    exact hret _ _ _ _ _ _ (by decide) h hw dX2_evaluated_233
  · refine lv_aload_n hx hb dX2_evaluated_42 rfl (lv_at hl 0 rfl) ?_
    refine yg_2_50 X hw dX2_evaluated_43 h (fun v1 rv1 h => ?_)
    refine k_if_ne hx hb rv1 dX2_evaluated_46 (tgt := 232) rfl h (fun h => ?_) (fun h => ?_)
    · refine lv_iconst hx hb dX2_evaluated_232 (v := jI (-1)) rfl ?_
      exact hret _ _ _ _ _ _ (by decide) h hw dX2_evaluated_233
    · refine lv_iload_n hx hb dX2_evaluated_49 rfl (lv_at hl 1 rfl) ?_
      refine lv_iconst hx hb dX2_evaluated_50 (v := jI (-1)) rfl ?_
      refine k_icmp_eq hx hb rx3 (by decide) dX2_evaluated_51 (tgt := 109) rfl h (fun h => ?_) (fun h => ?_)
      · refine lv_aload_n hx hb dX2_evaluated_109 rfl (lv_at hl 0 rfl) ?_
        refine yg_2_34 X hw dX2_evaluated_110 h (fun v2 rv2 h => ?_)
        refine k_if_ne hx hb rv2 dX2_evaluated_113 (tgt := 123) rfl h (fun h => ?_) (fun h => ?_)
        · refine lv_aload_n hx hb dX2_evaluated_123 rfl (lv_at hl 0 rfl) ?_
          refine lv_aload_n hx hb dX2_evaluated_124 rfl (lv_at hl 0 rfl) ?_
          refine yg_2_34 X hw dX2_evaluated_125 h (fun v3 rv3 h => ?_)
          refine lv_iconst hx hb dX2_evaluated_128 (v := jI 1) rfl ?_
          refine k_isub hx hb dX2_evaluated_129 h (fun r4 h => ?_)
          refine ycI (n := 1) (e_2_isReady r4 h) 2 1 (r := (RX2, TX2, 15)) rfl yG_2_85 yD_2_isReady X hw rfl yGo_2 (Nat.le_trans (Nat.le_of_ble_eq_true rfl) hRf) (Nat.le_trans (Nat.le_of_ble_eq_true rfl) hRl) rfl hl.1 (Nat.le_of_ble_eq_true rfl) rfl dX2_evaluated_130 (fun v5 u H locs rv5 h hw => ?_)
          refine k_if_eq hx hb rv5 dX2_evaluated_133 (tgt := 215) rfl h (fun h => ?_) (fun h => ?_)
          · refine lv_aload_n hx hb dX2_evaluated_215 rfl (lv_at hl 0 rfl) ?_
            refine lv_aload_n hx hb dX2_evaluated_216 rfl (lv_at hl 0 rfl) ?_
            refine yg_2_34 X hw dX2_evaluated_217 h (fun v6 rv6 h => ?_)
            refine lv_iconst hx hb dX2_evaluated_220 (v := jI 1) rfl ?_
            refine k_isub hx hb dX2_evaluated_221 h (fun r7 h => ?_)
            refine ycI (n := 1) (e_2_goOn r7 h) 2 1 (r := (RX2, TX2, 15)) rfl yG_2_95 yD_2_goOn X hw rfl yGo_2 (Nat.le_trans (Nat.le_of_ble_eq_true rfl) hRf) (Nat.le_trans (Nat.le_of_ble_eq_true rfl) hRl) rfl hl.1 (Nat.le_of_ble_eq_true rfl) rfl dX2_evaluated_222 (fun v8 u H locs rv8 h hw => ?_)
            refine lv_istore_n hx hb dX2_evaluated_225 rfl hl (by decide) rfl (fun ls hl => ?_)
            have hl : lv_has ls 7 [(3, .int (jI v8)), (0, .ref (ad 0 1)), (4, .int (jI x4))] := hl
            refine k_iinc (k := 2) hx hb dX2_evaluated_226 hl rfl (by decide) rfl h (fun ls r9 h hl => ?_)
            have hl : lv_has ls 7 [(4, .int (jI (x4 + 1))), (3, .int (jI v8)), (0, .ref (ad 0 1))] := hl
            refine lv_goto hx hb dX2_evaluated_229 (tgt := 35) rfl ?_
            exact hR35 _ _ _ H locs ls rv8 r9 hw (lv_sub hl [2, 1, 0] rfl) h
          · refine lv_aload_n hx hb dX2_evaluated_136 rfl (lv_at hl 0 rfl) ?_
            refine yg_2_18 X hw dX2_evaluated_137 ?_
            refine lv_aload_n hx hb dX2_evaluated_140 rfl (lv_at hl 0 rfl) ?_
            refine yg_2_34 X hw dX2_evaluated_141 h (fun v10 rv10 h => ?_)
            refine lv_iconst hx hb dX2_evaluated_144 (v := jI 1) rfl ?_
            refine k_isub hx hb dX2_evaluated_145 h (fun r11 h => ?_)
            refine yl_18 X hw r11 dX2_evaluated_146 h (fun v12 rv12 h => ?_)
            refine lv_istore hx hb dX2_evaluated_147 hl (by decide) rfl (fun ls hl => ?_)
            have hl : lv_has ls 7 [(5, .int (jI v12)), (0, .ref (ad 0 1)), (3, .int (jI x3)), (4, .int (jI x4))] := hl
            refine lv_aload_n hx hb dX2_evaluated_149 rfl (lv_at hl 1 rfl) ?_
            refine lv_aload_n hx hb dX2_evaluated_150 rfl (lv_at hl 1 rfl) ?_
            refine yg_2_11 X hw dX2_evaluated_151 ?_
            refine lv_aload_n hx hb dX2_evaluated_154 rfl (lv_at hl 1 rfl) ?_
            refine yg_2_34 X hw dX2_evaluated_155 h (fun v13 rv13 h => ?_)
            refine lv_iconst hx hb dX2_evaluated_158 (v := jI 1) rfl ?_
            refine k_isub hx hb dX2_evaluated_159 h (fun r14 h => ?_)
            refine yl_16 X hw r14 dX2_evaluated_160 h (fun v15 rv15 h => ?_)
            refine lv_aload_n hx hb dX2_evaluated_161 rfl (lv_at hl 1 rfl) ?_
            refine yg_2_31 X hw dX2_evaluated_162 ?_
            refine lv_iload hx hb dX2_evaluated_165 (lv_at hl 0 rfl) ?_
            refine yl_22 X hw rv12 dX2_evaluated_167 h (fun v16 rv16 h => ?_)
            refine lv_aload_n hx hb dX2_evaluated_168 rfl (lv_at hl 1 rfl) ?_
            refine yg_2_31 X hw dX2_evaluated_169 ?_
            refine lv_iload hx hb dX2_evaluated_172 (lv_at hl 0 rfl) ?_
            refine lv_iconst hx hb dX2_evaluated_174 (v := jI 1) rfl ?_
            refine k_iadd hx hb dX2_evaluated_175 h (fun r17 h => ?_)
            refine yl_22 X hw r17 dX2_evaluated_176 h (fun v18 rv18 h => ?_)
            refine lv_aload_n hx hb dX2_evaluated_177 rfl (lv_at hl 1 rfl) ?_
            refine yg_2_31 X hw dX2_evaluated_178 ?_
            refine lv_iload hx hb dX2_evaluated_181 (lv_at hl 0 rfl) ?_
            refine lv_iconst hx hb dX2_evaluated_183 (v := jI 2) rfl ?_
            refine k_iadd hx hb dX2_evaluated_184 h (fun r19 h => ?_)
            refine yl_22 X hw r19 dX2_evaluated_185 h (fun v20 rv20 h => ?_)
            refine ycI (n := 4) (e_2_baseValue rv15 rv16 rv18 rv20 h) 2 1 (r := (RX2, TX2, 15)) rfl yG_2_88 yD_2_baseValue X hw rfl yGo_2 (Nat.le_trans (Nat.le_of_ble_eq_true rfl) hRf) (Nat.le_trans (Nat.le_of_ble_eq_true rfl) hRl) rfl hl.1 (Nat.le_of_ble_eq_true rfl) rfl dX2_evaluated_186 (fun v21 u H locs rv21 h hw => ?_)
            refine lv_istore hx hb dX2_evaluated_189 hl (by decide) rfl (fun ls hl => ?_)
            have hl : lv_has ls 7 [(6, .int (jI v21)), (5, .int (jI v12)), (0, .ref (ad 0 1)), (3, .int (jI x3)), (4, .int (jI x4))] := hl
            refine lv_aload_n hx hb dX2_evaluated_191 rfl (lv_at hl 2 rfl) ?_
            refine lv_iload hx hb dX2_evaluated_192 (lv_at hl 0 rfl) ?_
            refine lv_iconst hx hb dX2_evaluated_194 (v := jI (-1)) rfl ?_
            refine k_icmp_ne hx hb rv21 (by decide) dX2_evaluated_195 (tgt := 202) rfl h (fun h => ?_) (fun h => ?_)
            · refine lv_iconst hx hb dX2_evaluated_202 (v := jI 0) rfl ?_
              exact f_2_evaluated_203 X hRf hRl hret hR35 rx3 rx4 rv21 (by decide) hw (lv_sub hl [2, 3, 4, 0] rfl) h
            · refine lv_iconst hx hb dX2_evaluated_198 (v := jI 3) rfl ?_
              refine lv_goto hx hb dX2_evaluated_199 (tgt := 203) rfl ?_
              exact f_2_evaluated_203 X hRf hRl hret hR35 rx3 rx4 rv21 (by decide) hw (lv_sub hl [2, 3, 4, 0] rfl) h
        · refine lv_aload_n hx hb dX2_evaluated_116 rfl (lv_at hl 0 rfl) ?_
          refine yg_2_31 X hw dX2_evaluated_117 ?_
          refine lv_iconst hx hb dX2_evaluated_120 (v := jI 0) rfl ?_
          refine yl_22 X hw (by decide) dX2_evaluated_121 h (fun v24 rv24 h => ?_)
          exact hret _ _ _ _ _ _ rv24 h hw dX2_evaluated_122
      · refine lv_aload_n hx hb dX2_evaluated_54 rfl (lv_at hl 0 rfl) ?_
        refine yg_2_53 X hw dX2_evaluated_55 ?_
        refine lv_iload_n hx hb dX2_evaluated_58 rfl (lv_at hl 1 rfl) ?_
        refine ycI (n := 1) (e_7_isCall rx3 h) 7 6 (r := (RX7, TX7, 9)) rfl yG_2_62 yD_7_isCall X hw rfl yGo_7 (Nat.le_trans (Nat.le_of_ble_eq_true rfl) hRf) (Nat.le_trans (Nat.le_of_ble_eq_true rfl) hRl) rfl hl.1 (Nat.le_of_ble_eq_true rfl) rfl dX2_evaluated_59 (fun v25 u H locs rv25 h hw => ?_)
        refine k_if_eq hx hb rv25 dX2_evaluated_62 (tgt := 73) rfl h (fun h => ?_) (fun h => ?_)
        · refine lv_aload_n hx hb dX2_evaluated_73 rfl (lv_at hl 0 rfl) ?_
          refine lv_aload_n hx hb dX2_evaluated_74 rfl (lv_at hl 0 rfl) ?_
          refine yg_2_53 X hw dX2_evaluated_75 ?_
          refine lv_iload_n hx hb dX2_evaluated_78 rfl (lv_at hl 1 rfl) ?_
          refine ycI (n := 1) (e_7_isVariable rx3 h) 7 6 (r := (RX7, TX7, 9)) rfl yG_2_72 yD_7_isVariable X hw rfl yGo_7 (Nat.le_trans (Nat.le_of_ble_eq_true rfl) hRf) (Nat.le_trans (Nat.le_of_ble_eq_true rfl) hRl) rfl hl.1 (Nat.le_of_ble_eq_true rfl) rfl dX2_evaluated_79 (fun v26 u H locs rv26 h hw => ?_)
          refine k_if_eq hx hb rv26 dX2_evaluated_82 (tgt := 93) rfl h (fun h => ?_) (fun h => ?_)
          · refine lv_aload_n hx hb dX2_evaluated_93 rfl (lv_at hl 0 rfl) ?_
            refine yg_2_53 X hw dX2_evaluated_94 ?_
            refine lv_iload_n hx hb dX2_evaluated_97 rfl (lv_at hl 1 rfl) ?_
            refine ycI (n := 1) (e_7_valueOf rx3 h) 7 6 (r := (RX7, TX7, 9)) rfl yG_2_79 yD_7_valueOf X hw rfl yGo_7 (Nat.le_trans (Nat.le_of_ble_eq_true rfl) hRf) (Nat.le_trans (Nat.le_of_ble_eq_true rfl) hRl) rfl hl.1 (Nat.le_of_ble_eq_true rfl) rfl dX2_evaluated_98 (fun v27 u H locs rv27 h hw => ?_)
            exact f_2_evaluated_101 X hRf hRl hret hR35 rx4 rv27 hw (lv_sub hl [0, 2] rfl) h
          · refine lv_aload_n hx hb dX2_evaluated_85 rfl (lv_at hl 0 rfl) ?_
            refine lv_iload_n hx hb dX2_evaluated_86 rfl (lv_at hl 1 rfl) ?_
            refine ycI (n := 1) (e_2_parameterValue rx3 h) 2 1 (r := (RX2, TX2, 15)) rfl yG_2_75 yD_2_parameterValue X hw rfl yGo_2 (Nat.le_trans (Nat.le_of_ble_eq_true rfl) hRf) (Nat.le_trans (Nat.le_of_ble_eq_true rfl) hRl) rfl hl.1 (Nat.le_of_ble_eq_true rfl) rfl dX2_evaluated_87 (fun v30 u H locs rv30 h hw => ?_)
            refine lv_goto hx hb dX2_evaluated_90 (tgt := 101) rfl ?_
            exact f_2_evaluated_101 X hRf hRl hret hR35 rx4 rv30 hw (lv_sub hl [0, 2] rfl) h
        · refine lv_aload_n hx hb dX2_evaluated_65 rfl (lv_at hl 0 rfl) ?_
          refine lv_iload_n hx hb dX2_evaluated_66 rfl (lv_at hl 1 rfl) ?_
          refine ycV (n := 1) (e_2_begin rx3 h) 2 1 (r := (RX2, TX2, 15)) rfl yG_2_68 yD_2_begin X hw rfl yGo_2 (Nat.le_trans (Nat.le_of_ble_eq_true rfl) hRf) (Nat.le_trans (Nat.le_of_ble_eq_true rfl) hRl) rfl hl.1 (Nat.le_of_ble_eq_true rfl) rfl dX2_evaluated_67 (fun u H locs h hw => ?_)
          refine lv_goto hx hb dX2_evaluated_70 (tgt := 104) rfl ?_
          exact f_2_evaluated_104 X hRf hRl hret hR35 rx4 hw (lv_sub hl [0, 2] rfl) h

def v_2_evaluated (a0 : Int) (a1 : Int) (Q : Int → iST → Prop) (u : iST) : Prop :=
  sw (iI u 4 0) (fun u => 
  sw (iI u 5 0) (fun u => 
  sw (iI u 6 (-1)) (fun u => 
  sw (iI u 7 0) (fun u => 
  sw (iI u 8 a1) (fun u => 
  sw (iI u 9 0) (fun u => 
  v_2_evaluated_35 Q a0 0 u))))))
set_option maxRecDepth 20000 in
set_option maxHeartbeats 4000000 in
theorem f_2_evaluated_s (X : yX RX2 p m c cX2_evaluated 7 s args D ca ad A) (hRf : 2 ≤ R.frames) (hRl : 58 ≤ R.locals) {Q : Int → iST → Prop} (hret : ∀ (v : Int) (u : iST) (H : Heap) (locs : List Loc) (ls : Array Slot) (pc : Nat), inR v → Q v u → yW D ca A ad s H locs u → decode cX2_evaluated pc = .ok (.ireturn, 1) → W p l e R s m args below meth c H locs 0 0 Qf (F0 m pc ls [.int (jI v)])) {a0 a1 : Int} (ra0 : inR a0) (ra1 : inR a1) (hw : yW D ca A ad s H locs u) (hl : lv_has ls 7 [(0, .ref (ad 0 1)), (1, .int (jI a0)), (2, .int (jI a1))]) (h : v_2_evaluated a0 a1 Q u) : W p l e R s m args below meth c H locs 0 0 Qf (F0 m 0 ls []) := by
  have hx := X.1.1
  have hb := X.1.2.1
  unfold v_2_evaluated at h
  refine lv_aload_n hx hb dX2_evaluated_0 rfl (lv_at hl 0 rfl) ?_
  refine lv_iconst hx hb dX2_evaluated_1 (v := jI 0) rfl ?_
  refine yp_2_34 X hw (by decide) dX2_evaluated_2 h (fun H locs u hw h => ?_)
  refine lv_aload_n hx hb dX2_evaluated_5 rfl (lv_at hl 0 rfl) ?_
  refine lv_iconst hx hb dX2_evaluated_6 (v := jI 0) rfl ?_
  refine yp_2_38 X hw (by decide) dX2_evaluated_7 h (fun H locs u hw h => ?_)
  refine lv_aload_n hx hb dX2_evaluated_10 rfl (lv_at hl 0 rfl) ?_
  refine lv_iconst hx hb dX2_evaluated_11 (v := jI (-1)) rfl ?_
  refine yp_2_41 X hw (by decide) dX2_evaluated_12 h (fun H locs u hw h => ?_)
  refine lv_aload_n hx hb dX2_evaluated_15 rfl (lv_at hl 0 rfl) ?_
  refine lv_iconst hx hb dX2_evaluated_16 (v := jI 0) rfl ?_
  refine yp_2_44 X hw (by decide) dX2_evaluated_17 h (fun H locs u hw h => ?_)
  refine lv_aload_n hx hb dX2_evaluated_20 rfl (lv_at hl 0 rfl) ?_
  refine lv_iload_n hx hb dX2_evaluated_21 rfl (lv_at hl 2 rfl) ?_
  refine yp_2_47 X hw ra1 dX2_evaluated_22 h (fun H locs u hw h => ?_)
  refine lv_aload_n hx hb dX2_evaluated_25 rfl (lv_at hl 0 rfl) ?_
  refine lv_iconst hx hb dX2_evaluated_26 (v := jI 0) rfl ?_
  refine yp_2_50 X hw (by decide) dX2_evaluated_27 h (fun H locs u hw h => ?_)
  refine lv_iload_n hx hb dX2_evaluated_30 rfl (lv_at hl 1 rfl) ?_
  refine lv_istore_n hx hb dX2_evaluated_31 rfl hl (by decide) rfl (fun ls hl => ?_)
  have hl : lv_has ls 7 [(3, .int (jI a0)), (0, .ref (ad 0 1)), (1, .int (jI a0)), (2, .int (jI a1))] := hl
  refine lv_iconst hx hb dX2_evaluated_32 (v := jI 0) rfl ?_
  refine lv_istore hx hb dX2_evaluated_33 hl (by decide) rfl (fun ls hl => ?_)
  have hl : lv_has ls 7 [(4, .int (jI 0)), (3, .int (jI a0)), (0, .ref (ad 0 1)), (1, .int (jI a0)), (2, .int (jI a1))] := hl
  exact f_2_evaluated_35 X hRf hRl hret ra0 (by decide) hw (lv_sub hl [2, 1, 0] rfl) h

end
theorem e_2_evaluated {l : Launch} {a0 : Int} {a1 : Int} (ra0 : inR a0) (ra1 : inR a1) {Q : Int → iST → Prop} {u : iST} (h : v_2_evaluated a0 a1 Q u) : yMI l yX2_evaluated (.code yX2_evaluated cX2_evaluated 7 (some .int) :: wsN) { frames := 2, cells := 0, slots := 0, locals := 58 } (fun ad => [.ref (ad 0 1), .int (jI a0), .int (jI a1)]) Q u := yMI_of (own := RX2) rfl (by decide +kernel) (fun _ => Nat.le_of_ble_eq_true rfl) (fun X hRf hRl hret hw hl => f_2_evaluated_s X hRf hRl hret ra0 ra1 hw hl h)
