/-! ProofHouse$Proofs.definedCall -/
theorem dX3_definedCall_0 : decode cX3_definedCall 0 = .ok (.iload_n 1, 1) := by decide +kernel
theorem dX3_definedCall_1 : decode cX3_definedCall 1 = .ok (.iconst (-1), 1) := by decide +kernel
theorem dX3_definedCall_2 : decode cX3_definedCall 2 = .ok (.if_icmp .ne 7, 3) := by decide +kernel
theorem dX3_definedCall_5 : decode cX3_definedCall 5 = .ok (.iconst (-1), 1) := by decide +kernel
theorem dX3_definedCall_6 : decode cX3_definedCall 6 = .ok (.goto 31, 3) := by decide +kernel
theorem dX3_definedCall_9 : decode cX3_definedCall 9 = .ok (.aload_n 0, 1) := by decide +kernel
theorem dX3_definedCall_10 : decode cX3_definedCall 10 = .ok (.getfield 37, 3) := by decide +kernel
theorem dX3_definedCall_13 : decode cX3_definedCall 13 = .ok (.aload_n 0, 1) := by decide +kernel
theorem dX3_definedCall_14 : decode cX3_definedCall 14 = .ok (.getfield 41, 3) := by decide +kernel
theorem dX3_definedCall_17 : decode cX3_definedCall 17 = .ok (.getfield 209, 3) := by decide +kernel
theorem dX3_definedCall_20 : decode cX3_definedCall 20 = .ok (.iload_n 1, 1) := by decide +kernel
theorem dX3_definedCall_21 : decode cX3_definedCall 21 = .ok (.iaload, 1) := by decide +kernel
theorem dX3_definedCall_22 : decode cX3_definedCall 22 = .ok (.aload_n 0, 1) := by decide +kernel
theorem dX3_definedCall_23 : decode cX3_definedCall 23 = .ok (.getfield 41, 3) := by decide +kernel
theorem dX3_definedCall_26 : decode cX3_definedCall 26 = .ok (.getfield 212, 3) := by decide +kernel
theorem dX3_definedCall_29 : decode cX3_definedCall 29 = .ok (.iload_n 1, 1) := by decide +kernel
theorem dX3_definedCall_30 : decode cX3_definedCall 30 = .ok (.iaload, 1) := by decide +kernel
theorem dX3_definedCall_31 : decode cX3_definedCall 31 = .ok (.invokestatic 215, 3) := by decide +kernel
theorem dX3_definedCall_34 : decode cX3_definedCall 34 = .ok (.invokevirtual 219, 3) := by decide +kernel
theorem dX3_definedCall_37 : decode cX3_definedCall 37 = .ok (.ireturn, 1) := by decide +kernel

section
variable {p : Program} {l : Launch} {e : Env} {R : Room} {s : State} {m : MethodId} {args : Array Value} {below : List Frame} {meth : Method} {c : Code} {H : Heap} {locs : List Loc} {Qf : State → Prop}
variable {ls : Array Slot} {D : va_G} {ca : Nat → ClassId} {A : Nat → Prop} {ad : Nat → Nat → Nat} {u : iST}
def v_3_definedCall (a0 : Int) (Q : Int → iST → Prop) (u : iST) : Prop :=
  br (a0 ≠ (-1)) (
    bd a0 40 (rd (u.2.1 0 a0) (fun v1 => 
    bd a0 40 (rd (u.2.1 1 a0) (fun v2 => 
    v_11_pairCell v1 v2 (fun v3 u => 
    v_7_made v3 (fun v4 u => 
    Q v4 u) u) u))))) (
    Q (-1) u)
set_option maxRecDepth 20000 in
set_option maxHeartbeats 4000000 in
theorem f_3_definedCall_s (X : yX RX3 p m c cX3_definedCall 2 s args D ca ad A) (hRf : 1 ≤ R.frames) (hRl : 30 ≤ R.locals) {Q : Int → iST → Prop} (hret : ∀ (v : Int) (u : iST) (H : Heap) (locs : List Loc) (ls : Array Slot) (pc : Nat), inR v → Q v u → yW D ca A ad s H locs u → decode cX3_definedCall pc = .ok (.ireturn, 1) → W p l e R s m args below meth c H locs 0 0 Qf (F0 m pc ls [.int (jI v)])) {a0 : Int} (ra0 : inR a0) (hw : yW D ca A ad s H locs u) (hl : lv_has ls 2 [(0, .ref (ad 0 2)), (1, .int (jI a0))]) (h : v_3_definedCall a0 Q u) : W p l e R s m args below meth c H locs 0 0 Qf (F0 m 0 ls []) := by
  have hx := X.1.1
  have hb := X.1.2.1
  unfold v_3_definedCall at h
  refine lv_iload_n hx hb dX3_definedCall_0 rfl (lv_at hl 1 rfl) ?_
  refine lv_iconst hx hb dX3_definedCall_1 (v := jI (-1)) rfl ?_
  refine k_icmp_ne hx hb ra0 (by decide) dX3_definedCall_2 (tgt := 9) rfl h (fun h => ?_) (fun h => ?_)
  · refine lv_aload_n hx hb dX3_definedCall_9 rfl (lv_at hl 0 rfl) ?_
    refine yg_3_37 X hw dX3_definedCall_10 ?_
    refine lv_aload_n hx hb dX3_definedCall_13 rfl (lv_at hl 0 rfl) ?_
    refine yg_3_41 X hw dX3_definedCall_14 ?_
    refine yg_3_209 X hw dX3_definedCall_17 ?_
    refine lv_iload_n hx hb dX3_definedCall_20 rfl (lv_at hl 1 rfl) ?_
    refine yl_0 X hw ra0 dX3_definedCall_21 h (fun v1 rv1 h => ?_)
    refine lv_aload_n hx hb dX3_definedCall_22 rfl (lv_at hl 0 rfl) ?_
    refine yg_3_41 X hw dX3_definedCall_23 ?_
    refine yg_3_212 X hw dX3_definedCall_26 ?_
    refine lv_iload_n hx hb dX3_definedCall_29 rfl (lv_at hl 1 rfl) ?_
    refine yl_1 X hw ra0 dX3_definedCall_30 h (fun v2 rv2 h => ?_)
    refine ycSN (n := 2) (e_11_pairCell rv1 rv2 h) (host := "ProofHouse") rfl goodPair yD_11_pairCell.2 X hw (yNm_3_215 X.2.2.1) (ysI_in (List.mem_of_getElem? (i := 11) rfl)) statPair (Nat.le_trans (Nat.le_of_ble_eq_true rfl) hRf) (Nat.le_trans (Nat.le_of_ble_eq_true rfl) hRl) rfl hl.1 (Nat.le_of_ble_eq_true rfl) rfl dX3_definedCall_31 (fun v3 u H locs rv3 h hw => ?_)
    refine ycI (n := 1) (e_7_made rv3 h) 7 6 (r := (RX7, TX7, 9)) rfl yG_3_219 yD_7_made X hw rfl yGo_7 (Nat.le_trans (Nat.le_of_ble_eq_true rfl) hRf) (Nat.le_trans (Nat.le_of_ble_eq_true rfl) hRl) rfl hl.1 (Nat.le_of_ble_eq_true rfl) rfl dX3_definedCall_34 (fun v4 u H locs rv4 h hw => ?_)
    exact hret _ _ _ _ _ _ rv4 h hw dX3_definedCall_37
  · refine lv_iconst hx hb dX3_definedCall_5 (v := jI (-1)) rfl ?_
    refine lv_goto hx hb dX3_definedCall_6 (tgt := 37) rfl ?_
    exact hret _ _ _ _ _ _ (by decide) h hw dX3_definedCall_37

end
theorem e_3_definedCall {l : Launch} {a0 : Int} (ra0 : inR a0) {Q : Int → iST → Prop} {u : iST} (h : v_3_definedCall a0 Q u) : yMI l yX3_definedCall (.code yX3_definedCall cX3_definedCall 2 (some .int) :: wsN) { frames := 1, cells := 0, slots := 0, locals := 30 } (fun ad => [.ref (ad 0 2), .int (jI a0)]) Q u := yMI_of (own := RX3) rfl (by decide +kernel) (fun _ => Nat.le_of_ble_eq_true rfl) (fun X hRf hRl hret hw hl => f_3_definedCall_s X hRf hRl hret ra0 hw hl h)

/-! ProofHouse$Proofs.concludePair -/
theorem dX3_concludePair_0 : decode cX3_concludePair 0 = .ok (.aload_n 0, 1) := by decide +kernel
theorem dX3_concludePair_1 : decode cX3_concludePair 1 = .ok (.getfield 45, 3) := by decide +kernel
theorem dX3_concludePair_4 : decode cX3_concludePair 4 = .ok (.iconst 5, 1) := by decide +kernel
theorem dX3_concludePair_5 : decode cX3_concludePair 5 = .ok (.iload_n 3, 1) := by decide +kernel
theorem dX3_concludePair_6 : decode cX3_concludePair 6 = .ok (.iload 4, 2) := by decide +kernel
theorem dX3_concludePair_8 : decode cX3_concludePair 8 = .ok (.iconst (-1), 1) := by decide +kernel
theorem dX3_concludePair_9 : decode cX3_concludePair 9 = .ok (.invokevirtual 202, 3) := by decide +kernel
theorem dX3_concludePair_12 : decode cX3_concludePair 12 = .ok (.istore 5, 2) := by decide +kernel
theorem dX3_concludePair_14 : decode cX3_concludePair 14 = .ok (.aload_n 0, 1) := by decide +kernel
theorem dX3_concludePair_15 : decode cX3_concludePair 15 = .ok (.getfield 45, 3) := by decide +kernel
theorem dX3_concludePair_18 : decode cX3_concludePair 18 = .ok (.iload_n 2, 1) := by decide +kernel
theorem dX3_concludePair_19 : decode cX3_concludePair 19 = .ok (.bipush 33, 2) := by decide +kernel
theorem dX3_concludePair_21 : decode cX3_concludePair 21 = .ok (.if_icmp .ne 8, 3) := by decide +kernel
theorem dX3_concludePair_24 : decode cX3_concludePair 24 = .ok (.bipush 10, 2) := by decide +kernel
theorem dX3_concludePair_26 : decode cX3_concludePair 26 = .ok (.goto 16, 3) := by decide +kernel
theorem dX3_concludePair_29 : decode cX3_concludePair 29 = .ok (.iload_n 2, 1) := by decide +kernel
theorem dX3_concludePair_30 : decode cX3_concludePair 30 = .ok (.bipush 31, 2) := by decide +kernel
theorem dX3_concludePair_32 : decode cX3_concludePair 32 = .ok (.if_icmp .ne 8, 3) := by decide +kernel
theorem dX3_concludePair_35 : decode cX3_concludePair 35 = .ok (.bipush 11, 2) := by decide +kernel
theorem dX3_concludePair_37 : decode cX3_concludePair 37 = .ok (.goto 5, 3) := by decide +kernel
theorem dX3_concludePair_40 : decode cX3_concludePair 40 = .ok (.bipush 12, 2) := by decide +kernel
theorem dX3_concludePair_42 : decode cX3_concludePair 42 = .ok (.iload 5, 2) := by decide +kernel
theorem dX3_concludePair_44 : decode cX3_concludePair 44 = .ok (.iconst (-1), 1) := by decide +kernel
theorem dX3_concludePair_45 : decode cX3_concludePair 45 = .ok (.iconst (-1), 1) := by decide +kernel
theorem dX3_concludePair_46 : decode cX3_concludePair 46 = .ok (.invokevirtual 202, 3) := by decide +kernel
theorem dX3_concludePair_49 : decode cX3_concludePair 49 = .ok (.istore 6, 2) := by decide +kernel
theorem dX3_concludePair_51 : decode cX3_concludePair 51 = .ok (.iload_n 2, 1) := by decide +kernel
theorem dX3_concludePair_52 : decode cX3_concludePair 52 = .ok (.bipush 33, 2) := by decide +kernel
theorem dX3_concludePair_54 : decode cX3_concludePair 54 = .ok (.if_icmp .ne 7, 3) := by decide +kernel
theorem dX3_concludePair_57 : decode cX3_concludePair 57 = .ok (.iconst 1, 1) := by decide +kernel
theorem dX3_concludePair_58 : decode cX3_concludePair 58 = .ok (.goto 4, 3) := by decide +kernel
theorem dX3_concludePair_61 : decode cX3_concludePair 61 = .ok (.iconst 0, 1) := by decide +kernel
theorem dX3_concludePair_62 : decode cX3_concludePair 62 = .ok (.istore 7, 2) := by decide +kernel
theorem dX3_concludePair_64 : decode cX3_concludePair 64 = .ok (.aload_n 0, 1) := by decide +kernel
theorem dX3_concludePair_65 : decode cX3_concludePair 65 = .ok (.getfield 45, 3) := by decide +kernel
theorem dX3_concludePair_68 : decode cX3_concludePair 68 = .ok (.aload_n 1, 1) := by decide +kernel
theorem dX3_concludePair_69 : decode cX3_concludePair 69 = .ok (.iload 7, 2) := by decide +kernel
theorem dX3_concludePair_71 : decode cX3_concludePair 71 = .ok (.ifCond .eq 8, 3) := by decide +kernel
theorem dX3_concludePair_74 : decode cX3_concludePair 74 = .ok (.iload 6, 2) := by decide +kernel
theorem dX3_concludePair_76 : decode cX3_concludePair 76 = .ok (.goto 26, 3) := by decide +kernel
theorem dX3_concludePair_79 : decode cX3_concludePair 79 = .ok (.aload_n 0, 1) := by decide +kernel
theorem dX3_concludePair_80 : decode cX3_concludePair 80 = .ok (.getfield 45, 3) := by decide +kernel
theorem dX3_concludePair_83 : decode cX3_concludePair 83 = .ok (.iconst 4, 1) := by decide +kernel
theorem dX3_concludePair_84 : decode cX3_concludePair 84 = .ok (.iload 6, 2) := by decide +kernel
theorem dX3_concludePair_86 : decode cX3_concludePair 86 = .ok (.iload_n 2, 1) := by decide +kernel
theorem dX3_concludePair_87 : decode cX3_concludePair 87 = .ok (.bipush 31, 2) := by decide +kernel
theorem dX3_concludePair_89 : decode cX3_concludePair 89 = .ok (.if_icmp .ne 7, 3) := by decide +kernel
theorem dX3_concludePair_92 : decode cX3_concludePair 92 = .ok (.iload_n 3, 1) := by decide +kernel
theorem dX3_concludePair_93 : decode cX3_concludePair 93 = .ok (.goto 5, 3) := by decide +kernel
theorem dX3_concludePair_96 : decode cX3_concludePair 96 = .ok (.iload 4, 2) := by decide +kernel
theorem dX3_concludePair_98 : decode cX3_concludePair 98 = .ok (.iconst (-1), 1) := by decide +kernel
theorem dX3_concludePair_99 : decode cX3_concludePair 99 = .ok (.invokevirtual 202, 3) := by decide +kernel
theorem dX3_concludePair_102 : decode cX3_concludePair 102 = .ok (.invokevirtual 183, 3) := by decide +kernel
theorem dX3_concludePair_105 : decode cX3_concludePair 105 = .ok (.return_, 1) := by decide +kernel

section
variable {p : Program} {l : Launch} {e : Env} {R : Room} {s : State} {m : MethodId} {args : Array Value} {below : List Frame} {meth : Method} {c : Code} {H : Heap} {locs : List Loc} {Qf : State → Prop}
variable {ls : Array Slot} {D : va_G} {ca : Nat → ClassId} {A : Nat → Prop} {ad : Nat → Nat → Nat} {u : iST}
def v_3_concludePair_102 (Q : iST → Prop) (y1 : Int) (y2 : Int) (u : iST) : Prop :=
  v_10_join y1 y2 (fun u => 
  Q u) u
set_option maxRecDepth 20000 in
set_option maxHeartbeats 4000000 in
theorem f_3_concludePair_102 (X : yX RX3 p m c cX3_concludePair 8 s args D ca ad A) (hRf : 2 ≤ R.frames) (hRl : 56 ≤ R.locals) {Q : iST → Prop} (hret : ∀ (u : iST) (H : Heap) (locs : List Loc) (ls : Array Slot) (pc : Nat), Q u → yW D ca A ad s H locs u → decode cX3_concludePair pc = .ok (.return_, 1) → W p l e R s m args below meth c H locs 0 0 Qf (F0 m pc ls [])) {y1 y2 : Int} (ry1 : (0 ≤ y1 ∧ y1 < 408)) (ry2 : inR y2) (hw : yW D ca A ad s H locs u) (hl : lv_has ls 8 [(0, .ref (ad 0 2))]) (h : v_3_concludePair_102 Q y1 y2 u) : W p l e R s m args below meth c H locs 0 0 Qf (F0 m 102 ls [.int (jI y2), .ref (ad 4 y1.toNat), .ref (ad 0 8)]) := by
  have hx := X.1.1
  have hb := X.1.2.1
  unfold v_3_concludePair_102 at h
  refine ycV (n := 2) (e_10_join ry1 ry2 h) 10 8 (r := (RX10, TX10, 16)) rfl yG_3_183 yD_10_join X hw rfl yGo_10 (Nat.le_trans (Nat.le_of_ble_eq_true rfl) hRf) (Nat.le_trans (Nat.le_of_ble_eq_true rfl) hRl) rfl hl.1 (Nat.le_of_ble_eq_true rfl) rfl dX3_concludePair_102 (fun u H locs h hw => ?_)
  exact hret _ _ _ _ _ h hw dX3_concludePair_105

def v_3_concludePair_98 (Q : iST → Prop) (y1 : Int) (y3 : Int) (y4 : Int) (y5 : Int) (u : iST) : Prop :=
  v_10_call y3 y4 y5 (-1) (fun v3 u => 
  v_3_concludePair_102 Q y1 v3 u) u
set_option maxRecDepth 20000 in
set_option maxHeartbeats 4000000 in
theorem f_3_concludePair_98 (X : yX RX3 p m c cX3_concludePair 8 s args D ca ad A) (hRf : 2 ≤ R.frames) (hRl : 56 ≤ R.locals) {Q : iST → Prop} (hret : ∀ (u : iST) (H : Heap) (locs : List Loc) (ls : Array Slot) (pc : Nat), Q u → yW D ca A ad s H locs u → decode cX3_concludePair pc = .ok (.return_, 1) → W p l e R s m args below meth c H locs 0 0 Qf (F0 m pc ls [])) {y1 y3 y4 y5 : Int} (ry1 : (0 ≤ y1 ∧ y1 < 408)) (ry3 : inR y3) (ry4 : inR y4) (ry5 : inR y5) (hw : yW D ca A ad s H locs u) (hl : lv_has ls 8 [(0, .ref (ad 0 2))]) (h : v_3_concludePair_98 Q y1 y3 y4 y5 u) : W p l e R s m args below meth c H locs 0 0 Qf (F0 m 98 ls [.int (jI y5), .int (jI y4), .int (jI y3), .ref (ad 0 8), .ref (ad 4 y1.toNat), .ref (ad 0 8)]) := by
  have hx := X.1.1
  have hb := X.1.2.1
  unfold v_3_concludePair_98 at h
  refine lv_iconst hx hb dX3_concludePair_98 (v := jI (-1)) rfl ?_
  refine ycI (n := 4) (e_10_call ry3 ry4 ry5 (by decide) h) 10 8 (r := (RX10, TX10, 16)) rfl yG_3_202 yD_10_call X hw rfl yGo_10 (Nat.le_trans (Nat.le_of_ble_eq_true rfl) hRf) (Nat.le_trans (Nat.le_of_ble_eq_true rfl) hRl) rfl hl.1 (Nat.le_of_ble_eq_true rfl) rfl dX3_concludePair_99 (fun v3 u H locs rv3 h hw => ?_)
  exact f_3_concludePair_102 X hRf hRl hret ry1 rv3 hw hl h

def v_3_concludePair_62 (Q : iST → Prop) (x1 : Int) (x2 : Int) (x3 : Int) (x4 : Int) (x6 : Int) (y0 : Int) (u : iST) : Prop :=
  br (y0 = 0) (
    br (x2 ≠ 31) (
      v_3_concludePair_98 Q x1 4 x6 x4 u) (
      v_3_concludePair_98 Q x1 4 x6 x3 u)) (
    v_3_concludePair_102 Q x1 x6 u)
set_option maxRecDepth 20000 in
set_option maxHeartbeats 4000000 in
theorem f_3_concludePair_62 (X : yX RX3 p m c cX3_concludePair 8 s args D ca ad A) (hRf : 2 ≤ R.frames) (hRl : 56 ≤ R.locals) {Q : iST → Prop} (hret : ∀ (u : iST) (H : Heap) (locs : List Loc) (ls : Array Slot) (pc : Nat), Q u → yW D ca A ad s H locs u → decode cX3_concludePair pc = .ok (.return_, 1) → W p l e R s m args below meth c H locs 0 0 Qf (F0 m pc ls [])) {x1 x2 x3 x4 x6 y0 : Int} (rx1 : (0 ≤ x1 ∧ x1 < 408)) (rx2 : inR x2) (rx3 : inR x3) (rx4 : inR x4) (rx6 : inR x6) (ry0 : inR y0) (hw : yW D ca A ad s H locs u) (hl : lv_has ls 8 [(0, .ref (ad 0 2)), (1, .ref (ad 4 x1.toNat)), (2, .int (jI x2)), (3, .int (jI x3)), (4, .int (jI x4)), (6, .int (jI x6))]) (h : v_3_concludePair_62 Q x1 x2 x3 x4 x6 y0 u) : W p l e R s m args below meth c H locs 0 0 Qf (F0 m 62 ls [.int (jI y0)]) := by
  have hx := X.1.1
  have hb := X.1.2.1
  unfold v_3_concludePair_62 at h
  refine lv_istore hx hb dX3_concludePair_62 hl (by decide) rfl (fun ls hl => ?_)
  have hl : lv_has ls 8 [(7, .int (jI y0)), (0, .ref (ad 0 2)), (1, .ref (ad 4 x1.toNat)), (2, .int (jI x2)), (3, .int (jI x3)), (4, .int (jI x4)), (6, .int (jI x6))] := hl
  refine lv_aload_n hx hb dX3_concludePair_64 rfl (lv_at hl 1 rfl) ?_
  refine yg_3_45 X hw dX3_concludePair_65 ?_
  refine lv_aload_n hx hb dX3_concludePair_68 rfl (lv_at hl 2 rfl) ?_
  refine lv_iload hx hb dX3_concludePair_69 (lv_at hl 0 rfl) ?_
  refine k_if_eq hx hb ry0 dX3_concludePair_71 (tgt := 79) rfl h (fun h => ?_) (fun h => ?_)
  · refine lv_aload_n hx hb dX3_concludePair_79 rfl (lv_at hl 1 rfl) ?_
    refine yg_3_45 X hw dX3_concludePair_80 ?_
    refine lv_iconst hx hb dX3_concludePair_83 (v := jI 4) rfl ?_
    refine lv_iload hx hb dX3_concludePair_84 (lv_at hl 6 rfl) ?_
    refine lv_iload_n hx hb dX3_concludePair_86 rfl (lv_at hl 3 rfl) ?_
    refine lv_bipush hx hb dX3_concludePair_87 (v := jI 31) rfl ?_
    refine k_icmp_ne hx hb rx2 (by decide) dX3_concludePair_89 (tgt := 96) rfl h (fun h => ?_) (fun h => ?_)
    · refine lv_iload hx hb dX3_concludePair_96 (lv_at hl 5 rfl) ?_
      exact f_3_concludePair_98 X hRf hRl hret rx1 (by decide) rx6 rx4 hw (lv_sub hl [1] rfl) h
    · refine lv_iload_n hx hb dX3_concludePair_92 rfl (lv_at hl 4 rfl) ?_
      refine lv_goto hx hb dX3_concludePair_93 (tgt := 98) rfl ?_
      exact f_3_concludePair_98 X hRf hRl hret rx1 (by decide) rx6 rx3 hw (lv_sub hl [1] rfl) h
  · refine lv_iload hx hb dX3_concludePair_74 (lv_at hl 6 rfl) ?_
    refine lv_goto hx hb dX3_concludePair_76 (tgt := 102) rfl ?_
    exact f_3_concludePair_102 X hRf hRl hret rx1 rx6 hw (lv_sub hl [1] rfl) h

def v_3_concludePair_42 (Q : iST → Prop) (x1 : Int) (x2 : Int) (x3 : Int) (x4 : Int) (x5 : Int) (y1 : Int) (u : iST) : Prop :=
  v_10_call y1 x5 (-1) (-1) (fun v2 u => 
  br (x2 ≠ 33) (
    v_3_concludePair_62 Q x1 x2 x3 x4 v2 0 u) (
    v_3_concludePair_62 Q x1 x2 x3 x4 v2 1 u)) u
set_option maxRecDepth 20000 in
set_option maxHeartbeats 4000000 in
theorem f_3_concludePair_42 (X : yX RX3 p m c cX3_concludePair 8 s args D ca ad A) (hRf : 2 ≤ R.frames) (hRl : 56 ≤ R.locals) {Q : iST → Prop} (hret : ∀ (u : iST) (H : Heap) (locs : List Loc) (ls : Array Slot) (pc : Nat), Q u → yW D ca A ad s H locs u → decode cX3_concludePair pc = .ok (.return_, 1) → W p l e R s m args below meth c H locs 0 0 Qf (F0 m pc ls [])) {x1 x2 x3 x4 x5 y1 : Int} (rx1 : (0 ≤ x1 ∧ x1 < 408)) (rx2 : inR x2) (rx3 : inR x3) (rx4 : inR x4) (rx5 : inR x5) (ry1 : inR y1) (hw : yW D ca A ad s H locs u) (hl : lv_has ls 8 [(0, .ref (ad 0 2)), (1, .ref (ad 4 x1.toNat)), (2, .int (jI x2)), (3, .int (jI x3)), (4, .int (jI x4)), (5, .int (jI x5))]) (h : v_3_concludePair_42 Q x1 x2 x3 x4 x5 y1 u) : W p l e R s m args below meth c H locs 0 0 Qf (F0 m 42 ls [.int (jI y1), .ref (ad 0 8)]) := by
  have hx := X.1.1
  have hb := X.1.2.1
  unfold v_3_concludePair_42 at h
  refine lv_iload hx hb dX3_concludePair_42 (lv_at hl 5 rfl) ?_
  refine lv_iconst hx hb dX3_concludePair_44 (v := jI (-1)) rfl ?_
  refine lv_iconst hx hb dX3_concludePair_45 (v := jI (-1)) rfl ?_
  refine ycI (n := 4) (e_10_call ry1 rx5 (by decide) (by decide) h) 10 8 (r := (RX10, TX10, 16)) rfl yG_3_202 yD_10_call X hw rfl yGo_10 (Nat.le_trans (Nat.le_of_ble_eq_true rfl) hRf) (Nat.le_trans (Nat.le_of_ble_eq_true rfl) hRl) rfl hl.1 (Nat.le_of_ble_eq_true rfl) rfl dX3_concludePair_46 (fun v2 u H locs rv2 h hw => ?_)
  refine lv_istore hx hb dX3_concludePair_49 hl (by decide) rfl (fun ls hl => ?_)
  have hl : lv_has ls 8 [(6, .int (jI v2)), (0, .ref (ad 0 2)), (1, .ref (ad 4 x1.toNat)), (2, .int (jI x2)), (3, .int (jI x3)), (4, .int (jI x4)), (5, .int (jI x5))] := hl
  refine lv_iload_n hx hb dX3_concludePair_51 rfl (lv_at hl 3 rfl) ?_
  refine lv_bipush hx hb dX3_concludePair_52 (v := jI 33) rfl ?_
  refine k_icmp_ne hx hb rx2 (by decide) dX3_concludePair_54 (tgt := 61) rfl h (fun h => ?_) (fun h => ?_)
  · refine lv_iconst hx hb dX3_concludePair_61 (v := jI 0) rfl ?_
    exact f_3_concludePair_62 X hRf hRl hret rx1 rx2 rx3 rx4 rv2 (by decide) hw (lv_sub hl [1, 2, 3, 4, 5, 0] rfl) h
  · refine lv_iconst hx hb dX3_concludePair_57 (v := jI 1) rfl ?_
    refine lv_goto hx hb dX3_concludePair_58 (tgt := 62) rfl ?_
    exact f_3_concludePair_62 X hRf hRl hret rx1 rx2 rx3 rx4 rv2 (by decide) hw (lv_sub hl [1, 2, 3, 4, 5, 0] rfl) h

def v_3_concludePair (a0 : Int) (a1 : Int) (a2 : Int) (a3 : Int) (Q : iST → Prop) (u : iST) : Prop :=
  v_10_call 5 a2 a3 (-1) (fun v1 u => 
  br (a1 ≠ 33) (
    br (a1 ≠ 31) (
      v_3_concludePair_42 Q a0 a1 a2 a3 v1 12 u) (
      v_3_concludePair_42 Q a0 a1 a2 a3 v1 11 u)) (
    v_3_concludePair_42 Q a0 a1 a2 a3 v1 10 u)) u
set_option maxRecDepth 20000 in
set_option maxHeartbeats 4000000 in
theorem f_3_concludePair_s (X : yX RX3 p m c cX3_concludePair 8 s args D ca ad A) (hRf : 2 ≤ R.frames) (hRl : 56 ≤ R.locals) {Q : iST → Prop} (hret : ∀ (u : iST) (H : Heap) (locs : List Loc) (ls : Array Slot) (pc : Nat), Q u → yW D ca A ad s H locs u → decode cX3_concludePair pc = .ok (.return_, 1) → W p l e R s m args below meth c H locs 0 0 Qf (F0 m pc ls [])) {a0 a1 a2 a3 : Int} (ra0 : (0 ≤ a0 ∧ a0 < 408)) (ra1 : inR a1) (ra2 : inR a2) (ra3 : inR a3) (hw : yW D ca A ad s H locs u) (hl : lv_has ls 8 [(0, .ref (ad 0 2)), (1, .ref (ad 4 a0.toNat)), (2, .int (jI a1)), (3, .int (jI a2)), (4, .int (jI a3))]) (h : v_3_concludePair a0 a1 a2 a3 Q u) : W p l e R s m args below meth c H locs 0 0 Qf (F0 m 0 ls []) := by
  have hx := X.1.1
  have hb := X.1.2.1
  unfold v_3_concludePair at h
  refine lv_aload_n hx hb dX3_concludePair_0 rfl (lv_at hl 0 rfl) ?_
  refine yg_3_45 X hw dX3_concludePair_1 ?_
  refine lv_iconst hx hb dX3_concludePair_4 (v := jI 5) rfl ?_
  refine lv_iload_n hx hb dX3_concludePair_5 rfl (lv_at hl 3 rfl) ?_
  refine lv_iload hx hb dX3_concludePair_6 (lv_at hl 4 rfl) ?_
  refine lv_iconst hx hb dX3_concludePair_8 (v := jI (-1)) rfl ?_
  refine ycI (n := 4) (e_10_call (by decide) ra2 ra3 (by decide) h) 10 8 (r := (RX10, TX10, 16)) rfl yG_3_202 yD_10_call X hw rfl yGo_10 (Nat.le_trans (Nat.le_of_ble_eq_true rfl) hRf) (Nat.le_trans (Nat.le_of_ble_eq_true rfl) hRl) rfl hl.1 (Nat.le_of_ble_eq_true rfl) rfl dX3_concludePair_9 (fun v1 u H locs rv1 h hw => ?_)
  refine lv_istore hx hb dX3_concludePair_12 hl (by decide) rfl (fun ls hl => ?_)
  have hl : lv_has ls 8 [(5, .int (jI v1)), (0, .ref (ad 0 2)), (1, .ref (ad 4 a0.toNat)), (2, .int (jI a1)), (3, .int (jI a2)), (4, .int (jI a3))] := hl
  refine lv_aload_n hx hb dX3_concludePair_14 rfl (lv_at hl 1 rfl) ?_
  refine yg_3_45 X hw dX3_concludePair_15 ?_
  refine lv_iload_n hx hb dX3_concludePair_18 rfl (lv_at hl 3 rfl) ?_
  refine lv_bipush hx hb dX3_concludePair_19 (v := jI 33) rfl ?_
  refine k_icmp_ne hx hb ra1 (by decide) dX3_concludePair_21 (tgt := 29) rfl h (fun h => ?_) (fun h => ?_)
  · refine lv_iload_n hx hb dX3_concludePair_29 rfl (lv_at hl 3 rfl) ?_
    refine lv_bipush hx hb dX3_concludePair_30 (v := jI 31) rfl ?_
    refine k_icmp_ne hx hb ra1 (by decide) dX3_concludePair_32 (tgt := 40) rfl h (fun h => ?_) (fun h => ?_)
    · refine lv_bipush hx hb dX3_concludePair_40 (v := jI 12) rfl ?_
      exact f_3_concludePair_42 X hRf hRl hret ra0 ra1 ra2 ra3 rv1 (by decide) hw (lv_sub hl [1, 2, 3, 4, 5, 0] rfl) h
    · refine lv_bipush hx hb dX3_concludePair_35 (v := jI 11) rfl ?_
      refine lv_goto hx hb dX3_concludePair_37 (tgt := 42) rfl ?_
      exact f_3_concludePair_42 X hRf hRl hret ra0 ra1 ra2 ra3 rv1 (by decide) hw (lv_sub hl [1, 2, 3, 4, 5, 0] rfl) h
  · refine lv_bipush hx hb dX3_concludePair_24 (v := jI 10) rfl ?_
    refine lv_goto hx hb dX3_concludePair_26 (tgt := 42) rfl ?_
    exact f_3_concludePair_42 X hRf hRl hret ra0 ra1 ra2 ra3 rv1 (by decide) hw (lv_sub hl [1, 2, 3, 4, 5, 0] rfl) h

end
theorem e_3_concludePair {l : Launch} {a0 : Int} {a1 : Int} {a2 : Int} {a3 : Int} (ra0 : (0 ≤ a0 ∧ a0 < 408)) (ra1 : inR a1) (ra2 : inR a2) (ra3 : inR a3) {Q : iST → Prop} {u : iST} (h : v_3_concludePair a0 a1 a2 a3 Q u) : yMV l yX3_concludePair (.code yX3_concludePair cX3_concludePair 8 none :: wsN) { frames := 2, cells := 0, slots := 0, locals := 56 } (fun ad => [.ref (ad 0 2), .ref (ad 4 a0.toNat), .int (jI a1), .int (jI a2), .int (jI a3)]) Q u := yMV_of (own := RX3) rfl (by decide +kernel) (fun _ => Nat.le_of_ble_eq_true rfl) (fun X hRf hRl hret hw hl => f_3_concludePair_s X hRf hRl hret ra0 ra1 ra2 ra3 hw hl h)

/-! ProofHouse$Proofs.concludeAlone -/
theorem dX3_concludeAlone_0 : decode cX3_concludeAlone 0 = .ok (.aload_n 0, 1) := by decide +kernel
theorem dX3_concludeAlone_1 : decode cX3_concludeAlone 1 = .ok (.getfield 37, 3) := by decide +kernel
theorem dX3_concludeAlone_4 : decode cX3_concludeAlone 4 = .ok (.iload_n 2, 1) := by decide +kernel
theorem dX3_concludeAlone_5 : decode cX3_concludeAlone 5 = .ok (.invokevirtual 89, 3) := by decide +kernel
theorem dX3_concludeAlone_8 : decode cX3_concludeAlone 8 = .ok (.istore_n 3, 1) := by decide +kernel
theorem dX3_concludeAlone_9 : decode cX3_concludeAlone 9 = .ok (.aload_n 0, 1) := by decide +kernel
theorem dX3_concludeAlone_10 : decode cX3_concludeAlone 10 = .ok (.iload_n 2, 1) := by decide +kernel
theorem dX3_concludeAlone_11 : decode cX3_concludeAlone 11 = .ok (.iconst 1, 1) := by decide +kernel
theorem dX3_concludeAlone_12 : decode cX3_concludeAlone 12 = .ok (.invokevirtual 109, 3) := by decide +kernel
theorem dX3_concludeAlone_15 : decode cX3_concludeAlone 15 = .ok (.istore 4, 2) := by decide +kernel
theorem dX3_concludeAlone_17 : decode cX3_concludeAlone 17 = .ok (.iload_n 3, 1) := by decide +kernel
theorem dX3_concludeAlone_18 : decode cX3_concludeAlone 18 = .ok (.bipush 31, 2) := by decide +kernel
theorem dX3_concludeAlone_20 : decode cX3_concludeAlone 20 = .ok (.if_icmp .lt 18, 3) := by decide +kernel
theorem dX3_concludeAlone_23 : decode cX3_concludeAlone 23 = .ok (.iload_n 3, 1) := by decide +kernel
theorem dX3_concludeAlone_24 : decode cX3_concludeAlone 24 = .ok (.bipush 35, 2) := by decide +kernel
theorem dX3_concludeAlone_26 : decode cX3_concludeAlone 26 = .ok (.if_icmp .gt 12, 3) := by decide +kernel
theorem dX3_concludeAlone_29 : decode cX3_concludeAlone 29 = .ok (.aload_n 0, 1) := by decide +kernel
theorem dX3_concludeAlone_30 : decode cX3_concludeAlone 30 = .ok (.iload_n 2, 1) := by decide +kernel
theorem dX3_concludeAlone_31 : decode cX3_concludeAlone 31 = .ok (.iconst 2, 1) := by decide +kernel
theorem dX3_concludeAlone_32 : decode cX3_concludeAlone 32 = .ok (.invokevirtual 109, 3) := by decide +kernel
theorem dX3_concludeAlone_35 : decode cX3_concludeAlone 35 = .ok (.goto 4, 3) := by decide +kernel
theorem dX3_concludeAlone_38 : decode cX3_concludeAlone 38 = .ok (.iconst (-1), 1) := by decide +kernel
theorem dX3_concludeAlone_39 : decode cX3_concludeAlone 39 = .ok (.istore 5, 2) := by decide +kernel
theorem dX3_concludeAlone_41 : decode cX3_concludeAlone 41 = .ok (.iload_n 3, 1) := by decide +kernel
theorem dX3_concludeAlone_42 : decode cX3_concludeAlone 42 = .ok (.tableswitch 290 28 37 #[54, 84, 96, 290, 290, 290, 219, 219, 118, 170], 54) := by decide +kernel
theorem dX3_concludeAlone_96 : decode cX3_concludeAlone 96 = .ok (.aload_n 0, 1) := by decide +kernel
theorem dX3_concludeAlone_97 : decode cX3_concludeAlone 97 = .ok (.getfield 45, 3) := by decide +kernel
theorem dX3_concludeAlone_100 : decode cX3_concludeAlone 100 = .ok (.aload_n 1, 1) := by decide +kernel
theorem dX3_concludeAlone_101 : decode cX3_concludeAlone 101 = .ok (.iload 4, 2) := by decide +kernel
theorem dX3_concludeAlone_103 : decode cX3_concludeAlone 103 = .ok (.invokevirtual 183, 3) := by decide +kernel
theorem dX3_concludeAlone_106 : decode cX3_concludeAlone 106 = .ok (.aload_n 0, 1) := by decide +kernel
theorem dX3_concludeAlone_107 : decode cX3_concludeAlone 107 = .ok (.getfield 45, 3) := by decide +kernel
theorem dX3_concludeAlone_110 : decode cX3_concludeAlone 110 = .ok (.aload_n 1, 1) := by decide +kernel
theorem dX3_concludeAlone_111 : decode cX3_concludeAlone 111 = .ok (.aload_n 0, 1) := by decide +kernel
theorem dX3_concludeAlone_112 : decode cX3_concludeAlone 112 = .ok (.getfield 45, 3) := by decide +kernel
theorem dX3_concludeAlone_115 : decode cX3_concludeAlone 115 = .ok (.iload 4, 2) := by decide +kernel
theorem dX3_concludeAlone_117 : decode cX3_concludeAlone 117 = .ok (.invokevirtual 186, 3) := by decide +kernel
theorem dX3_concludeAlone_120 : decode cX3_concludeAlone 120 = .ok (.invokevirtual 183, 3) := by decide +kernel
theorem dX3_concludeAlone_123 : decode cX3_concludeAlone 123 = .ok (.goto 219, 3) := by decide +kernel
theorem dX3_concludeAlone_126 : decode cX3_concludeAlone 126 = .ok (.aload_n 0, 1) := by decide +kernel
theorem dX3_concludeAlone_127 : decode cX3_concludeAlone 127 = .ok (.aload_n 1, 1) := by decide +kernel
theorem dX3_concludeAlone_128 : decode cX3_concludeAlone 128 = .ok (.iload 4, 2) := by decide +kernel
theorem dX3_concludeAlone_130 : decode cX3_concludeAlone 130 = .ok (.iload 4, 2) := by decide +kernel
theorem dX3_concludeAlone_132 : decode cX3_concludeAlone 132 = .ok (.invokevirtual 189, 3) := by decide +kernel
theorem dX3_concludeAlone_135 : decode cX3_concludeAlone 135 = .ok (.goto 207, 3) := by decide +kernel
theorem dX3_concludeAlone_138 : decode cX3_concludeAlone 138 = .ok (.aload_n 0, 1) := by decide +kernel
theorem dX3_concludeAlone_139 : decode cX3_concludeAlone 139 = .ok (.aload_n 1, 1) := by decide +kernel
theorem dX3_concludeAlone_140 : decode cX3_concludeAlone 140 = .ok (.iload 4, 2) := by decide +kernel
theorem dX3_concludeAlone_142 : decode cX3_concludeAlone 142 = .ok (.aload_n 0, 1) := by decide +kernel
theorem dX3_concludeAlone_143 : decode cX3_concludeAlone 143 = .ok (.getfield 37, 3) := by decide +kernel
theorem dX3_concludeAlone_146 : decode cX3_concludeAlone 146 = .ok (.aload_n 0, 1) := by decide +kernel
theorem dX3_concludeAlone_147 : decode cX3_concludeAlone 147 = .ok (.iload_n 2, 1) := by decide +kernel
theorem dX3_concludeAlone_148 : decode cX3_concludeAlone 148 = .ok (.invokevirtual 117, 3) := by decide +kernel
theorem dX3_concludeAlone_151 : decode cX3_concludeAlone 151 = .ok (.invokevirtual 193, 3) := by decide +kernel
theorem dX3_concludeAlone_154 : decode cX3_concludeAlone 154 = .ok (.invokevirtual 189, 3) := by decide +kernel
theorem dX3_concludeAlone_157 : decode cX3_concludeAlone 157 = .ok (.goto 185, 3) := by decide +kernel
theorem dX3_concludeAlone_160 : decode cX3_concludeAlone 160 = .ok (.aload_n 0, 1) := by decide +kernel
theorem dX3_concludeAlone_161 : decode cX3_concludeAlone 161 = .ok (.getfield 41, 3) := by decide +kernel
theorem dX3_concludeAlone_164 : decode cX3_concludeAlone 164 = .ok (.aload_n 0, 1) := by decide +kernel
theorem dX3_concludeAlone_165 : decode cX3_concludeAlone 165 = .ok (.getfield 37, 3) := by decide +kernel
theorem dX3_concludeAlone_168 : decode cX3_concludeAlone 168 = .ok (.iload_n 2, 1) := by decide +kernel
theorem dX3_concludeAlone_169 : decode cX3_concludeAlone 169 = .ok (.iconst 1, 1) := by decide +kernel
theorem dX3_concludeAlone_170 : decode cX3_concludeAlone 170 = .ok (.invokevirtual 67, 3) := by decide +kernel
theorem dX3_concludeAlone_173 : decode cX3_concludeAlone 173 = .ok (.invokevirtual 120, 3) := by decide +kernel
theorem dX3_concludeAlone_176 : decode cX3_concludeAlone 176 = .ok (.istore 6, 2) := by decide +kernel
theorem dX3_concludeAlone_178 : decode cX3_concludeAlone 178 = .ok (.aload_n 0, 1) := by decide +kernel
theorem dX3_concludeAlone_179 : decode cX3_concludeAlone 179 = .ok (.aload_n 1, 1) := by decide +kernel
theorem dX3_concludeAlone_180 : decode cX3_concludeAlone 180 = .ok (.aload_n 0, 1) := by decide +kernel
theorem dX3_concludeAlone_181 : decode cX3_concludeAlone 181 = .ok (.iload 6, 2) := by decide +kernel
theorem dX3_concludeAlone_183 : decode cX3_concludeAlone 183 = .ok (.invokevirtual 196, 3) := by decide +kernel
theorem dX3_concludeAlone_186 : decode cX3_concludeAlone 186 = .ok (.iload 6, 2) := by decide +kernel
theorem dX3_concludeAlone_188 : decode cX3_concludeAlone 188 = .ok (.iconst (-1), 1) := by decide +kernel
theorem dX3_concludeAlone_189 : decode cX3_concludeAlone 189 = .ok (.if_icmp .ne 7, 3) := by decide +kernel
theorem dX3_concludeAlone_192 : decode cX3_concludeAlone 192 = .ok (.iconst (-1), 1) := by decide +kernel
theorem dX3_concludeAlone_193 : decode cX3_concludeAlone 193 = .ok (.goto 13, 3) := by decide +kernel
theorem dX3_concludeAlone_196 : decode cX3_concludeAlone 196 = .ok (.aload_n 0, 1) := by decide +kernel
theorem dX3_concludeAlone_197 : decode cX3_concludeAlone 197 = .ok (.getfield 41, 3) := by decide +kernel
theorem dX3_concludeAlone_200 : decode cX3_concludeAlone 200 = .ok (.getfield 163, 3) := by decide +kernel
theorem dX3_concludeAlone_203 : decode cX3_concludeAlone 203 = .ok (.iload 6, 2) := by decide +kernel
theorem dX3_concludeAlone_205 : decode cX3_concludeAlone 205 = .ok (.iaload, 1) := by decide +kernel
theorem dX3_concludeAlone_206 : decode cX3_concludeAlone 206 = .ok (.invokevirtual 189, 3) := by decide +kernel
theorem dX3_concludeAlone_209 : decode cX3_concludeAlone 209 = .ok (.goto 133, 3) := by decide +kernel
theorem dX3_concludeAlone_212 : decode cX3_concludeAlone 212 = .ok (.aload_n 0, 1) := by decide +kernel
theorem dX3_concludeAlone_213 : decode cX3_concludeAlone 213 = .ok (.getfield 41, 3) := by decide +kernel
theorem dX3_concludeAlone_216 : decode cX3_concludeAlone 216 = .ok (.aload_n 0, 1) := by decide +kernel
theorem dX3_concludeAlone_217 : decode cX3_concludeAlone 217 = .ok (.getfield 37, 3) := by decide +kernel
theorem dX3_concludeAlone_220 : decode cX3_concludeAlone 220 = .ok (.iload_n 2, 1) := by decide +kernel
theorem dX3_concludeAlone_221 : decode cX3_concludeAlone 221 = .ok (.iconst 1, 1) := by decide +kernel
theorem dX3_concludeAlone_222 : decode cX3_concludeAlone 222 = .ok (.invokevirtual 67, 3) := by decide +kernel
theorem dX3_concludeAlone_225 : decode cX3_concludeAlone 225 = .ok (.invokevirtual 125, 3) := by decide +kernel
theorem dX3_concludeAlone_228 : decode cX3_concludeAlone 228 = .ok (.istore 7, 2) := by decide +kernel
theorem dX3_concludeAlone_230 : decode cX3_concludeAlone 230 = .ok (.aload_n 0, 1) := by decide +kernel
theorem dX3_concludeAlone_231 : decode cX3_concludeAlone 231 = .ok (.getfield 45, 3) := by decide +kernel
theorem dX3_concludeAlone_234 : decode cX3_concludeAlone 234 = .ok (.aload_n 1, 1) := by decide +kernel
theorem dX3_concludeAlone_235 : decode cX3_concludeAlone 235 = .ok (.iload 7, 2) := by decide +kernel
theorem dX3_concludeAlone_237 : decode cX3_concludeAlone 237 = .ok (.iconst (-1), 1) := by decide +kernel
theorem dX3_concludeAlone_238 : decode cX3_concludeAlone 238 = .ok (.if_icmp .ne 7, 3) := by decide +kernel
theorem dX3_concludeAlone_241 : decode cX3_concludeAlone 241 = .ok (.iconst (-1), 1) := by decide +kernel
theorem dX3_concludeAlone_242 : decode cX3_concludeAlone 242 = .ok (.goto 13, 3) := by decide +kernel
theorem dX3_concludeAlone_245 : decode cX3_concludeAlone 245 = .ok (.aload_n 0, 1) := by decide +kernel
theorem dX3_concludeAlone_246 : decode cX3_concludeAlone 246 = .ok (.getfield 41, 3) := by decide +kernel
theorem dX3_concludeAlone_249 : decode cX3_concludeAlone 249 = .ok (.getfield 199, 3) := by decide +kernel
theorem dX3_concludeAlone_252 : decode cX3_concludeAlone 252 = .ok (.iload 7, 2) := by decide +kernel
theorem dX3_concludeAlone_254 : decode cX3_concludeAlone 254 = .ok (.iaload, 1) := by decide +kernel
theorem dX3_concludeAlone_255 : decode cX3_concludeAlone 255 = .ok (.invokevirtual 183, 3) := by decide +kernel
theorem dX3_concludeAlone_258 : decode cX3_concludeAlone 258 = .ok (.goto 84, 3) := by decide +kernel
theorem dX3_concludeAlone_261 : decode cX3_concludeAlone 261 = .ok (.aload_n 0, 1) := by decide +kernel
theorem dX3_concludeAlone_262 : decode cX3_concludeAlone 262 = .ok (.iload_n 2, 1) := by decide +kernel
theorem dX3_concludeAlone_263 : decode cX3_concludeAlone 263 = .ok (.iconst 3, 1) := by decide +kernel
theorem dX3_concludeAlone_264 : decode cX3_concludeAlone 264 = .ok (.invokevirtual 109, 3) := by decide +kernel
theorem dX3_concludeAlone_267 : decode cX3_concludeAlone 267 = .ok (.istore 8, 2) := by decide +kernel
theorem dX3_concludeAlone_269 : decode cX3_concludeAlone 269 = .ok (.aload_n 0, 1) := by decide +kernel
theorem dX3_concludeAlone_270 : decode cX3_concludeAlone 270 = .ok (.getfield 45, 3) := by decide +kernel
theorem dX3_concludeAlone_273 : decode cX3_concludeAlone 273 = .ok (.aload_n 1, 1) := by decide +kernel
theorem dX3_concludeAlone_274 : decode cX3_concludeAlone 274 = .ok (.iload_n 3, 1) := by decide +kernel
theorem dX3_concludeAlone_275 : decode cX3_concludeAlone 275 = .ok (.bipush 34, 2) := by decide +kernel
theorem dX3_concludeAlone_277 : decode cX3_concludeAlone 277 = .ok (.if_icmp .ne 15, 3) := by decide +kernel
theorem dX3_concludeAlone_280 : decode cX3_concludeAlone 280 = .ok (.aload_n 0, 1) := by decide +kernel
theorem dX3_concludeAlone_281 : decode cX3_concludeAlone 281 = .ok (.getfield 45, 3) := by decide +kernel
theorem dX3_concludeAlone_284 : decode cX3_concludeAlone 284 = .ok (.iload 4, 2) := by decide +kernel
theorem dX3_concludeAlone_286 : decode cX3_concludeAlone 286 = .ok (.invokevirtual 186, 3) := by decide +kernel
theorem dX3_concludeAlone_289 : decode cX3_concludeAlone 289 = .ok (.goto 5, 3) := by decide +kernel
theorem dX3_concludeAlone_292 : decode cX3_concludeAlone 292 = .ok (.iload 4, 2) := by decide +kernel
theorem dX3_concludeAlone_294 : decode cX3_concludeAlone 294 = .ok (.invokevirtual 183, 3) := by decide +kernel
theorem dX3_concludeAlone_297 : decode cX3_concludeAlone 297 = .ok (.aload_n 0, 1) := by decide +kernel
theorem dX3_concludeAlone_298 : decode cX3_concludeAlone 298 = .ok (.aload_n 1, 1) := by decide +kernel
theorem dX3_concludeAlone_299 : decode cX3_concludeAlone 299 = .ok (.aload_n 0, 1) := by decide +kernel
theorem dX3_concludeAlone_300 : decode cX3_concludeAlone 300 = .ok (.getfield 45, 3) := by decide +kernel
theorem dX3_concludeAlone_303 : decode cX3_concludeAlone 303 = .ok (.iconst 3, 1) := by decide +kernel
theorem dX3_concludeAlone_304 : decode cX3_concludeAlone 304 = .ok (.iload 4, 2) := by decide +kernel
theorem dX3_concludeAlone_306 : decode cX3_concludeAlone 306 = .ok (.iload 5, 2) := by decide +kernel
theorem dX3_concludeAlone_308 : decode cX3_concludeAlone 308 = .ok (.iload 8, 2) := by decide +kernel
theorem dX3_concludeAlone_310 : decode cX3_concludeAlone 310 = .ok (.invokevirtual 202, 3) := by decide +kernel
theorem dX3_concludeAlone_313 : decode cX3_concludeAlone 313 = .ok (.iload_n 3, 1) := by decide +kernel
theorem dX3_concludeAlone_314 : decode cX3_concludeAlone 314 = .ok (.bipush 34, 2) := by decide +kernel
theorem dX3_concludeAlone_316 : decode cX3_concludeAlone 316 = .ok (.if_icmp .ne 8, 3) := by decide +kernel
theorem dX3_concludeAlone_319 : decode cX3_concludeAlone 319 = .ok (.iload 5, 2) := by decide +kernel
theorem dX3_concludeAlone_321 : decode cX3_concludeAlone 321 = .ok (.goto 5, 3) := by decide +kernel
theorem dX3_concludeAlone_324 : decode cX3_concludeAlone 324 = .ok (.iload 8, 2) := by decide +kernel
theorem dX3_concludeAlone_326 : decode cX3_concludeAlone 326 = .ok (.invokevirtual 189, 3) := by decide +kernel
theorem dX3_concludeAlone_329 : decode cX3_concludeAlone 329 = .ok (.goto 13, 3) := by decide +kernel
theorem dX3_concludeAlone_332 : decode cX3_concludeAlone 332 = .ok (.aload_n 0, 1) := by decide +kernel
theorem dX3_concludeAlone_333 : decode cX3_concludeAlone 333 = .ok (.aload_n 1, 1) := by decide +kernel
theorem dX3_concludeAlone_334 : decode cX3_concludeAlone 334 = .ok (.iload_n 3, 1) := by decide +kernel
theorem dX3_concludeAlone_335 : decode cX3_concludeAlone 335 = .ok (.iload 4, 2) := by decide +kernel
theorem dX3_concludeAlone_337 : decode cX3_concludeAlone 337 = .ok (.iload 5, 2) := by decide +kernel
theorem dX3_concludeAlone_339 : decode cX3_concludeAlone 339 = .ok (.invokevirtual 205, 3) := by decide +kernel
theorem dX3_concludeAlone_342 : decode cX3_concludeAlone 342 = .ok (.return_, 1) := by decide +kernel

section
variable {p : Program} {l : Launch} {e : Env} {R : Room} {s : State} {m : MethodId} {args : Array Value} {below : List Frame} {meth : Method} {c : Code} {H : Heap} {locs : List Loc} {Qf : State → Prop}
variable {ls : Array Slot} {D : va_G} {ca : Nat → ClassId} {A : Nat → Prop} {ad : Nat → Nat → Nat} {u : iST}
def v_3_concludeAlone_326 (Q : iST → Prop) (y1 : Int) (y2 : Int) (y3 : Int) (u : iST) : Prop :=
  v_3_joinEqual y1 y2 y3 (fun u => 
  Q u) u
set_option maxRecDepth 20000 in
set_option maxHeartbeats 4000000 in
theorem f_3_concludeAlone_326 (X : yX RX3 p m c cX3_concludeAlone 9 s args D ca ad A) (hRf : 4 ≤ R.frames) (hRl : 100 ≤ R.locals) {Q : iST → Prop} (hret : ∀ (u : iST) (H : Heap) (locs : List Loc) (ls : Array Slot) (pc : Nat), Q u → yW D ca A ad s H locs u → decode cX3_concludeAlone pc = .ok (.return_, 1) → W p l e R s m args below meth c H locs 0 0 Qf (F0 m pc ls [])) {y1 y2 y3 : Int} (ry1 : (0 ≤ y1 ∧ y1 < 408)) (ry2 : inR y2) (ry3 : inR y3) (hw : yW D ca A ad s H locs u) (hl : lv_has ls 9 [(0, .ref (ad 0 2))]) (h : v_3_concludeAlone_326 Q y1 y2 y3 u) : W p l e R s m args below meth c H locs 0 0 Qf (F0 m 326 ls [.int (jI y3), .int (jI y2), .ref (ad 4 y1.toNat), .ref (ad 0 2)]) := by
  have hx := X.1.1
  have hb := X.1.2.1
  unfold v_3_concludeAlone_326 at h
  refine ycV (n := 3) (e_3_joinEqual ry1 ry2 ry3 h) 3 2 (r := (RX3, TX3, 11)) rfl yG_3_189 yD_3_joinEqual X hw rfl yGo_3 (Nat.le_trans (Nat.le_of_ble_eq_true rfl) hRf) (Nat.le_trans (Nat.le_of_ble_eq_true rfl) hRl) rfl hl.1 (Nat.le_of_ble_eq_true rfl) rfl dX3_concludeAlone_326 (fun u H locs h hw => ?_)
  refine lv_goto hx hb dX3_concludeAlone_329 (tgt := 342) rfl ?_
  exact hret _ _ _ _ _ h hw dX3_concludeAlone_342

def v_3_concludeAlone_294 (Q : iST → Prop) (x1 : Int) (x3 : Int) (x4 : Int) (x5 : Int) (x8 : Int) (y1 : Int) (y2 : Int) (u : iST) : Prop :=
  v_10_join y1 y2 (fun u => 
  v_10_call 3 x4 x5 x8 (fun v21 u => 
  br (x3 ≠ 34) (
    v_3_concludeAlone_326 Q x1 v21 x8 u) (
    v_3_concludeAlone_326 Q x1 v21 x5 u)) u) u
set_option maxRecDepth 20000 in
set_option maxHeartbeats 4000000 in
theorem f_3_concludeAlone_294 (X : yX RX3 p m c cX3_concludeAlone 9 s args D ca ad A) (hRf : 4 ≤ R.frames) (hRl : 100 ≤ R.locals) {Q : iST → Prop} (hret : ∀ (u : iST) (H : Heap) (locs : List Loc) (ls : Array Slot) (pc : Nat), Q u → yW D ca A ad s H locs u → decode cX3_concludeAlone pc = .ok (.return_, 1) → W p l e R s m args below meth c H locs 0 0 Qf (F0 m pc ls [])) {x1 x3 x4 x5 x8 y1 y2 : Int} (rx1 : (0 ≤ x1 ∧ x1 < 408)) (rx3 : inR x3) (rx4 : inR x4) (rx5 : inR x5) (rx8 : inR x8) (ry1 : (0 ≤ y1 ∧ y1 < 408)) (ry2 : inR y2) (hw : yW D ca A ad s H locs u) (hl : lv_has ls 9 [(0, .ref (ad 0 2)), (1, .ref (ad 4 x1.toNat)), (3, .int (jI x3)), (4, .int (jI x4)), (5, .int (jI x5)), (8, .int (jI x8))]) (h : v_3_concludeAlone_294 Q x1 x3 x4 x5 x8 y1 y2 u) : W p l e R s m args below meth c H locs 0 0 Qf (F0 m 294 ls [.int (jI y2), .ref (ad 4 y1.toNat), .ref (ad 0 8)]) := by
  have hx := X.1.1
  have hb := X.1.2.1
  unfold v_3_concludeAlone_294 at h
  refine ycV (n := 2) (e_10_join ry1 ry2 h) 10 8 (r := (RX10, TX10, 16)) rfl yG_3_183 yD_10_join X hw rfl yGo_10 (Nat.le_trans (Nat.le_of_ble_eq_true rfl) hRf) (Nat.le_trans (Nat.le_of_ble_eq_true rfl) hRl) rfl hl.1 (Nat.le_of_ble_eq_true rfl) rfl dX3_concludeAlone_294 (fun u H locs h hw => ?_)
  refine lv_aload_n hx hb dX3_concludeAlone_297 rfl (lv_at hl 0 rfl) ?_
  refine lv_aload_n hx hb dX3_concludeAlone_298 rfl (lv_at hl 1 rfl) ?_
  refine lv_aload_n hx hb dX3_concludeAlone_299 rfl (lv_at hl 0 rfl) ?_
  refine yg_3_45 X hw dX3_concludeAlone_300 ?_
  refine lv_iconst hx hb dX3_concludeAlone_303 (v := jI 3) rfl ?_
  refine lv_iload hx hb dX3_concludeAlone_304 (lv_at hl 3 rfl) ?_
  refine lv_iload hx hb dX3_concludeAlone_306 (lv_at hl 4 rfl) ?_
  refine lv_iload hx hb dX3_concludeAlone_308 (lv_at hl 5 rfl) ?_
  refine ycI (n := 4) (e_10_call (by decide) rx4 rx5 rx8 h) 10 8 (r := (RX10, TX10, 16)) rfl yG_3_202 yD_10_call X hw rfl yGo_10 (Nat.le_trans (Nat.le_of_ble_eq_true rfl) hRf) (Nat.le_trans (Nat.le_of_ble_eq_true rfl) hRl) rfl hl.1 (Nat.le_of_ble_eq_true rfl) rfl dX3_concludeAlone_310 (fun v21 u H locs rv21 h hw => ?_)
  refine lv_iload_n hx hb dX3_concludeAlone_313 rfl (lv_at hl 2 rfl) ?_
  refine lv_bipush hx hb dX3_concludeAlone_314 (v := jI 34) rfl ?_
  refine k_icmp_ne hx hb rx3 (by decide) dX3_concludeAlone_316 (tgt := 324) rfl h (fun h => ?_) (fun h => ?_)
  · refine lv_iload hx hb dX3_concludeAlone_324 (lv_at hl 5 rfl) ?_
    exact f_3_concludeAlone_326 X hRf hRl hret rx1 rv21 rx8 hw (lv_sub hl [0] rfl) h
  · refine lv_iload hx hb dX3_concludeAlone_319 (lv_at hl 4 rfl) ?_
    refine lv_goto hx hb dX3_concludeAlone_321 (tgt := 326) rfl ?_
    exact f_3_concludeAlone_326 X hRf hRl hret rx1 rv21 rx5 hw (lv_sub hl [0] rfl) h

def v_3_concludeAlone_206 (Q : iST → Prop) (y1 : Int) (y2 : Int) (y3 : Int) (u : iST) : Prop :=
  v_3_joinEqual y1 y2 y3 (fun u => 
  Q u) u
set_option maxRecDepth 20000 in
set_option maxHeartbeats 4000000 in
theorem f_3_concludeAlone_206 (X : yX RX3 p m c cX3_concludeAlone 9 s args D ca ad A) (hRf : 4 ≤ R.frames) (hRl : 100 ≤ R.locals) {Q : iST → Prop} (hret : ∀ (u : iST) (H : Heap) (locs : List Loc) (ls : Array Slot) (pc : Nat), Q u → yW D ca A ad s H locs u → decode cX3_concludeAlone pc = .ok (.return_, 1) → W p l e R s m args below meth c H locs 0 0 Qf (F0 m pc ls [])) {y1 y2 y3 : Int} (ry1 : (0 ≤ y1 ∧ y1 < 408)) (ry2 : inR y2) (ry3 : inR y3) (hw : yW D ca A ad s H locs u) (hl : lv_has ls 9 [(0, .ref (ad 0 2))]) (h : v_3_concludeAlone_206 Q y1 y2 y3 u) : W p l e R s m args below meth c H locs 0 0 Qf (F0 m 206 ls [.int (jI y3), .int (jI y2), .ref (ad 4 y1.toNat), .ref (ad 0 2)]) := by
  have hx := X.1.1
  have hb := X.1.2.1
  unfold v_3_concludeAlone_206 at h
  refine ycV (n := 3) (e_3_joinEqual ry1 ry2 ry3 h) 3 2 (r := (RX3, TX3, 11)) rfl yG_3_189 yD_3_joinEqual X hw rfl yGo_3 (Nat.le_trans (Nat.le_of_ble_eq_true rfl) hRf) (Nat.le_trans (Nat.le_of_ble_eq_true rfl) hRl) rfl hl.1 (Nat.le_of_ble_eq_true rfl) rfl dX3_concludeAlone_206 (fun u H locs h hw => ?_)
  refine lv_goto hx hb dX3_concludeAlone_209 (tgt := 342) rfl ?_
  exact hret _ _ _ _ _ h hw dX3_concludeAlone_342

def v_3_concludeAlone_255 (Q : iST → Prop) (y1 : Int) (y2 : Int) (u : iST) : Prop :=
  v_10_join y1 y2 (fun u => 
  Q u) u
set_option maxRecDepth 20000 in
set_option maxHeartbeats 4000000 in
theorem f_3_concludeAlone_255 (X : yX RX3 p m c cX3_concludeAlone 9 s args D ca ad A) (hRf : 4 ≤ R.frames) (hRl : 100 ≤ R.locals) {Q : iST → Prop} (hret : ∀ (u : iST) (H : Heap) (locs : List Loc) (ls : Array Slot) (pc : Nat), Q u → yW D ca A ad s H locs u → decode cX3_concludeAlone pc = .ok (.return_, 1) → W p l e R s m args below meth c H locs 0 0 Qf (F0 m pc ls [])) {y1 y2 : Int} (ry1 : (0 ≤ y1 ∧ y1 < 408)) (ry2 : inR y2) (hw : yW D ca A ad s H locs u) (hl : lv_has ls 9 [(0, .ref (ad 0 2))]) (h : v_3_concludeAlone_255 Q y1 y2 u) : W p l e R s m args below meth c H locs 0 0 Qf (F0 m 255 ls [.int (jI y2), .ref (ad 4 y1.toNat), .ref (ad 0 8)]) := by
  have hx := X.1.1
  have hb := X.1.2.1
  unfold v_3_concludeAlone_255 at h
  refine ycV (n := 2) (e_10_join ry1 ry2 h) 10 8 (r := (RX10, TX10, 16)) rfl yG_3_183 yD_10_join X hw rfl yGo_10 (Nat.le_trans (Nat.le_of_ble_eq_true rfl) hRf) (Nat.le_trans (Nat.le_of_ble_eq_true rfl) hRl) rfl hl.1 (Nat.le_of_ble_eq_true rfl) rfl dX3_concludeAlone_255 (fun u H locs h hw => ?_)
  refine lv_goto hx hb dX3_concludeAlone_258 (tgt := 342) rfl ?_
  exact hret _ _ _ _ _ h hw dX3_concludeAlone_342

def v_3_concludeAlone_39 (Q : iST → Prop) (x1 : Int) (x2 : Int) (x3 : Int) (x4 : Int) (y0 : Int) (u : iST) : Prop :=
  br (x3 = 28) (
    v_10_join x1 x4 (fun u => 
    v_10_negated x4 (fun v4 u => 
    v_10_join x1 v4 (fun u => 
    Q u) u) u) u) (
  br (x3 = 29) (
    v_3_joinEqual x1 x4 x4 (fun u => 
    Q u) u) (
  br (x3 = 30) (
    v_3_valueAt x2 (fun v9 u => 
    v_7_constantOf v9 (fun v10 u => 
    v_3_joinEqual x1 x4 v10 (fun u => 
    Q u) u) u) u) (
  br (x3 = 31) (
    v_3_concludePair x1 x3 x4 y0 (fun u => 
    Q u) u) (
  br (x3 = 32) (
    v_3_concludePair x1 x3 x4 y0 (fun u => 
    Q u) u) (
  br (x3 = 33) (
    v_3_concludePair x1 x3 x4 y0 (fun u => 
    Q u) u) (
  br (x3 = 34) (
    v_3_termAt x2 3 (fun v19 u => 
    br (x3 ≠ 34) (
      v_3_concludeAlone_294 Q x1 x3 x4 y0 v19 x1 x4 u) (
      v_10_negated x4 (fun v23 u => 
      v_3_concludeAlone_294 Q x1 x3 x4 y0 v19 x1 v23 u) u)) u) (
  br (x3 = 35) (
    v_3_termAt x2 3 (fun v25 u => 
    br (x3 ≠ 34) (
      v_3_concludeAlone_294 Q x1 x3 x4 y0 v25 x1 x4 u) (
      v_10_negated x4 (fun v26 u => 
      v_3_concludeAlone_294 Q x1 x3 x4 y0 v25 x1 v26 u) u)) u) (
  br (x3 = 36) (
    v_7_item x2 1 (fun v28 u => 
    v_0_functionOf v28 (fun v29 u => 
    v_3_definedCall v29 (fun v30 u => 
    br (v29 ≠ (-1)) (
      bd v29 40 (rd (u.2.1 3 v29) (fun v31 => 
      v_3_concludeAlone_206 Q x1 v30 v31 u))) (
      v_3_concludeAlone_206 Q x1 v30 (-1) u)) u) u) u) (
  br (x3 = 37) (
    v_7_item x2 1 (fun v34 u => 
    v_0_theoremOf v34 (fun v35 u => 
    br (v35 ≠ (-1)) (
      bd v35 60 (rd (u.2.1 6 v35) (fun v36 => 
      v_3_concludeAlone_255 Q x1 v36 u))) (
      v_3_concludeAlone_255 Q x1 (-1) u)) u) u) (
  v_3_concludePair x1 x3 x4 y0 (fun u => 
  Q u) u))))))))))
set_option maxRecDepth 20000 in
set_option maxHeartbeats 4000000 in
theorem f_3_concludeAlone_39 (X : yX RX3 p m c cX3_concludeAlone 9 s args D ca ad A) (hRf : 4 ≤ R.frames) (hRl : 100 ≤ R.locals) {Q : iST → Prop} (hret : ∀ (u : iST) (H : Heap) (locs : List Loc) (ls : Array Slot) (pc : Nat), Q u → yW D ca A ad s H locs u → decode cX3_concludeAlone pc = .ok (.return_, 1) → W p l e R s m args below meth c H locs 0 0 Qf (F0 m pc ls [])) {x1 x2 x3 x4 y0 : Int} (rx1 : (0 ≤ x1 ∧ x1 < 408)) (rx2 : inR x2) (rx3 : inR x3) (rx4 : inR x4) (ry0 : inR y0) (hw : yW D ca A ad s H locs u) (hl : lv_has ls 9 [(0, .ref (ad 0 2)), (1, .ref (ad 4 x1.toNat)), (2, .int (jI x2)), (3, .int (jI x3)), (4, .int (jI x4))]) (h : v_3_concludeAlone_39 Q x1 x2 x3 x4 y0 u) : W p l e R s m args below meth c H locs 0 0 Qf (F0 m 39 ls [.int (jI y0)]) := by
  have hx := X.1.1
  have hb := X.1.2.1
  unfold v_3_concludeAlone_39 at h
  refine lv_istore hx hb dX3_concludeAlone_39 hl (by decide) rfl (fun ls hl => ?_)
  have hl : lv_has ls 9 [(5, .int (jI y0)), (0, .ref (ad 0 2)), (1, .ref (ad 4 x1.toNat)), (2, .int (jI x2)), (3, .int (jI x3)), (4, .int (jI x4))] := hl
  refine lv_iload_n hx hb dX3_concludeAlone_41 rfl (lv_at hl 4 rfl) ?_
  refine br_sp h (fun ek h => ?_) (fun n6 h => ?_)
  · refine k_tabIn (tgt := 96) (off := 54) hx hb dX3_concludeAlone_42 ek (by decide) (by decide) rfl rfl ?_
    refine lv_aload_n hx hb dX3_concludeAlone_96 rfl (lv_at hl 1 rfl) ?_
    refine yg_3_45 X hw dX3_concludeAlone_97 ?_
    refine lv_aload_n hx hb dX3_concludeAlone_100 rfl (lv_at hl 2 rfl) ?_
    refine lv_iload hx hb dX3_concludeAlone_101 (lv_at hl 5 rfl) ?_
    refine ycV (n := 2) (e_10_join rx1 rx4 h) 10 8 (r := (RX10, TX10, 16)) rfl yG_3_183 yD_10_join X hw rfl yGo_10 (Nat.le_trans (Nat.le_of_ble_eq_true rfl) hRf) (Nat.le_trans (Nat.le_of_ble_eq_true rfl) hRl) rfl hl.1 (Nat.le_of_ble_eq_true rfl) rfl dX3_concludeAlone_103 (fun u H locs h hw => ?_)
    refine lv_aload_n hx hb dX3_concludeAlone_106 rfl (lv_at hl 1 rfl) ?_
    refine yg_3_45 X hw dX3_concludeAlone_107 ?_
    refine lv_aload_n hx hb dX3_concludeAlone_110 rfl (lv_at hl 2 rfl) ?_
    refine lv_aload_n hx hb dX3_concludeAlone_111 rfl (lv_at hl 1 rfl) ?_
    refine yg_3_45 X hw dX3_concludeAlone_112 ?_
    refine lv_iload hx hb dX3_concludeAlone_115 (lv_at hl 5 rfl) ?_
    refine ycI (n := 1) (e_10_negated rx4 h) 10 8 (r := (RX10, TX10, 16)) rfl yG_3_186 yD_10_negated X hw rfl yGo_10 (Nat.le_trans (Nat.le_of_ble_eq_true rfl) hRf) (Nat.le_trans (Nat.le_of_ble_eq_true rfl) hRl) rfl hl.1 (Nat.le_of_ble_eq_true rfl) rfl dX3_concludeAlone_117 (fun v4 u H locs rv4 h hw => ?_)
    refine ycV (n := 2) (e_10_join rx1 rv4 h) 10 8 (r := (RX10, TX10, 16)) rfl yG_3_183 yD_10_join X hw rfl yGo_10 (Nat.le_trans (Nat.le_of_ble_eq_true rfl) hRf) (Nat.le_trans (Nat.le_of_ble_eq_true rfl) hRl) rfl hl.1 (Nat.le_of_ble_eq_true rfl) rfl dX3_concludeAlone_120 (fun u H locs h hw => ?_)
    refine lv_goto hx hb dX3_concludeAlone_123 (tgt := 342) rfl ?_
    exact hret _ _ _ _ _ h hw dX3_concludeAlone_342
  refine br_sp h (fun ek h => ?_) (fun n8 h => ?_)
  · refine k_tabIn (tgt := 126) (off := 84) hx hb dX3_concludeAlone_42 ek (by decide) (by decide) rfl rfl ?_
    refine lv_aload_n hx hb dX3_concludeAlone_126 rfl (lv_at hl 1 rfl) ?_
    refine lv_aload_n hx hb dX3_concludeAlone_127 rfl (lv_at hl 2 rfl) ?_
    refine lv_iload hx hb dX3_concludeAlone_128 (lv_at hl 5 rfl) ?_
    refine lv_iload hx hb dX3_concludeAlone_130 (lv_at hl 5 rfl) ?_
    refine ycV (n := 3) (e_3_joinEqual rx1 rx4 rx4 h) 3 2 (r := (RX3, TX3, 11)) rfl yG_3_189 yD_3_joinEqual X hw rfl yGo_3 (Nat.le_trans (Nat.le_of_ble_eq_true rfl) hRf) (Nat.le_trans (Nat.le_of_ble_eq_true rfl) hRl) rfl hl.1 (Nat.le_of_ble_eq_true rfl) rfl dX3_concludeAlone_132 (fun u H locs h hw => ?_)
    refine lv_goto hx hb dX3_concludeAlone_135 (tgt := 342) rfl ?_
    exact hret _ _ _ _ _ h hw dX3_concludeAlone_342
  refine br_sp h (fun ek h => ?_) (fun n12 h => ?_)
  · refine k_tabIn (tgt := 138) (off := 96) hx hb dX3_concludeAlone_42 ek (by decide) (by decide) rfl rfl ?_
    refine lv_aload_n hx hb dX3_concludeAlone_138 rfl (lv_at hl 1 rfl) ?_
    refine lv_aload_n hx hb dX3_concludeAlone_139 rfl (lv_at hl 2 rfl) ?_
    refine lv_iload hx hb dX3_concludeAlone_140 (lv_at hl 5 rfl) ?_
    refine lv_aload_n hx hb dX3_concludeAlone_142 rfl (lv_at hl 1 rfl) ?_
    refine yg_3_37 X hw dX3_concludeAlone_143 ?_
    refine lv_aload_n hx hb dX3_concludeAlone_146 rfl (lv_at hl 1 rfl) ?_
    refine lv_iload_n hx hb dX3_concludeAlone_147 rfl (lv_at hl 3 rfl) ?_
    refine ycI (n := 1) (e_3_valueAt rx2 h) 3 2 (r := (RX3, TX3, 11)) rfl yG_3_117 yD_3_valueAt X hw rfl yGo_3 (Nat.le_trans (Nat.le_of_ble_eq_true rfl) hRf) (Nat.le_trans (Nat.le_of_ble_eq_true rfl) hRl) rfl hl.1 (Nat.le_of_ble_eq_true rfl) rfl dX3_concludeAlone_148 (fun v9 u H locs rv9 h hw => ?_)
    refine ycI (n := 1) (e_7_constantOf rv9 h) 7 6 (r := (RX7, TX7, 9)) rfl yG_3_193 yD_7_constantOf X hw rfl yGo_7 (Nat.le_trans (Nat.le_of_ble_eq_true rfl) hRf) (Nat.le_trans (Nat.le_of_ble_eq_true rfl) hRl) rfl hl.1 (Nat.le_of_ble_eq_true rfl) rfl dX3_concludeAlone_151 (fun v10 u H locs rv10 h hw => ?_)
    refine ycV (n := 3) (e_3_joinEqual rx1 rx4 rv10 h) 3 2 (r := (RX3, TX3, 11)) rfl yG_3_189 yD_3_joinEqual X hw rfl yGo_3 (Nat.le_trans (Nat.le_of_ble_eq_true rfl) hRf) (Nat.le_trans (Nat.le_of_ble_eq_true rfl) hRl) rfl hl.1 (Nat.le_of_ble_eq_true rfl) rfl dX3_concludeAlone_154 (fun u H locs h hw => ?_)
    refine lv_goto hx hb dX3_concludeAlone_157 (tgt := 342) rfl ?_
    exact hret _ _ _ _ _ h hw dX3_concludeAlone_342
  refine br_sp h (fun ek h => ?_) (fun n14 h => ?_)
  · refine k_tabIn (tgt := 332) (off := 290) hx hb dX3_concludeAlone_42 ek (by decide) (by decide) rfl rfl ?_
    refine lv_aload_n hx hb dX3_concludeAlone_332 rfl (lv_at hl 1 rfl) ?_
    refine lv_aload_n hx hb dX3_concludeAlone_333 rfl (lv_at hl 2 rfl) ?_
    refine lv_iload_n hx hb dX3_concludeAlone_334 rfl (lv_at hl 4 rfl) ?_
    refine lv_iload hx hb dX3_concludeAlone_335 (lv_at hl 5 rfl) ?_
    refine lv_iload hx hb dX3_concludeAlone_337 (lv_at hl 0 rfl) ?_
    refine ycV (n := 4) (e_3_concludePair rx1 rx3 rx4 ry0 h) 3 2 (r := (RX3, TX3, 11)) rfl yG_3_205 yD_3_concludePair X hw rfl yGo_3 (Nat.le_trans (Nat.le_of_ble_eq_true rfl) hRf) (Nat.le_trans (Nat.le_of_ble_eq_true rfl) hRl) rfl hl.1 (Nat.le_of_ble_eq_true rfl) rfl dX3_concludeAlone_339 (fun u H locs h hw => ?_)
    exact hret _ _ _ _ _ h hw dX3_concludeAlone_342
  refine br_sp h (fun ek h => ?_) (fun n16 h => ?_)
  · refine k_tabIn (tgt := 332) (off := 290) hx hb dX3_concludeAlone_42 ek (by decide) (by decide) rfl rfl ?_
    refine lv_aload_n hx hb dX3_concludeAlone_332 rfl (lv_at hl 1 rfl) ?_
    refine lv_aload_n hx hb dX3_concludeAlone_333 rfl (lv_at hl 2 rfl) ?_
    refine lv_iload_n hx hb dX3_concludeAlone_334 rfl (lv_at hl 4 rfl) ?_
    refine lv_iload hx hb dX3_concludeAlone_335 (lv_at hl 5 rfl) ?_
    refine lv_iload hx hb dX3_concludeAlone_337 (lv_at hl 0 rfl) ?_
    refine ycV (n := 4) (e_3_concludePair rx1 rx3 rx4 ry0 h) 3 2 (r := (RX3, TX3, 11)) rfl yG_3_205 yD_3_concludePair X hw rfl yGo_3 (Nat.le_trans (Nat.le_of_ble_eq_true rfl) hRf) (Nat.le_trans (Nat.le_of_ble_eq_true rfl) hRl) rfl hl.1 (Nat.le_of_ble_eq_true rfl) rfl dX3_concludeAlone_339 (fun u H locs h hw => ?_)
    exact hret _ _ _ _ _ h hw dX3_concludeAlone_342
  refine br_sp h (fun ek h => ?_) (fun n18 h => ?_)
  · refine k_tabIn (tgt := 332) (off := 290) hx hb dX3_concludeAlone_42 ek (by decide) (by decide) rfl rfl ?_
    refine lv_aload_n hx hb dX3_concludeAlone_332 rfl (lv_at hl 1 rfl) ?_
    refine lv_aload_n hx hb dX3_concludeAlone_333 rfl (lv_at hl 2 rfl) ?_
    refine lv_iload_n hx hb dX3_concludeAlone_334 rfl (lv_at hl 4 rfl) ?_
    refine lv_iload hx hb dX3_concludeAlone_335 (lv_at hl 5 rfl) ?_
    refine lv_iload hx hb dX3_concludeAlone_337 (lv_at hl 0 rfl) ?_
    refine ycV (n := 4) (e_3_concludePair rx1 rx3 rx4 ry0 h) 3 2 (r := (RX3, TX3, 11)) rfl yG_3_205 yD_3_concludePair X hw rfl yGo_3 (Nat.le_trans (Nat.le_of_ble_eq_true rfl) hRf) (Nat.le_trans (Nat.le_of_ble_eq_true rfl) hRl) rfl hl.1 (Nat.le_of_ble_eq_true rfl) rfl dX3_concludeAlone_339 (fun u H locs h hw => ?_)
    exact hret _ _ _ _ _ h hw dX3_concludeAlone_342
  refine br_sp h (fun ek h => ?_) (fun n24 h => ?_)
  · refine k_tabIn (tgt := 261) (off := 219) hx hb dX3_concludeAlone_42 ek (by decide) (by decide) rfl rfl ?_
    refine lv_aload_n hx hb dX3_concludeAlone_261 rfl (lv_at hl 1 rfl) ?_
    refine lv_iload_n hx hb dX3_concludeAlone_262 rfl (lv_at hl 3 rfl) ?_
    refine lv_iconst hx hb dX3_concludeAlone_263 (v := jI 3) rfl ?_
    refine ycI (n := 2) (e_3_termAt rx2 (by decide) h) 3 2 (r := (RX3, TX3, 11)) rfl yG_3_109 yD_3_termAt X hw rfl yGo_3 (Nat.le_trans (Nat.le_of_ble_eq_true rfl) hRf) (Nat.le_trans (Nat.le_of_ble_eq_true rfl) hRl) rfl hl.1 (Nat.le_of_ble_eq_true rfl) rfl dX3_concludeAlone_264 (fun v19 u H locs rv19 h hw => ?_)
    refine lv_istore hx hb dX3_concludeAlone_267 hl (by decide) rfl (fun ls hl => ?_)
    have hl : lv_has ls 9 [(8, .int (jI v19)), (5, .int (jI y0)), (0, .ref (ad 0 2)), (1, .ref (ad 4 x1.toNat)), (2, .int (jI x2)), (3, .int (jI x3)), (4, .int (jI x4))] := hl
    refine lv_aload_n hx hb dX3_concludeAlone_269 rfl (lv_at hl 2 rfl) ?_
    refine yg_3_45 X hw dX3_concludeAlone_270 ?_
    refine lv_aload_n hx hb dX3_concludeAlone_273 rfl (lv_at hl 3 rfl) ?_
    refine lv_iload_n hx hb dX3_concludeAlone_274 rfl (lv_at hl 5 rfl) ?_
    refine lv_bipush hx hb dX3_concludeAlone_275 (v := jI 34) rfl ?_
    refine k_icmp_ne hx hb rx3 (by decide) dX3_concludeAlone_277 (tgt := 292) rfl h (fun h => ?_) (fun h => ?_)
    · refine lv_iload hx hb dX3_concludeAlone_292 (lv_at hl 6 rfl) ?_
      exact f_3_concludeAlone_294 X hRf hRl hret rx1 rx3 rx4 ry0 rv19 rx1 rx4 hw (lv_sub hl [2, 3, 5, 6, 1, 0] rfl) h
    · refine lv_aload_n hx hb dX3_concludeAlone_280 rfl (lv_at hl 2 rfl) ?_
      refine yg_3_45 X hw dX3_concludeAlone_281 ?_
      refine lv_iload hx hb dX3_concludeAlone_284 (lv_at hl 6 rfl) ?_
      refine ycI (n := 1) (e_10_negated rx4 h) 10 8 (r := (RX10, TX10, 16)) rfl yG_3_186 yD_10_negated X hw rfl yGo_10 (Nat.le_trans (Nat.le_of_ble_eq_true rfl) hRf) (Nat.le_trans (Nat.le_of_ble_eq_true rfl) hRl) rfl hl.1 (Nat.le_of_ble_eq_true rfl) rfl dX3_concludeAlone_286 (fun v23 u H locs rv23 h hw => ?_)
      refine lv_goto hx hb dX3_concludeAlone_289 (tgt := 294) rfl ?_
      exact f_3_concludeAlone_294 X hRf hRl hret rx1 rx3 rx4 ry0 rv19 rx1 rv23 hw (lv_sub hl [2, 3, 5, 6, 1, 0] rfl) h
  refine br_sp h (fun ek h => ?_) (fun n27 h => ?_)
  · refine k_tabIn (tgt := 261) (off := 219) hx hb dX3_concludeAlone_42 ek (by decide) (by decide) rfl rfl ?_
    refine lv_aload_n hx hb dX3_concludeAlone_261 rfl (lv_at hl 1 rfl) ?_
    refine lv_iload_n hx hb dX3_concludeAlone_262 rfl (lv_at hl 3 rfl) ?_
    refine lv_iconst hx hb dX3_concludeAlone_263 (v := jI 3) rfl ?_
    refine ycI (n := 2) (e_3_termAt rx2 (by decide) h) 3 2 (r := (RX3, TX3, 11)) rfl yG_3_109 yD_3_termAt X hw rfl yGo_3 (Nat.le_trans (Nat.le_of_ble_eq_true rfl) hRf) (Nat.le_trans (Nat.le_of_ble_eq_true rfl) hRl) rfl hl.1 (Nat.le_of_ble_eq_true rfl) rfl dX3_concludeAlone_264 (fun v25 u H locs rv25 h hw => ?_)
    refine lv_istore hx hb dX3_concludeAlone_267 hl (by decide) rfl (fun ls hl => ?_)
    have hl : lv_has ls 9 [(8, .int (jI v25)), (5, .int (jI y0)), (0, .ref (ad 0 2)), (1, .ref (ad 4 x1.toNat)), (2, .int (jI x2)), (3, .int (jI x3)), (4, .int (jI x4))] := hl
    refine lv_aload_n hx hb dX3_concludeAlone_269 rfl (lv_at hl 2 rfl) ?_
    refine yg_3_45 X hw dX3_concludeAlone_270 ?_
    refine lv_aload_n hx hb dX3_concludeAlone_273 rfl (lv_at hl 3 rfl) ?_
    refine lv_iload_n hx hb dX3_concludeAlone_274 rfl (lv_at hl 5 rfl) ?_
    refine lv_bipush hx hb dX3_concludeAlone_275 (v := jI 34) rfl ?_
    refine k_icmp_ne hx hb rx3 (by decide) dX3_concludeAlone_277 (tgt := 292) rfl h (fun h => ?_) (fun h => ?_)
    · refine lv_iload hx hb dX3_concludeAlone_292 (lv_at hl 6 rfl) ?_
      exact f_3_concludeAlone_294 X hRf hRl hret rx1 rx3 rx4 ry0 rv25 rx1 rx4 hw (lv_sub hl [2, 3, 5, 6, 1, 0] rfl) h
    · refine lv_aload_n hx hb dX3_concludeAlone_280 rfl (lv_at hl 2 rfl) ?_
      refine yg_3_45 X hw dX3_concludeAlone_281 ?_
      refine lv_iload hx hb dX3_concludeAlone_284 (lv_at hl 6 rfl) ?_
      refine ycI (n := 1) (e_10_negated rx4 h) 10 8 (r := (RX10, TX10, 16)) rfl yG_3_186 yD_10_negated X hw rfl yGo_10 (Nat.le_trans (Nat.le_of_ble_eq_true rfl) hRf) (Nat.le_trans (Nat.le_of_ble_eq_true rfl) hRl) rfl hl.1 (Nat.le_of_ble_eq_true rfl) rfl dX3_concludeAlone_286 (fun v26 u H locs rv26 h hw => ?_)
      refine lv_goto hx hb dX3_concludeAlone_289 (tgt := 294) rfl ?_
      exact f_3_concludeAlone_294 X hRf hRl hret rx1 rx3 rx4 ry0 rv25 rx1 rv26 hw (lv_sub hl [2, 3, 5, 6, 1, 0] rfl) h
  refine br_sp h (fun ek h => ?_) (fun n33 h => ?_)
  · refine k_tabIn (tgt := 160) (off := 118) hx hb dX3_concludeAlone_42 ek (by decide) (by decide) rfl rfl ?_
    refine lv_aload_n hx hb dX3_concludeAlone_160 rfl (lv_at hl 1 rfl) ?_
    refine yg_3_41 X hw dX3_concludeAlone_161 ?_
    refine lv_aload_n hx hb dX3_concludeAlone_164 rfl (lv_at hl 1 rfl) ?_
    refine yg_3_37 X hw dX3_concludeAlone_165 ?_
    refine lv_iload_n hx hb dX3_concludeAlone_168 rfl (lv_at hl 3 rfl) ?_
    refine lv_iconst hx hb dX3_concludeAlone_169 (v := jI 1) rfl ?_
    refine ycI (n := 2) (e_7_item rx2 (by decide) h) 7 6 (r := (RX7, TX7, 9)) rfl yG_3_67 yD_7_item X hw rfl yGo_7 (Nat.le_trans (Nat.le_of_ble_eq_true rfl) hRf) (Nat.le_trans (Nat.le_of_ble_eq_true rfl) hRl) rfl hl.1 (Nat.le_of_ble_eq_true rfl) rfl dX3_concludeAlone_170 (fun v28 u H locs rv28 h hw => ?_)
    refine ycI (n := 1) (e_0_functionOf rv28 h) 0 0 (r := (RX0, TX0, 21)) rfl yG_3_120 yD_0_functionOf X hw rfl yGo_0 (Nat.le_trans (Nat.le_of_ble_eq_true rfl) hRf) (Nat.le_trans (Nat.le_of_ble_eq_true rfl) hRl) rfl hl.1 (Nat.le_of_ble_eq_true rfl) rfl dX3_concludeAlone_173 (fun v29 u H locs rv29 h hw => ?_)
    refine lv_istore hx hb dX3_concludeAlone_176 hl (by decide) rfl (fun ls hl => ?_)
    have hl : lv_has ls 9 [(6, .int (jI v29)), (5, .int (jI y0)), (0, .ref (ad 0 2)), (1, .ref (ad 4 x1.toNat)), (2, .int (jI x2)), (3, .int (jI x3)), (4, .int (jI x4))] := hl
    refine lv_aload_n hx hb dX3_concludeAlone_178 rfl (lv_at hl 2 rfl) ?_
    refine lv_aload_n hx hb dX3_concludeAlone_179 rfl (lv_at hl 3 rfl) ?_
    refine lv_aload_n hx hb dX3_concludeAlone_180 rfl (lv_at hl 2 rfl) ?_
    refine lv_iload hx hb dX3_concludeAlone_181 (lv_at hl 0 rfl) ?_
    refine ycI (n := 1) (e_3_definedCall rv29 h) 3 2 (r := (RX3, TX3, 11)) rfl yG_3_196 yD_3_definedCall X hw rfl yGo_3 (Nat.le_trans (Nat.le_of_ble_eq_true rfl) hRf) (Nat.le_trans (Nat.le_of_ble_eq_true rfl) hRl) rfl hl.1 (Nat.le_of_ble_eq_true rfl) rfl dX3_concludeAlone_183 (fun v30 u H locs rv30 h hw => ?_)
    refine lv_iload hx hb dX3_concludeAlone_186 (lv_at hl 0 rfl) ?_
    refine lv_iconst hx hb dX3_concludeAlone_188 (v := jI (-1)) rfl ?_
    refine k_icmp_ne hx hb rv29 (by decide) dX3_concludeAlone_189 (tgt := 196) rfl h (fun h => ?_) (fun h => ?_)
    · refine lv_aload_n hx hb dX3_concludeAlone_196 rfl (lv_at hl 2 rfl) ?_
      refine yg_3_41 X hw dX3_concludeAlone_197 ?_
      refine yg_3_163 X hw dX3_concludeAlone_200 ?_
      refine lv_iload hx hb dX3_concludeAlone_203 (lv_at hl 0 rfl) ?_
      refine yl_3 X hw rv29 dX3_concludeAlone_205 h (fun v31 rv31 h => ?_)
      exact f_3_concludeAlone_206 X hRf hRl hret rx1 rv30 rv31 hw (lv_sub hl [2] rfl) h
    · refine lv_iconst hx hb dX3_concludeAlone_192 (v := jI (-1)) rfl ?_
      refine lv_goto hx hb dX3_concludeAlone_193 (tgt := 206) rfl ?_
      exact f_3_concludeAlone_206 X hRf hRl hret rx1 rv30 (by decide) hw (lv_sub hl [2] rfl) h
  refine br_sp h (fun ek h => ?_) (fun n38 h => ?_)
  · refine k_tabIn (tgt := 212) (off := 170) hx hb dX3_concludeAlone_42 ek (by decide) (by decide) rfl rfl ?_
    refine lv_aload_n hx hb dX3_concludeAlone_212 rfl (lv_at hl 1 rfl) ?_
    refine yg_3_41 X hw dX3_concludeAlone_213 ?_
    refine lv_aload_n hx hb dX3_concludeAlone_216 rfl (lv_at hl 1 rfl) ?_
    refine yg_3_37 X hw dX3_concludeAlone_217 ?_
    refine lv_iload_n hx hb dX3_concludeAlone_220 rfl (lv_at hl 3 rfl) ?_
    refine lv_iconst hx hb dX3_concludeAlone_221 (v := jI 1) rfl ?_
    refine ycI (n := 2) (e_7_item rx2 (by decide) h) 7 6 (r := (RX7, TX7, 9)) rfl yG_3_67 yD_7_item X hw rfl yGo_7 (Nat.le_trans (Nat.le_of_ble_eq_true rfl) hRf) (Nat.le_trans (Nat.le_of_ble_eq_true rfl) hRl) rfl hl.1 (Nat.le_of_ble_eq_true rfl) rfl dX3_concludeAlone_222 (fun v34 u H locs rv34 h hw => ?_)
    refine ycI (n := 1) (e_0_theoremOf rv34 h) 0 0 (r := (RX0, TX0, 21)) rfl yG_3_125 yD_0_theoremOf X hw rfl yGo_0 (Nat.le_trans (Nat.le_of_ble_eq_true rfl) hRf) (Nat.le_trans (Nat.le_of_ble_eq_true rfl) hRl) rfl hl.1 (Nat.le_of_ble_eq_true rfl) rfl dX3_concludeAlone_225 (fun v35 u H locs rv35 h hw => ?_)
    refine lv_istore hx hb dX3_concludeAlone_228 hl (by decide) rfl (fun ls hl => ?_)
    have hl : lv_has ls 9 [(7, .int (jI v35)), (5, .int (jI y0)), (0, .ref (ad 0 2)), (1, .ref (ad 4 x1.toNat)), (2, .int (jI x2)), (3, .int (jI x3)), (4, .int (jI x4))] := hl
    refine lv_aload_n hx hb dX3_concludeAlone_230 rfl (lv_at hl 2 rfl) ?_
    refine yg_3_45 X hw dX3_concludeAlone_231 ?_
    refine lv_aload_n hx hb dX3_concludeAlone_234 rfl (lv_at hl 3 rfl) ?_
    refine lv_iload hx hb dX3_concludeAlone_235 (lv_at hl 0 rfl) ?_
    refine lv_iconst hx hb dX3_concludeAlone_237 (v := jI (-1)) rfl ?_
    refine k_icmp_ne hx hb rv35 (by decide) dX3_concludeAlone_238 (tgt := 245) rfl h (fun h => ?_) (fun h => ?_)
    · refine lv_aload_n hx hb dX3_concludeAlone_245 rfl (lv_at hl 2 rfl) ?_
      refine yg_3_41 X hw dX3_concludeAlone_246 ?_
      refine yg_3_199 X hw dX3_concludeAlone_249 ?_
      refine lv_iload hx hb dX3_concludeAlone_252 (lv_at hl 0 rfl) ?_
      refine yl_6 X hw rv35 dX3_concludeAlone_254 h (fun v36 rv36 h => ?_)
      exact f_3_concludeAlone_255 X hRf hRl hret rx1 rv36 hw (lv_sub hl [2] rfl) h
    · refine lv_iconst hx hb dX3_concludeAlone_241 (v := jI (-1)) rfl ?_
      refine lv_goto hx hb dX3_concludeAlone_242 (tgt := 255) rfl ?_
      exact f_3_concludeAlone_255 X hRf hRl hret rx1 (by decide) hw (lv_sub hl [2] rfl) h
  refine k_tabOut (tgt := 332) hx hb rx3 dX3_concludeAlone_42 (by omega) rfl ?_
  refine lv_aload_n hx hb dX3_concludeAlone_332 rfl (lv_at hl 1 rfl) ?_
  refine lv_aload_n hx hb dX3_concludeAlone_333 rfl (lv_at hl 2 rfl) ?_
  refine lv_iload_n hx hb dX3_concludeAlone_334 rfl (lv_at hl 4 rfl) ?_
  refine lv_iload hx hb dX3_concludeAlone_335 (lv_at hl 5 rfl) ?_
  refine lv_iload hx hb dX3_concludeAlone_337 (lv_at hl 0 rfl) ?_
  refine ycV (n := 4) (e_3_concludePair rx1 rx3 rx4 ry0 h) 3 2 (r := (RX3, TX3, 11)) rfl yG_3_205 yD_3_concludePair X hw rfl yGo_3 (Nat.le_trans (Nat.le_of_ble_eq_true rfl) hRf) (Nat.le_trans (Nat.le_of_ble_eq_true rfl) hRl) rfl hl.1 (Nat.le_of_ble_eq_true rfl) rfl dX3_concludeAlone_339 (fun u H locs h hw => ?_)
  exact hret _ _ _ _ _ h hw dX3_concludeAlone_342

def v_3_concludeAlone_38 (Q : iST → Prop) (x1 : Int) (x2 : Int) (x3 : Int) (x4 : Int) (u : iST) : Prop :=
  v_3_concludeAlone_39 Q x1 x2 x3 x4 (-1) u
set_option maxRecDepth 20000 in
set_option maxHeartbeats 4000000 in
theorem f_3_concludeAlone_38 (X : yX RX3 p m c cX3_concludeAlone 9 s args D ca ad A) (hRf : 4 ≤ R.frames) (hRl : 100 ≤ R.locals) {Q : iST → Prop} (hret : ∀ (u : iST) (H : Heap) (locs : List Loc) (ls : Array Slot) (pc : Nat), Q u → yW D ca A ad s H locs u → decode cX3_concludeAlone pc = .ok (.return_, 1) → W p l e R s m args below meth c H locs 0 0 Qf (F0 m pc ls [])) {x1 x2 x3 x4 : Int} (rx1 : (0 ≤ x1 ∧ x1 < 408)) (rx2 : inR x2) (rx3 : inR x3) (rx4 : inR x4) (hw : yW D ca A ad s H locs u) (hl : lv_has ls 9 [(0, .ref (ad 0 2)), (1, .ref (ad 4 x1.toNat)), (2, .int (jI x2)), (3, .int (jI x3)), (4, .int (jI x4))]) (h : v_3_concludeAlone_38 Q x1 x2 x3 x4 u) : W p l e R s m args below meth c H locs 0 0 Qf (F0 m 38 ls []) := by
  have hx := X.1.1
  have hb := X.1.2.1
  unfold v_3_concludeAlone_38 at h
  refine lv_iconst hx hb dX3_concludeAlone_38 (v := jI (-1)) rfl ?_
  exact f_3_concludeAlone_39 X hRf hRl hret rx1 rx2 rx3 rx4 (by decide) hw hl h

def v_3_concludeAlone (a0 : Int) (a1 : Int) (Q : iST → Prop) (u : iST) : Prop :=
  v_7_left a1 (fun v1 u => 
  v_3_termAt a1 1 (fun v2 u => 
  br (v1 < 31) (
    v_3_concludeAlone_38 Q a0 a1 v1 v2 u) (
    br (35 < v1) (
      v_3_concludeAlone_38 Q a0 a1 v1 v2 u) (
      v_3_termAt a1 2 (fun v40 u => 
      v_3_concludeAlone_39 Q a0 a1 v1 v2 v40 u) u))) u) u
set_option maxRecDepth 20000 in
set_option maxHeartbeats 4000000 in
theorem f_3_concludeAlone_s (X : yX RX3 p m c cX3_concludeAlone 9 s args D ca ad A) (hRf : 4 ≤ R.frames) (hRl : 100 ≤ R.locals) {Q : iST → Prop} (hret : ∀ (u : iST) (H : Heap) (locs : List Loc) (ls : Array Slot) (pc : Nat), Q u → yW D ca A ad s H locs u → decode cX3_concludeAlone pc = .ok (.return_, 1) → W p l e R s m args below meth c H locs 0 0 Qf (F0 m pc ls [])) {a0 a1 : Int} (ra0 : (0 ≤ a0 ∧ a0 < 408)) (ra1 : inR a1) (hw : yW D ca A ad s H locs u) (hl : lv_has ls 9 [(0, .ref (ad 0 2)), (1, .ref (ad 4 a0.toNat)), (2, .int (jI a1))]) (h : v_3_concludeAlone a0 a1 Q u) : W p l e R s m args below meth c H locs 0 0 Qf (F0 m 0 ls []) := by
  have hx := X.1.1
  have hb := X.1.2.1
  unfold v_3_concludeAlone at h
  refine lv_aload_n hx hb dX3_concludeAlone_0 rfl (lv_at hl 0 rfl) ?_
  refine yg_3_37 X hw dX3_concludeAlone_1 ?_
  refine lv_iload_n hx hb dX3_concludeAlone_4 rfl (lv_at hl 2 rfl) ?_
  refine ycI (n := 1) (e_7_left ra1 h) 7 6 (r := (RX7, TX7, 9)) rfl yG_3_89 yD_7_left X hw rfl yGo_7 (Nat.le_trans (Nat.le_of_ble_eq_true rfl) hRf) (Nat.le_trans (Nat.le_of_ble_eq_true rfl) hRl) rfl hl.1 (Nat.le_of_ble_eq_true rfl) rfl dX3_concludeAlone_5 (fun v1 u H locs rv1 h hw => ?_)
  refine lv_istore_n hx hb dX3_concludeAlone_8 rfl hl (by decide) rfl (fun ls hl => ?_)
  have hl : lv_has ls 9 [(3, .int (jI v1)), (0, .ref (ad 0 2)), (1, .ref (ad 4 a0.toNat)), (2, .int (jI a1))] := hl
  refine lv_aload_n hx hb dX3_concludeAlone_9 rfl (lv_at hl 1 rfl) ?_
  refine lv_iload_n hx hb dX3_concludeAlone_10 rfl (lv_at hl 3 rfl) ?_
  refine lv_iconst hx hb dX3_concludeAlone_11 (v := jI 1) rfl ?_
  refine ycI (n := 2) (e_3_termAt ra1 (by decide) h) 3 2 (r := (RX3, TX3, 11)) rfl yG_3_109 yD_3_termAt X hw rfl yGo_3 (Nat.le_trans (Nat.le_of_ble_eq_true rfl) hRf) (Nat.le_trans (Nat.le_of_ble_eq_true rfl) hRl) rfl hl.1 (Nat.le_of_ble_eq_true rfl) rfl dX3_concludeAlone_12 (fun v2 u H locs rv2 h hw => ?_)
  refine lv_istore hx hb dX3_concludeAlone_15 hl (by decide) rfl (fun ls hl => ?_)
  have hl : lv_has ls 9 [(4, .int (jI v2)), (3, .int (jI v1)), (0, .ref (ad 0 2)), (1, .ref (ad 4 a0.toNat)), (2, .int (jI a1))] := hl
  refine lv_iload_n hx hb dX3_concludeAlone_17 rfl (lv_at hl 1 rfl) ?_
  refine lv_bipush hx hb dX3_concludeAlone_18 (v := jI 31) rfl ?_
  refine k_icmp_lt hx hb rv1 (by decide) dX3_concludeAlone_20 (tgt := 38) rfl h (fun h => ?_) (fun h => ?_)
  · exact f_3_concludeAlone_38 X hRf hRl hret ra0 ra1 rv1 rv2 hw (lv_sub hl [2, 3, 4, 1, 0] rfl) h
  · refine lv_iload_n hx hb dX3_concludeAlone_23 rfl (lv_at hl 1 rfl) ?_
    refine lv_bipush hx hb dX3_concludeAlone_24 (v := jI 35) rfl ?_
    refine k_icmp_gt hx hb rv1 (by decide) dX3_concludeAlone_26 (tgt := 38) rfl h (fun h => ?_) (fun h => ?_)
    · exact f_3_concludeAlone_38 X hRf hRl hret ra0 ra1 rv1 rv2 hw (lv_sub hl [2, 3, 4, 1, 0] rfl) h
    · refine lv_aload_n hx hb dX3_concludeAlone_29 rfl (lv_at hl 2 rfl) ?_
      refine lv_iload_n hx hb dX3_concludeAlone_30 rfl (lv_at hl 4 rfl) ?_
      refine lv_iconst hx hb dX3_concludeAlone_31 (v := jI 2) rfl ?_
      refine ycI (n := 2) (e_3_termAt ra1 (by decide) h) 3 2 (r := (RX3, TX3, 11)) rfl yG_3_109 yD_3_termAt X hw rfl yGo_3 (Nat.le_trans (Nat.le_of_ble_eq_true rfl) hRf) (Nat.le_trans (Nat.le_of_ble_eq_true rfl) hRl) rfl hl.1 (Nat.le_of_ble_eq_true rfl) rfl dX3_concludeAlone_32 (fun v40 u H locs rv40 h hw => ?_)
      refine lv_goto hx hb dX3_concludeAlone_35 (tgt := 39) rfl ?_
      exact f_3_concludeAlone_39 X hRf hRl hret ra0 ra1 rv1 rv2 rv40 hw (lv_sub hl [2, 3, 4, 1, 0] rfl) h

end
theorem e_3_concludeAlone {l : Launch} {a0 : Int} {a1 : Int} (ra0 : (0 ≤ a0 ∧ a0 < 408)) (ra1 : inR a1) {Q : iST → Prop} {u : iST} (h : v_3_concludeAlone a0 a1 Q u) : yMV l yX3_concludeAlone (.code yX3_concludeAlone cX3_concludeAlone 9 none :: wsN) { frames := 4, cells := 0, slots := 0, locals := 100 } (fun ad => [.ref (ad 0 2), .ref (ad 4 a0.toNat), .int (jI a1)]) Q u := yMV_of (own := RX3) rfl (by decide +kernel) (fun _ => Nat.le_of_ble_eq_true rfl) (fun X hRf hRl hret hw hl => f_3_concludeAlone_s X hRf hRl hret ra0 ra1 hw hl h)

/-! ProofHouse$Terms.bindRow -/
theorem dX10_bindRow_0 : decode cX10_bindRow 0 = .ok (.aload_n 0, 1) := by decide +kernel
theorem dX10_bindRow_1 : decode cX10_bindRow 1 = .ok (.iconst 0, 1) := by decide +kernel
theorem dX10_bindRow_2 : decode cX10_bindRow 2 = .ok (.putfield 25, 3) := by decide +kernel
theorem dX10_bindRow_5 : decode cX10_bindRow 5 = .ok (.iload_n 2, 1) := by decide +kernel
theorem dX10_bindRow_6 : decode cX10_bindRow 6 = .ok (.istore_n 3, 1) := by decide +kernel
theorem dX10_bindRow_7 : decode cX10_bindRow 7 = .ok (.iload_n 1, 1) := by decide +kernel
theorem dX10_bindRow_8 : decode cX10_bindRow 8 = .ok (.istore 4, 2) := by decide +kernel
theorem dX10_bindRow_10 : decode cX10_bindRow 10 = .ok (.aload_n 0, 1) := by decide +kernel
theorem dX10_bindRow_11 : decode cX10_bindRow 11 = .ok (.getfield 55, 3) := by decide +kernel
theorem dX10_bindRow_14 : decode cX10_bindRow 14 = .ok (.iload 4, 2) := by decide +kernel
theorem dX10_bindRow_16 : decode cX10_bindRow 16 = .ok (.invokevirtual 80, 3) := by decide +kernel
theorem dX10_bindRow_19 : decode cX10_bindRow 19 = .ok (.ifCond .eq 47, 3) := by decide +kernel
theorem dX10_bindRow_22 : decode cX10_bindRow 22 = .ok (.aload_n 0, 1) := by decide +kernel
theorem dX10_bindRow_23 : decode cX10_bindRow 23 = .ok (.aload_n 0, 1) := by decide +kernel
theorem dX10_bindRow_24 : decode cX10_bindRow 24 = .ok (.getfield 55, 3) := by decide +kernel
theorem dX10_bindRow_27 : decode cX10_bindRow 27 = .ok (.iload 4, 2) := by decide +kernel
theorem dX10_bindRow_29 : decode cX10_bindRow 29 = .ok (.invokevirtual 72, 3) := by decide +kernel
theorem dX10_bindRow_32 : decode cX10_bindRow 32 = .ok (.aload_n 0, 1) := by decide +kernel
theorem dX10_bindRow_33 : decode cX10_bindRow 33 = .ok (.getfield 55, 3) := by decide +kernel
theorem dX10_bindRow_36 : decode cX10_bindRow 36 = .ok (.iload_n 3, 1) := by decide +kernel
theorem dX10_bindRow_37 : decode cX10_bindRow 37 = .ok (.invokevirtual 72, 3) := by decide +kernel
theorem dX10_bindRow_40 : decode cX10_bindRow 40 = .ok (.invokevirtual 129, 3) := by decide +kernel
theorem dX10_bindRow_43 : decode cX10_bindRow 43 = .ok (.aload_n 0, 1) := by decide +kernel
theorem dX10_bindRow_44 : decode cX10_bindRow 44 = .ok (.getfield 55, 3) := by decide +kernel
theorem dX10_bindRow_47 : decode cX10_bindRow 47 = .ok (.iload_n 3, 1) := by decide +kernel
theorem dX10_bindRow_48 : decode cX10_bindRow 48 = .ok (.invokevirtual 77, 3) := by decide +kernel
theorem dX10_bindRow_51 : decode cX10_bindRow 51 = .ok (.istore_n 3, 1) := by decide +kernel
theorem dX10_bindRow_52 : decode cX10_bindRow 52 = .ok (.aload_n 0, 1) := by decide +kernel
theorem dX10_bindRow_53 : decode cX10_bindRow 53 = .ok (.getfield 55, 3) := by decide +kernel
theorem dX10_bindRow_56 : decode cX10_bindRow 56 = .ok (.iload 4, 2) := by decide +kernel
theorem dX10_bindRow_58 : decode cX10_bindRow 58 = .ok (.invokevirtual 77, 3) := by decide +kernel
theorem dX10_bindRow_61 : decode cX10_bindRow 61 = .ok (.istore 4, 2) := by decide +kernel
theorem dX10_bindRow_63 : decode cX10_bindRow 63 = .ok (.goto (-53), 3) := by decide +kernel
theorem dX10_bindRow_66 : decode cX10_bindRow 66 = .ok (.return_, 1) := by decide +kernel

section
variable {p : Program} {l : Launch} {e : Env} {R : Room} {s : State} {m : MethodId} {args : Array Value} {below : List Frame} {meth : Method} {c : Code} {H : Heap} {locs : List Loc} {Qf : State → Prop}
variable {ls : Array Slot} {D : va_G} {ca : Nat → ClassId} {A : Nat → Prop} {ad : Nat → Nat → Nat} {u : iST}
def v_10_bindRow_10b (R10 : Int → Int → iST → Prop) (Q : iST → Prop) (x3 : Int) (x4 : Int) (u : iST) : Prop :=
  v_7_isPair x4 (fun v1 u => 
  br (v1 = 0) (
    Q u) (
    v_7_left x4 (fun v2 u => 
    v_7_left x3 (fun v3 u => 
    v_10_bind v2 v3 (fun u => 
    v_7_right x3 (fun v5 u => 
    v_7_right x4 (fun v6 u => 
    R10 v5 v6 u) u) u) u) u) u)) u
def v_10_bindRow_10 (Q : iST → Prop) (x3 : Int) (x4 : Int) (u : iST) : Prop := ∀ R10 : Int → Int → iST → Prop, (∀ (x3 : Int) (x4 : Int) (u : iST), v_10_bindRow_10b R10 Q x3 x4 u → R10 x3 x4 u) → R10 x3 x4 u
set_option maxRecDepth 20000 in
set_option maxHeartbeats 4000000 in
theorem f_10_bindRow_10 (X : yX RX10 p m c cX10_bindRow 5 s args D ca ad A) (hRf : 1 ≤ R.frames) (hRl : 22 ≤ R.locals) {Q : iST → Prop} (hret : ∀ (u : iST) (H : Heap) (locs : List Loc) (ls : Array Slot) (pc : Nat), Q u → yW D ca A ad s H locs u → decode cX10_bindRow pc = .ok (.return_, 1) → W p l e R s m args below meth c H locs 0 0 Qf (F0 m pc ls [])) {x3 x4 : Int} (rx3 : inR x3) (rx4 : inR x4) (hw : yW D ca A ad s H locs u) (hl : lv_has ls 5 [(0, .ref (ad 0 8)), (3, .int (jI x3)), (4, .int (jI x4))]) (h : v_10_bindRow_10 Q x3 x4 u) : W p l e R s m args below meth c H locs 0 0 Qf (F0 m 10 ls []) := by
  refine h (fun x3 x4 u => ∀ (H : Heap) (locs : List Loc) (ls : Array Slot), inR x3 → inR x4 → yW D ca A ad s H locs u → lv_has ls 5 [(0, .ref (ad 0 8)), (3, .int (jI x3)), (4, .int (jI x4))] → W p l e R s m args below meth c H locs 0 0 Qf (F0 m 10 ls [])) ?_ H locs ls rx3 rx4 hw hl
  clear h hl hw rx3 rx4
  intro x3 x4 u h H locs ls rx3 rx4 hw hl
  have hR10 : ∀ (x3 : Int) (x4 : Int) (u : iST) (H : Heap) (locs : List Loc) (ls : Array Slot), inR x3 → inR x4 → yW D ca A ad s H locs u → lv_has ls 5 [(0, .ref (ad 0 8)), (3, .int (jI x3)), (4, .int (jI x4))] → (fun (x3 : Int) (x4 : Int) u => ∀ (H : Heap) (locs : List Loc) (ls : Array Slot), inR x3 → inR x4 → yW D ca A ad s H locs u → lv_has ls 5 [(0, .ref (ad 0 8)), (3, .int (jI x3)), (4, .int (jI x4))] → W p l e R s m args below meth c H locs 0 0 Qf (F0 m 10 ls [])) x3 x4 u → W p l e R s m args below meth c H locs 0 0 Qf (F0 m 10 ls []) := fun x3 x4 u H locs ls rx3 rx4 hw hl h => h H locs ls rx3 rx4 hw hl
  have hx := X.1.1
  have hb := X.1.2.1
  unfold v_10_bindRow_10b at h
  refine lv_aload_n hx hb dX10_bindRow_10 rfl (lv_at hl 0 rfl) ?_
  refine yg_10_55 X hw dX10_bindRow_11 ?_
  refine lv_iload hx hb dX10_bindRow_14 (lv_at hl 2 rfl) ?_
  refine ycI (n := 1) (e_7_isPair rx4 h) 7 6 (r := (RX7, TX7, 9)) rfl yG_10_80 yD_7_isPair X hw rfl yGo_7 (Nat.le_trans (Nat.le_of_ble_eq_true rfl) hRf) (Nat.le_trans (Nat.le_of_ble_eq_true rfl) hRl) rfl hl.1 (Nat.le_of_ble_eq_true rfl) rfl dX10_bindRow_16 (fun v1 u H locs rv1 h hw => ?_)
  refine k_if_eq hx hb rv1 dX10_bindRow_19 (tgt := 66) rfl h (fun h => ?_) (fun h => ?_)
  · exact hret _ _ _ _ _ h hw dX10_bindRow_66
  · refine lv_aload_n hx hb dX10_bindRow_22 rfl (lv_at hl 0 rfl) ?_
    refine lv_aload_n hx hb dX10_bindRow_23 rfl (lv_at hl 0 rfl) ?_
    refine yg_10_55 X hw dX10_bindRow_24 ?_
    refine lv_iload hx hb dX10_bindRow_27 (lv_at hl 2 rfl) ?_
    refine ycI (n := 1) (e_7_left rx4 h) 7 6 (r := (RX7, TX7, 9)) rfl yG_10_72 yD_7_left X hw rfl yGo_7 (Nat.le_trans (Nat.le_of_ble_eq_true rfl) hRf) (Nat.le_trans (Nat.le_of_ble_eq_true rfl) hRl) rfl hl.1 (Nat.le_of_ble_eq_true rfl) rfl dX10_bindRow_29 (fun v2 u H locs rv2 h hw => ?_)
    refine lv_aload_n hx hb dX10_bindRow_32 rfl (lv_at hl 0 rfl) ?_
    refine yg_10_55 X hw dX10_bindRow_33 ?_
    refine lv_iload_n hx hb dX10_bindRow_36 rfl (lv_at hl 1 rfl) ?_
    refine ycI (n := 1) (e_7_left rx3 h) 7 6 (r := (RX7, TX7, 9)) rfl yG_10_72 yD_7_left X hw rfl yGo_7 (Nat.le_trans (Nat.le_of_ble_eq_true rfl) hRf) (Nat.le_trans (Nat.le_of_ble_eq_true rfl) hRl) rfl hl.1 (Nat.le_of_ble_eq_true rfl) rfl dX10_bindRow_37 (fun v3 u H locs rv3 h hw => ?_)
    refine ycV (n := 2) (e_10_bind rv2 rv3 h) 10 8 (r := (RX10, TX10, 16)) rfl yG_10_129 yD_10_bind X hw rfl yGo_10 (Nat.le_trans (Nat.le_of_ble_eq_true rfl) hRf) (Nat.le_trans (Nat.le_of_ble_eq_true rfl) hRl) rfl hl.1 (Nat.le_of_ble_eq_true rfl) rfl dX10_bindRow_40 (fun u H locs h hw => ?_)
    refine lv_aload_n hx hb dX10_bindRow_43 rfl (lv_at hl 0 rfl) ?_
    refine yg_10_55 X hw dX10_bindRow_44 ?_
    refine lv_iload_n hx hb dX10_bindRow_47 rfl (lv_at hl 1 rfl) ?_
    refine ycI (n := 1) (e_7_right rx3 h) 7 6 (r := (RX7, TX7, 9)) rfl yG_10_77 yD_7_right X hw rfl yGo_7 (Nat.le_trans (Nat.le_of_ble_eq_true rfl) hRf) (Nat.le_trans (Nat.le_of_ble_eq_true rfl) hRl) rfl hl.1 (Nat.le_of_ble_eq_true rfl) rfl dX10_bindRow_48 (fun v5 u H locs rv5 h hw => ?_)
    refine lv_istore_n hx hb dX10_bindRow_51 rfl hl (by decide) rfl (fun ls hl => ?_)
    have hl : lv_has ls 5 [(3, .int (jI v5)), (0, .ref (ad 0 8)), (4, .int (jI x4))] := hl
    refine lv_aload_n hx hb dX10_bindRow_52 rfl (lv_at hl 1 rfl) ?_
    refine yg_10_55 X hw dX10_bindRow_53 ?_
    refine lv_iload hx hb dX10_bindRow_56 (lv_at hl 2 rfl) ?_
    refine ycI (n := 1) (e_7_right rx4 h) 7 6 (r := (RX7, TX7, 9)) rfl yG_10_77 yD_7_right X hw rfl yGo_7 (Nat.le_trans (Nat.le_of_ble_eq_true rfl) hRf) (Nat.le_trans (Nat.le_of_ble_eq_true rfl) hRl) rfl hl.1 (Nat.le_of_ble_eq_true rfl) rfl dX10_bindRow_58 (fun v6 u H locs rv6 h hw => ?_)
    refine lv_istore hx hb dX10_bindRow_61 hl (by decide) rfl (fun ls hl => ?_)
    have hl : lv_has ls 5 [(4, .int (jI v6)), (3, .int (jI v5)), (0, .ref (ad 0 8))] := hl
    refine lv_goto hx hb dX10_bindRow_63 (tgt := 10) rfl ?_
    exact hR10 _ _ _ H locs ls rv5 rv6 hw (lv_sub hl [2, 1, 0] rfl) h

def v_10_bindRow (a0 : Int) (a1 : Int) (Q : iST → Prop) (u : iST) : Prop :=
  sw (iI u 39 0) (fun u => 
  v_10_bindRow_10 Q a1 a0 u)
set_option maxRecDepth 20000 in
set_option maxHeartbeats 4000000 in
theorem f_10_bindRow_s (X : yX RX10 p m c cX10_bindRow 5 s args D ca ad A) (hRf : 1 ≤ R.frames) (hRl : 22 ≤ R.locals) {Q : iST → Prop} (hret : ∀ (u : iST) (H : Heap) (locs : List Loc) (ls : Array Slot) (pc : Nat), Q u → yW D ca A ad s H locs u → decode cX10_bindRow pc = .ok (.return_, 1) → W p l e R s m args below meth c H locs 0 0 Qf (F0 m pc ls [])) {a0 a1 : Int} (ra0 : inR a0) (ra1 : inR a1) (hw : yW D ca A ad s H locs u) (hl : lv_has ls 5 [(0, .ref (ad 0 8)), (1, .int (jI a0)), (2, .int (jI a1))]) (h : v_10_bindRow a0 a1 Q u) : W p l e R s m args below meth c H locs 0 0 Qf (F0 m 0 ls []) := by
  have hx := X.1.1
  have hb := X.1.2.1
  unfold v_10_bindRow at h
  refine lv_aload_n hx hb dX10_bindRow_0 rfl (lv_at hl 0 rfl) ?_
  refine lv_iconst hx hb dX10_bindRow_1 (v := jI 0) rfl ?_
  refine yp_10_25 X hw (by decide) dX10_bindRow_2 h (fun H locs u hw h => ?_)
  refine lv_iload_n hx hb dX10_bindRow_5 rfl (lv_at hl 2 rfl) ?_
  refine lv_istore_n hx hb dX10_bindRow_6 rfl hl (by decide) rfl (fun ls hl => ?_)
  have hl : lv_has ls 5 [(3, .int (jI a1)), (0, .ref (ad 0 8)), (1, .int (jI a0)), (2, .int (jI a1))] := hl
  refine lv_iload_n hx hb dX10_bindRow_7 rfl (lv_at hl 2 rfl) ?_
  refine lv_istore hx hb dX10_bindRow_8 hl (by decide) rfl (fun ls hl => ?_)
  have hl : lv_has ls 5 [(4, .int (jI a0)), (3, .int (jI a1)), (0, .ref (ad 0 8)), (1, .int (jI a0)), (2, .int (jI a1))] := hl
  exact f_10_bindRow_10 X hRf hRl hret ra1 ra0 hw (lv_sub hl [2, 1, 0] rfl) h

end
theorem e_10_bindRow {l : Launch} {a0 : Int} {a1 : Int} (ra0 : inR a0) (ra1 : inR a1) {Q : iST → Prop} {u : iST} (h : v_10_bindRow a0 a1 Q u) : yMV l yX10_bindRow (.code yX10_bindRow cX10_bindRow 5 none :: wsN) { frames := 1, cells := 0, slots := 0, locals := 22 } (fun ad => [.ref (ad 0 8), .int (jI a0), .int (jI a1)]) Q u := yMV_of (own := RX10) rfl (by decide +kernel) (fun _ => Nat.le_of_ble_eq_true rfl) (fun X hRf hRl hret hw hl => f_10_bindRow_s X hRf hRl hret ra0 ra1 hw hl h)

/-! ProofHouse$Schemes.addRulers -/
theorem dX8_addRulers_0 : decode cX8_addRulers 0 = .ok (.aload_n 0, 1) := by decide +kernel
theorem dX8_addRulers_1 : decode cX8_addRulers 1 = .ok (.getfield 46, 3) := by decide +kernel
theorem dX8_addRulers_4 : decode cX8_addRulers 4 = .ok (.iload_n 2, 1) := by decide +kernel
theorem dX8_addRulers_5 : decode cX8_addRulers 5 = .ok (.iload_n 3, 1) := by decide +kernel
theorem dX8_addRulers_6 : decode cX8_addRulers 6 = .ok (.invokevirtual 90, 3) := by decide +kernel
theorem dX8_addRulers_9 : decode cX8_addRulers 9 = .ok (.iconst 0, 1) := by decide +kernel
theorem dX8_addRulers_10 : decode cX8_addRulers 10 = .ok (.istore 4, 2) := by decide +kernel
theorem dX8_addRulers_12 : decode cX8_addRulers 12 = .ok (.iload 4, 2) := by decide +kernel
theorem dX8_addRulers_14 : decode cX8_addRulers 14 = .ok (.aload_n 0, 1) := by decide +kernel
theorem dX8_addRulers_15 : decode cX8_addRulers 15 = .ok (.getfield 19, 3) := by decide +kernel
theorem dX8_addRulers_18 : decode cX8_addRulers 18 = .ok (.if_icmp .ge 87, 3) := by decide +kernel
theorem dX8_addRulers_21 : decode cX8_addRulers 21 = .ok (.aload_n 0, 1) := by decide +kernel
theorem dX8_addRulers_22 : decode cX8_addRulers 22 = .ok (.getfield 38, 3) := by decide +kernel
theorem dX8_addRulers_25 : decode cX8_addRulers 25 = .ok (.getfield 94, 3) := by decide +kernel
theorem dX8_addRulers_28 : decode cX8_addRulers 28 = .ok (.ifCond .ne 77, 3) := by decide +kernel
theorem dX8_addRulers_31 : decode cX8_addRulers 31 = .ok (.aload_n 0, 1) := by decide +kernel
theorem dX8_addRulers_32 : decode cX8_addRulers 32 = .ok (.getfield 46, 3) := by decide +kernel
theorem dX8_addRulers_35 : decode cX8_addRulers 35 = .ok (.aload_n 0, 1) := by decide +kernel
theorem dX8_addRulers_36 : decode cX8_addRulers 36 = .ok (.getfield 38, 3) := by decide +kernel
theorem dX8_addRulers_39 : decode cX8_addRulers 39 = .ok (.aload_n 0, 1) := by decide +kernel
theorem dX8_addRulers_40 : decode cX8_addRulers 40 = .ok (.getfield 11, 3) := by decide +kernel
theorem dX8_addRulers_43 : decode cX8_addRulers 43 = .ok (.iload 4, 2) := by decide +kernel
theorem dX8_addRulers_45 : decode cX8_addRulers 45 = .ok (.iaload, 1) := by decide +kernel
theorem dX8_addRulers_46 : decode cX8_addRulers 46 = .ok (.iconst 1, 1) := by decide +kernel
theorem dX8_addRulers_47 : decode cX8_addRulers 47 = .ok (.invokevirtual 50, 3) := by decide +kernel
theorem dX8_addRulers_50 : decode cX8_addRulers 50 = .ok (.iconst 1, 1) := by decide +kernel
theorem dX8_addRulers_51 : decode cX8_addRulers 51 = .ok (.invokevirtual 97, 3) := by decide +kernel
theorem dX8_addRulers_54 : decode cX8_addRulers 54 = .ok (.istore 5, 2) := by decide +kernel
theorem dX8_addRulers_56 : decode cX8_addRulers 56 = .ok (.aload_n 0, 1) := by decide +kernel
theorem dX8_addRulers_57 : decode cX8_addRulers 57 = .ok (.getfield 15, 3) := by decide +kernel
theorem dX8_addRulers_60 : decode cX8_addRulers 60 = .ok (.iload 4, 2) := by decide +kernel
theorem dX8_addRulers_62 : decode cX8_addRulers 62 = .ok (.baload, 1) := by decide +kernel
theorem dX8_addRulers_63 : decode cX8_addRulers 63 = .ok (.ifCond .eq 15, 3) := by decide +kernel
theorem dX8_addRulers_66 : decode cX8_addRulers 66 = .ok (.aload_n 0, 1) := by decide +kernel
theorem dX8_addRulers_67 : decode cX8_addRulers 67 = .ok (.getfield 46, 3) := by decide +kernel
theorem dX8_addRulers_70 : decode cX8_addRulers 70 = .ok (.iload 5, 2) := by decide +kernel
theorem dX8_addRulers_72 : decode cX8_addRulers 72 = .ok (.invokevirtual 100, 3) := by decide +kernel
theorem dX8_addRulers_75 : decode cX8_addRulers 75 = .ok (.goto 5, 3) := by decide +kernel
theorem dX8_addRulers_78 : decode cX8_addRulers 78 = .ok (.iload 5, 2) := by decide +kernel
theorem dX8_addRulers_80 : decode cX8_addRulers 80 = .ok (.istore 6, 2) := by decide +kernel
theorem dX8_addRulers_82 : decode cX8_addRulers 82 = .ok (.aload_n 0, 1) := by decide +kernel
theorem dX8_addRulers_83 : decode cX8_addRulers 83 = .ok (.getfield 46, 3) := by decide +kernel
theorem dX8_addRulers_86 : decode cX8_addRulers 86 = .ok (.aload_n 1, 1) := by decide +kernel
theorem dX8_addRulers_87 : decode cX8_addRulers 87 = .ok (.aload_n 0, 1) := by decide +kernel
theorem dX8_addRulers_88 : decode cX8_addRulers 88 = .ok (.getfield 46, 3) := by decide +kernel
theorem dX8_addRulers_91 : decode cX8_addRulers 91 = .ok (.iload 6, 2) := by decide +kernel
theorem dX8_addRulers_93 : decode cX8_addRulers 93 = .ok (.invokevirtual 100, 3) := by decide +kernel
theorem dX8_addRulers_96 : decode cX8_addRulers 96 = .ok (.invokevirtual 103, 3) := by decide +kernel
theorem dX8_addRulers_99 : decode cX8_addRulers 99 = .ok (.iinc 4 1, 3) := by decide +kernel
theorem dX8_addRulers_102 : decode cX8_addRulers 102 = .ok (.goto (-90), 3) := by decide +kernel
theorem dX8_addRulers_105 : decode cX8_addRulers 105 = .ok (.return_, 1) := by decide +kernel

section
variable {p : Program} {l : Launch} {e : Env} {R : Room} {s : State} {m : MethodId} {args : Array Value} {below : List Frame} {meth : Method} {c : Code} {H : Heap} {locs : List Loc} {Qf : State → Prop}
variable {ls : Array Slot} {D : va_G} {ca : Nat → ClassId} {A : Nat → Prop} {ad : Nat → Nat → Nat} {u : iST}
def v_8_addRulers_80 (R12 : Int → Int → iST → Prop) (Q : iST → Prop) (x1 : Int) (x4 : Int) (y0 : Int) (u : iST) : Prop :=
  v_10_negated y0 (fun v8 u => 
  v_10_join x1 v8 (fun u => 
  ov (x4 + 1) (
  R12 x1 (x4 + 1) u)) u) u
set_option maxRecDepth 20000 in
set_option maxHeartbeats 4000000 in
theorem f_8_addRulers_80 (X : yX RX8 p m c cX8_addRulers 7 s args D ca ad A) (hRf : 3 ≤ R.frames) (hRl : 77 ≤ R.locals) {Q : iST → Prop} (hret : ∀ (u : iST) (H : Heap) (locs : List Loc) (ls : Array Slot) (pc : Nat), Q u → yW D ca A ad s H locs u → decode cX8_addRulers pc = .ok (.return_, 1) → W p l e R s m args below meth c H locs 0 0 Qf (F0 m pc ls [])) {R12 : Int → Int → iST → Prop} (hR12 : ∀ (x1 : Int) (x4 : Int) (u : iST) (H : Heap) (locs : List Loc) (ls : Array Slot), (0 ≤ x1 ∧ x1 < 408) → inR x4 → yW D ca A ad s H locs u → lv_has ls 7 [(0, .ref (ad 0 7)), (1, .ref (ad 4 x1.toNat)), (4, .int (jI x4))] → R12 x1 x4 u → W p l e R s m args below meth c H locs 0 0 Qf (F0 m 12 ls [])) {x1 x4 y0 : Int} (rx1 : (0 ≤ x1 ∧ x1 < 408)) (rx4 : inR x4) (ry0 : inR y0) (hw : yW D ca A ad s H locs u) (hl : lv_has ls 7 [(0, .ref (ad 0 7)), (1, .ref (ad 4 x1.toNat)), (4, .int (jI x4))]) (h : v_8_addRulers_80 R12 Q x1 x4 y0 u) : W p l e R s m args below meth c H locs 0 0 Qf (F0 m 80 ls [.int (jI y0)]) := by
  have hx := X.1.1
  have hb := X.1.2.1
  unfold v_8_addRulers_80 at h
  refine lv_istore hx hb dX8_addRulers_80 hl (by decide) rfl (fun ls hl => ?_)
  have hl : lv_has ls 7 [(6, .int (jI y0)), (0, .ref (ad 0 7)), (1, .ref (ad 4 x1.toNat)), (4, .int (jI x4))] := hl
  refine lv_aload_n hx hb dX8_addRulers_82 rfl (lv_at hl 1 rfl) ?_
  refine yg_8_46 X hw dX8_addRulers_83 ?_
  refine lv_aload_n hx hb dX8_addRulers_86 rfl (lv_at hl 2 rfl) ?_
  refine lv_aload_n hx hb dX8_addRulers_87 rfl (lv_at hl 1 rfl) ?_
  refine yg_8_46 X hw dX8_addRulers_88 ?_
  refine lv_iload hx hb dX8_addRulers_91 (lv_at hl 0 rfl) ?_
  refine ycI (n := 1) (e_10_negated ry0 h) 10 8 (r := (RX10, TX10, 16)) rfl yG_8_100 yD_10_negated X hw rfl yGo_10 (Nat.le_trans (Nat.le_of_ble_eq_true rfl) hRf) (Nat.le_trans (Nat.le_of_ble_eq_true rfl) hRl) rfl hl.1 (Nat.le_of_ble_eq_true rfl) rfl dX8_addRulers_93 (fun v8 u H locs rv8 h hw => ?_)
  refine ycV (n := 2) (e_10_join rx1 rv8 h) 10 8 (r := (RX10, TX10, 16)) rfl yG_8_103 yD_10_join X hw rfl yGo_10 (Nat.le_trans (Nat.le_of_ble_eq_true rfl) hRf) (Nat.le_trans (Nat.le_of_ble_eq_true rfl) hRl) rfl hl.1 (Nat.le_of_ble_eq_true rfl) rfl dX8_addRulers_96 (fun u H locs h hw => ?_)
  refine k_iinc (k := 3) hx hb dX8_addRulers_99 hl rfl (by decide) rfl h (fun ls r10 h hl => ?_)
  have hl : lv_has ls 7 [(4, .int (jI (x4 + 1))), (6, .int (jI y0)), (0, .ref (ad 0 7)), (1, .ref (ad 4 x1.toNat))] := hl
  refine lv_goto hx hb dX8_addRulers_102 (tgt := 12) rfl ?_
  exact hR12 _ _ _ H locs ls rx1 r10 hw (lv_sub hl [2, 3, 0] rfl) h

def v_8_addRulers_12b (R12 : Int → Int → iST → Prop) (Q : iST → Prop) (x1 : Int) (x4 : Int) (u : iST) : Prop :=
  rd (u.1 33) (fun v2 => 
  br (v2 ≤ x4) (
    Q u) (
    rd (u.1 32) (fun v3 => 
    br (v3 ≠ 0) (
      Q u) (
      bd x4 64 (rd (u.2.1 31 x4) (fun v4 => 
      v_7_item v4 1 (fun v5 u => 
      v_10_rebuilt v5 1 (fun v6 u => 
      bd x4 64 (rz (u.2.1 32 x4) (fun v7 => 
      br (v7 = 0) (
        v_8_addRulers_80 R12 Q x1 x4 v6 u) (
        v_10_negated v6 (fun v11 u => 
        v_8_addRulers_80 R12 Q x1 x4 v11 u) u)))) u) u))))))
def v_8_addRulers_12 (Q : iST → Prop) (x1 : Int) (x4 : Int) (u : iST) : Prop := ∀ R12 : Int → Int → iST → Prop, (∀ (x1 : Int) (x4 : Int) (u : iST), v_8_addRulers_12b R12 Q x1 x4 u → R12 x1 x4 u) → R12 x1 x4 u
set_option maxRecDepth 20000 in
set_option maxHeartbeats 4000000 in
theorem f_8_addRulers_12 (X : yX RX8 p m c cX8_addRulers 7 s args D ca ad A) (hRf : 3 ≤ R.frames) (hRl : 77 ≤ R.locals) {Q : iST → Prop} (hret : ∀ (u : iST) (H : Heap) (locs : List Loc) (ls : Array Slot) (pc : Nat), Q u → yW D ca A ad s H locs u → decode cX8_addRulers pc = .ok (.return_, 1) → W p l e R s m args below meth c H locs 0 0 Qf (F0 m pc ls [])) {x1 x4 : Int} (rx1 : (0 ≤ x1 ∧ x1 < 408)) (rx4 : inR x4) (hw : yW D ca A ad s H locs u) (hl : lv_has ls 7 [(0, .ref (ad 0 7)), (1, .ref (ad 4 x1.toNat)), (4, .int (jI x4))]) (h : v_8_addRulers_12 Q x1 x4 u) : W p l e R s m args below meth c H locs 0 0 Qf (F0 m 12 ls []) := by
  refine h (fun x1 x4 u => ∀ (H : Heap) (locs : List Loc) (ls : Array Slot), (0 ≤ x1 ∧ x1 < 408) → inR x4 → yW D ca A ad s H locs u → lv_has ls 7 [(0, .ref (ad 0 7)), (1, .ref (ad 4 x1.toNat)), (4, .int (jI x4))] → W p l e R s m args below meth c H locs 0 0 Qf (F0 m 12 ls [])) ?_ H locs ls rx1 rx4 hw hl
  clear h hl hw rx1 rx4
  intro x1 x4 u h H locs ls rx1 rx4 hw hl
  have hR12 : ∀ (x1 : Int) (x4 : Int) (u : iST) (H : Heap) (locs : List Loc) (ls : Array Slot), (0 ≤ x1 ∧ x1 < 408) → inR x4 → yW D ca A ad s H locs u → lv_has ls 7 [(0, .ref (ad 0 7)), (1, .ref (ad 4 x1.toNat)), (4, .int (jI x4))] → (fun (x1 : Int) (x4 : Int) u => ∀ (H : Heap) (locs : List Loc) (ls : Array Slot), (0 ≤ x1 ∧ x1 < 408) → inR x4 → yW D ca A ad s H locs u → lv_has ls 7 [(0, .ref (ad 0 7)), (1, .ref (ad 4 x1.toNat)), (4, .int (jI x4))] → W p l e R s m args below meth c H locs 0 0 Qf (F0 m 12 ls [])) x1 x4 u → W p l e R s m args below meth c H locs 0 0 Qf (F0 m 12 ls []) := fun x1 x4 u H locs ls rx1 rx4 hw hl h => h H locs ls rx1 rx4 hw hl
  have hx := X.1.1
  have hb := X.1.2.1
  unfold v_8_addRulers_12b at h
  refine lv_iload hx hb dX8_addRulers_12 (lv_at hl 2 rfl) ?_
  refine lv_aload_n hx hb dX8_addRulers_14 rfl (lv_at hl 0 rfl) ?_
  refine yg_8_19 X hw dX8_addRulers_15 h (fun v2 rv2 h => ?_)
  refine k_icmp_ge hx hb rx4 rv2 dX8_addRulers_18 (tgt := 105) rfl h (fun h => ?_) (fun h => ?_)
  · exact hret _ _ _ _ _ h hw dX8_addRulers_105
  · refine lv_aload_n hx hb dX8_addRulers_21 rfl (lv_at hl 0 rfl) ?_
    refine yg_8_38 X hw dX8_addRulers_22 ?_
    refine yg_8_94 X hw dX8_addRulers_25 h (fun v3 rv3 h => ?_)
    refine k_if_ne hx hb rv3 dX8_addRulers_28 (tgt := 105) rfl h (fun h => ?_) (fun h => ?_)
    · exact hret _ _ _ _ _ h hw dX8_addRulers_105
    · refine lv_aload_n hx hb dX8_addRulers_31 rfl (lv_at hl 0 rfl) ?_
      refine yg_8_46 X hw dX8_addRulers_32 ?_
      refine lv_aload_n hx hb dX8_addRulers_35 rfl (lv_at hl 0 rfl) ?_
      refine yg_8_38 X hw dX8_addRulers_36 ?_
      refine lv_aload_n hx hb dX8_addRulers_39 rfl (lv_at hl 0 rfl) ?_
      refine yg_8_11 X hw dX8_addRulers_40 ?_
      refine lv_iload hx hb dX8_addRulers_43 (lv_at hl 2 rfl) ?_
      refine yl_31 X hw rx4 dX8_addRulers_45 h (fun v4 rv4 h => ?_)
      refine lv_iconst hx hb dX8_addRulers_46 (v := jI 1) rfl ?_
      refine ycI (n := 2) (e_7_item rv4 (by decide) h) 7 6 (r := (RX7, TX7, 9)) rfl yG_8_50 yD_7_item X hw rfl yGo_7 (Nat.le_trans (Nat.le_of_ble_eq_true rfl) hRf) (Nat.le_trans (Nat.le_of_ble_eq_true rfl) hRl) rfl hl.1 (Nat.le_of_ble_eq_true rfl) rfl dX8_addRulers_47 (fun v5 u H locs rv5 h hw => ?_)
      refine lv_iconst hx hb dX8_addRulers_50 (v := jI 1) rfl ?_
      refine ycI (n := 2) (e_10_rebuilt rv5 (by decide) h) 10 8 (r := (RX10, TX10, 16)) rfl yG_8_97 yD_10_rebuilt X hw rfl yGo_10 (Nat.le_trans (Nat.le_of_ble_eq_true rfl) hRf) (Nat.le_trans (Nat.le_of_ble_eq_true rfl) hRl) rfl hl.1 (Nat.le_of_ble_eq_true rfl) rfl dX8_addRulers_51 (fun v6 u H locs rv6 h hw => ?_)
      refine lv_istore hx hb dX8_addRulers_54 hl (by decide) rfl (fun ls hl => ?_)
      have hl : lv_has ls 7 [(5, .int (jI v6)), (0, .ref (ad 0 7)), (1, .ref (ad 4 x1.toNat)), (4, .int (jI x4))] := hl
      refine lv_aload_n hx hb dX8_addRulers_56 rfl (lv_at hl 1 rfl) ?_
      refine yg_8_15 X hw dX8_addRulers_57 ?_
      refine lv_iload hx hb dX8_addRulers_60 (lv_at hl 3 rfl) ?_
      refine yl_32 X hw rx4 dX8_addRulers_62 h (fun v7 rv7 h => ?_)
      refine k_if_eq hx hb (bz_in rv7) dX8_addRulers_63 (tgt := 78) rfl h (fun h => ?_) (fun h => ?_)
      · refine lv_iload hx hb dX8_addRulers_78 (lv_at hl 0 rfl) ?_
        exact f_8_addRulers_80 X hRf hRl hret hR12 rx1 rx4 rv6 hw (lv_sub hl [1, 2, 3] rfl) h
      · refine lv_aload_n hx hb dX8_addRulers_66 rfl (lv_at hl 1 rfl) ?_
        refine yg_8_46 X hw dX8_addRulers_67 ?_
        refine lv_iload hx hb dX8_addRulers_70 (lv_at hl 0 rfl) ?_
        refine ycI (n := 1) (e_10_negated rv6 h) 10 8 (r := (RX10, TX10, 16)) rfl yG_8_100 yD_10_negated X hw rfl yGo_10 (Nat.le_trans (Nat.le_of_ble_eq_true rfl) hRf) (Nat.le_trans (Nat.le_of_ble_eq_true rfl) hRl) rfl hl.1 (Nat.le_of_ble_eq_true rfl) rfl dX8_addRulers_72 (fun v11 u H locs rv11 h hw => ?_)
        refine lv_goto hx hb dX8_addRulers_75 (tgt := 80) rfl ?_
        exact f_8_addRulers_80 X hRf hRl hret hR12 rx1 rx4 rv11 hw (lv_sub hl [1, 2, 3] rfl) h

def v_8_addRulers (a0 : Int) (a1 : Int) (a2 : Int) (Q : iST → Prop) (u : iST) : Prop :=
  v_10_bindRow a1 a2 (fun u => 
  v_8_addRulers_12 Q a0 0 u) u
set_option maxRecDepth 20000 in
set_option maxHeartbeats 4000000 in
theorem f_8_addRulers_s (X : yX RX8 p m c cX8_addRulers 7 s args D ca ad A) (hRf : 3 ≤ R.frames) (hRl : 77 ≤ R.locals) {Q : iST → Prop} (hret : ∀ (u : iST) (H : Heap) (locs : List Loc) (ls : Array Slot) (pc : Nat), Q u → yW D ca A ad s H locs u → decode cX8_addRulers pc = .ok (.return_, 1) → W p l e R s m args below meth c H locs 0 0 Qf (F0 m pc ls [])) {a0 a1 a2 : Int} (ra0 : (0 ≤ a0 ∧ a0 < 408)) (ra1 : inR a1) (ra2 : inR a2) (hw : yW D ca A ad s H locs u) (hl : lv_has ls 7 [(0, .ref (ad 0 7)), (1, .ref (ad 4 a0.toNat)), (2, .int (jI a1)), (3, .int (jI a2))]) (h : v_8_addRulers a0 a1 a2 Q u) : W p l e R s m args below meth c H locs 0 0 Qf (F0 m 0 ls []) := by
  have hx := X.1.1
  have hb := X.1.2.1
  unfold v_8_addRulers at h
  refine lv_aload_n hx hb dX8_addRulers_0 rfl (lv_at hl 0 rfl) ?_
  refine yg_8_46 X hw dX8_addRulers_1 ?_
  refine lv_iload_n hx hb dX8_addRulers_4 rfl (lv_at hl 2 rfl) ?_
  refine lv_iload_n hx hb dX8_addRulers_5 rfl (lv_at hl 3 rfl) ?_
  refine ycV (n := 2) (e_10_bindRow ra1 ra2 h) 10 8 (r := (RX10, TX10, 16)) rfl yG_8_90 yD_10_bindRow X hw rfl yGo_10 (Nat.le_trans (Nat.le_of_ble_eq_true rfl) hRf) (Nat.le_trans (Nat.le_of_ble_eq_true rfl) hRl) rfl hl.1 (Nat.le_of_ble_eq_true rfl) rfl dX8_addRulers_6 (fun u H locs h hw => ?_)
  refine lv_iconst hx hb dX8_addRulers_9 (v := jI 0) rfl ?_
  refine lv_istore hx hb dX8_addRulers_10 hl (by decide) rfl (fun ls hl => ?_)
  have hl : lv_has ls 7 [(4, .int (jI 0)), (0, .ref (ad 0 7)), (1, .ref (ad 4 a0.toNat)), (2, .int (jI a1)), (3, .int (jI a2))] := hl
  exact f_8_addRulers_12 X hRf hRl hret ra0 (by decide) hw (lv_sub hl [1, 2, 0] rfl) h

end
theorem e_8_addRulers {l : Launch} {a0 : Int} {a1 : Int} {a2 : Int} (ra0 : (0 ≤ a0 ∧ a0 < 408)) (ra1 : inR a1) (ra2 : inR a2) {Q : iST → Prop} {u : iST} (h : v_8_addRulers a0 a1 a2 Q u) : yMV l yX8_addRulers (.code yX8_addRulers cX8_addRulers 7 none :: wsN) { frames := 3, cells := 0, slots := 0, locals := 77 } (fun ad => [.ref (ad 0 7), .ref (ad 4 a0.toNat), .int (jI a1), .int (jI a2)]) Q u := yMV_of (own := RX8) rfl (by decide +kernel) (fun _ => Nat.le_of_ble_eq_true rfl) (fun X hRf hRl hret hw hl => f_8_addRulers_s X hRf hRl hret ra0 ra1 ra2 hw hl h)

/-! ProofHouse$Terms.listParts -/
theorem dX10_listParts_0 : decode cX10_listParts 0 = .ok (.aload_n 0, 1) := by decide +kernel
theorem dX10_listParts_1 : decode cX10_listParts 1 = .ok (.getfield 46, 3) := by decide +kernel
theorem dX10_listParts_4 : decode cX10_listParts 4 = .ok (.iconst 0, 1) := by decide +kernel
theorem dX10_listParts_5 : decode cX10_listParts 5 = .ok (.iload_n 1, 1) := by decide +kernel
theorem dX10_listParts_6 : decode cX10_listParts 6 = .ok (.iastore, 1) := by decide +kernel
theorem dX10_listParts_7 : decode cX10_listParts 7 = .ok (.iconst 1, 1) := by decide +kernel
theorem dX10_listParts_8 : decode cX10_listParts 8 = .ok (.istore_n 2, 1) := by decide +kernel
theorem dX10_listParts_9 : decode cX10_listParts 9 = .ok (.iconst 0, 1) := by decide +kernel
theorem dX10_listParts_10 : decode cX10_listParts 10 = .ok (.istore_n 3, 1) := by decide +kernel
theorem dX10_listParts_11 : decode cX10_listParts 11 = .ok (.iload_n 2, 1) := by decide +kernel
theorem dX10_listParts_12 : decode cX10_listParts 12 = .ok (.ifCond .le 112, 3) := by decide +kernel
theorem dX10_listParts_15 : decode cX10_listParts 15 = .ok (.iload_n 3, 1) := by decide +kernel
theorem dX10_listParts_16 : decode cX10_listParts 16 = .ok (.sipush 128, 3) := by decide +kernel
theorem dX10_listParts_19 : decode cX10_listParts 19 = .ok (.if_icmp .ge 105, 3) := by decide +kernel
theorem dX10_listParts_22 : decode cX10_listParts 22 = .ok (.iinc 2 (-1), 3) := by decide +kernel
theorem dX10_listParts_25 : decode cX10_listParts 25 = .ok (.aload_n 0, 1) := by decide +kernel
theorem dX10_listParts_26 : decode cX10_listParts 26 = .ok (.getfield 46, 3) := by decide +kernel
theorem dX10_listParts_29 : decode cX10_listParts 29 = .ok (.iload_n 2, 1) := by decide +kernel
theorem dX10_listParts_30 : decode cX10_listParts 30 = .ok (.iaload, 1) := by decide +kernel
theorem dX10_listParts_31 : decode cX10_listParts 31 = .ok (.istore 4, 2) := by decide +kernel
theorem dX10_listParts_33 : decode cX10_listParts 33 = .ok (.aload_n 0, 1) := by decide +kernel
theorem dX10_listParts_34 : decode cX10_listParts 34 = .ok (.getfield 52, 3) := by decide +kernel
theorem dX10_listParts_37 : decode cX10_listParts 37 = .ok (.iload_n 3, 1) := by decide +kernel
theorem dX10_listParts_38 : decode cX10_listParts 38 = .ok (.iload 4, 2) := by decide +kernel
theorem dX10_listParts_40 : decode cX10_listParts 40 = .ok (.iastore, 1) := by decide +kernel
theorem dX10_listParts_41 : decode cX10_listParts 41 = .ok (.iinc 3 1, 3) := by decide +kernel
theorem dX10_listParts_44 : decode cX10_listParts 44 = .ok (.aload_n 0, 1) := by decide +kernel
theorem dX10_listParts_45 : decode cX10_listParts 45 = .ok (.getfield 55, 3) := by decide +kernel
theorem dX10_listParts_48 : decode cX10_listParts 48 = .ok (.iload 4, 2) := by decide +kernel
theorem dX10_listParts_50 : decode cX10_listParts 50 = .ok (.invokevirtual 103, 3) := by decide +kernel
theorem dX10_listParts_53 : decode cX10_listParts 53 = .ok (.ifCond .eq 22, 3) := by decide +kernel
theorem dX10_listParts_56 : decode cX10_listParts 56 = .ok (.aload_n 0, 1) := by decide +kernel
theorem dX10_listParts_57 : decode cX10_listParts 57 = .ok (.getfield 55, 3) := by decide +kernel
theorem dX10_listParts_60 : decode cX10_listParts 60 = .ok (.aload_n 0, 1) := by decide +kernel
theorem dX10_listParts_61 : decode cX10_listParts 61 = .ok (.getfield 55, 3) := by decide +kernel
theorem dX10_listParts_64 : decode cX10_listParts 64 = .ok (.iload 4, 2) := by decide +kernel
theorem dX10_listParts_66 : decode cX10_listParts 66 = .ok (.invokevirtual 77, 3) := by decide +kernel
theorem dX10_listParts_69 : decode cX10_listParts 69 = .ok (.invokevirtual 126, 3) := by decide +kernel
theorem dX10_listParts_72 : decode cX10_listParts 72 = .ok (.goto 4, 3) := by decide +kernel
theorem dX10_listParts_75 : decode cX10_listParts 75 = .ok (.iconst 0, 1) := by decide +kernel
theorem dX10_listParts_76 : decode cX10_listParts 76 = .ok (.istore 5, 2) := by decide +kernel
theorem dX10_listParts_78 : decode cX10_listParts 78 = .ok (.iload 5, 2) := by decide +kernel
theorem dX10_listParts_80 : decode cX10_listParts 80 = .ok (.istore 6, 2) := by decide +kernel
theorem dX10_listParts_82 : decode cX10_listParts 82 = .ok (.iload 6, 2) := by decide +kernel
theorem dX10_listParts_84 : decode cX10_listParts 84 = .ok (.iconst 1, 1) := by decide +kernel
theorem dX10_listParts_85 : decode cX10_listParts 85 = .ok (.if_icmp .lt 36, 3) := by decide +kernel
theorem dX10_listParts_88 : decode cX10_listParts 88 = .ok (.iload_n 2, 1) := by decide +kernel
theorem dX10_listParts_89 : decode cX10_listParts 89 = .ok (.sipush 128, 3) := by decide +kernel
theorem dX10_listParts_92 : decode cX10_listParts 92 = .ok (.if_icmp .ge 29, 3) := by decide +kernel
theorem dX10_listParts_95 : decode cX10_listParts 95 = .ok (.aload_n 0, 1) := by decide +kernel
theorem dX10_listParts_96 : decode cX10_listParts 96 = .ok (.getfield 46, 3) := by decide +kernel
theorem dX10_listParts_99 : decode cX10_listParts 99 = .ok (.iload_n 2, 1) := by decide +kernel
theorem dX10_listParts_100 : decode cX10_listParts 100 = .ok (.aload_n 0, 1) := by decide +kernel
theorem dX10_listParts_101 : decode cX10_listParts 101 = .ok (.getfield 55, 3) := by decide +kernel
theorem dX10_listParts_104 : decode cX10_listParts 104 = .ok (.iload 4, 2) := by decide +kernel
theorem dX10_listParts_106 : decode cX10_listParts 106 = .ok (.iload 6, 2) := by decide +kernel
theorem dX10_listParts_108 : decode cX10_listParts 108 = .ok (.invokevirtual 133, 3) := by decide +kernel
theorem dX10_listParts_111 : decode cX10_listParts 111 = .ok (.iastore, 1) := by decide +kernel
theorem dX10_listParts_112 : decode cX10_listParts 112 = .ok (.iinc 2 1, 3) := by decide +kernel
theorem dX10_listParts_115 : decode cX10_listParts 115 = .ok (.iinc 6 (-1), 3) := by decide +kernel
theorem dX10_listParts_118 : decode cX10_listParts 118 = .ok (.goto (-36), 3) := by decide +kernel
theorem dX10_listParts_121 : decode cX10_listParts 121 = .ok (.goto (-110), 3) := by decide +kernel
theorem dX10_listParts_124 : decode cX10_listParts 124 = .ok (.iload_n 3, 1) := by decide +kernel
theorem dX10_listParts_125 : decode cX10_listParts 125 = .ok (.ireturn, 1) := by decide +kernel

section
variable {p : Program} {l : Launch} {e : Env} {R : Room} {s : State} {m : MethodId} {args : Array Value} {below : List Frame} {meth : Method} {c : Code} {H : Heap} {locs : List Loc} {Qf : State → Prop}
variable {ls : Array Slot} {D : va_G} {ca : Nat → ClassId} {A : Nat → Prop} {ad : Nat → Nat → Nat} {u : iST}
def v_10_listParts_82b (R11 : Int → Int → iST → Prop) (R82 : Int → Int → Int → Int → iST → Prop) (Q : Int → iST → Prop) (x2 : Int) (x3 : Int) (x4 : Int) (x6 : Int) (u : iST) : Prop :=
  br (x6 < 1) (
    R11 x2 x3 u) (
    br (128 ≤ x2) (
      R11 x2 x3 u) (
      v_7_item x4 x6 (fun v5 u => 
      bd x2 128 (sw (iA u 41 x2 v5) (fun u => 
      ov (x2 + 1) (
      ov (x6 + (-1)) (
      R82 (x2 + 1) x3 x4 (x6 + (-1)) u))))) u))
def v_10_listParts_82 (R11 : Int → Int → iST → Prop) (Q : Int → iST → Prop) (x2 : Int) (x3 : Int) (x4 : Int) (x6 : Int) (u : iST) : Prop := ∀ R82 : Int → Int → Int → Int → iST → Prop, (∀ (x2 : Int) (x3 : Int) (x4 : Int) (x6 : Int) (u : iST), v_10_listParts_82b R11 R82 Q x2 x3 x4 x6 u → R82 x2 x3 x4 x6 u) → R82 x2 x3 x4 x6 u
set_option maxRecDepth 20000 in
set_option maxHeartbeats 4000000 in
theorem f_10_listParts_82 (X : yX RX10 p m c cX10_listParts 7 s args D ca ad A) (hRf : 1 ≤ R.frames) (hRl : 24 ≤ R.locals) {Q : Int → iST → Prop} (hret : ∀ (v : Int) (u : iST) (H : Heap) (locs : List Loc) (ls : Array Slot) (pc : Nat), inR v → Q v u → yW D ca A ad s H locs u → decode cX10_listParts pc = .ok (.ireturn, 1) → W p l e R s m args below meth c H locs 0 0 Qf (F0 m pc ls [.int (jI v)])) {R11 : Int → Int → iST → Prop} (hR11 : ∀ (x2 : Int) (x3 : Int) (u : iST) (H : Heap) (locs : List Loc) (ls : Array Slot), inR x2 → inR x3 → yW D ca A ad s H locs u → lv_has ls 7 [(0, .ref (ad 0 8)), (2, .int (jI x2)), (3, .int (jI x3))] → R11 x2 x3 u → W p l e R s m args below meth c H locs 0 0 Qf (F0 m 11 ls [])) {x2 x3 x4 x6 : Int} (rx2 : inR x2) (rx3 : inR x3) (rx4 : inR x4) (rx6 : inR x6) (hw : yW D ca A ad s H locs u) (hl : lv_has ls 7 [(0, .ref (ad 0 8)), (2, .int (jI x2)), (3, .int (jI x3)), (4, .int (jI x4)), (6, .int (jI x6))]) (h : v_10_listParts_82 R11 Q x2 x3 x4 x6 u) : W p l e R s m args below meth c H locs 0 0 Qf (F0 m 82 ls []) := by
  refine h (fun x2 x3 x4 x6 u => ∀ (H : Heap) (locs : List Loc) (ls : Array Slot), inR x2 → inR x3 → inR x4 → inR x6 → yW D ca A ad s H locs u → lv_has ls 7 [(0, .ref (ad 0 8)), (2, .int (jI x2)), (3, .int (jI x3)), (4, .int (jI x4)), (6, .int (jI x6))] → W p l e R s m args below meth c H locs 0 0 Qf (F0 m 82 ls [])) ?_ H locs ls rx2 rx3 rx4 rx6 hw hl
  clear h hl hw rx2 rx3 rx4 rx6
  intro x2 x3 x4 x6 u h H locs ls rx2 rx3 rx4 rx6 hw hl
  have hR82 : ∀ (x2 : Int) (x3 : Int) (x4 : Int) (x6 : Int) (u : iST) (H : Heap) (locs : List Loc) (ls : Array Slot), inR x2 → inR x3 → inR x4 → inR x6 → yW D ca A ad s H locs u → lv_has ls 7 [(0, .ref (ad 0 8)), (2, .int (jI x2)), (3, .int (jI x3)), (4, .int (jI x4)), (6, .int (jI x6))] → (fun (x2 : Int) (x3 : Int) (x4 : Int) (x6 : Int) u => ∀ (H : Heap) (locs : List Loc) (ls : Array Slot), inR x2 → inR x3 → inR x4 → inR x6 → yW D ca A ad s H locs u → lv_has ls 7 [(0, .ref (ad 0 8)), (2, .int (jI x2)), (3, .int (jI x3)), (4, .int (jI x4)), (6, .int (jI x6))] → W p l e R s m args below meth c H locs 0 0 Qf (F0 m 82 ls [])) x2 x3 x4 x6 u → W p l e R s m args below meth c H locs 0 0 Qf (F0 m 82 ls []) := fun x2 x3 x4 x6 u H locs ls rx2 rx3 rx4 rx6 hw hl h => h H locs ls rx2 rx3 rx4 rx6 hw hl
  have hx := X.1.1
  have hb := X.1.2.1
  unfold v_10_listParts_82b at h
  refine lv_iload hx hb dX10_listParts_82 (lv_at hl 4 rfl) ?_
  refine lv_iconst hx hb dX10_listParts_84 (v := jI 1) rfl ?_
  refine k_icmp_lt hx hb rx6 (by decide) dX10_listParts_85 (tgt := 121) rfl h (fun h => ?_) (fun h => ?_)
  · refine lv_goto hx hb dX10_listParts_121 (tgt := 11) rfl ?_
    exact hR11 _ _ _ H locs ls rx2 rx3 hw (lv_sub hl [0, 1, 2] rfl) h
  · refine lv_iload_n hx hb dX10_listParts_88 rfl (lv_at hl 1 rfl) ?_
    refine lv_sipush hx hb dX10_listParts_89 (v := jI 128) rfl ?_
    refine k_icmp_ge hx hb rx2 (by decide) dX10_listParts_92 (tgt := 121) rfl h (fun h => ?_) (fun h => ?_)
    · refine lv_goto hx hb dX10_listParts_121 (tgt := 11) rfl ?_
      exact hR11 _ _ _ H locs ls rx2 rx3 hw (lv_sub hl [0, 1, 2] rfl) h
    · refine lv_aload_n hx hb dX10_listParts_95 rfl (lv_at hl 0 rfl) ?_
      refine yg_10_46 X hw dX10_listParts_96 ?_
      refine lv_iload_n hx hb dX10_listParts_99 rfl (lv_at hl 1 rfl) ?_
      refine lv_aload_n hx hb dX10_listParts_100 rfl (lv_at hl 0 rfl) ?_
      refine yg_10_55 X hw dX10_listParts_101 ?_
      refine lv_iload hx hb dX10_listParts_104 (lv_at hl 3 rfl) ?_
      refine lv_iload hx hb dX10_listParts_106 (lv_at hl 4 rfl) ?_
      refine ycI (n := 2) (e_7_item rx4 rx6 h) 7 6 (r := (RX7, TX7, 9)) rfl yG_10_133 yD_7_item X hw rfl yGo_7 (Nat.le_trans (Nat.le_of_ble_eq_true rfl) hRf) (Nat.le_trans (Nat.le_of_ble_eq_true rfl) hRl) rfl hl.1 (Nat.le_of_ble_eq_true rfl) rfl dX10_listParts_108 (fun v5 u H locs rv5 h hw => ?_)
      refine yt_41 X hw rx2 rv5 dX10_listParts_111 h (fun H locs u hw h => ?_)
      refine k_iinc (k := 1) hx hb dX10_listParts_112 hl rfl (by decide) rfl h (fun ls r6 h hl => ?_)
      have hl : lv_has ls 7 [(2, .int (jI (x2 + 1))), (0, .ref (ad 0 8)), (3, .int (jI x3)), (4, .int (jI x4)), (6, .int (jI x6))] := hl
      refine k_iinc (k := 4) hx hb dX10_listParts_115 hl rfl (by decide) rfl h (fun ls r7 h hl => ?_)
      have hl : lv_has ls 7 [(6, .int (jI (x6 + (-1)))), (2, .int (jI (x2 + 1))), (0, .ref (ad 0 8)), (3, .int (jI x3)), (4, .int (jI x4))] := hl
      refine lv_goto hx hb dX10_listParts_118 (tgt := 82) rfl ?_
      exact hR82 _ _ _ _ _ H locs ls r6 rx3 rx4 r7 hw (lv_sub hl [2, 1, 3, 4, 0] rfl) h

def v_10_listParts_76 (R11 : Int → Int → iST → Prop) (Q : Int → iST → Prop) (x2 : Int) (x3 : Int) (x4 : Int) (y0 : Int) (u : iST) : Prop :=
  v_10_listParts_82 R11 Q x2 x3 x4 y0 u
set_option maxRecDepth 20000 in
set_option maxHeartbeats 4000000 in
theorem f_10_listParts_76 (X : yX RX10 p m c cX10_listParts 7 s args D ca ad A) (hRf : 1 ≤ R.frames) (hRl : 24 ≤ R.locals) {Q : Int → iST → Prop} (hret : ∀ (v : Int) (u : iST) (H : Heap) (locs : List Loc) (ls : Array Slot) (pc : Nat), inR v → Q v u → yW D ca A ad s H locs u → decode cX10_listParts pc = .ok (.ireturn, 1) → W p l e R s m args below meth c H locs 0 0 Qf (F0 m pc ls [.int (jI v)])) {R11 : Int → Int → iST → Prop} (hR11 : ∀ (x2 : Int) (x3 : Int) (u : iST) (H : Heap) (locs : List Loc) (ls : Array Slot), inR x2 → inR x3 → yW D ca A ad s H locs u → lv_has ls 7 [(0, .ref (ad 0 8)), (2, .int (jI x2)), (3, .int (jI x3))] → R11 x2 x3 u → W p l e R s m args below meth c H locs 0 0 Qf (F0 m 11 ls [])) {x2 x3 x4 y0 : Int} (rx2 : inR x2) (rx3 : inR x3) (rx4 : inR x4) (ry0 : inR y0) (hw : yW D ca A ad s H locs u) (hl : lv_has ls 7 [(0, .ref (ad 0 8)), (2, .int (jI x2)), (3, .int (jI x3)), (4, .int (jI x4))]) (h : v_10_listParts_76 R11 Q x2 x3 x4 y0 u) : W p l e R s m args below meth c H locs 0 0 Qf (F0 m 76 ls [.int (jI y0)]) := by
  have hx := X.1.1
  have hb := X.1.2.1
  unfold v_10_listParts_76 at h
  refine lv_istore hx hb dX10_listParts_76 hl (by decide) rfl (fun ls hl => ?_)
  have hl : lv_has ls 7 [(5, .int (jI y0)), (0, .ref (ad 0 8)), (2, .int (jI x2)), (3, .int (jI x3)), (4, .int (jI x4))] := hl
  refine lv_iload hx hb dX10_listParts_78 (lv_at hl 0 rfl) ?_
  refine lv_istore hx hb dX10_listParts_80 hl (by decide) rfl (fun ls hl => ?_)
  have hl : lv_has ls 7 [(6, .int (jI y0)), (5, .int (jI y0)), (0, .ref (ad 0 8)), (2, .int (jI x2)), (3, .int (jI x3)), (4, .int (jI x4))] := hl
  exact f_10_listParts_82 X hRf hRl hret hR11 rx2 rx3 rx4 ry0 hw (lv_sub hl [2, 3, 4, 5, 0] rfl) h

def v_10_listParts_11b (R11 : Int → Int → iST → Prop) (Q : Int → iST → Prop) (x2 : Int) (x3 : Int) (u : iST) : Prop :=
  br (x2 ≤ 0) (
    Q x3 u) (
    br (128 ≤ x3) (
      Q x3 u) (
      ov (x2 + (-1)) (
      bd (x2 + (-1)) 128 (rd (u.2.1 41 (x2 + (-1))) (fun v2 => 
      bd x3 128 (sw (iA u 43 x3 v2) (fun u => 
      ov (x3 + 1) (
      v_7_isCall v2 (fun v4 u => 
      br (v4 = 0) (
        v_10_listParts_76 R11 Q (x2 + (-1)) (x3 + 1) v2 0 u) (
        v_7_right v2 (fun v8 u => 
        v_7_lengthOf v8 (fun v9 u => 
        v_10_listParts_76 R11 Q (x2 + (-1)) (x3 + 1) v2 v9 u) u) u)) u))))))))
def v_10_listParts_11 (Q : Int → iST → Prop) (x2 : Int) (x3 : Int) (u : iST) : Prop := ∀ R11 : Int → Int → iST → Prop, (∀ (x2 : Int) (x3 : Int) (u : iST), v_10_listParts_11b R11 Q x2 x3 u → R11 x2 x3 u) → R11 x2 x3 u
set_option maxRecDepth 20000 in
set_option maxHeartbeats 4000000 in
theorem f_10_listParts_11 (X : yX RX10 p m c cX10_listParts 7 s args D ca ad A) (hRf : 1 ≤ R.frames) (hRl : 24 ≤ R.locals) {Q : Int → iST → Prop} (hret : ∀ (v : Int) (u : iST) (H : Heap) (locs : List Loc) (ls : Array Slot) (pc : Nat), inR v → Q v u → yW D ca A ad s H locs u → decode cX10_listParts pc = .ok (.ireturn, 1) → W p l e R s m args below meth c H locs 0 0 Qf (F0 m pc ls [.int (jI v)])) {x2 x3 : Int} (rx2 : inR x2) (rx3 : inR x3) (hw : yW D ca A ad s H locs u) (hl : lv_has ls 7 [(0, .ref (ad 0 8)), (2, .int (jI x2)), (3, .int (jI x3))]) (h : v_10_listParts_11 Q x2 x3 u) : W p l e R s m args below meth c H locs 0 0 Qf (F0 m 11 ls []) := by
  refine h (fun x2 x3 u => ∀ (H : Heap) (locs : List Loc) (ls : Array Slot), inR x2 → inR x3 → yW D ca A ad s H locs u → lv_has ls 7 [(0, .ref (ad 0 8)), (2, .int (jI x2)), (3, .int (jI x3))] → W p l e R s m args below meth c H locs 0 0 Qf (F0 m 11 ls [])) ?_ H locs ls rx2 rx3 hw hl
  clear h hl hw rx2 rx3
  intro x2 x3 u h H locs ls rx2 rx3 hw hl
  have hR11 : ∀ (x2 : Int) (x3 : Int) (u : iST) (H : Heap) (locs : List Loc) (ls : Array Slot), inR x2 → inR x3 → yW D ca A ad s H locs u → lv_has ls 7 [(0, .ref (ad 0 8)), (2, .int (jI x2)), (3, .int (jI x3))] → (fun (x2 : Int) (x3 : Int) u => ∀ (H : Heap) (locs : List Loc) (ls : Array Slot), inR x2 → inR x3 → yW D ca A ad s H locs u → lv_has ls 7 [(0, .ref (ad 0 8)), (2, .int (jI x2)), (3, .int (jI x3))] → W p l e R s m args below meth c H locs 0 0 Qf (F0 m 11 ls [])) x2 x3 u → W p l e R s m args below meth c H locs 0 0 Qf (F0 m 11 ls []) := fun x2 x3 u H locs ls rx2 rx3 hw hl h => h H locs ls rx2 rx3 hw hl
  have hx := X.1.1
  have hb := X.1.2.1
  unfold v_10_listParts_11b at h
  refine lv_iload_n hx hb dX10_listParts_11 rfl (lv_at hl 1 rfl) ?_
  refine k_if_le hx hb rx2 dX10_listParts_12 (tgt := 124) rfl h (fun h => ?_) (fun h => ?_)
  · refine lv_iload_n hx hb dX10_listParts_124 rfl (lv_at hl 2 rfl) ?_
    exact hret _ _ _ _ _ _ rx3 h hw dX10_listParts_125
  · refine lv_iload_n hx hb dX10_listParts_15 rfl (lv_at hl 2 rfl) ?_
    refine lv_sipush hx hb dX10_listParts_16 (v := jI 128) rfl ?_
    refine k_icmp_ge hx hb rx3 (by decide) dX10_listParts_19 (tgt := 124) rfl h (fun h => ?_) (fun h => ?_)
    · refine lv_iload_n hx hb dX10_listParts_124 rfl (lv_at hl 2 rfl) ?_
      exact hret _ _ _ _ _ _ rx3 h hw dX10_listParts_125
    · refine k_iinc (k := 1) hx hb dX10_listParts_22 hl rfl (by decide) rfl h (fun ls r1 h hl => ?_)
      have hl : lv_has ls 7 [(2, .int (jI (x2 + (-1)))), (0, .ref (ad 0 8)), (3, .int (jI x3))] := hl
      refine lv_aload_n hx hb dX10_listParts_25 rfl (lv_at hl 1 rfl) ?_
      refine yg_10_46 X hw dX10_listParts_26 ?_
      refine lv_iload_n hx hb dX10_listParts_29 rfl (lv_at hl 0 rfl) ?_
      refine yl_41 X hw r1 dX10_listParts_30 h (fun v2 rv2 h => ?_)
      refine lv_istore hx hb dX10_listParts_31 hl (by decide) rfl (fun ls hl => ?_)
      have hl : lv_has ls 7 [(4, .int (jI v2)), (2, .int (jI (x2 + (-1)))), (0, .ref (ad 0 8)), (3, .int (jI x3))] := hl
      refine lv_aload_n hx hb dX10_listParts_33 rfl (lv_at hl 2 rfl) ?_
      refine yg_10_52 X hw dX10_listParts_34 ?_
      refine lv_iload_n hx hb dX10_listParts_37 rfl (lv_at hl 3 rfl) ?_
      refine lv_iload hx hb dX10_listParts_38 (lv_at hl 0 rfl) ?_
      refine yt_43 X hw rx3 rv2 dX10_listParts_40 h (fun H locs u hw h => ?_)
      refine k_iinc (k := 3) hx hb dX10_listParts_41 hl rfl (by decide) rfl h (fun ls r3 h hl => ?_)
      have hl : lv_has ls 7 [(3, .int (jI (x3 + 1))), (4, .int (jI v2)), (2, .int (jI (x2 + (-1)))), (0, .ref (ad 0 8))] := hl
      refine lv_aload_n hx hb dX10_listParts_44 rfl (lv_at hl 3 rfl) ?_
      refine yg_10_55 X hw dX10_listParts_45 ?_
      refine lv_iload hx hb dX10_listParts_48 (lv_at hl 1 rfl) ?_
      refine ycI (n := 1) (e_7_isCall rv2 h) 7 6 (r := (RX7, TX7, 9)) rfl yG_10_103 yD_7_isCall X hw rfl yGo_7 (Nat.le_trans (Nat.le_of_ble_eq_true rfl) hRf) (Nat.le_trans (Nat.le_of_ble_eq_true rfl) hRl) rfl hl.1 (Nat.le_of_ble_eq_true rfl) rfl dX10_listParts_50 (fun v4 u H locs rv4 h hw => ?_)
      refine k_if_eq hx hb rv4 dX10_listParts_53 (tgt := 75) rfl h (fun h => ?_) (fun h => ?_)
      · refine lv_iconst hx hb dX10_listParts_75 (v := jI 0) rfl ?_
        exact f_10_listParts_76 X hRf hRl hret hR11 r1 r3 rv2 (by decide) hw (lv_sub hl [3, 2, 0, 1] rfl) h
      · refine lv_aload_n hx hb dX10_listParts_56 rfl (lv_at hl 3 rfl) ?_
        refine yg_10_55 X hw dX10_listParts_57 ?_
        refine lv_aload_n hx hb dX10_listParts_60 rfl (lv_at hl 3 rfl) ?_
        refine yg_10_55 X hw dX10_listParts_61 ?_
        refine lv_iload hx hb dX10_listParts_64 (lv_at hl 1 rfl) ?_
        refine ycI (n := 1) (e_7_right rv2 h) 7 6 (r := (RX7, TX7, 9)) rfl yG_10_77 yD_7_right X hw rfl yGo_7 (Nat.le_trans (Nat.le_of_ble_eq_true rfl) hRf) (Nat.le_trans (Nat.le_of_ble_eq_true rfl) hRl) rfl hl.1 (Nat.le_of_ble_eq_true rfl) rfl dX10_listParts_66 (fun v8 u H locs rv8 h hw => ?_)
        refine ycI (n := 1) (e_7_lengthOf rv8 h) 7 6 (r := (RX7, TX7, 9)) rfl yG_10_126 yD_7_lengthOf X hw rfl yGo_7 (Nat.le_trans (Nat.le_of_ble_eq_true rfl) hRf) (Nat.le_trans (Nat.le_of_ble_eq_true rfl) hRl) rfl hl.1 (Nat.le_of_ble_eq_true rfl) rfl dX10_listParts_69 (fun v9 u H locs rv9 h hw => ?_)
        refine lv_goto hx hb dX10_listParts_72 (tgt := 76) rfl ?_
        exact f_10_listParts_76 X hRf hRl hret hR11 r1 r3 rv2 rv9 hw (lv_sub hl [3, 2, 0, 1] rfl) h

def v_10_listParts (a0 : Int) (Q : Int → iST → Prop) (u : iST) : Prop :=
  bd 0 128 (sw (iA u 41 0 a0) (fun u => 
  v_10_listParts_11 Q 1 0 u))
set_option maxRecDepth 20000 in
set_option maxHeartbeats 4000000 in
theorem f_10_listParts_s (X : yX RX10 p m c cX10_listParts 7 s args D ca ad A) (hRf : 1 ≤ R.frames) (hRl : 24 ≤ R.locals) {Q : Int → iST → Prop} (hret : ∀ (v : Int) (u : iST) (H : Heap) (locs : List Loc) (ls : Array Slot) (pc : Nat), inR v → Q v u → yW D ca A ad s H locs u → decode cX10_listParts pc = .ok (.ireturn, 1) → W p l e R s m args below meth c H locs 0 0 Qf (F0 m pc ls [.int (jI v)])) {a0 : Int} (ra0 : inR a0) (hw : yW D ca A ad s H locs u) (hl : lv_has ls 7 [(0, .ref (ad 0 8)), (1, .int (jI a0))]) (h : v_10_listParts a0 Q u) : W p l e R s m args below meth c H locs 0 0 Qf (F0 m 0 ls []) := by
  have hx := X.1.1
  have hb := X.1.2.1
  unfold v_10_listParts at h
  refine lv_aload_n hx hb dX10_listParts_0 rfl (lv_at hl 0 rfl) ?_
  refine yg_10_46 X hw dX10_listParts_1 ?_
  refine lv_iconst hx hb dX10_listParts_4 (v := jI 0) rfl ?_
  refine lv_iload_n hx hb dX10_listParts_5 rfl (lv_at hl 1 rfl) ?_
  refine yt_41 X hw (by decide) ra0 dX10_listParts_6 h (fun H locs u hw h => ?_)
  refine lv_iconst hx hb dX10_listParts_7 (v := jI 1) rfl ?_
  refine lv_istore_n hx hb dX10_listParts_8 rfl hl (by decide) rfl (fun ls hl => ?_)
  have hl : lv_has ls 7 [(2, .int (jI 1)), (0, .ref (ad 0 8)), (1, .int (jI a0))] := hl
  refine lv_iconst hx hb dX10_listParts_9 (v := jI 0) rfl ?_
  refine lv_istore_n hx hb dX10_listParts_10 rfl hl (by decide) rfl (fun ls hl => ?_)
  have hl : lv_has ls 7 [(3, .int (jI 0)), (2, .int (jI 1)), (0, .ref (ad 0 8)), (1, .int (jI a0))] := hl
  exact f_10_listParts_11 X hRf hRl hret (by decide) (by decide) hw (lv_sub hl [2, 1, 0] rfl) h

end
theorem e_10_listParts {l : Launch} {a0 : Int} (ra0 : inR a0) {Q : Int → iST → Prop} {u : iST} (h : v_10_listParts a0 Q u) : yMI l yX10_listParts (.code yX10_listParts cX10_listParts 7 (some .int) :: wsN) { frames := 1, cells := 0, slots := 0, locals := 24 } (fun ad => [.ref (ad 0 8), .int (jI a0)]) Q u := yMI_of (own := RX10) rfl (by decide +kernel) (fun _ => Nat.le_of_ble_eq_true rfl) (fun X hRf hRl hret hw hl => f_10_listParts_s X hRf hRl hret ra0 hw hl h)

/-! ProofHouse$Schemes.listCalls -/
theorem dX8_listCalls_0 : decode cX8_listCalls 0 = .ok (.aload_n 0, 1) := by decide +kernel
theorem dX8_listCalls_1 : decode cX8_listCalls 1 = .ok (.getfield 46, 3) := by decide +kernel
theorem dX8_listCalls_4 : decode cX8_listCalls 4 = .ok (.aload_n 0, 1) := by decide +kernel
theorem dX8_listCalls_5 : decode cX8_listCalls 5 = .ok (.getfield 23, 3) := by decide +kernel
theorem dX8_listCalls_8 : decode cX8_listCalls 8 = .ok (.invokevirtual 65, 3) := by decide +kernel
theorem dX8_listCalls_11 : decode cX8_listCalls 11 = .ok (.istore_n 2, 1) := by decide +kernel
theorem dX8_listCalls_12 : decode cX8_listCalls 12 = .ok (.aload_n 0, 1) := by decide +kernel
theorem dX8_listCalls_13 : decode cX8_listCalls 13 = .ok (.iconst 0, 1) := by decide +kernel
theorem dX8_listCalls_14 : decode cX8_listCalls 14 = .ok (.putfield 29, 3) := by decide +kernel
theorem dX8_listCalls_17 : decode cX8_listCalls 17 = .ok (.iconst 0, 1) := by decide +kernel
theorem dX8_listCalls_18 : decode cX8_listCalls 18 = .ok (.istore_n 3, 1) := by decide +kernel
theorem dX8_listCalls_19 : decode cX8_listCalls 19 = .ok (.iload_n 3, 1) := by decide +kernel
theorem dX8_listCalls_20 : decode cX8_listCalls 20 = .ok (.iload_n 2, 1) := by decide +kernel
theorem dX8_listCalls_21 : decode cX8_listCalls 21 = .ok (.if_icmp .ge 67, 3) := by decide +kernel
theorem dX8_listCalls_24 : decode cX8_listCalls 24 = .ok (.aload_n 0, 1) := by decide +kernel
theorem dX8_listCalls_25 : decode cX8_listCalls 25 = .ok (.getfield 38, 3) := by decide +kernel
theorem dX8_listCalls_28 : decode cX8_listCalls 28 = .ok (.aload_n 0, 1) := by decide +kernel
theorem dX8_listCalls_29 : decode cX8_listCalls 29 = .ok (.getfield 46, 3) := by decide +kernel
theorem dX8_listCalls_32 : decode cX8_listCalls 32 = .ok (.getfield 71, 3) := by decide +kernel
theorem dX8_listCalls_35 : decode cX8_listCalls 35 = .ok (.iload_n 3, 1) := by decide +kernel
theorem dX8_listCalls_36 : decode cX8_listCalls 36 = .ok (.iaload, 1) := by decide +kernel
theorem dX8_listCalls_37 : decode cX8_listCalls 37 = .ok (.iload_n 1, 1) := by decide +kernel
theorem dX8_listCalls_38 : decode cX8_listCalls 38 = .ok (.invokevirtual 56, 3) := by decide +kernel
theorem dX8_listCalls_41 : decode cX8_listCalls 41 = .ok (.ifCond .eq 41, 3) := by decide +kernel
theorem dX8_listCalls_44 : decode cX8_listCalls 44 = .ok (.aload_n 0, 1) := by decide +kernel
theorem dX8_listCalls_45 : decode cX8_listCalls 45 = .ok (.getfield 29, 3) := by decide +kernel
theorem dX8_listCalls_48 : decode cX8_listCalls 48 = .ok (.sipush 128, 3) := by decide +kernel
theorem dX8_listCalls_51 : decode cX8_listCalls 51 = .ok (.if_icmp .ge 31, 3) := by decide +kernel
theorem dX8_listCalls_54 : decode cX8_listCalls 54 = .ok (.aload_n 0, 1) := by decide +kernel
theorem dX8_listCalls_55 : decode cX8_listCalls 55 = .ok (.getfield 26, 3) := by decide +kernel
theorem dX8_listCalls_58 : decode cX8_listCalls 58 = .ok (.aload_n 0, 1) := by decide +kernel
theorem dX8_listCalls_59 : decode cX8_listCalls 59 = .ok (.getfield 29, 3) := by decide +kernel
theorem dX8_listCalls_62 : decode cX8_listCalls 62 = .ok (.aload_n 0, 1) := by decide +kernel
theorem dX8_listCalls_63 : decode cX8_listCalls 63 = .ok (.getfield 46, 3) := by decide +kernel
theorem dX8_listCalls_66 : decode cX8_listCalls 66 = .ok (.getfield 71, 3) := by decide +kernel
theorem dX8_listCalls_69 : decode cX8_listCalls 69 = .ok (.iload_n 3, 1) := by decide +kernel
theorem dX8_listCalls_70 : decode cX8_listCalls 70 = .ok (.iaload, 1) := by decide +kernel
theorem dX8_listCalls_71 : decode cX8_listCalls 71 = .ok (.iastore, 1) := by decide +kernel
theorem dX8_listCalls_72 : decode cX8_listCalls 72 = .ok (.aload_n 0, 1) := by decide +kernel
theorem dX8_listCalls_73 : decode cX8_listCalls 73 = .ok (.dup, 1) := by decide +kernel
theorem dX8_listCalls_74 : decode cX8_listCalls 74 = .ok (.getfield 29, 3) := by decide +kernel
theorem dX8_listCalls_77 : decode cX8_listCalls 77 = .ok (.iconst 1, 1) := by decide +kernel
theorem dX8_listCalls_78 : decode cX8_listCalls 78 = .ok (.iadd, 1) := by decide +kernel
theorem dX8_listCalls_79 : decode cX8_listCalls 79 = .ok (.putfield 29, 3) := by decide +kernel
theorem dX8_listCalls_82 : decode cX8_listCalls 82 = .ok (.iinc 3 1, 3) := by decide +kernel
theorem dX8_listCalls_85 : decode cX8_listCalls 85 = .ok (.goto (-66), 3) := by decide +kernel
theorem dX8_listCalls_88 : decode cX8_listCalls 88 = .ok (.return_, 1) := by decide +kernel

section
variable {p : Program} {l : Launch} {e : Env} {R : Room} {s : State} {m : MethodId} {args : Array Value} {below : List Frame} {meth : Method} {c : Code} {H : Heap} {locs : List Loc} {Qf : State → Prop}
variable {ls : Array Slot} {D : va_G} {ca : Nat → ClassId} {A : Nat → Prop} {ad : Nat → Nat → Nat} {u : iST}
def v_8_listCalls_19b (R19 : Int → Int → Int → iST → Prop) (Q : iST → Prop) (x1 : Int) (x2 : Int) (x3 : Int) (u : iST) : Prop :=
  br (x2 ≤ x3) (
    Q u) (
    bd x3 128 (rd (u.2.1 43 x3) (fun v3 => 
    v_7_isCallOf v3 x1 (fun v4 u => 
    br (v4 = 0) (
      ov (x3 + 1) (
      R19 x1 x2 (x3 + 1) u)) (
      rd (u.1 35) (fun v6 => 
      br (128 ≤ v6) (
        ov (x3 + 1) (
        R19 x1 x2 (x3 + 1) u)) (
        rd (u.1 35) (fun v8 => 
        bd x3 128 (rd (u.2.1 43 x3) (fun v9 => 
        bd v8 128 (sw (iA u 33 v8 v9) (fun u => 
        rd (u.1 35) (fun v10 => 
        ov (v10 + 1) (
        sw (iI u 35 (v10 + 1)) (fun u => 
        ov (x3 + 1) (
        R19 x1 x2 (x3 + 1) u))))))))))))) u)))
def v_8_listCalls_19 (Q : iST → Prop) (x1 : Int) (x2 : Int) (x3 : Int) (u : iST) : Prop := ∀ R19 : Int → Int → Int → iST → Prop, (∀ (x1 : Int) (x2 : Int) (x3 : Int) (u : iST), v_8_listCalls_19b R19 Q x1 x2 x3 u → R19 x1 x2 x3 u) → R19 x1 x2 x3 u
set_option maxRecDepth 20000 in
set_option maxHeartbeats 4000000 in
theorem f_8_listCalls_19 (X : yX RX8 p m c cX8_listCalls 4 s args D ca ad A) (hRf : 2 ≤ R.frames) (hRl : 50 ≤ R.locals) {Q : iST → Prop} (hret : ∀ (u : iST) (H : Heap) (locs : List Loc) (ls : Array Slot) (pc : Nat), Q u → yW D ca A ad s H locs u → decode cX8_listCalls pc = .ok (.return_, 1) → W p l e R s m args below meth c H locs 0 0 Qf (F0 m pc ls [])) {x1 x2 x3 : Int} (rx1 : inR x1) (rx2 : inR x2) (rx3 : inR x3) (hw : yW D ca A ad s H locs u) (hl : lv_has ls 4 [(0, .ref (ad 0 7)), (1, .int (jI x1)), (2, .int (jI x2)), (3, .int (jI x3))]) (h : v_8_listCalls_19 Q x1 x2 x3 u) : W p l e R s m args below meth c H locs 0 0 Qf (F0 m 19 ls []) := by
  refine h (fun x1 x2 x3 u => ∀ (H : Heap) (locs : List Loc) (ls : Array Slot), inR x1 → inR x2 → inR x3 → yW D ca A ad s H locs u → lv_has ls 4 [(0, .ref (ad 0 7)), (1, .int (jI x1)), (2, .int (jI x2)), (3, .int (jI x3))] → W p l e R s m args below meth c H locs 0 0 Qf (F0 m 19 ls [])) ?_ H locs ls rx1 rx2 rx3 hw hl
  clear h hl hw rx1 rx2 rx3
  intro x1 x2 x3 u h H locs ls rx1 rx2 rx3 hw hl
  have hR19 : ∀ (x1 : Int) (x2 : Int) (x3 : Int) (u : iST) (H : Heap) (locs : List Loc) (ls : Array Slot), inR x1 → inR x2 → inR x3 → yW D ca A ad s H locs u → lv_has ls 4 [(0, .ref (ad 0 7)), (1, .int (jI x1)), (2, .int (jI x2)), (3, .int (jI x3))] → (fun (x1 : Int) (x2 : Int) (x3 : Int) u => ∀ (H : Heap) (locs : List Loc) (ls : Array Slot), inR x1 → inR x2 → inR x3 → yW D ca A ad s H locs u → lv_has ls 4 [(0, .ref (ad 0 7)), (1, .int (jI x1)), (2, .int (jI x2)), (3, .int (jI x3))] → W p l e R s m args below meth c H locs 0 0 Qf (F0 m 19 ls [])) x1 x2 x3 u → W p l e R s m args below meth c H locs 0 0 Qf (F0 m 19 ls []) := fun x1 x2 x3 u H locs ls rx1 rx2 rx3 hw hl h => h H locs ls rx1 rx2 rx3 hw hl
  have hx := X.1.1
  have hb := X.1.2.1
  unfold v_8_listCalls_19b at h
  refine lv_iload_n hx hb dX8_listCalls_19 rfl (lv_at hl 3 rfl) ?_
  refine lv_iload_n hx hb dX8_listCalls_20 rfl (lv_at hl 2 rfl) ?_
  refine k_icmp_ge hx hb rx3 rx2 dX8_listCalls_21 (tgt := 88) rfl h (fun h => ?_) (fun h => ?_)
  · exact hret _ _ _ _ _ h hw dX8_listCalls_88
  · refine lv_aload_n hx hb dX8_listCalls_24 rfl (lv_at hl 0 rfl) ?_
    refine yg_8_38 X hw dX8_listCalls_25 ?_
    refine lv_aload_n hx hb dX8_listCalls_28 rfl (lv_at hl 0 rfl) ?_
    refine yg_8_46 X hw dX8_listCalls_29 ?_
    refine yg_8_71 X hw dX8_listCalls_32 ?_
    refine lv_iload_n hx hb dX8_listCalls_35 rfl (lv_at hl 3 rfl) ?_
    refine yl_43 X hw rx3 dX8_listCalls_36 h (fun v3 rv3 h => ?_)
    refine lv_iload_n hx hb dX8_listCalls_37 rfl (lv_at hl 1 rfl) ?_
    refine ycI (n := 2) (e_7_isCallOf rv3 rx1 h) 7 6 (r := (RX7, TX7, 9)) rfl yG_8_56 yD_7_isCallOf X hw rfl yGo_7 (Nat.le_trans (Nat.le_of_ble_eq_true rfl) hRf) (Nat.le_trans (Nat.le_of_ble_eq_true rfl) hRl) rfl hl.1 (Nat.le_of_ble_eq_true rfl) rfl dX8_listCalls_38 (fun v4 u H locs rv4 h hw => ?_)
    refine k_if_eq hx hb rv4 dX8_listCalls_41 (tgt := 82) rfl h (fun h => ?_) (fun h => ?_)
    · refine k_iinc (k := 3) hx hb dX8_listCalls_82 hl rfl (by decide) rfl h (fun ls r5 h hl => ?_)
      have hl : lv_has ls 4 [(3, .int (jI (x3 + 1))), (0, .ref (ad 0 7)), (1, .int (jI x1)), (2, .int (jI x2))] := hl
      refine lv_goto hx hb dX8_listCalls_85 (tgt := 19) rfl ?_
      exact hR19 _ _ _ _ H locs ls rx1 rx2 r5 hw (lv_sub hl [1, 2, 3, 0] rfl) h
    · refine lv_aload_n hx hb dX8_listCalls_44 rfl (lv_at hl 0 rfl) ?_
      refine yg_8_29 X hw dX8_listCalls_45 h (fun v6 rv6 h => ?_)
      refine lv_sipush hx hb dX8_listCalls_48 (v := jI 128) rfl ?_
      refine k_icmp_ge hx hb rv6 (by decide) dX8_listCalls_51 (tgt := 82) rfl h (fun h => ?_) (fun h => ?_)
      · refine k_iinc (k := 3) hx hb dX8_listCalls_82 hl rfl (by decide) rfl h (fun ls r7 h hl => ?_)
        have hl : lv_has ls 4 [(3, .int (jI (x3 + 1))), (0, .ref (ad 0 7)), (1, .int (jI x1)), (2, .int (jI x2))] := hl
        refine lv_goto hx hb dX8_listCalls_85 (tgt := 19) rfl ?_
        exact hR19 _ _ _ _ H locs ls rx1 rx2 r7 hw (lv_sub hl [1, 2, 3, 0] rfl) h
      · refine lv_aload_n hx hb dX8_listCalls_54 rfl (lv_at hl 0 rfl) ?_
        refine yg_8_26 X hw dX8_listCalls_55 ?_
        refine lv_aload_n hx hb dX8_listCalls_58 rfl (lv_at hl 0 rfl) ?_
        refine yg_8_29 X hw dX8_listCalls_59 h (fun v8 rv8 h => ?_)
        refine lv_aload_n hx hb dX8_listCalls_62 rfl (lv_at hl 0 rfl) ?_
        refine yg_8_46 X hw dX8_listCalls_63 ?_
        refine yg_8_71 X hw dX8_listCalls_66 ?_
        refine lv_iload_n hx hb dX8_listCalls_69 rfl (lv_at hl 3 rfl) ?_
        refine yl_43 X hw rx3 dX8_listCalls_70 h (fun v9 rv9 h => ?_)
        refine yt_33 X hw rv8 rv9 dX8_listCalls_71 h (fun H locs u hw h => ?_)
        refine lv_aload_n hx hb dX8_listCalls_72 rfl (lv_at hl 0 rfl) ?_
        refine lv_dup hx hb dX8_listCalls_73 rfl ?_
        refine yg_8_29 X hw dX8_listCalls_74 h (fun v10 rv10 h => ?_)
        refine lv_iconst hx hb dX8_listCalls_77 (v := jI 1) rfl ?_
        refine k_iadd hx hb dX8_listCalls_78 h (fun r11 h => ?_)
        refine yp_8_29 X hw r11 dX8_listCalls_79 h (fun H locs u hw h => ?_)
        refine k_iinc (k := 3) hx hb dX8_listCalls_82 hl rfl (by decide) rfl h (fun ls r12 h hl => ?_)
        have hl : lv_has ls 4 [(3, .int (jI (x3 + 1))), (0, .ref (ad 0 7)), (1, .int (jI x1)), (2, .int (jI x2))] := hl
        refine lv_goto hx hb dX8_listCalls_85 (tgt := 19) rfl ?_
        exact hR19 _ _ _ _ H locs ls rx1 rx2 r12 hw (lv_sub hl [1, 2, 3, 0] rfl) h

def v_8_listCalls (a0 : Int) (Q : iST → Prop) (u : iST) : Prop :=
  rd (u.1 34) (fun v1 => 
  v_10_listParts v1 (fun v2 u => 
  sw (iI u 35 0) (fun u => 
  v_8_listCalls_19 Q a0 v2 0 u)) u)
set_option maxRecDepth 20000 in
set_option maxHeartbeats 4000000 in
theorem f_8_listCalls_s (X : yX RX8 p m c cX8_listCalls 4 s args D ca ad A) (hRf : 2 ≤ R.frames) (hRl : 50 ≤ R.locals) {Q : iST → Prop} (hret : ∀ (u : iST) (H : Heap) (locs : List Loc) (ls : Array Slot) (pc : Nat), Q u → yW D ca A ad s H locs u → decode cX8_listCalls pc = .ok (.return_, 1) → W p l e R s m args below meth c H locs 0 0 Qf (F0 m pc ls [])) {a0 : Int} (ra0 : inR a0) (hw : yW D ca A ad s H locs u) (hl : lv_has ls 4 [(0, .ref (ad 0 7)), (1, .int (jI a0))]) (h : v_8_listCalls a0 Q u) : W p l e R s m args below meth c H locs 0 0 Qf (F0 m 0 ls []) := by
  have hx := X.1.1
  have hb := X.1.2.1
  unfold v_8_listCalls at h
  refine lv_aload_n hx hb dX8_listCalls_0 rfl (lv_at hl 0 rfl) ?_
  refine yg_8_46 X hw dX8_listCalls_1 ?_
  refine lv_aload_n hx hb dX8_listCalls_4 rfl (lv_at hl 0 rfl) ?_
  refine yg_8_23 X hw dX8_listCalls_5 h (fun v1 rv1 h => ?_)
  refine ycI (n := 1) (e_10_listParts rv1 h) 10 8 (r := (RX10, TX10, 16)) rfl yG_8_65 yD_10_listParts X hw rfl yGo_10 (Nat.le_trans (Nat.le_of_ble_eq_true rfl) hRf) (Nat.le_trans (Nat.le_of_ble_eq_true rfl) hRl) rfl hl.1 (Nat.le_of_ble_eq_true rfl) rfl dX8_listCalls_8 (fun v2 u H locs rv2 h hw => ?_)
  refine lv_istore_n hx hb dX8_listCalls_11 rfl hl (by decide) rfl (fun ls hl => ?_)
  have hl : lv_has ls 4 [(2, .int (jI v2)), (0, .ref (ad 0 7)), (1, .int (jI a0))] := hl
  refine lv_aload_n hx hb dX8_listCalls_12 rfl (lv_at hl 1 rfl) ?_
  refine lv_iconst hx hb dX8_listCalls_13 (v := jI 0) rfl ?_
  refine yp_8_29 X hw (by decide) dX8_listCalls_14 h (fun H locs u hw h => ?_)
  refine lv_iconst hx hb dX8_listCalls_17 (v := jI 0) rfl ?_
  refine lv_istore_n hx hb dX8_listCalls_18 rfl hl (by decide) rfl (fun ls hl => ?_)
  have hl : lv_has ls 4 [(3, .int (jI 0)), (2, .int (jI v2)), (0, .ref (ad 0 7)), (1, .int (jI a0))] := hl
  exact f_8_listCalls_19 X hRf hRl hret ra0 rv2 (by decide) hw (lv_sub hl [2, 3, 1, 0] rfl) h

end
theorem e_8_listCalls {l : Launch} {a0 : Int} (ra0 : inR a0) {Q : iST → Prop} {u : iST} (h : v_8_listCalls a0 Q u) : yMV l yX8_listCalls (.code yX8_listCalls cX8_listCalls 4 none :: wsN) { frames := 2, cells := 0, slots := 0, locals := 50 } (fun ad => [.ref (ad 0 7), .int (jI a0)]) Q u := yMV_of (own := RX8) rfl (by decide +kernel) (fun _ => Nat.le_of_ble_eq_true rfl) (fun X hRf hRl hret hw hl => f_8_listCalls_s X hRf hRl hret ra0 hw hl h)

/-! ProofHouse$Terms.unbind -/
theorem dX10_unbind_0 : decode cX10_unbind 0 = .ok (.aload_n 0, 1) := by decide +kernel
theorem dX10_unbind_1 : decode cX10_unbind 1 = .ok (.iconst 0, 1) := by decide +kernel
theorem dX10_unbind_2 : decode cX10_unbind 2 = .ok (.putfield 25, 3) := by decide +kernel
theorem dX10_unbind_5 : decode cX10_unbind 5 = .ok (.return_, 1) := by decide +kernel

section
variable {p : Program} {l : Launch} {e : Env} {R : Room} {s : State} {m : MethodId} {args : Array Value} {below : List Frame} {meth : Method} {c : Code} {H : Heap} {locs : List Loc} {Qf : State → Prop}
variable {ls : Array Slot} {D : va_G} {ca : Nat → ClassId} {A : Nat → Prop} {ad : Nat → Nat → Nat} {u : iST}
def v_10_unbind (Q : iST → Prop) (u : iST) : Prop :=
  sw (iI u 39 0) (fun u => 
  Q u)
set_option maxRecDepth 20000 in
set_option maxHeartbeats 4000000 in
theorem f_10_unbind_s (X : yX RX10 p m c cX10_unbind 1 s args D ca ad A) (hRf : 0 ≤ R.frames) (hRl : 0 ≤ R.locals) {Q : iST → Prop} (hret : ∀ (u : iST) (H : Heap) (locs : List Loc) (ls : Array Slot) (pc : Nat), Q u → yW D ca A ad s H locs u → decode cX10_unbind pc = .ok (.return_, 1) → W p l e R s m args below meth c H locs 0 0 Qf (F0 m pc ls [])) (hw : yW D ca A ad s H locs u) (hl : lv_has ls 1 [(0, .ref (ad 0 8))]) (h : v_10_unbind Q u) : W p l e R s m args below meth c H locs 0 0 Qf (F0 m 0 ls []) := by
  have hx := X.1.1
  have hb := X.1.2.1
  unfold v_10_unbind at h
  refine lv_aload_n hx hb dX10_unbind_0 rfl (lv_at hl 0 rfl) ?_
  refine lv_iconst hx hb dX10_unbind_1 (v := jI 0) rfl ?_
  refine yp_10_25 X hw (by decide) dX10_unbind_2 h (fun H locs u hw h => ?_)
  exact hret _ _ _ _ _ h hw dX10_unbind_5

end
theorem e_10_unbind {l : Launch} {Q : iST → Prop} {u : iST} (h : v_10_unbind Q u) : yMV l yX10_unbind (.code yX10_unbind cX10_unbind 1 none :: wsN) { frames := 0, cells := 0, slots := 0, locals := 0 } (fun ad => [.ref (ad 0 8)]) Q u := yMV_of (own := RX10) rfl (by decide +kernel) (fun _ => Nat.le_of_ble_eq_true rfl) (fun X hRf hRl hret hw hl => f_10_unbind_s X hRf hRl hret hw hl h)

/-! ProofHouse$Schemes.addInductionHypotheses -/
theorem dX8_addInductionHypotheses_0 : decode cX8_addInductionHypotheses 0 = .ok (.aload_n 0, 1) := by decide +kernel
theorem dX8_addInductionHypotheses_1 : decode cX8_addInductionHypotheses 1 = .ok (.aload_n 0, 1) := by decide +kernel
theorem dX8_addInductionHypotheses_2 : decode cX8_addInductionHypotheses 2 = .ok (.getfield 42, 3) := by decide +kernel
theorem dX8_addInductionHypotheses_5 : decode cX8_addInductionHypotheses 5 = .ok (.getfield 121, 3) := by decide +kernel
theorem dX8_addInductionHypotheses_8 : decode cX8_addInductionHypotheses 8 = .ok (.iload_n 3, 1) := by decide +kernel
theorem dX8_addInductionHypotheses_9 : decode cX8_addInductionHypotheses 9 = .ok (.iaload, 1) := by decide +kernel
theorem dX8_addInductionHypotheses_10 : decode cX8_addInductionHypotheses 10 = .ok (.invokevirtual 77, 3) := by decide +kernel
theorem dX8_addInductionHypotheses_13 : decode cX8_addInductionHypotheses 13 = .ok (.iconst 0, 1) := by decide +kernel
theorem dX8_addInductionHypotheses_14 : decode cX8_addInductionHypotheses 14 = .ok (.istore 5, 2) := by decide +kernel
theorem dX8_addInductionHypotheses_16 : decode cX8_addInductionHypotheses 16 = .ok (.iload 5, 2) := by decide +kernel
theorem dX8_addInductionHypotheses_18 : decode cX8_addInductionHypotheses 18 = .ok (.aload_n 0, 1) := by decide +kernel
theorem dX8_addInductionHypotheses_19 : decode cX8_addInductionHypotheses 19 = .ok (.getfield 29, 3) := by decide +kernel
theorem dX8_addInductionHypotheses_22 : decode cX8_addInductionHypotheses 22 = .ok (.if_icmp .ge 172, 3) := by decide +kernel
theorem dX8_addInductionHypotheses_25 : decode cX8_addInductionHypotheses 25 = .ok (.aload_n 0, 1) := by decide +kernel
theorem dX8_addInductionHypotheses_26 : decode cX8_addInductionHypotheses 26 = .ok (.getfield 38, 3) := by decide +kernel
theorem dX8_addInductionHypotheses_29 : decode cX8_addInductionHypotheses 29 = .ok (.getfield 94, 3) := by decide +kernel
theorem dX8_addInductionHypotheses_32 : decode cX8_addInductionHypotheses 32 = .ok (.ifCond .ne 162, 3) := by decide +kernel
theorem dX8_addInductionHypotheses_35 : decode cX8_addInductionHypotheses 35 = .ok (.aload_n 0, 1) := by decide +kernel
theorem dX8_addInductionHypotheses_36 : decode cX8_addInductionHypotheses 36 = .ok (.getfield 46, 3) := by decide +kernel
theorem dX8_addInductionHypotheses_39 : decode cX8_addInductionHypotheses 39 = .ok (.aload_n 0, 1) := by decide +kernel
theorem dX8_addInductionHypotheses_40 : decode cX8_addInductionHypotheses 40 = .ok (.getfield 42, 3) := by decide +kernel
theorem dX8_addInductionHypotheses_43 : decode cX8_addInductionHypotheses 43 = .ok (.getfield 126, 3) := by decide +kernel
theorem dX8_addInductionHypotheses_46 : decode cX8_addInductionHypotheses 46 = .ok (.iload_n 3, 1) := by decide +kernel
theorem dX8_addInductionHypotheses_47 : decode cX8_addInductionHypotheses 47 = .ok (.iaload, 1) := by decide +kernel
theorem dX8_addInductionHypotheses_48 : decode cX8_addInductionHypotheses 48 = .ok (.iload 4, 2) := by decide +kernel
theorem dX8_addInductionHypotheses_50 : decode cX8_addInductionHypotheses 50 = .ok (.invokevirtual 90, 3) := by decide +kernel
theorem dX8_addInductionHypotheses_53 : decode cX8_addInductionHypotheses 53 = .ok (.iconst 0, 1) := by decide +kernel
theorem dX8_addInductionHypotheses_54 : decode cX8_addInductionHypotheses 54 = .ok (.istore 6, 2) := by decide +kernel
theorem dX8_addInductionHypotheses_56 : decode cX8_addInductionHypotheses 56 = .ok (.iload 6, 2) := by decide +kernel
theorem dX8_addInductionHypotheses_58 : decode cX8_addInductionHypotheses 58 = .ok (.aload_n 0, 1) := by decide +kernel
theorem dX8_addInductionHypotheses_59 : decode cX8_addInductionHypotheses 59 = .ok (.getfield 42, 3) := by decide +kernel
theorem dX8_addInductionHypotheses_62 : decode cX8_addInductionHypotheses 62 = .ok (.getfield 129, 3) := by decide +kernel
theorem dX8_addInductionHypotheses_65 : decode cX8_addInductionHypotheses 65 = .ok (.iload_n 3, 1) := by decide +kernel
theorem dX8_addInductionHypotheses_66 : decode cX8_addInductionHypotheses 66 = .ok (.iaload, 1) := by decide +kernel
theorem dX8_addInductionHypotheses_67 : decode cX8_addInductionHypotheses 67 = .ok (.if_icmp .ge 42, 3) := by decide +kernel
theorem dX8_addInductionHypotheses_70 : decode cX8_addInductionHypotheses 70 = .ok (.aload_n 0, 1) := by decide +kernel
theorem dX8_addInductionHypotheses_71 : decode cX8_addInductionHypotheses 71 = .ok (.getfield 32, 3) := by decide +kernel
theorem dX8_addInductionHypotheses_74 : decode cX8_addInductionHypotheses 74 = .ok (.iload 6, 2) := by decide +kernel
theorem dX8_addInductionHypotheses_76 : decode cX8_addInductionHypotheses 76 = .ok (.aload_n 0, 1) := by decide +kernel
theorem dX8_addInductionHypotheses_77 : decode cX8_addInductionHypotheses 77 = .ok (.getfield 46, 3) := by decide +kernel
theorem dX8_addInductionHypotheses_80 : decode cX8_addInductionHypotheses 80 = .ok (.aload_n 0, 1) := by decide +kernel
theorem dX8_addInductionHypotheses_81 : decode cX8_addInductionHypotheses 81 = .ok (.getfield 38, 3) := by decide +kernel
theorem dX8_addInductionHypotheses_84 : decode cX8_addInductionHypotheses 84 = .ok (.aload_n 0, 1) := by decide +kernel
theorem dX8_addInductionHypotheses_85 : decode cX8_addInductionHypotheses 85 = .ok (.getfield 26, 3) := by decide +kernel
theorem dX8_addInductionHypotheses_88 : decode cX8_addInductionHypotheses 88 = .ok (.iload 5, 2) := by decide +kernel
theorem dX8_addInductionHypotheses_90 : decode cX8_addInductionHypotheses 90 = .ok (.iaload, 1) := by decide +kernel
theorem dX8_addInductionHypotheses_91 : decode cX8_addInductionHypotheses 91 = .ok (.iload 6, 2) := by decide +kernel
theorem dX8_addInductionHypotheses_93 : decode cX8_addInductionHypotheses 93 = .ok (.iconst 1, 1) := by decide +kernel
theorem dX8_addInductionHypotheses_94 : decode cX8_addInductionHypotheses 94 = .ok (.iadd, 1) := by decide +kernel
theorem dX8_addInductionHypotheses_95 : decode cX8_addInductionHypotheses 95 = .ok (.invokevirtual 50, 3) := by decide +kernel
theorem dX8_addInductionHypotheses_98 : decode cX8_addInductionHypotheses 98 = .ok (.iconst 1, 1) := by decide +kernel
theorem dX8_addInductionHypotheses_99 : decode cX8_addInductionHypotheses 99 = .ok (.invokevirtual 97, 3) := by decide +kernel
theorem dX8_addInductionHypotheses_102 : decode cX8_addInductionHypotheses 102 = .ok (.iastore, 1) := by decide +kernel
theorem dX8_addInductionHypotheses_103 : decode cX8_addInductionHypotheses 103 = .ok (.iinc 6 1, 3) := by decide +kernel
theorem dX8_addInductionHypotheses_106 : decode cX8_addInductionHypotheses 106 = .ok (.goto (-50), 3) := by decide +kernel
theorem dX8_addInductionHypotheses_109 : decode cX8_addInductionHypotheses 109 = .ok (.aload_n 0, 1) := by decide +kernel
theorem dX8_addInductionHypotheses_110 : decode cX8_addInductionHypotheses 110 = .ok (.getfield 46, 3) := by decide +kernel
theorem dX8_addInductionHypotheses_113 : decode cX8_addInductionHypotheses 113 = .ok (.invokevirtual 132, 3) := by decide +kernel
theorem dX8_addInductionHypotheses_116 : decode cX8_addInductionHypotheses 116 = .ok (.iconst 0, 1) := by decide +kernel
theorem dX8_addInductionHypotheses_117 : decode cX8_addInductionHypotheses 117 = .ok (.istore 6, 2) := by decide +kernel
theorem dX8_addInductionHypotheses_119 : decode cX8_addInductionHypotheses 119 = .ok (.iload 6, 2) := by decide +kernel
theorem dX8_addInductionHypotheses_121 : decode cX8_addInductionHypotheses 121 = .ok (.aload_n 0, 1) := by decide +kernel
theorem dX8_addInductionHypotheses_122 : decode cX8_addInductionHypotheses 122 = .ok (.getfield 42, 3) := by decide +kernel
theorem dX8_addInductionHypotheses_125 : decode cX8_addInductionHypotheses 125 = .ok (.getfield 129, 3) := by decide +kernel
theorem dX8_addInductionHypotheses_128 : decode cX8_addInductionHypotheses 128 = .ok (.iload_n 3, 1) := by decide +kernel
theorem dX8_addInductionHypotheses_129 : decode cX8_addInductionHypotheses 129 = .ok (.iaload, 1) := by decide +kernel
theorem dX8_addInductionHypotheses_130 : decode cX8_addInductionHypotheses 130 = .ok (.if_icmp .ge 34, 3) := by decide +kernel
theorem dX8_addInductionHypotheses_133 : decode cX8_addInductionHypotheses 133 = .ok (.aload_n 0, 1) := by decide +kernel
theorem dX8_addInductionHypotheses_134 : decode cX8_addInductionHypotheses 134 = .ok (.getfield 46, 3) := by decide +kernel
theorem dX8_addInductionHypotheses_137 : decode cX8_addInductionHypotheses 137 = .ok (.aload_n 0, 1) := by decide +kernel
theorem dX8_addInductionHypotheses_138 : decode cX8_addInductionHypotheses 138 = .ok (.getfield 38, 3) := by decide +kernel
theorem dX8_addInductionHypotheses_141 : decode cX8_addInductionHypotheses 141 = .ok (.iload 4, 2) := by decide +kernel
theorem dX8_addInductionHypotheses_143 : decode cX8_addInductionHypotheses 143 = .ok (.iload 6, 2) := by decide +kernel
theorem dX8_addInductionHypotheses_145 : decode cX8_addInductionHypotheses 145 = .ok (.invokevirtual 50, 3) := by decide +kernel
theorem dX8_addInductionHypotheses_148 : decode cX8_addInductionHypotheses 148 = .ok (.aload_n 0, 1) := by decide +kernel
theorem dX8_addInductionHypotheses_149 : decode cX8_addInductionHypotheses 149 = .ok (.getfield 32, 3) := by decide +kernel
theorem dX8_addInductionHypotheses_152 : decode cX8_addInductionHypotheses 152 = .ok (.iload 6, 2) := by decide +kernel
theorem dX8_addInductionHypotheses_154 : decode cX8_addInductionHypotheses 154 = .ok (.iaload, 1) := by decide +kernel
theorem dX8_addInductionHypotheses_155 : decode cX8_addInductionHypotheses 155 = .ok (.invokevirtual 135, 3) := by decide +kernel
theorem dX8_addInductionHypotheses_158 : decode cX8_addInductionHypotheses 158 = .ok (.iinc 6 1, 3) := by decide +kernel
theorem dX8_addInductionHypotheses_161 : decode cX8_addInductionHypotheses 161 = .ok (.goto (-42), 3) := by decide +kernel
theorem dX8_addInductionHypotheses_164 : decode cX8_addInductionHypotheses 164 = .ok (.aload_n 0, 1) := by decide +kernel
theorem dX8_addInductionHypotheses_165 : decode cX8_addInductionHypotheses 165 = .ok (.getfield 46, 3) := by decide +kernel
theorem dX8_addInductionHypotheses_168 : decode cX8_addInductionHypotheses 168 = .ok (.aload_n 1, 1) := by decide +kernel
theorem dX8_addInductionHypotheses_169 : decode cX8_addInductionHypotheses 169 = .ok (.aload_n 0, 1) := by decide +kernel
theorem dX8_addInductionHypotheses_170 : decode cX8_addInductionHypotheses 170 = .ok (.getfield 46, 3) := by decide +kernel
theorem dX8_addInductionHypotheses_173 : decode cX8_addInductionHypotheses 173 = .ok (.aload_n 0, 1) := by decide +kernel
theorem dX8_addInductionHypotheses_174 : decode cX8_addInductionHypotheses 174 = .ok (.getfield 46, 3) := by decide +kernel
theorem dX8_addInductionHypotheses_177 : decode cX8_addInductionHypotheses 177 = .ok (.iload_n 2, 1) := by decide +kernel
theorem dX8_addInductionHypotheses_178 : decode cX8_addInductionHypotheses 178 = .ok (.iconst 1, 1) := by decide +kernel
theorem dX8_addInductionHypotheses_179 : decode cX8_addInductionHypotheses 179 = .ok (.invokevirtual 97, 3) := by decide +kernel
theorem dX8_addInductionHypotheses_182 : decode cX8_addInductionHypotheses 182 = .ok (.invokevirtual 100, 3) := by decide +kernel
theorem dX8_addInductionHypotheses_185 : decode cX8_addInductionHypotheses 185 = .ok (.invokevirtual 103, 3) := by decide +kernel
theorem dX8_addInductionHypotheses_188 : decode cX8_addInductionHypotheses 188 = .ok (.iinc 5 1, 3) := by decide +kernel
theorem dX8_addInductionHypotheses_191 : decode cX8_addInductionHypotheses 191 = .ok (.goto (-175), 3) := by decide +kernel
theorem dX8_addInductionHypotheses_194 : decode cX8_addInductionHypotheses 194 = .ok (.return_, 1) := by decide +kernel

section
variable {p : Program} {l : Launch} {e : Env} {R : Room} {s : State} {m : MethodId} {args : Array Value} {below : List Frame} {meth : Method} {c : Code} {H : Heap} {locs : List Loc} {Qf : State → Prop}
variable {ls : Array Slot} {D : va_G} {ca : Nat → ClassId} {A : Nat → Prop} {ad : Nat → Nat → Nat} {u : iST}
def v_8_addInductionHypotheses_119b (R16 : Int → Int → Int → Int → Int → iST → Prop) (R119 : Int → Int → Int → Int → Int → Int → iST → Prop) (Q : iST → Prop) (x1 : Int) (x2 : Int) (x3 : Int) (x4 : Int) (x5 : Int) (x6 : Int) (u : iST) : Prop :=
  bd x3 40 (rd (u.2.1 2 x3) (fun v9 => 
  br (v9 ≤ x6) (
    v_10_rebuilt x2 1 (fun v10 u => 
    v_10_negated v10 (fun v11 u => 
    v_10_join x1 v11 (fun u => 
    ov (x5 + 1) (
    R16 x1 x2 x3 x4 (x5 + 1) u)) u) u) u) (
    v_7_item x4 x6 (fun v14 u => 
    bd x6 6 (rd (u.2.1 34 x6) (fun v15 => 
    v_10_bind v14 v15 (fun u => 
    ov (x6 + 1) (
    R119 x1 x2 x3 x4 x5 (x6 + 1) u)) u))) u)))
def v_8_addInductionHypotheses_119 (R16 : Int → Int → Int → Int → Int → iST → Prop) (Q : iST → Prop) (x1 : Int) (x2 : Int) (x3 : Int) (x4 : Int) (x5 : Int) (x6 : Int) (u : iST) : Prop := ∀ R119 : Int → Int → Int → Int → Int → Int → iST → Prop, (∀ (x1 : Int) (x2 : Int) (x3 : Int) (x4 : Int) (x5 : Int) (x6 : Int) (u : iST), v_8_addInductionHypotheses_119b R16 R119 Q x1 x2 x3 x4 x5 x6 u → R119 x1 x2 x3 x4 x5 x6 u) → R119 x1 x2 x3 x4 x5 x6 u
set_option maxRecDepth 20000 in
set_option maxHeartbeats 4000000 in
theorem f_8_addInductionHypotheses_119 (X : yX RX8 p m c cX8_addInductionHypotheses 7 s args D ca ad A) (hRf : 3 ≤ R.frames) (hRl : 77 ≤ R.locals) {Q : iST → Prop} (hret : ∀ (u : iST) (H : Heap) (locs : List Loc) (ls : Array Slot) (pc : Nat), Q u → yW D ca A ad s H locs u → decode cX8_addInductionHypotheses pc = .ok (.return_, 1) → W p l e R s m args below meth c H locs 0 0 Qf (F0 m pc ls [])) {R16 : Int → Int → Int → Int → Int → iST → Prop} (hR16 : ∀ (x1 : Int) (x2 : Int) (x3 : Int) (x4 : Int) (x5 : Int) (u : iST) (H : Heap) (locs : List Loc) (ls : Array Slot), (0 ≤ x1 ∧ x1 < 408) → inR x2 → inR x3 → inR x4 → inR x5 → yW D ca A ad s H locs u → lv_has ls 7 [(0, .ref (ad 0 7)), (1, .ref (ad 4 x1.toNat)), (2, .int (jI x2)), (3, .int (jI x3)), (4, .int (jI x4)), (5, .int (jI x5))] → R16 x1 x2 x3 x4 x5 u → W p l e R s m args below meth c H locs 0 0 Qf (F0 m 16 ls [])) {x1 x2 x3 x4 x5 x6 : Int} (rx1 : (0 ≤ x1 ∧ x1 < 408)) (rx2 : inR x2) (rx3 : inR x3) (rx4 : inR x4) (rx5 : inR x5) (rx6 : inR x6) (hw : yW D ca A ad s H locs u) (hl : lv_has ls 7 [(0, .ref (ad 0 7)), (1, .ref (ad 4 x1.toNat)), (2, .int (jI x2)), (3, .int (jI x3)), (4, .int (jI x4)), (5, .int (jI x5)), (6, .int (jI x6))]) (h : v_8_addInductionHypotheses_119 R16 Q x1 x2 x3 x4 x5 x6 u) : W p l e R s m args below meth c H locs 0 0 Qf (F0 m 119 ls []) := by
  refine h (fun x1 x2 x3 x4 x5 x6 u => ∀ (H : Heap) (locs : List Loc) (ls : Array Slot), (0 ≤ x1 ∧ x1 < 408) → inR x2 → inR x3 → inR x4 → inR x5 → inR x6 → yW D ca A ad s H locs u → lv_has ls 7 [(0, .ref (ad 0 7)), (1, .ref (ad 4 x1.toNat)), (2, .int (jI x2)), (3, .int (jI x3)), (4, .int (jI x4)), (5, .int (jI x5)), (6, .int (jI x6))] → W p l e R s m args below meth c H locs 0 0 Qf (F0 m 119 ls [])) ?_ H locs ls rx1 rx2 rx3 rx4 rx5 rx6 hw hl
  clear h hl hw rx1 rx2 rx3 rx4 rx5 rx6
  intro x1 x2 x3 x4 x5 x6 u h H locs ls rx1 rx2 rx3 rx4 rx5 rx6 hw hl
  have hR119 : ∀ (x1 : Int) (x2 : Int) (x3 : Int) (x4 : Int) (x5 : Int) (x6 : Int) (u : iST) (H : Heap) (locs : List Loc) (ls : Array Slot), (0 ≤ x1 ∧ x1 < 408) → inR x2 → inR x3 → inR x4 → inR x5 → inR x6 → yW D ca A ad s H locs u → lv_has ls 7 [(0, .ref (ad 0 7)), (1, .ref (ad 4 x1.toNat)), (2, .int (jI x2)), (3, .int (jI x3)), (4, .int (jI x4)), (5, .int (jI x5)), (6, .int (jI x6))] → (fun (x1 : Int) (x2 : Int) (x3 : Int) (x4 : Int) (x5 : Int) (x6 : Int) u => ∀ (H : Heap) (locs : List Loc) (ls : Array Slot), (0 ≤ x1 ∧ x1 < 408) → inR x2 → inR x3 → inR x4 → inR x5 → inR x6 → yW D ca A ad s H locs u → lv_has ls 7 [(0, .ref (ad 0 7)), (1, .ref (ad 4 x1.toNat)), (2, .int (jI x2)), (3, .int (jI x3)), (4, .int (jI x4)), (5, .int (jI x5)), (6, .int (jI x6))] → W p l e R s m args below meth c H locs 0 0 Qf (F0 m 119 ls [])) x1 x2 x3 x4 x5 x6 u → W p l e R s m args below meth c H locs 0 0 Qf (F0 m 119 ls []) := fun x1 x2 x3 x4 x5 x6 u H locs ls rx1 rx2 rx3 rx4 rx5 rx6 hw hl h => h H locs ls rx1 rx2 rx3 rx4 rx5 rx6 hw hl
  have hx := X.1.1
  have hb := X.1.2.1
  unfold v_8_addInductionHypotheses_119b at h
  refine lv_iload hx hb dX8_addInductionHypotheses_119 (lv_at hl 6 rfl) ?_
  refine lv_aload_n hx hb dX8_addInductionHypotheses_121 rfl (lv_at hl 0 rfl) ?_
  refine yg_8_42 X hw dX8_addInductionHypotheses_122 ?_
  refine yg_8_129 X hw dX8_addInductionHypotheses_125 ?_
  refine lv_iload_n hx hb dX8_addInductionHypotheses_128 rfl (lv_at hl 3 rfl) ?_
  refine yl_2 X hw rx3 dX8_addInductionHypotheses_129 h (fun v9 rv9 h => ?_)
  refine k_icmp_ge hx hb rx6 rv9 dX8_addInductionHypotheses_130 (tgt := 164) rfl h (fun h => ?_) (fun h => ?_)
  · refine lv_aload_n hx hb dX8_addInductionHypotheses_164 rfl (lv_at hl 0 rfl) ?_
    refine yg_8_46 X hw dX8_addInductionHypotheses_165 ?_
    refine lv_aload_n hx hb dX8_addInductionHypotheses_168 rfl (lv_at hl 1 rfl) ?_
    refine lv_aload_n hx hb dX8_addInductionHypotheses_169 rfl (lv_at hl 0 rfl) ?_
    refine yg_8_46 X hw dX8_addInductionHypotheses_170 ?_
    refine lv_aload_n hx hb dX8_addInductionHypotheses_173 rfl (lv_at hl 0 rfl) ?_
    refine yg_8_46 X hw dX8_addInductionHypotheses_174 ?_
    refine lv_iload_n hx hb dX8_addInductionHypotheses_177 rfl (lv_at hl 2 rfl) ?_
    refine lv_iconst hx hb dX8_addInductionHypotheses_178 (v := jI 1) rfl ?_
    refine ycI (n := 2) (e_10_rebuilt rx2 (by decide) h) 10 8 (r := (RX10, TX10, 16)) rfl yG_8_97 yD_10_rebuilt X hw rfl yGo_10 (Nat.le_trans (Nat.le_of_ble_eq_true rfl) hRf) (Nat.le_trans (Nat.le_of_ble_eq_true rfl) hRl) rfl hl.1 (Nat.le_of_ble_eq_true rfl) rfl dX8_addInductionHypotheses_179 (fun v10 u H locs rv10 h hw => ?_)
    refine ycI (n := 1) (e_10_negated rv10 h) 10 8 (r := (RX10, TX10, 16)) rfl yG_8_100 yD_10_negated X hw rfl yGo_10 (Nat.le_trans (Nat.le_of_ble_eq_true rfl) hRf) (Nat.le_trans (Nat.le_of_ble_eq_true rfl) hRl) rfl hl.1 (Nat.le_of_ble_eq_true rfl) rfl dX8_addInductionHypotheses_182 (fun v11 u H locs rv11 h hw => ?_)
    refine ycV (n := 2) (e_10_join rx1 rv11 h) 10 8 (r := (RX10, TX10, 16)) rfl yG_8_103 yD_10_join X hw rfl yGo_10 (Nat.le_trans (Nat.le_of_ble_eq_true rfl) hRf) (Nat.le_trans (Nat.le_of_ble_eq_true rfl) hRl) rfl hl.1 (Nat.le_of_ble_eq_true rfl) rfl dX8_addInductionHypotheses_185 (fun u H locs h hw => ?_)
    refine k_iinc (k := 5) hx hb dX8_addInductionHypotheses_188 hl rfl (by decide) rfl h (fun ls r13 h hl => ?_)
    have hl : lv_has ls 7 [(5, .int (jI (x5 + 1))), (0, .ref (ad 0 7)), (1, .ref (ad 4 x1.toNat)), (2, .int (jI x2)), (3, .int (jI x3)), (4, .int (jI x4)), (6, .int (jI x6))] := hl
    refine lv_goto hx hb dX8_addInductionHypotheses_191 (tgt := 16) rfl ?_
    exact hR16 _ _ _ _ _ _ H locs ls rx1 rx2 rx3 rx4 r13 hw (lv_sub hl [1, 2, 3, 4, 5, 0] rfl) h
  · refine lv_aload_n hx hb dX8_addInductionHypotheses_133 rfl (lv_at hl 0 rfl) ?_
    refine yg_8_46 X hw dX8_addInductionHypotheses_134 ?_
    refine lv_aload_n hx hb dX8_addInductionHypotheses_137 rfl (lv_at hl 0 rfl) ?_
    refine yg_8_38 X hw dX8_addInductionHypotheses_138 ?_
    refine lv_iload hx hb dX8_addInductionHypotheses_141 (lv_at hl 4 rfl) ?_
    refine lv_iload hx hb dX8_addInductionHypotheses_143 (lv_at hl 6 rfl) ?_
    refine ycI (n := 2) (e_7_item rx4 rx6 h) 7 6 (r := (RX7, TX7, 9)) rfl yG_8_50 yD_7_item X hw rfl yGo_7 (Nat.le_trans (Nat.le_of_ble_eq_true rfl) hRf) (Nat.le_trans (Nat.le_of_ble_eq_true rfl) hRl) rfl hl.1 (Nat.le_of_ble_eq_true rfl) rfl dX8_addInductionHypotheses_145 (fun v14 u H locs rv14 h hw => ?_)
    refine lv_aload_n hx hb dX8_addInductionHypotheses_148 rfl (lv_at hl 0 rfl) ?_
    refine yg_8_32 X hw dX8_addInductionHypotheses_149 ?_
    refine lv_iload hx hb dX8_addInductionHypotheses_152 (lv_at hl 6 rfl) ?_
    refine yl_34 X hw rx6 dX8_addInductionHypotheses_154 h (fun v15 rv15 h => ?_)
    refine ycV (n := 2) (e_10_bind rv14 rv15 h) 10 8 (r := (RX10, TX10, 16)) rfl yG_8_135 yD_10_bind X hw rfl yGo_10 (Nat.le_trans (Nat.le_of_ble_eq_true rfl) hRf) (Nat.le_trans (Nat.le_of_ble_eq_true rfl) hRl) rfl hl.1 (Nat.le_of_ble_eq_true rfl) rfl dX8_addInductionHypotheses_155 (fun u H locs h hw => ?_)
    refine k_iinc (k := 6) hx hb dX8_addInductionHypotheses_158 hl rfl (by decide) rfl h (fun ls r17 h hl => ?_)
    have hl : lv_has ls 7 [(6, .int (jI (x6 + 1))), (0, .ref (ad 0 7)), (1, .ref (ad 4 x1.toNat)), (2, .int (jI x2)), (3, .int (jI x3)), (4, .int (jI x4)), (5, .int (jI x5))] := hl
    refine lv_goto hx hb dX8_addInductionHypotheses_161 (tgt := 119) rfl ?_
    exact hR119 _ _ _ _ _ _ _ H locs ls rx1 rx2 rx3 rx4 rx5 r17 hw (lv_sub hl [1, 2, 3, 4, 5, 6, 0] rfl) h

def v_8_addInductionHypotheses_56b (R16 : Int → Int → Int → Int → Int → iST → Prop) (R56 : Int → Int → Int → Int → Int → Int → iST → Prop) (Q : iST → Prop) (x1 : Int) (x2 : Int) (x3 : Int) (x4 : Int) (x5 : Int) (x6 : Int) (u : iST) : Prop :=
  bd x3 40 (rd (u.2.1 2 x3) (fun v7 => 
  br (v7 ≤ x6) (
    v_10_unbind (fun u => 
    v_8_addInductionHypotheses_119 R16 Q x1 x2 x3 x4 x5 0 u) u) (
    bd x5 128 (rd (u.2.1 33 x5) (fun v18 => 
    ov (x6 + 1) (
    v_7_item v18 (x6 + 1) (fun v20 u => 
    v_10_rebuilt v20 1 (fun v21 u => 
    bd x6 6 (sw (iA u 34 x6 v21) (fun u => 
    ov (x6 + 1) (
    R56 x1 x2 x3 x4 x5 (x6 + 1) u)))) u) u))))))
def v_8_addInductionHypotheses_56 (R16 : Int → Int → Int → Int → Int → iST → Prop) (Q : iST → Prop) (x1 : Int) (x2 : Int) (x3 : Int) (x4 : Int) (x5 : Int) (x6 : Int) (u : iST) : Prop := ∀ R56 : Int → Int → Int → Int → Int → Int → iST → Prop, (∀ (x1 : Int) (x2 : Int) (x3 : Int) (x4 : Int) (x5 : Int) (x6 : Int) (u : iST), v_8_addInductionHypotheses_56b R16 R56 Q x1 x2 x3 x4 x5 x6 u → R56 x1 x2 x3 x4 x5 x6 u) → R56 x1 x2 x3 x4 x5 x6 u
set_option maxRecDepth 20000 in
set_option maxHeartbeats 4000000 in
theorem f_8_addInductionHypotheses_56 (X : yX RX8 p m c cX8_addInductionHypotheses 7 s args D ca ad A) (hRf : 3 ≤ R.frames) (hRl : 77 ≤ R.locals) {Q : iST → Prop} (hret : ∀ (u : iST) (H : Heap) (locs : List Loc) (ls : Array Slot) (pc : Nat), Q u → yW D ca A ad s H locs u → decode cX8_addInductionHypotheses pc = .ok (.return_, 1) → W p l e R s m args below meth c H locs 0 0 Qf (F0 m pc ls [])) {R16 : Int → Int → Int → Int → Int → iST → Prop} (hR16 : ∀ (x1 : Int) (x2 : Int) (x3 : Int) (x4 : Int) (x5 : Int) (u : iST) (H : Heap) (locs : List Loc) (ls : Array Slot), (0 ≤ x1 ∧ x1 < 408) → inR x2 → inR x3 → inR x4 → inR x5 → yW D ca A ad s H locs u → lv_has ls 7 [(0, .ref (ad 0 7)), (1, .ref (ad 4 x1.toNat)), (2, .int (jI x2)), (3, .int (jI x3)), (4, .int (jI x4)), (5, .int (jI x5))] → R16 x1 x2 x3 x4 x5 u → W p l e R s m args below meth c H locs 0 0 Qf (F0 m 16 ls [])) {x1 x2 x3 x4 x5 x6 : Int} (rx1 : (0 ≤ x1 ∧ x1 < 408)) (rx2 : inR x2) (rx3 : inR x3) (rx4 : inR x4) (rx5 : inR x5) (rx6 : inR x6) (hw : yW D ca A ad s H locs u) (hl : lv_has ls 7 [(0, .ref (ad 0 7)), (1, .ref (ad 4 x1.toNat)), (2, .int (jI x2)), (3, .int (jI x3)), (4, .int (jI x4)), (5, .int (jI x5)), (6, .int (jI x6))]) (h : v_8_addInductionHypotheses_56 R16 Q x1 x2 x3 x4 x5 x6 u) : W p l e R s m args below meth c H locs 0 0 Qf (F0 m 56 ls []) := by
  refine h (fun x1 x2 x3 x4 x5 x6 u => ∀ (H : Heap) (locs : List Loc) (ls : Array Slot), (0 ≤ x1 ∧ x1 < 408) → inR x2 → inR x3 → inR x4 → inR x5 → inR x6 → yW D ca A ad s H locs u → lv_has ls 7 [(0, .ref (ad 0 7)), (1, .ref (ad 4 x1.toNat)), (2, .int (jI x2)), (3, .int (jI x3)), (4, .int (jI x4)), (5, .int (jI x5)), (6, .int (jI x6))] → W p l e R s m args below meth c H locs 0 0 Qf (F0 m 56 ls [])) ?_ H locs ls rx1 rx2 rx3 rx4 rx5 rx6 hw hl
  clear h hl hw rx1 rx2 rx3 rx4 rx5 rx6
  intro x1 x2 x3 x4 x5 x6 u h H locs ls rx1 rx2 rx3 rx4 rx5 rx6 hw hl
  have hR56 : ∀ (x1 : Int) (x2 : Int) (x3 : Int) (x4 : Int) (x5 : Int) (x6 : Int) (u : iST) (H : Heap) (locs : List Loc) (ls : Array Slot), (0 ≤ x1 ∧ x1 < 408) → inR x2 → inR x3 → inR x4 → inR x5 → inR x6 → yW D ca A ad s H locs u → lv_has ls 7 [(0, .ref (ad 0 7)), (1, .ref (ad 4 x1.toNat)), (2, .int (jI x2)), (3, .int (jI x3)), (4, .int (jI x4)), (5, .int (jI x5)), (6, .int (jI x6))] → (fun (x1 : Int) (x2 : Int) (x3 : Int) (x4 : Int) (x5 : Int) (x6 : Int) u => ∀ (H : Heap) (locs : List Loc) (ls : Array Slot), (0 ≤ x1 ∧ x1 < 408) → inR x2 → inR x3 → inR x4 → inR x5 → inR x6 → yW D ca A ad s H locs u → lv_has ls 7 [(0, .ref (ad 0 7)), (1, .ref (ad 4 x1.toNat)), (2, .int (jI x2)), (3, .int (jI x3)), (4, .int (jI x4)), (5, .int (jI x5)), (6, .int (jI x6))] → W p l e R s m args below meth c H locs 0 0 Qf (F0 m 56 ls [])) x1 x2 x3 x4 x5 x6 u → W p l e R s m args below meth c H locs 0 0 Qf (F0 m 56 ls []) := fun x1 x2 x3 x4 x5 x6 u H locs ls rx1 rx2 rx3 rx4 rx5 rx6 hw hl h => h H locs ls rx1 rx2 rx3 rx4 rx5 rx6 hw hl
  have hx := X.1.1
  have hb := X.1.2.1
  unfold v_8_addInductionHypotheses_56b at h
  refine lv_iload hx hb dX8_addInductionHypotheses_56 (lv_at hl 6 rfl) ?_
  refine lv_aload_n hx hb dX8_addInductionHypotheses_58 rfl (lv_at hl 0 rfl) ?_
  refine yg_8_42 X hw dX8_addInductionHypotheses_59 ?_
  refine yg_8_129 X hw dX8_addInductionHypotheses_62 ?_
  refine lv_iload_n hx hb dX8_addInductionHypotheses_65 rfl (lv_at hl 3 rfl) ?_
  refine yl_2 X hw rx3 dX8_addInductionHypotheses_66 h (fun v7 rv7 h => ?_)
  refine k_icmp_ge hx hb rx6 rv7 dX8_addInductionHypotheses_67 (tgt := 109) rfl h (fun h => ?_) (fun h => ?_)
  · refine lv_aload_n hx hb dX8_addInductionHypotheses_109 rfl (lv_at hl 0 rfl) ?_
    refine yg_8_46 X hw dX8_addInductionHypotheses_110 ?_
    refine ycV (n := 0) (e_10_unbind h) 10 8 (r := (RX10, TX10, 16)) rfl yG_8_132 yD_10_unbind X hw rfl yGo_10 (Nat.le_trans (Nat.le_of_ble_eq_true rfl) hRf) (Nat.le_trans (Nat.le_of_ble_eq_true rfl) hRl) rfl hl.1 (Nat.le_of_ble_eq_true rfl) rfl dX8_addInductionHypotheses_113 (fun u H locs h hw => ?_)
    refine lv_iconst hx hb dX8_addInductionHypotheses_116 (v := jI 0) rfl ?_
    refine lv_istore hx hb dX8_addInductionHypotheses_117 hl (by decide) rfl (fun ls hl => ?_)
    have hl : lv_has ls 7 [(6, .int (jI 0)), (0, .ref (ad 0 7)), (1, .ref (ad 4 x1.toNat)), (2, .int (jI x2)), (3, .int (jI x3)), (4, .int (jI x4)), (5, .int (jI x5))] := hl
    exact f_8_addInductionHypotheses_119 X hRf hRl hret hR16 rx1 rx2 rx3 rx4 rx5 (by decide) hw (lv_sub hl [1, 2, 3, 4, 5, 6, 0] rfl) h
  · refine lv_aload_n hx hb dX8_addInductionHypotheses_70 rfl (lv_at hl 0 rfl) ?_
    refine yg_8_32 X hw dX8_addInductionHypotheses_71 ?_
    refine lv_iload hx hb dX8_addInductionHypotheses_74 (lv_at hl 6 rfl) ?_
    refine lv_aload_n hx hb dX8_addInductionHypotheses_76 rfl (lv_at hl 0 rfl) ?_
    refine yg_8_46 X hw dX8_addInductionHypotheses_77 ?_
    refine lv_aload_n hx hb dX8_addInductionHypotheses_80 rfl (lv_at hl 0 rfl) ?_
    refine yg_8_38 X hw dX8_addInductionHypotheses_81 ?_
    refine lv_aload_n hx hb dX8_addInductionHypotheses_84 rfl (lv_at hl 0 rfl) ?_
    refine yg_8_26 X hw dX8_addInductionHypotheses_85 ?_
    refine lv_iload hx hb dX8_addInductionHypotheses_88 (lv_at hl 5 rfl) ?_
    refine yl_33 X hw rx5 dX8_addInductionHypotheses_90 h (fun v18 rv18 h => ?_)
    refine lv_iload hx hb dX8_addInductionHypotheses_91 (lv_at hl 6 rfl) ?_
    refine lv_iconst hx hb dX8_addInductionHypotheses_93 (v := jI 1) rfl ?_
    refine k_iadd hx hb dX8_addInductionHypotheses_94 h (fun r19 h => ?_)
    refine ycI (n := 2) (e_7_item rv18 r19 h) 7 6 (r := (RX7, TX7, 9)) rfl yG_8_50 yD_7_item X hw rfl yGo_7 (Nat.le_trans (Nat.le_of_ble_eq_true rfl) hRf) (Nat.le_trans (Nat.le_of_ble_eq_true rfl) hRl) rfl hl.1 (Nat.le_of_ble_eq_true rfl) rfl dX8_addInductionHypotheses_95 (fun v20 u H locs rv20 h hw => ?_)
    refine lv_iconst hx hb dX8_addInductionHypotheses_98 (v := jI 1) rfl ?_
    refine ycI (n := 2) (e_10_rebuilt rv20 (by decide) h) 10 8 (r := (RX10, TX10, 16)) rfl yG_8_97 yD_10_rebuilt X hw rfl yGo_10 (Nat.le_trans (Nat.le_of_ble_eq_true rfl) hRf) (Nat.le_trans (Nat.le_of_ble_eq_true rfl) hRl) rfl hl.1 (Nat.le_of_ble_eq_true rfl) rfl dX8_addInductionHypotheses_99 (fun v21 u H locs rv21 h hw => ?_)
    refine yt_34 X hw rx6 rv21 dX8_addInductionHypotheses_102 h (fun H locs u hw h => ?_)
    refine k_iinc (k := 6) hx hb dX8_addInductionHypotheses_103 hl rfl (by decide) rfl h (fun ls r22 h hl => ?_)
    have hl : lv_has ls 7 [(6, .int (jI (x6 + 1))), (0, .ref (ad 0 7)), (1, .ref (ad 4 x1.toNat)), (2, .int (jI x2)), (3, .int (jI x3)), (4, .int (jI x4)), (5, .int (jI x5))] := hl
    refine lv_goto hx hb dX8_addInductionHypotheses_106 (tgt := 56) rfl ?_
    exact hR56 _ _ _ _ _ _ _ H locs ls rx1 rx2 rx3 rx4 rx5 r22 hw (lv_sub hl [1, 2, 3, 4, 5, 6, 0] rfl) h

def v_8_addInductionHypotheses_16b (R16 : Int → Int → Int → Int → Int → iST → Prop) (Q : iST → Prop) (x1 : Int) (x2 : Int) (x3 : Int) (x4 : Int) (x5 : Int) (u : iST) : Prop :=
  rd (u.1 35) (fun v3 => 
  br (v3 ≤ x5) (
    Q u) (
    rd (u.1 32) (fun v4 => 
    br (v4 ≠ 0) (
      Q u) (
      bd x3 40 (rd (u.2.1 1 x3) (fun v5 => 
      v_10_bindRow v5 x4 (fun u => 
      v_8_addInductionHypotheses_56 R16 Q x1 x2 x3 x4 x5 0 u) u))))))
def v_8_addInductionHypotheses_16 (Q : iST → Prop) (x1 : Int) (x2 : Int) (x3 : Int) (x4 : Int) (x5 : Int) (u : iST) : Prop := ∀ R16 : Int → Int → Int → Int → Int → iST → Prop, (∀ (x1 : Int) (x2 : Int) (x3 : Int) (x4 : Int) (x5 : Int) (u : iST), v_8_addInductionHypotheses_16b R16 Q x1 x2 x3 x4 x5 u → R16 x1 x2 x3 x4 x5 u) → R16 x1 x2 x3 x4 x5 u
set_option maxRecDepth 20000 in
set_option maxHeartbeats 4000000 in
theorem f_8_addInductionHypotheses_16 (X : yX RX8 p m c cX8_addInductionHypotheses 7 s args D ca ad A) (hRf : 3 ≤ R.frames) (hRl : 77 ≤ R.locals) {Q : iST → Prop} (hret : ∀ (u : iST) (H : Heap) (locs : List Loc) (ls : Array Slot) (pc : Nat), Q u → yW D ca A ad s H locs u → decode cX8_addInductionHypotheses pc = .ok (.return_, 1) → W p l e R s m args below meth c H locs 0 0 Qf (F0 m pc ls [])) {x1 x2 x3 x4 x5 : Int} (rx1 : (0 ≤ x1 ∧ x1 < 408)) (rx2 : inR x2) (rx3 : inR x3) (rx4 : inR x4) (rx5 : inR x5) (hw : yW D ca A ad s H locs u) (hl : lv_has ls 7 [(0, .ref (ad 0 7)), (1, .ref (ad 4 x1.toNat)), (2, .int (jI x2)), (3, .int (jI x3)), (4, .int (jI x4)), (5, .int (jI x5))]) (h : v_8_addInductionHypotheses_16 Q x1 x2 x3 x4 x5 u) : W p l e R s m args below meth c H locs 0 0 Qf (F0 m 16 ls []) := by
  refine h (fun x1 x2 x3 x4 x5 u => ∀ (H : Heap) (locs : List Loc) (ls : Array Slot), (0 ≤ x1 ∧ x1 < 408) → inR x2 → inR x3 → inR x4 → inR x5 → yW D ca A ad s H locs u → lv_has ls 7 [(0, .ref (ad 0 7)), (1, .ref (ad 4 x1.toNat)), (2, .int (jI x2)), (3, .int (jI x3)), (4, .int (jI x4)), (5, .int (jI x5))] → W p l e R s m args below meth c H locs 0 0 Qf (F0 m 16 ls [])) ?_ H locs ls rx1 rx2 rx3 rx4 rx5 hw hl
  clear h hl hw rx1 rx2 rx3 rx4 rx5
  intro x1 x2 x3 x4 x5 u h H locs ls rx1 rx2 rx3 rx4 rx5 hw hl
  have hR16 : ∀ (x1 : Int) (x2 : Int) (x3 : Int) (x4 : Int) (x5 : Int) (u : iST) (H : Heap) (locs : List Loc) (ls : Array Slot), (0 ≤ x1 ∧ x1 < 408) → inR x2 → inR x3 → inR x4 → inR x5 → yW D ca A ad s H locs u → lv_has ls 7 [(0, .ref (ad 0 7)), (1, .ref (ad 4 x1.toNat)), (2, .int (jI x2)), (3, .int (jI x3)), (4, .int (jI x4)), (5, .int (jI x5))] → (fun (x1 : Int) (x2 : Int) (x3 : Int) (x4 : Int) (x5 : Int) u => ∀ (H : Heap) (locs : List Loc) (ls : Array Slot), (0 ≤ x1 ∧ x1 < 408) → inR x2 → inR x3 → inR x4 → inR x5 → yW D ca A ad s H locs u → lv_has ls 7 [(0, .ref (ad 0 7)), (1, .ref (ad 4 x1.toNat)), (2, .int (jI x2)), (3, .int (jI x3)), (4, .int (jI x4)), (5, .int (jI x5))] → W p l e R s m args below meth c H locs 0 0 Qf (F0 m 16 ls [])) x1 x2 x3 x4 x5 u → W p l e R s m args below meth c H locs 0 0 Qf (F0 m 16 ls []) := fun x1 x2 x3 x4 x5 u H locs ls rx1 rx2 rx3 rx4 rx5 hw hl h => h H locs ls rx1 rx2 rx3 rx4 rx5 hw hl
  have hx := X.1.1
  have hb := X.1.2.1
  unfold v_8_addInductionHypotheses_16b at h
  refine lv_iload hx hb dX8_addInductionHypotheses_16 (lv_at hl 5 rfl) ?_
  refine lv_aload_n hx hb dX8_addInductionHypotheses_18 rfl (lv_at hl 0 rfl) ?_
  refine yg_8_29 X hw dX8_addInductionHypotheses_19 h (fun v3 rv3 h => ?_)
  refine k_icmp_ge hx hb rx5 rv3 dX8_addInductionHypotheses_22 (tgt := 194) rfl h (fun h => ?_) (fun h => ?_)
  · exact hret _ _ _ _ _ h hw dX8_addInductionHypotheses_194
  · refine lv_aload_n hx hb dX8_addInductionHypotheses_25 rfl (lv_at hl 0 rfl) ?_
    refine yg_8_38 X hw dX8_addInductionHypotheses_26 ?_
    refine yg_8_94 X hw dX8_addInductionHypotheses_29 h (fun v4 rv4 h => ?_)
    refine k_if_ne hx hb rv4 dX8_addInductionHypotheses_32 (tgt := 194) rfl h (fun h => ?_) (fun h => ?_)
    · exact hret _ _ _ _ _ h hw dX8_addInductionHypotheses_194
    · refine lv_aload_n hx hb dX8_addInductionHypotheses_35 rfl (lv_at hl 0 rfl) ?_
      refine yg_8_46 X hw dX8_addInductionHypotheses_36 ?_
      refine lv_aload_n hx hb dX8_addInductionHypotheses_39 rfl (lv_at hl 0 rfl) ?_
      refine yg_8_42 X hw dX8_addInductionHypotheses_40 ?_
      refine yg_8_126 X hw dX8_addInductionHypotheses_43 ?_
      refine lv_iload_n hx hb dX8_addInductionHypotheses_46 rfl (lv_at hl 3 rfl) ?_
      refine yl_1 X hw rx3 dX8_addInductionHypotheses_47 h (fun v5 rv5 h => ?_)
      refine lv_iload hx hb dX8_addInductionHypotheses_48 (lv_at hl 4 rfl) ?_
      refine ycV (n := 2) (e_10_bindRow rv5 rx4 h) 10 8 (r := (RX10, TX10, 16)) rfl yG_8_90 yD_10_bindRow X hw rfl yGo_10 (Nat.le_trans (Nat.le_of_ble_eq_true rfl) hRf) (Nat.le_trans (Nat.le_of_ble_eq_true rfl) hRl) rfl hl.1 (Nat.le_of_ble_eq_true rfl) rfl dX8_addInductionHypotheses_50 (fun u H locs h hw => ?_)
      refine lv_iconst hx hb dX8_addInductionHypotheses_53 (v := jI 0) rfl ?_
      refine lv_istore hx hb dX8_addInductionHypotheses_54 hl (by decide) rfl (fun ls hl => ?_)
      have hl : lv_has ls 7 [(6, .int (jI 0)), (0, .ref (ad 0 7)), (1, .ref (ad 4 x1.toNat)), (2, .int (jI x2)), (3, .int (jI x3)), (4, .int (jI x4)), (5, .int (jI x5))] := hl
      exact f_8_addInductionHypotheses_56 X hRf hRl hret hR16 rx1 rx2 rx3 rx4 rx5 (by decide) hw (lv_sub hl [1, 2, 3, 4, 5, 6, 0] rfl) h

def v_8_addInductionHypotheses (a0 : Int) (a1 : Int) (a2 : Int) (a3 : Int) (Q : iST → Prop) (u : iST) : Prop :=
  bd a2 40 (rd (u.2.1 0 a2) (fun v1 => 
  v_8_listCalls v1 (fun u => 
  v_8_addInductionHypotheses_16 Q a0 a1 a2 a3 0 u) u))
set_option maxRecDepth 20000 in
set_option maxHeartbeats 4000000 in
theorem f_8_addInductionHypotheses_s (X : yX RX8 p m c cX8_addInductionHypotheses 7 s args D ca ad A) (hRf : 3 ≤ R.frames) (hRl : 77 ≤ R.locals) {Q : iST → Prop} (hret : ∀ (u : iST) (H : Heap) (locs : List Loc) (ls : Array Slot) (pc : Nat), Q u → yW D ca A ad s H locs u → decode cX8_addInductionHypotheses pc = .ok (.return_, 1) → W p l e R s m args below meth c H locs 0 0 Qf (F0 m pc ls [])) {a0 a1 a2 a3 : Int} (ra0 : (0 ≤ a0 ∧ a0 < 408)) (ra1 : inR a1) (ra2 : inR a2) (ra3 : inR a3) (hw : yW D ca A ad s H locs u) (hl : lv_has ls 7 [(0, .ref (ad 0 7)), (1, .ref (ad 4 a0.toNat)), (2, .int (jI a1)), (3, .int (jI a2)), (4, .int (jI a3))]) (h : v_8_addInductionHypotheses a0 a1 a2 a3 Q u) : W p l e R s m args below meth c H locs 0 0 Qf (F0 m 0 ls []) := by
  have hx := X.1.1
  have hb := X.1.2.1
  unfold v_8_addInductionHypotheses at h
  refine lv_aload_n hx hb dX8_addInductionHypotheses_0 rfl (lv_at hl 0 rfl) ?_
  refine lv_aload_n hx hb dX8_addInductionHypotheses_1 rfl (lv_at hl 0 rfl) ?_
  refine yg_8_42 X hw dX8_addInductionHypotheses_2 ?_
  refine yg_8_121 X hw dX8_addInductionHypotheses_5 ?_
  refine lv_iload_n hx hb dX8_addInductionHypotheses_8 rfl (lv_at hl 3 rfl) ?_
  refine yl_0 X hw ra2 dX8_addInductionHypotheses_9 h (fun v1 rv1 h => ?_)
  refine ycV (n := 1) (e_8_listCalls rv1 h) 8 7 (r := (RX8, TX8, 11)) rfl yG_8_77 yD_8_listCalls X hw rfl yGo_8 (Nat.le_trans (Nat.le_of_ble_eq_true rfl) hRf) (Nat.le_trans (Nat.le_of_ble_eq_true rfl) hRl) rfl hl.1 (Nat.le_of_ble_eq_true rfl) rfl dX8_addInductionHypotheses_10 (fun u H locs h hw => ?_)
  refine lv_iconst hx hb dX8_addInductionHypotheses_13 (v := jI 0) rfl ?_
  refine lv_istore hx hb dX8_addInductionHypotheses_14 hl (by decide) rfl (fun ls hl => ?_)
  have hl : lv_has ls 7 [(5, .int (jI 0)), (0, .ref (ad 0 7)), (1, .ref (ad 4 a0.toNat)), (2, .int (jI a1)), (3, .int (jI a2)), (4, .int (jI a3))] := hl
  exact f_8_addInductionHypotheses_16 X hRf hRl hret ra0 ra1 ra2 ra3 (by decide) hw (lv_sub hl [1, 2, 3, 4, 5, 0] rfl) h

end
theorem e_8_addInductionHypotheses {l : Launch} {a0 : Int} {a1 : Int} {a2 : Int} {a3 : Int} (ra0 : (0 ≤ a0 ∧ a0 < 408)) (ra1 : inR a1) (ra2 : inR a2) (ra3 : inR a3) {Q : iST → Prop} {u : iST} (h : v_8_addInductionHypotheses a0 a1 a2 a3 Q u) : yMV l yX8_addInductionHypotheses (.code yX8_addInductionHypotheses cX8_addInductionHypotheses 7 none :: wsN) { frames := 3, cells := 0, slots := 0, locals := 77 } (fun ad => [.ref (ad 0 7), .ref (ad 4 a0.toNat), .int (jI a1), .int (jI a2), .int (jI a3)]) Q u := yMV_of (own := RX8) rfl (by decide +kernel) (fun _ => Nat.le_of_ble_eq_true rfl) (fun X hRf hRl hret hw hl => f_8_addInductionHypotheses_s X hRf hRl hret ra0 ra1 ra2 ra3 hw hl h)
