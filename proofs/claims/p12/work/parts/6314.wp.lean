/-! ProofHouse$Proofs.termAt -/
theorem dX3_termAt_0 : decode cX3_termAt 0 = .ok (.aload_n 0, 1) := by decide +kernel
theorem dX3_termAt_1 : decode cX3_termAt 1 = .ok (.getfield 45, 3) := by decide +kernel
theorem dX3_termAt_4 : decode cX3_termAt 4 = .ok (.aload_n 0, 1) := by decide +kernel
theorem dX3_termAt_5 : decode cX3_termAt 5 = .ok (.getfield 37, 3) := by decide +kernel
theorem dX3_termAt_8 : decode cX3_termAt 8 = .ok (.iload_n 1, 1) := by decide +kernel
theorem dX3_termAt_9 : decode cX3_termAt 9 = .ok (.iload_n 2, 1) := by decide +kernel
theorem dX3_termAt_10 : decode cX3_termAt 10 = .ok (.invokevirtual 67, 3) := by decide +kernel
theorem dX3_termAt_13 : decode cX3_termAt 13 = .ok (.iconst 0, 1) := by decide +kernel
theorem dX3_termAt_14 : decode cX3_termAt 14 = .ok (.invokevirtual 112, 3) := by decide +kernel
theorem dX3_termAt_17 : decode cX3_termAt 17 = .ok (.ireturn, 1) := by decide +kernel

section
variable {p : Program} {l : Launch} {e : Env} {R : Room} {s : State} {m : MethodId} {args : Array Value} {below : List Frame} {meth : Method} {c : Code} {H : Heap} {locs : List Loc} {Qf : State → Prop}
variable {ls : Array Slot} {D : va_G} {ca : Nat → ClassId} {A : Nat → Prop} {ad : Nat → Nat → Nat} {u : iST}
def v_3_termAt (a0 : Int) (a1 : Int) (Q : Int → iST → Prop) (u : iST) : Prop :=
  v_7_item a0 a1 (fun v1 u => 
  v_10_rebuilt v1 0 (fun v2 u => 
  Q v2 u) u) u
set_option maxRecDepth 20000 in
set_option maxHeartbeats 4000000 in
theorem f_3_termAt_s (X : yX RX3 p m c cX3_termAt 3 s args D ca ad A) (hRf : 3 ≤ R.frames) (hRl : 75 ≤ R.locals) {Q : Int → iST → Prop} (hret : ∀ (v : Int) (u : iST) (H : Heap) (locs : List Loc) (ls : Array Slot) (pc : Nat), inR v → Q v u → yW D ca A ad s H locs u → decode cX3_termAt pc = .ok (.ireturn, 1) → W p l e R s m args below meth c H locs 0 0 Qf (F0 m pc ls [.int (jI v)])) {a0 a1 : Int} (ra0 : inR a0) (ra1 : inR a1) (hw : yW D ca A ad s H locs u) (hl : lv_has ls 3 [(0, .ref (ad 0 2)), (1, .int (jI a0)), (2, .int (jI a1))]) (h : v_3_termAt a0 a1 Q u) : W p l e R s m args below meth c H locs 0 0 Qf (F0 m 0 ls []) := by
  have hx := X.1.1
  have hb := X.1.2.1
  unfold v_3_termAt at h
  refine lv_aload_n hx hb dX3_termAt_0 rfl (lv_at hl 0 rfl) ?_
  refine yg_3_45 X hw dX3_termAt_1 ?_
  refine lv_aload_n hx hb dX3_termAt_4 rfl (lv_at hl 0 rfl) ?_
  refine yg_3_37 X hw dX3_termAt_5 ?_
  refine lv_iload_n hx hb dX3_termAt_8 rfl (lv_at hl 1 rfl) ?_
  refine lv_iload_n hx hb dX3_termAt_9 rfl (lv_at hl 2 rfl) ?_
  refine ycI (n := 2) (e_7_item ra0 ra1 h) 7 6 (r := (RX7, TX7, 9)) rfl yG_3_67 yD_7_item X hw rfl yGo_7 (Nat.le_trans (Nat.le_of_ble_eq_true rfl) hRf) (Nat.le_trans (Nat.le_of_ble_eq_true rfl) hRl) rfl hl.1 (Nat.le_of_ble_eq_true rfl) rfl dX3_termAt_10 (fun v1 u H locs rv1 h hw => ?_)
  refine lv_iconst hx hb dX3_termAt_13 (v := jI 0) rfl ?_
  refine ycI (n := 2) (e_10_rebuilt rv1 (by decide) h) 10 8 (r := (RX10, TX10, 16)) rfl yG_3_112 yD_10_rebuilt X hw rfl yGo_10 (Nat.le_trans (Nat.le_of_ble_eq_true rfl) hRf) (Nat.le_trans (Nat.le_of_ble_eq_true rfl) hRl) rfl hl.1 (Nat.le_of_ble_eq_true rfl) rfl dX3_termAt_14 (fun v2 u H locs rv2 h hw => ?_)
  exact hret _ _ _ _ _ _ rv2 h hw dX3_termAt_17

end
theorem e_3_termAt {l : Launch} {a0 : Int} {a1 : Int} (ra0 : inR a0) (ra1 : inR a1) {Q : Int → iST → Prop} {u : iST} (h : v_3_termAt a0 a1 Q u) : yMI l yX3_termAt (.code yX3_termAt cX3_termAt 3 (some .int) :: wsN) { frames := 3, cells := 0, slots := 0, locals := 75 } (fun ad => [.ref (ad 0 2), .int (jI a0), .int (jI a1)]) Q u := yMI_of (own := RX3) rfl (by decide +kernel) (fun _ => Nat.le_of_ble_eq_true rfl) (fun X hRf hRl hret hw hl => f_3_termAt_s X hRf hRl hret ra0 ra1 hw hl h)

/-! ProofHouse$Proofs.isFormed -/
theorem dX3_isFormed_0 : decode cX3_isFormed 0 = .ok (.aload_n 0, 1) := by decide +kernel
theorem dX3_isFormed_1 : decode cX3_isFormed 1 = .ok (.getfield 37, 3) := by decide +kernel
theorem dX3_isFormed_4 : decode cX3_isFormed 4 = .ok (.iload_n 1, 1) := by decide +kernel
theorem dX3_isFormed_5 : decode cX3_isFormed 5 = .ok (.invokevirtual 89, 3) := by decide +kernel
theorem dX3_isFormed_8 : decode cX3_isFormed 8 = .ok (.bipush 28, 2) := by decide +kernel
theorem dX3_isFormed_10 : decode cX3_isFormed 10 = .ok (.isub, 1) := by decide +kernel
theorem dX3_isFormed_11 : decode cX3_isFormed 11 = .ok (.istore_n 2, 1) := by decide +kernel
theorem dX3_isFormed_12 : decode cX3_isFormed 12 = .ok (.aload_n 0, 1) := by decide +kernel
theorem dX3_isFormed_13 : decode cX3_isFormed 13 = .ok (.getfield 37, 3) := by decide +kernel
theorem dX3_isFormed_16 : decode cX3_isFormed 16 = .ok (.iload_n 1, 1) := by decide +kernel
theorem dX3_isFormed_17 : decode cX3_isFormed 17 = .ok (.invokevirtual 93, 3) := by decide +kernel
theorem dX3_isFormed_20 : decode cX3_isFormed 20 = .ok (.istore_n 3, 1) := by decide +kernel
theorem dX3_isFormed_21 : decode cX3_isFormed 21 = .ok (.iload_n 2, 1) := by decide +kernel
theorem dX3_isFormed_22 : decode cX3_isFormed 22 = .ok (.ifCond .lt 9, 3) := by decide +kernel
theorem dX3_isFormed_25 : decode cX3_isFormed 25 = .ok (.iload_n 2, 1) := by decide +kernel
theorem dX3_isFormed_26 : decode cX3_isFormed 26 = .ok (.bipush 15, 2) := by decide +kernel
theorem dX3_isFormed_28 : decode cX3_isFormed 28 = .ok (.if_icmp .le 5, 3) := by decide +kernel
theorem dX3_isFormed_31 : decode cX3_isFormed 31 = .ok (.iconst 0, 1) := by decide +kernel
theorem dX3_isFormed_32 : decode cX3_isFormed 32 = .ok (.ireturn, 1) := by decide +kernel
theorem dX3_isFormed_33 : decode cX3_isFormed 33 = .ok (.iload_n 2, 1) := by decide +kernel
theorem dX3_isFormed_34 : decode cX3_isFormed 34 = .ok (.bipush 12, 2) := by decide +kernel
theorem dX3_isFormed_36 : decode cX3_isFormed 36 = .ok (.if_icmp .eq 9, 3) := by decide +kernel
theorem dX3_isFormed_39 : decode cX3_isFormed 39 = .ok (.iload_n 2, 1) := by decide +kernel
theorem dX3_isFormed_40 : decode cX3_isFormed 40 = .ok (.bipush 15, 2) := by decide +kernel
theorem dX3_isFormed_42 : decode cX3_isFormed 42 = .ok (.if_icmp .ne 7, 3) := by decide +kernel
theorem dX3_isFormed_45 : decode cX3_isFormed 45 = .ok (.iconst 1, 1) := by decide +kernel
theorem dX3_isFormed_46 : decode cX3_isFormed 46 = .ok (.goto 4, 3) := by decide +kernel
theorem dX3_isFormed_49 : decode cX3_isFormed 49 = .ok (.iconst 0, 1) := by decide +kernel
theorem dX3_isFormed_50 : decode cX3_isFormed 50 = .ok (.istore 4, 2) := by decide +kernel
theorem dX3_isFormed_52 : decode cX3_isFormed 52 = .ok (.iload_n 3, 1) := by decide +kernel
theorem dX3_isFormed_53 : decode cX3_isFormed 53 = .ok (.getstatic 96, 3) := by decide +kernel
theorem dX3_isFormed_56 : decode cX3_isFormed 56 = .ok (.iload_n 2, 1) := by decide +kernel
theorem dX3_isFormed_57 : decode cX3_isFormed 57 = .ok (.iaload, 1) := by decide +kernel
theorem dX3_isFormed_58 : decode cX3_isFormed 58 = .ok (.if_icmp .lt 17, 3) := by decide +kernel
theorem dX3_isFormed_61 : decode cX3_isFormed 61 = .ok (.iload_n 3, 1) := by decide +kernel
theorem dX3_isFormed_62 : decode cX3_isFormed 62 = .ok (.getstatic 96, 3) := by decide +kernel
theorem dX3_isFormed_65 : decode cX3_isFormed 65 = .ok (.iload_n 2, 1) := by decide +kernel
theorem dX3_isFormed_66 : decode cX3_isFormed 66 = .ok (.iaload, 1) := by decide +kernel
theorem dX3_isFormed_67 : decode cX3_isFormed 67 = .ok (.if_icmp .le 10, 3) := by decide +kernel
theorem dX3_isFormed_70 : decode cX3_isFormed 70 = .ok (.iload 4, 2) := by decide +kernel
theorem dX3_isFormed_72 : decode cX3_isFormed 72 = .ok (.ifCond .ne 5, 3) := by decide +kernel
theorem dX3_isFormed_75 : decode cX3_isFormed 75 = .ok (.iconst 0, 1) := by decide +kernel
theorem dX3_isFormed_76 : decode cX3_isFormed 76 = .ok (.ireturn, 1) := by decide +kernel
theorem dX3_isFormed_77 : decode cX3_isFormed 77 = .ok (.iconst 1, 1) := by decide +kernel
theorem dX3_isFormed_78 : decode cX3_isFormed 78 = .ok (.istore 5, 2) := by decide +kernel
theorem dX3_isFormed_80 : decode cX3_isFormed 80 = .ok (.iload 5, 2) := by decide +kernel
theorem dX3_isFormed_82 : decode cX3_isFormed 82 = .ok (.getstatic 106, 3) := by decide +kernel
theorem dX3_isFormed_85 : decode cX3_isFormed 85 = .ok (.iload_n 2, 1) := by decide +kernel
theorem dX3_isFormed_86 : decode cX3_isFormed 86 = .ok (.iaload, 1) := by decide +kernel
theorem dX3_isFormed_87 : decode cX3_isFormed 87 = .ok (.if_icmp .gt 22, 3) := by decide +kernel
theorem dX3_isFormed_90 : decode cX3_isFormed 90 = .ok (.aload_n 0, 1) := by decide +kernel
theorem dX3_isFormed_91 : decode cX3_isFormed 91 = .ok (.iload_n 1, 1) := by decide +kernel
theorem dX3_isFormed_92 : decode cX3_isFormed 92 = .ok (.iload 5, 2) := by decide +kernel
theorem dX3_isFormed_94 : decode cX3_isFormed 94 = .ok (.invokevirtual 109, 3) := by decide +kernel
theorem dX3_isFormed_97 : decode cX3_isFormed 97 = .ok (.iconst (-1), 1) := by decide +kernel
theorem dX3_isFormed_98 : decode cX3_isFormed 98 = .ok (.if_icmp .ne 5, 3) := by decide +kernel
theorem dX3_isFormed_101 : decode cX3_isFormed 101 = .ok (.iconst 0, 1) := by decide +kernel
theorem dX3_isFormed_102 : decode cX3_isFormed 102 = .ok (.ireturn, 1) := by decide +kernel
theorem dX3_isFormed_103 : decode cX3_isFormed 103 = .ok (.iinc 5 1, 3) := by decide +kernel
theorem dX3_isFormed_106 : decode cX3_isFormed 106 = .ok (.goto (-26), 3) := by decide +kernel
theorem dX3_isFormed_109 : decode cX3_isFormed 109 = .ok (.iconst 1, 1) := by decide +kernel
theorem dX3_isFormed_110 : decode cX3_isFormed 110 = .ok (.ireturn, 1) := by decide +kernel

section
variable {p : Program} {l : Launch} {e : Env} {R : Room} {s : State} {m : MethodId} {args : Array Value} {below : List Frame} {meth : Method} {c : Code} {H : Heap} {locs : List Loc} {Qf : State → Prop}
variable {ls : Array Slot} {D : va_G} {ca : Nat → ClassId} {A : Nat → Prop} {ad : Nat → Nat → Nat} {u : iST}
def v_3_isFormed_80b (R80 : Int → Int → Int → iST → Prop) (Q : Int → iST → Prop) (x1 : Int) (x2 : Int) (x5 : Int) (u : iST) : Prop :=
  bd x2 16 (rd (yT_TERM_COUNTS.getD x2.toNat 0) (fun v6 => 
  br (v6 < x5) (
    zt 1 (Q 1 u)) (
    v_3_termAt x1 x5 (fun v7 u => 
    br (v7 ≠ (-1)) (
      ov (x5 + 1) (
      R80 x1 x2 (x5 + 1) u)) (
      zt 0 (Q 0 u))) u)))
def v_3_isFormed_80 (Q : Int → iST → Prop) (x1 : Int) (x2 : Int) (x5 : Int) (u : iST) : Prop := ∀ R80 : Int → Int → Int → iST → Prop, (∀ (x1 : Int) (x2 : Int) (x5 : Int) (u : iST), v_3_isFormed_80b R80 Q x1 x2 x5 u → R80 x1 x2 x5 u) → R80 x1 x2 x5 u
set_option maxRecDepth 20000 in
set_option maxHeartbeats 4000000 in
theorem f_3_isFormed_80 (X : yX RX3 p m c cX3_isFormed 6 s args D ca ad A) (hRf : 4 ≤ R.frames) (hRl : 97 ≤ R.locals) {Q : Int → iST → Prop} (hret : ∀ (v : Int) (u : iST) (H : Heap) (locs : List Loc) (ls : Array Slot) (pc : Nat), bz v → Q v u → yW D ca A ad s H locs u → decode cX3_isFormed pc = .ok (.ireturn, 1) → W p l e R s m args below meth c H locs 0 0 Qf (F0 m pc ls [.int (jI v)])) {x1 x2 x5 : Int} (rx1 : inR x1) (rx2 : inR x2) (rx5 : inR x5) (hw : yW D ca A ad s H locs u) (hl : lv_has ls 6 [(0, .ref (ad 0 2)), (1, .int (jI x1)), (2, .int (jI x2)), (5, .int (jI x5))]) (h : v_3_isFormed_80 Q x1 x2 x5 u) : W p l e R s m args below meth c H locs 0 0 Qf (F0 m 80 ls []) := by
  refine h (fun x1 x2 x5 u => ∀ (H : Heap) (locs : List Loc) (ls : Array Slot), inR x1 → inR x2 → inR x5 → yW D ca A ad s H locs u → lv_has ls 6 [(0, .ref (ad 0 2)), (1, .int (jI x1)), (2, .int (jI x2)), (5, .int (jI x5))] → W p l e R s m args below meth c H locs 0 0 Qf (F0 m 80 ls [])) ?_ H locs ls rx1 rx2 rx5 hw hl
  clear h hl hw rx1 rx2 rx5
  intro x1 x2 x5 u h H locs ls rx1 rx2 rx5 hw hl
  have hR80 : ∀ (x1 : Int) (x2 : Int) (x5 : Int) (u : iST) (H : Heap) (locs : List Loc) (ls : Array Slot), inR x1 → inR x2 → inR x5 → yW D ca A ad s H locs u → lv_has ls 6 [(0, .ref (ad 0 2)), (1, .int (jI x1)), (2, .int (jI x2)), (5, .int (jI x5))] → (fun (x1 : Int) (x2 : Int) (x5 : Int) u => ∀ (H : Heap) (locs : List Loc) (ls : Array Slot), inR x1 → inR x2 → inR x5 → yW D ca A ad s H locs u → lv_has ls 6 [(0, .ref (ad 0 2)), (1, .int (jI x1)), (2, .int (jI x2)), (5, .int (jI x5))] → W p l e R s m args below meth c H locs 0 0 Qf (F0 m 80 ls [])) x1 x2 x5 u → W p l e R s m args below meth c H locs 0 0 Qf (F0 m 80 ls []) := fun x1 x2 x5 u H locs ls rx1 rx2 rx5 hw hl h => h H locs ls rx1 rx2 rx5 hw hl
  have hx := X.1.1
  have hb := X.1.2.1
  unfold v_3_isFormed_80b at h
  refine lv_iload hx hb dX3_isFormed_80 (lv_at hl 3 rfl) ?_
  refine ys_3_106 X hw dX3_isFormed_82 ?_
  refine lv_iload_n hx hb dX3_isFormed_85 rfl (lv_at hl 2 rfl) ?_
  refine yst_2 X hw rx2 dX3_isFormed_86 h (fun v6 rv6 h => ?_)
  refine k_icmp_gt hx hb rx5 rv6 dX3_isFormed_87 (tgt := 109) rfl h (fun h => ?_) (fun h => ?_)
  · refine lv_iconst hx hb dX3_isFormed_109 (v := jI 1) rfl ?_
    exact hret _ _ _ _ _ _ h.1 h.2 hw dX3_isFormed_110
  · refine lv_aload_n hx hb dX3_isFormed_90 rfl (lv_at hl 0 rfl) ?_
    refine lv_iload_n hx hb dX3_isFormed_91 rfl (lv_at hl 1 rfl) ?_
    refine lv_iload hx hb dX3_isFormed_92 (lv_at hl 3 rfl) ?_
    refine ycI (n := 2) (e_3_termAt rx1 rx5 h) 3 2 (r := (RX3, TX3, 11)) rfl yG_3_109 yD_3_termAt X hw rfl yGo_3 (Nat.le_trans (Nat.le_of_ble_eq_true rfl) hRf) (Nat.le_trans (Nat.le_of_ble_eq_true rfl) hRl) rfl hl.1 (Nat.le_of_ble_eq_true rfl) rfl dX3_isFormed_94 (fun v7 u H locs rv7 h hw => ?_)
    refine lv_iconst hx hb dX3_isFormed_97 (v := jI (-1)) rfl ?_
    refine k_icmp_ne hx hb rv7 (by decide) dX3_isFormed_98 (tgt := 103) rfl h (fun h => ?_) (fun h => ?_)
    · refine k_iinc (k := 3) hx hb dX3_isFormed_103 hl rfl (by decide) rfl h (fun ls r8 h hl => ?_)
      have hl : lv_has ls 6 [(5, .int (jI (x5 + 1))), (0, .ref (ad 0 2)), (1, .int (jI x1)), (2, .int (jI x2))] := hl
      refine lv_goto hx hb dX3_isFormed_106 (tgt := 80) rfl ?_
      exact hR80 _ _ _ _ H locs ls rx1 rx2 r8 hw (lv_sub hl [1, 2, 3, 0] rfl) h
    · refine lv_iconst hx hb dX3_isFormed_101 (v := jI 0) rfl ?_
      exact hret _ _ _ _ _ _ h.1 h.2 hw dX3_isFormed_102

def v_3_isFormed_77 (Q : Int → iST → Prop) (x1 : Int) (x2 : Int) (u : iST) : Prop :=
  v_3_isFormed_80 Q x1 x2 1 u
set_option maxRecDepth 20000 in
set_option maxHeartbeats 4000000 in
theorem f_3_isFormed_77 (X : yX RX3 p m c cX3_isFormed 6 s args D ca ad A) (hRf : 4 ≤ R.frames) (hRl : 97 ≤ R.locals) {Q : Int → iST → Prop} (hret : ∀ (v : Int) (u : iST) (H : Heap) (locs : List Loc) (ls : Array Slot) (pc : Nat), bz v → Q v u → yW D ca A ad s H locs u → decode cX3_isFormed pc = .ok (.ireturn, 1) → W p l e R s m args below meth c H locs 0 0 Qf (F0 m pc ls [.int (jI v)])) {x1 x2 : Int} (rx1 : inR x1) (rx2 : inR x2) (hw : yW D ca A ad s H locs u) (hl : lv_has ls 6 [(0, .ref (ad 0 2)), (1, .int (jI x1)), (2, .int (jI x2))]) (h : v_3_isFormed_77 Q x1 x2 u) : W p l e R s m args below meth c H locs 0 0 Qf (F0 m 77 ls []) := by
  have hx := X.1.1
  have hb := X.1.2.1
  unfold v_3_isFormed_77 at h
  refine lv_iconst hx hb dX3_isFormed_77 (v := jI 1) rfl ?_
  refine lv_istore hx hb dX3_isFormed_78 hl (by decide) rfl (fun ls hl => ?_)
  have hl : lv_has ls 6 [(5, .int (jI 1)), (0, .ref (ad 0 2)), (1, .int (jI x1)), (2, .int (jI x2))] := hl
  exact f_3_isFormed_80 X hRf hRl hret rx1 rx2 (by decide) hw (lv_sub hl [1, 2, 3, 0] rfl) h

def v_3_isFormed_50 (Q : Int → iST → Prop) (x1 : Int) (x2 : Int) (x3 : Int) (y0 : Int) (u : iST) : Prop :=
  bd x2 16 (rd (yT_LENGTHS.getD x2.toNat 0) (fun v4 => 
  br (x3 < v4) (
    zt 0 (Q 0 u)) (
    bd x2 16 (rd (yT_LENGTHS.getD x2.toNat 0) (fun v5 => 
    br (x3 ≤ v5) (
      v_3_isFormed_77 Q x1 x2 u) (
      br (y0 ≠ 0) (
        v_3_isFormed_77 Q x1 x2 u) (
        zt 0 (Q 0 u))))))))
set_option maxRecDepth 20000 in
set_option maxHeartbeats 4000000 in
theorem f_3_isFormed_50 (X : yX RX3 p m c cX3_isFormed 6 s args D ca ad A) (hRf : 4 ≤ R.frames) (hRl : 97 ≤ R.locals) {Q : Int → iST → Prop} (hret : ∀ (v : Int) (u : iST) (H : Heap) (locs : List Loc) (ls : Array Slot) (pc : Nat), bz v → Q v u → yW D ca A ad s H locs u → decode cX3_isFormed pc = .ok (.ireturn, 1) → W p l e R s m args below meth c H locs 0 0 Qf (F0 m pc ls [.int (jI v)])) {x1 x2 x3 y0 : Int} (rx1 : inR x1) (rx2 : inR x2) (rx3 : inR x3) (ry0 : inR y0) (hw : yW D ca A ad s H locs u) (hl : lv_has ls 6 [(0, .ref (ad 0 2)), (1, .int (jI x1)), (2, .int (jI x2)), (3, .int (jI x3))]) (h : v_3_isFormed_50 Q x1 x2 x3 y0 u) : W p l e R s m args below meth c H locs 0 0 Qf (F0 m 50 ls [.int (jI y0)]) := by
  have hx := X.1.1
  have hb := X.1.2.1
  unfold v_3_isFormed_50 at h
  refine lv_istore hx hb dX3_isFormed_50 hl (by decide) rfl (fun ls hl => ?_)
  have hl : lv_has ls 6 [(4, .int (jI y0)), (0, .ref (ad 0 2)), (1, .int (jI x1)), (2, .int (jI x2)), (3, .int (jI x3))] := hl
  refine lv_iload_n hx hb dX3_isFormed_52 rfl (lv_at hl 4 rfl) ?_
  refine ys_3_96 X hw dX3_isFormed_53 ?_
  refine lv_iload_n hx hb dX3_isFormed_56 rfl (lv_at hl 3 rfl) ?_
  refine yst_1 X hw rx2 dX3_isFormed_57 h (fun v4 rv4 h => ?_)
  refine k_icmp_lt hx hb rx3 rv4 dX3_isFormed_58 (tgt := 75) rfl h (fun h => ?_) (fun h => ?_)
  · refine lv_iconst hx hb dX3_isFormed_75 (v := jI 0) rfl ?_
    exact hret _ _ _ _ _ _ h.1 h.2 hw dX3_isFormed_76
  · refine lv_iload_n hx hb dX3_isFormed_61 rfl (lv_at hl 4 rfl) ?_
    refine ys_3_96 X hw dX3_isFormed_62 ?_
    refine lv_iload_n hx hb dX3_isFormed_65 rfl (lv_at hl 3 rfl) ?_
    refine yst_1 X hw rx2 dX3_isFormed_66 h (fun v5 rv5 h => ?_)
    refine k_icmp_le hx hb rx3 rv5 dX3_isFormed_67 (tgt := 77) rfl h (fun h => ?_) (fun h => ?_)
    · exact f_3_isFormed_77 X hRf hRl hret rx1 rx2 hw (lv_sub hl [1, 2, 3] rfl) h
    · refine lv_iload hx hb dX3_isFormed_70 (lv_at hl 0 rfl) ?_
      refine k_if_ne hx hb ry0 dX3_isFormed_72 (tgt := 77) rfl h (fun h => ?_) (fun h => ?_)
      · exact f_3_isFormed_77 X hRf hRl hret rx1 rx2 hw (lv_sub hl [1, 2, 3] rfl) h
      · refine lv_iconst hx hb dX3_isFormed_75 (v := jI 0) rfl ?_
        exact hret _ _ _ _ _ _ h.1 h.2 hw dX3_isFormed_76

def v_3_isFormed_45 (Q : Int → iST → Prop) (x1 : Int) (x2 : Int) (x3 : Int) (u : iST) : Prop :=
  v_3_isFormed_50 Q x1 x2 x3 1 u
set_option maxRecDepth 20000 in
set_option maxHeartbeats 4000000 in
theorem f_3_isFormed_45 (X : yX RX3 p m c cX3_isFormed 6 s args D ca ad A) (hRf : 4 ≤ R.frames) (hRl : 97 ≤ R.locals) {Q : Int → iST → Prop} (hret : ∀ (v : Int) (u : iST) (H : Heap) (locs : List Loc) (ls : Array Slot) (pc : Nat), bz v → Q v u → yW D ca A ad s H locs u → decode cX3_isFormed pc = .ok (.ireturn, 1) → W p l e R s m args below meth c H locs 0 0 Qf (F0 m pc ls [.int (jI v)])) {x1 x2 x3 : Int} (rx1 : inR x1) (rx2 : inR x2) (rx3 : inR x3) (hw : yW D ca A ad s H locs u) (hl : lv_has ls 6 [(0, .ref (ad 0 2)), (1, .int (jI x1)), (2, .int (jI x2)), (3, .int (jI x3))]) (h : v_3_isFormed_45 Q x1 x2 x3 u) : W p l e R s m args below meth c H locs 0 0 Qf (F0 m 45 ls []) := by
  have hx := X.1.1
  have hb := X.1.2.1
  unfold v_3_isFormed_45 at h
  refine lv_iconst hx hb dX3_isFormed_45 (v := jI 1) rfl ?_
  refine lv_goto hx hb dX3_isFormed_46 (tgt := 50) rfl ?_
  exact f_3_isFormed_50 X hRf hRl hret rx1 rx2 rx3 (by decide) hw hl h

def v_3_isFormed (a0 : Int) (Q : Int → iST → Prop) (u : iST) : Prop :=
  v_7_left a0 (fun v1 u => 
  ov (v1 - 28) (
  v_7_lengthOf a0 (fun v3 u => 
  br ((v1 - 28) < 0) (
    zt 0 (Q 0 u)) (
    br ((v1 - 28) ≤ 15) (
      br ((v1 - 28) = 12) (
        v_3_isFormed_45 Q a0 (v1 - 28) v3 u) (
        br ((v1 - 28) ≠ 15) (
          v_3_isFormed_50 Q a0 (v1 - 28) v3 0 u) (
          v_3_isFormed_45 Q a0 (v1 - 28) v3 u))) (
      zt 0 (Q 0 u)))) u)) u
set_option maxRecDepth 20000 in
set_option maxHeartbeats 4000000 in
theorem f_3_isFormed_s (X : yX RX3 p m c cX3_isFormed 6 s args D ca ad A) (hRf : 4 ≤ R.frames) (hRl : 97 ≤ R.locals) {Q : Int → iST → Prop} (hret : ∀ (v : Int) (u : iST) (H : Heap) (locs : List Loc) (ls : Array Slot) (pc : Nat), bz v → Q v u → yW D ca A ad s H locs u → decode cX3_isFormed pc = .ok (.ireturn, 1) → W p l e R s m args below meth c H locs 0 0 Qf (F0 m pc ls [.int (jI v)])) {a0 : Int} (ra0 : inR a0) (hw : yW D ca A ad s H locs u) (hl : lv_has ls 6 [(0, .ref (ad 0 2)), (1, .int (jI a0))]) (h : v_3_isFormed a0 Q u) : W p l e R s m args below meth c H locs 0 0 Qf (F0 m 0 ls []) := by
  have hx := X.1.1
  have hb := X.1.2.1
  unfold v_3_isFormed at h
  refine lv_aload_n hx hb dX3_isFormed_0 rfl (lv_at hl 0 rfl) ?_
  refine yg_3_37 X hw dX3_isFormed_1 ?_
  refine lv_iload_n hx hb dX3_isFormed_4 rfl (lv_at hl 1 rfl) ?_
  refine ycI (n := 1) (e_7_left ra0 h) 7 6 (r := (RX7, TX7, 9)) rfl yG_3_89 yD_7_left X hw rfl yGo_7 (Nat.le_trans (Nat.le_of_ble_eq_true rfl) hRf) (Nat.le_trans (Nat.le_of_ble_eq_true rfl) hRl) rfl hl.1 (Nat.le_of_ble_eq_true rfl) rfl dX3_isFormed_5 (fun v1 u H locs rv1 h hw => ?_)
  refine lv_bipush hx hb dX3_isFormed_8 (v := jI 28) rfl ?_
  refine k_isub hx hb dX3_isFormed_10 h (fun r2 h => ?_)
  refine lv_istore_n hx hb dX3_isFormed_11 rfl hl (by decide) rfl (fun ls hl => ?_)
  have hl : lv_has ls 6 [(2, .int (jI (v1 - 28))), (0, .ref (ad 0 2)), (1, .int (jI a0))] := hl
  refine lv_aload_n hx hb dX3_isFormed_12 rfl (lv_at hl 1 rfl) ?_
  refine yg_3_37 X hw dX3_isFormed_13 ?_
  refine lv_iload_n hx hb dX3_isFormed_16 rfl (lv_at hl 2 rfl) ?_
  refine ycI (n := 1) (e_7_lengthOf ra0 h) 7 6 (r := (RX7, TX7, 9)) rfl yG_3_93 yD_7_lengthOf X hw rfl yGo_7 (Nat.le_trans (Nat.le_of_ble_eq_true rfl) hRf) (Nat.le_trans (Nat.le_of_ble_eq_true rfl) hRl) rfl hl.1 (Nat.le_of_ble_eq_true rfl) rfl dX3_isFormed_17 (fun v3 u H locs rv3 h hw => ?_)
  refine lv_istore_n hx hb dX3_isFormed_20 rfl hl (by decide) rfl (fun ls hl => ?_)
  have hl : lv_has ls 6 [(3, .int (jI v3)), (2, .int (jI (v1 - 28))), (0, .ref (ad 0 2)), (1, .int (jI a0))] := hl
  refine lv_iload_n hx hb dX3_isFormed_21 rfl (lv_at hl 1 rfl) ?_
  refine k_if_lt hx hb r2 dX3_isFormed_22 (tgt := 31) rfl h (fun h => ?_) (fun h => ?_)
  · refine lv_iconst hx hb dX3_isFormed_31 (v := jI 0) rfl ?_
    exact hret _ _ _ _ _ _ h.1 h.2 hw dX3_isFormed_32
  · refine lv_iload_n hx hb dX3_isFormed_25 rfl (lv_at hl 1 rfl) ?_
    refine lv_bipush hx hb dX3_isFormed_26 (v := jI 15) rfl ?_
    refine k_icmp_le hx hb r2 (by decide) dX3_isFormed_28 (tgt := 33) rfl h (fun h => ?_) (fun h => ?_)
    · refine lv_iload_n hx hb dX3_isFormed_33 rfl (lv_at hl 1 rfl) ?_
      refine lv_bipush hx hb dX3_isFormed_34 (v := jI 12) rfl ?_
      refine k_icmp_eq hx hb r2 (by decide) dX3_isFormed_36 (tgt := 45) rfl h (fun h => ?_) (fun h => ?_)
      · exact f_3_isFormed_45 X hRf hRl hret ra0 r2 rv3 hw (lv_sub hl [2, 3, 1, 0] rfl) h
      · refine lv_iload_n hx hb dX3_isFormed_39 rfl (lv_at hl 1 rfl) ?_
        refine lv_bipush hx hb dX3_isFormed_40 (v := jI 15) rfl ?_
        refine k_icmp_ne hx hb r2 (by decide) dX3_isFormed_42 (tgt := 49) rfl h (fun h => ?_) (fun h => ?_)
        · refine lv_iconst hx hb dX3_isFormed_49 (v := jI 0) rfl ?_
          exact f_3_isFormed_50 X hRf hRl hret ra0 r2 rv3 (by decide) hw (lv_sub hl [2, 3, 1, 0] rfl) h
        · exact f_3_isFormed_45 X hRf hRl hret ra0 r2 rv3 hw (lv_sub hl [2, 3, 1, 0] rfl) h
    · refine lv_iconst hx hb dX3_isFormed_31 (v := jI 0) rfl ?_
      exact hret _ _ _ _ _ _ h.1 h.2 hw dX3_isFormed_32

end
theorem e_3_isFormed {l : Launch} {a0 : Int} (ra0 : inR a0) {Q : Int → iST → Prop} {u : iST} (h : v_3_isFormed a0 Q u) : yMI l yX3_isFormed (.code yX3_isFormed cX3_isFormed 6 (some .boolean) :: wsN) { frames := 4, cells := 0, slots := 0, locals := 97 } (fun ad => [.ref (ad 0 2), .int (jI a0)]) Q u := yMZ_of (own := RX3) rfl (by decide +kernel) (fun _ => Nat.le_of_ble_eq_true rfl) (fun X hRf hRl hret hw hl => f_3_isFormed_s X hRf hRl hret ra0 hw hl h)

/-! ProofHouse$Room.isConstant -/
theorem dX7_isConstant_0 : decode cX7_isConstant 0 = .ok (.iload_n 1, 1) := by decide +kernel
theorem dX7_isConstant_1 : decode cX7_isConstant 1 = .ok (.ifCond .lt 11, 3) := by decide +kernel
theorem dX7_isConstant_4 : decode cX7_isConstant 4 = .ok (.iload_n 1, 1) := by decide +kernel
theorem dX7_isConstant_5 : decode cX7_isConstant 5 = .ok (.aload_n 0, 1) := by decide +kernel
theorem dX7_isConstant_6 : decode cX7_isConstant 6 = .ok (.getfield 30, 3) := by decide +kernel
theorem dX7_isConstant_9 : decode cX7_isConstant 9 = .ok (.if_icmp .lt 5, 3) := by decide +kernel
theorem dX7_isConstant_12 : decode cX7_isConstant 12 = .ok (.iconst 0, 1) := by decide +kernel
theorem dX7_isConstant_13 : decode cX7_isConstant 13 = .ok (.ireturn, 1) := by decide +kernel
theorem dX7_isConstant_14 : decode cX7_isConstant 14 = .ok (.aload_n 0, 1) := by decide +kernel
theorem dX7_isConstant_15 : decode cX7_isConstant 15 = .ok (.getfield 12, 3) := by decide +kernel
theorem dX7_isConstant_18 : decode cX7_isConstant 18 = .ok (.iload_n 1, 1) := by decide +kernel
theorem dX7_isConstant_19 : decode cX7_isConstant 19 = .ok (.laload, 1) := by decide +kernel
theorem dX7_isConstant_20 : decode cX7_isConstant 20 = .ok (.lstore_n 2, 1) := by decide +kernel
theorem dX7_isConstant_21 : decode cX7_isConstant 21 = .ok (.lload_n 2, 1) := by decide +kernel
theorem dX7_isConstant_22 : decode cX7_isConstant 22 = .ok (.lconst 0, 1) := by decide +kernel
theorem dX7_isConstant_23 : decode cX7_isConstant 23 = .ok (.lcmp, 1) := by decide +kernel
theorem dX7_isConstant_24 : decode cX7_isConstant 24 = .ok (.ifCond .ge 23, 3) := by decide +kernel
theorem dX7_isConstant_27 : decode cX7_isConstant 27 = .ok (.lload_n 2, 1) := by decide +kernel
theorem dX7_isConstant_28 : decode cX7_isConstant 28 = .ok (.bipush 31, 2) := by decide +kernel
theorem dX7_isConstant_30 : decode cX7_isConstant 30 = .ok (.lushr, 1) := by decide +kernel
theorem dX7_isConstant_31 : decode cX7_isConstant 31 = .ok (.l2i, 1) := by decide +kernel
theorem dX7_isConstant_32 : decode cX7_isConstant 32 = .ok (.ldc 77, 2) := by decide +kernel
theorem dX7_isConstant_34 : decode cX7_isConstant 34 = .ok (.iand, 1) := by decide +kernel
theorem dX7_isConstant_35 : decode cX7_isConstant 35 = .ok (.iconst 2, 1) := by decide +kernel
theorem dX7_isConstant_36 : decode cX7_isConstant 36 = .ok (.if_icmp .ne 7, 3) := by decide +kernel
theorem dX7_isConstant_39 : decode cX7_isConstant 39 = .ok (.iconst 1, 1) := by decide +kernel
theorem dX7_isConstant_40 : decode cX7_isConstant 40 = .ok (.goto 25, 3) := by decide +kernel
theorem dX7_isConstant_43 : decode cX7_isConstant 43 = .ok (.iconst 0, 1) := by decide +kernel
theorem dX7_isConstant_44 : decode cX7_isConstant 44 = .ok (.goto 21, 3) := by decide +kernel
theorem dX7_isConstant_47 : decode cX7_isConstant 47 = .ok (.lload_n 2, 1) := by decide +kernel
theorem dX7_isConstant_48 : decode cX7_isConstant 48 = .ok (.ldc2_w 69, 3) := by decide +kernel
theorem dX7_isConstant_51 : decode cX7_isConstant 51 = .ok (.lcmp, 1) := by decide +kernel
theorem dX7_isConstant_52 : decode cX7_isConstant 52 = .ok (.ifCond .lt 8, 3) := by decide +kernel
theorem dX7_isConstant_55 : decode cX7_isConstant 55 = .ok (.iload_n 1, 1) := by decide +kernel
theorem dX7_isConstant_56 : decode cX7_isConstant 56 = .ok (.iconst 1, 1) := by decide +kernel
theorem dX7_isConstant_57 : decode cX7_isConstant 57 = .ok (.if_icmp .gt 7, 3) := by decide +kernel
theorem dX7_isConstant_60 : decode cX7_isConstant 60 = .ok (.iconst 1, 1) := by decide +kernel
theorem dX7_isConstant_61 : decode cX7_isConstant 61 = .ok (.goto 4, 3) := by decide +kernel
theorem dX7_isConstant_64 : decode cX7_isConstant 64 = .ok (.iconst 0, 1) := by decide +kernel
theorem dX7_isConstant_65 : decode cX7_isConstant 65 = .ok (.ireturn, 1) := by decide +kernel

section
variable {p : Program} {l : Launch} {e : Env} {R : Room} {s : State} {m : MethodId} {args : Array Value} {below : List Frame} {meth : Method} {c : Code} {H : Heap} {locs : List Loc} {Qf : State → Prop}
variable {ls : Array Slot} {D : va_G} {ca : Nat → ClassId} {A : Nat → Prop} {ad : Nat → Nat → Nat} {u : iST}
def v_7_isConstant (a0 : Int) (Q : Int → iST → Prop) (u : iST) : Prop :=
  br (a0 < 0) (
    zt 0 (Q 0 u)) (
    rd (u.1 29) (fun v1 => 
    br (a0 < v1) (
      bd a0 160000 (rl (u.2.2 a0) (fun v2 => 
      br (0 ≤ v2) (
        br (v2 < 4611686018427387904) (
          zt 1 (Q 1 u)) (
          br (1 < a0) (
            zt 0 (Q 0 u)) (
            zt 1 (Q 1 u)))) (
        rl (wlushr v2 31) (fun v3 => 
        rd (wl2i v3) (fun v4 => 
        rd (wand v4 2147483647) (fun v5 => 
        br (v5 ≠ 2) (
          zt 0 (Q 0 u)) (
          zt 1 (Q 1 u))))))))) (
      zt 0 (Q 0 u))))
set_option maxRecDepth 20000 in
set_option maxHeartbeats 4000000 in
theorem f_7_isConstant_s (X : yX RX7 p m c cX7_isConstant 4 s args D ca ad A) (hRf : 0 ≤ R.frames) (hRl : 0 ≤ R.locals) {Q : Int → iST → Prop} (hret : ∀ (v : Int) (u : iST) (H : Heap) (locs : List Loc) (ls : Array Slot) (pc : Nat), bz v → Q v u → yW D ca A ad s H locs u → decode cX7_isConstant pc = .ok (.ireturn, 1) → W p l e R s m args below meth c H locs 0 0 Qf (F0 m pc ls [.int (jI v)])) {a0 : Int} (ra0 : inR a0) (hw : yW D ca A ad s H locs u) (hl : lv_has ls 4 [(0, .ref (ad 0 6)), (1, .int (jI a0))]) (h : v_7_isConstant a0 Q u) : W p l e R s m args below meth c H locs 0 0 Qf (F0 m 0 ls []) := by
  have hx := X.1.1
  have hb := X.1.2.1
  unfold v_7_isConstant at h
  refine lv_iload_n hx hb dX7_isConstant_0 rfl (lv_at hl 1 rfl) ?_
  refine k_if_lt hx hb ra0 dX7_isConstant_1 (tgt := 12) rfl h (fun h => ?_) (fun h => ?_)
  · refine lv_iconst hx hb dX7_isConstant_12 (v := jI 0) rfl ?_
    exact hret _ _ _ _ _ _ h.1 h.2 hw dX7_isConstant_13
  · refine lv_iload_n hx hb dX7_isConstant_4 rfl (lv_at hl 1 rfl) ?_
    refine lv_aload_n hx hb dX7_isConstant_5 rfl (lv_at hl 0 rfl) ?_
    refine yg_7_30 X hw dX7_isConstant_6 h (fun v1 rv1 h => ?_)
    refine k_icmp_lt hx hb ra0 rv1 dX7_isConstant_9 (tgt := 14) rfl h (fun h => ?_) (fun h => ?_)
    · refine lv_aload_n hx hb dX7_isConstant_14 rfl (lv_at hl 0 rfl) ?_
      refine yg_7_12 X hw dX7_isConstant_15 ?_
      refine lv_iload_n hx hb dX7_isConstant_18 rfl (lv_at hl 1 rfl) ?_
      refine yJl X hw ra0 dX7_isConstant_19 h (fun v2 rv2 h => ?_)
      refine lv_lstore_n hx hb dX7_isConstant_20 rfl hl (by decide) rfl (fun ls hl => ?_)
      have hl : lv_has ls 4 [(2, .long (jL v2)), (0, .ref (ad 0 6)), (1, .int (jI a0))] := hl
      refine lv_lload_n hx hb dX7_isConstant_21 rfl (lv_at hl 0 rfl) ?_
      refine lv_lconst hx hb dX7_isConstant_22 (v := jL 0) rfl ?_
      refine k_lcmp_ge hx hb rv2 (by decide) dX7_isConstant_23 dX7_isConstant_24 (tgt := 47) rfl h (fun h => ?_) (fun h => ?_)
      · refine lv_lload_n hx hb dX7_isConstant_47 rfl (lv_at hl 0 rfl) ?_
        refine yld2 69 yK_7_69 X dX7_isConstant_48 ?_
        refine k_lcmp_lt hx hb rv2 (by decide) dX7_isConstant_51 dX7_isConstant_52 (tgt := 60) rfl h (fun h => ?_) (fun h => ?_)
        · refine lv_iconst hx hb dX7_isConstant_60 (v := jI 1) rfl ?_
          refine lv_goto hx hb dX7_isConstant_61 (tgt := 65) rfl ?_
          exact hret _ _ _ _ _ _ h.1 h.2 hw dX7_isConstant_65
        · refine lv_iload_n hx hb dX7_isConstant_55 rfl (lv_at hl 2 rfl) ?_
          refine lv_iconst hx hb dX7_isConstant_56 (v := jI 1) rfl ?_
          refine k_icmp_gt hx hb ra0 (by decide) dX7_isConstant_57 (tgt := 64) rfl h (fun h => ?_) (fun h => ?_)
          · refine lv_iconst hx hb dX7_isConstant_64 (v := jI 0) rfl ?_
            exact hret _ _ _ _ _ _ h.1 h.2 hw dX7_isConstant_65
          · refine lv_iconst hx hb dX7_isConstant_60 (v := jI 1) rfl ?_
            refine lv_goto hx hb dX7_isConstant_61 (tgt := 65) rfl ?_
            exact hret _ _ _ _ _ _ h.1 h.2 hw dX7_isConstant_65
      · refine lv_lload_n hx hb dX7_isConstant_27 rfl (lv_at hl 0 rfl) ?_
        refine lv_bipush hx hb dX7_isConstant_28 (v := jI 31) rfl ?_
        refine k_wlushr hx hb dX7_isConstant_30 h (fun v3 rv3 h => ?_)
        refine k_l2i hx hb dX7_isConstant_31 h (fun v4 rv4 h => ?_)
        refine yld 77 yK_7_77 X dX7_isConstant_32 ?_
        refine k_iand hx hb dX7_isConstant_34 h (fun v5 rv5 h => ?_)
        refine lv_iconst hx hb dX7_isConstant_35 (v := jI 2) rfl ?_
        refine k_icmp_ne hx hb rv5 (by decide) dX7_isConstant_36 (tgt := 43) rfl h (fun h => ?_) (fun h => ?_)
        · refine lv_iconst hx hb dX7_isConstant_43 (v := jI 0) rfl ?_
          refine lv_goto hx hb dX7_isConstant_44 (tgt := 65) rfl ?_
          exact hret _ _ _ _ _ _ h.1 h.2 hw dX7_isConstant_65
        · refine lv_iconst hx hb dX7_isConstant_39 (v := jI 1) rfl ?_
          refine lv_goto hx hb dX7_isConstant_40 (tgt := 65) rfl ?_
          exact hret _ _ _ _ _ _ h.1 h.2 hw dX7_isConstant_65
    · refine lv_iconst hx hb dX7_isConstant_12 (v := jI 0) rfl ?_
      exact hret _ _ _ _ _ _ h.1 h.2 hw dX7_isConstant_13

end
theorem e_7_isConstant {l : Launch} {a0 : Int} (ra0 : inR a0) {Q : Int → iST → Prop} {u : iST} (h : v_7_isConstant a0 Q u) : yMI l yX7_isConstant (.code yX7_isConstant cX7_isConstant 4 (some .boolean) :: wsN) { frames := 0, cells := 0, slots := 0, locals := 0 } (fun ad => [.ref (ad 0 6), .int (jI a0)]) Q u := yMZ_of (own := RX7) rfl (by decide +kernel) (fun _ => Nat.le_of_ble_eq_true rfl) (fun X hRf hRl hret hw hl => f_7_isConstant_s X hRf hRl hret ra0 hw hl h)

/-! ProofHouse$Terms.isOfConstants -/
theorem dX10_isOfConstants_0 : decode cX10_isOfConstants 0 = .ok (.aload_n 0, 1) := by decide +kernel
theorem dX10_isOfConstants_1 : decode cX10_isOfConstants 1 = .ok (.getfield 55, 3) := by decide +kernel
theorem dX10_isOfConstants_4 : decode cX10_isOfConstants 4 = .ok (.iload_n 1, 1) := by decide +kernel
theorem dX10_isOfConstants_5 : decode cX10_isOfConstants 5 = .ok (.invokevirtual 77, 3) := by decide +kernel
theorem dX10_isOfConstants_8 : decode cX10_isOfConstants 8 = .ok (.istore_n 2, 1) := by decide +kernel
theorem dX10_isOfConstants_9 : decode cX10_isOfConstants 9 = .ok (.aload_n 0, 1) := by decide +kernel
theorem dX10_isOfConstants_10 : decode cX10_isOfConstants 10 = .ok (.getfield 55, 3) := by decide +kernel
theorem dX10_isOfConstants_13 : decode cX10_isOfConstants 13 = .ok (.iload_n 2, 1) := by decide +kernel
theorem dX10_isOfConstants_14 : decode cX10_isOfConstants 14 = .ok (.invokevirtual 80, 3) := by decide +kernel
theorem dX10_isOfConstants_17 : decode cX10_isOfConstants 17 = .ok (.ifCond .eq 35, 3) := by decide +kernel
theorem dX10_isOfConstants_20 : decode cX10_isOfConstants 20 = .ok (.aload_n 0, 1) := by decide +kernel
theorem dX10_isOfConstants_21 : decode cX10_isOfConstants 21 = .ok (.getfield 55, 3) := by decide +kernel
theorem dX10_isOfConstants_24 : decode cX10_isOfConstants 24 = .ok (.aload_n 0, 1) := by decide +kernel
theorem dX10_isOfConstants_25 : decode cX10_isOfConstants 25 = .ok (.getfield 55, 3) := by decide +kernel
theorem dX10_isOfConstants_28 : decode cX10_isOfConstants 28 = .ok (.iload_n 2, 1) := by decide +kernel
theorem dX10_isOfConstants_29 : decode cX10_isOfConstants 29 = .ok (.invokevirtual 72, 3) := by decide +kernel
theorem dX10_isOfConstants_32 : decode cX10_isOfConstants 32 = .ok (.invokevirtual 142, 3) := by decide +kernel
theorem dX10_isOfConstants_35 : decode cX10_isOfConstants 35 = .ok (.ifCond .ne 5, 3) := by decide +kernel
theorem dX10_isOfConstants_38 : decode cX10_isOfConstants 38 = .ok (.iconst 0, 1) := by decide +kernel
theorem dX10_isOfConstants_39 : decode cX10_isOfConstants 39 = .ok (.ireturn, 1) := by decide +kernel
theorem dX10_isOfConstants_40 : decode cX10_isOfConstants 40 = .ok (.aload_n 0, 1) := by decide +kernel
theorem dX10_isOfConstants_41 : decode cX10_isOfConstants 41 = .ok (.getfield 55, 3) := by decide +kernel
theorem dX10_isOfConstants_44 : decode cX10_isOfConstants 44 = .ok (.iload_n 2, 1) := by decide +kernel
theorem dX10_isOfConstants_45 : decode cX10_isOfConstants 45 = .ok (.invokevirtual 77, 3) := by decide +kernel
theorem dX10_isOfConstants_48 : decode cX10_isOfConstants 48 = .ok (.istore_n 2, 1) := by decide +kernel
theorem dX10_isOfConstants_49 : decode cX10_isOfConstants 49 = .ok (.goto (-40), 3) := by decide +kernel
theorem dX10_isOfConstants_52 : decode cX10_isOfConstants 52 = .ok (.iconst 1, 1) := by decide +kernel
theorem dX10_isOfConstants_53 : decode cX10_isOfConstants 53 = .ok (.ireturn, 1) := by decide +kernel

section
variable {p : Program} {l : Launch} {e : Env} {R : Room} {s : State} {m : MethodId} {args : Array Value} {below : List Frame} {meth : Method} {c : Code} {H : Heap} {locs : List Loc} {Qf : State → Prop}
variable {ls : Array Slot} {D : va_G} {ca : Nat → ClassId} {A : Nat → Prop} {ad : Nat → Nat → Nat} {u : iST}
def v_10_isOfConstants_9b (R9 : Int → iST → Prop) (Q : Int → iST → Prop) (x2 : Int) (u : iST) : Prop :=
  v_7_isPair x2 (fun v2 u => 
  br (v2 = 0) (
    zt 1 (Q 1 u)) (
    v_7_left x2 (fun v3 u => 
    v_7_isConstant v3 (fun v4 u => 
    br (v4 ≠ 0) (
      v_7_right x2 (fun v5 u => 
      R9 v5 u) u) (
      zt 0 (Q 0 u))) u) u)) u
def v_10_isOfConstants_9 (Q : Int → iST → Prop) (x2 : Int) (u : iST) : Prop := ∀ R9 : Int → iST → Prop, (∀ (x2 : Int) (u : iST), v_10_isOfConstants_9b R9 Q x2 u → R9 x2 u) → R9 x2 u
set_option maxRecDepth 20000 in
set_option maxHeartbeats 4000000 in
theorem f_10_isOfConstants_9 (X : yX RX10 p m c cX10_isOfConstants 3 s args D ca ad A) (hRf : 1 ≤ R.frames) (hRl : 23 ≤ R.locals) {Q : Int → iST → Prop} (hret : ∀ (v : Int) (u : iST) (H : Heap) (locs : List Loc) (ls : Array Slot) (pc : Nat), bz v → Q v u → yW D ca A ad s H locs u → decode cX10_isOfConstants pc = .ok (.ireturn, 1) → W p l e R s m args below meth c H locs 0 0 Qf (F0 m pc ls [.int (jI v)])) {x2 : Int} (rx2 : inR x2) (hw : yW D ca A ad s H locs u) (hl : lv_has ls 3 [(0, .ref (ad 0 8)), (2, .int (jI x2))]) (h : v_10_isOfConstants_9 Q x2 u) : W p l e R s m args below meth c H locs 0 0 Qf (F0 m 9 ls []) := by
  refine h (fun x2 u => ∀ (H : Heap) (locs : List Loc) (ls : Array Slot), inR x2 → yW D ca A ad s H locs u → lv_has ls 3 [(0, .ref (ad 0 8)), (2, .int (jI x2))] → W p l e R s m args below meth c H locs 0 0 Qf (F0 m 9 ls [])) ?_ H locs ls rx2 hw hl
  clear h hl hw rx2
  intro x2 u h H locs ls rx2 hw hl
  have hR9 : ∀ (x2 : Int) (u : iST) (H : Heap) (locs : List Loc) (ls : Array Slot), inR x2 → yW D ca A ad s H locs u → lv_has ls 3 [(0, .ref (ad 0 8)), (2, .int (jI x2))] → (fun (x2 : Int) u => ∀ (H : Heap) (locs : List Loc) (ls : Array Slot), inR x2 → yW D ca A ad s H locs u → lv_has ls 3 [(0, .ref (ad 0 8)), (2, .int (jI x2))] → W p l e R s m args below meth c H locs 0 0 Qf (F0 m 9 ls [])) x2 u → W p l e R s m args below meth c H locs 0 0 Qf (F0 m 9 ls []) := fun x2 u H locs ls rx2 hw hl h => h H locs ls rx2 hw hl
  have hx := X.1.1
  have hb := X.1.2.1
  unfold v_10_isOfConstants_9b at h
  refine lv_aload_n hx hb dX10_isOfConstants_9 rfl (lv_at hl 0 rfl) ?_
  refine yg_10_55 X hw dX10_isOfConstants_10 ?_
  refine lv_iload_n hx hb dX10_isOfConstants_13 rfl (lv_at hl 1 rfl) ?_
  refine ycI (n := 1) (e_7_isPair rx2 h) 7 6 (r := (RX7, TX7, 9)) rfl yG_10_80 yD_7_isPair X hw rfl yGo_7 (Nat.le_trans (Nat.le_of_ble_eq_true rfl) hRf) (Nat.le_trans (Nat.le_of_ble_eq_true rfl) hRl) rfl hl.1 (Nat.le_of_ble_eq_true rfl) rfl dX10_isOfConstants_14 (fun v2 u H locs rv2 h hw => ?_)
  refine k_if_eq hx hb rv2 dX10_isOfConstants_17 (tgt := 52) rfl h (fun h => ?_) (fun h => ?_)
  · refine lv_iconst hx hb dX10_isOfConstants_52 (v := jI 1) rfl ?_
    exact hret _ _ _ _ _ _ h.1 h.2 hw dX10_isOfConstants_53
  · refine lv_aload_n hx hb dX10_isOfConstants_20 rfl (lv_at hl 0 rfl) ?_
    refine yg_10_55 X hw dX10_isOfConstants_21 ?_
    refine lv_aload_n hx hb dX10_isOfConstants_24 rfl (lv_at hl 0 rfl) ?_
    refine yg_10_55 X hw dX10_isOfConstants_25 ?_
    refine lv_iload_n hx hb dX10_isOfConstants_28 rfl (lv_at hl 1 rfl) ?_
    refine ycI (n := 1) (e_7_left rx2 h) 7 6 (r := (RX7, TX7, 9)) rfl yG_10_72 yD_7_left X hw rfl yGo_7 (Nat.le_trans (Nat.le_of_ble_eq_true rfl) hRf) (Nat.le_trans (Nat.le_of_ble_eq_true rfl) hRl) rfl hl.1 (Nat.le_of_ble_eq_true rfl) rfl dX10_isOfConstants_29 (fun v3 u H locs rv3 h hw => ?_)
    refine ycI (n := 1) (e_7_isConstant rv3 h) 7 6 (r := (RX7, TX7, 9)) rfl yG_10_142 yD_7_isConstant X hw rfl yGo_7 (Nat.le_trans (Nat.le_of_ble_eq_true rfl) hRf) (Nat.le_trans (Nat.le_of_ble_eq_true rfl) hRl) rfl hl.1 (Nat.le_of_ble_eq_true rfl) rfl dX10_isOfConstants_32 (fun v4 u H locs rv4 h hw => ?_)
    refine k_if_ne hx hb rv4 dX10_isOfConstants_35 (tgt := 40) rfl h (fun h => ?_) (fun h => ?_)
    · refine lv_aload_n hx hb dX10_isOfConstants_40 rfl (lv_at hl 0 rfl) ?_
      refine yg_10_55 X hw dX10_isOfConstants_41 ?_
      refine lv_iload_n hx hb dX10_isOfConstants_44 rfl (lv_at hl 1 rfl) ?_
      refine ycI (n := 1) (e_7_right rx2 h) 7 6 (r := (RX7, TX7, 9)) rfl yG_10_77 yD_7_right X hw rfl yGo_7 (Nat.le_trans (Nat.le_of_ble_eq_true rfl) hRf) (Nat.le_trans (Nat.le_of_ble_eq_true rfl) hRl) rfl hl.1 (Nat.le_of_ble_eq_true rfl) rfl dX10_isOfConstants_45 (fun v5 u H locs rv5 h hw => ?_)
      refine lv_istore_n hx hb dX10_isOfConstants_48 rfl hl (by decide) rfl (fun ls hl => ?_)
      have hl : lv_has ls 3 [(2, .int (jI v5)), (0, .ref (ad 0 8))] := hl
      refine lv_goto hx hb dX10_isOfConstants_49 (tgt := 9) rfl ?_
      exact hR9 _ _ H locs ls rv5 hw (lv_sub hl [1, 0] rfl) h
    · refine lv_iconst hx hb dX10_isOfConstants_38 (v := jI 0) rfl ?_
      exact hret _ _ _ _ _ _ h.1 h.2 hw dX10_isOfConstants_39

def v_10_isOfConstants (a0 : Int) (Q : Int → iST → Prop) (u : iST) : Prop :=
  v_7_right a0 (fun v1 u => 
  v_10_isOfConstants_9 Q v1 u) u
set_option maxRecDepth 20000 in
set_option maxHeartbeats 4000000 in
theorem f_10_isOfConstants_s (X : yX RX10 p m c cX10_isOfConstants 3 s args D ca ad A) (hRf : 1 ≤ R.frames) (hRl : 23 ≤ R.locals) {Q : Int → iST → Prop} (hret : ∀ (v : Int) (u : iST) (H : Heap) (locs : List Loc) (ls : Array Slot) (pc : Nat), bz v → Q v u → yW D ca A ad s H locs u → decode cX10_isOfConstants pc = .ok (.ireturn, 1) → W p l e R s m args below meth c H locs 0 0 Qf (F0 m pc ls [.int (jI v)])) {a0 : Int} (ra0 : inR a0) (hw : yW D ca A ad s H locs u) (hl : lv_has ls 3 [(0, .ref (ad 0 8)), (1, .int (jI a0))]) (h : v_10_isOfConstants a0 Q u) : W p l e R s m args below meth c H locs 0 0 Qf (F0 m 0 ls []) := by
  have hx := X.1.1
  have hb := X.1.2.1
  unfold v_10_isOfConstants at h
  refine lv_aload_n hx hb dX10_isOfConstants_0 rfl (lv_at hl 0 rfl) ?_
  refine yg_10_55 X hw dX10_isOfConstants_1 ?_
  refine lv_iload_n hx hb dX10_isOfConstants_4 rfl (lv_at hl 1 rfl) ?_
  refine ycI (n := 1) (e_7_right ra0 h) 7 6 (r := (RX7, TX7, 9)) rfl yG_10_77 yD_7_right X hw rfl yGo_7 (Nat.le_trans (Nat.le_of_ble_eq_true rfl) hRf) (Nat.le_trans (Nat.le_of_ble_eq_true rfl) hRl) rfl hl.1 (Nat.le_of_ble_eq_true rfl) rfl dX10_isOfConstants_5 (fun v1 u H locs rv1 h hw => ?_)
  refine lv_istore_n hx hb dX10_isOfConstants_8 rfl hl (by decide) rfl (fun ls hl => ?_)
  have hl : lv_has ls 3 [(2, .int (jI v1)), (0, .ref (ad 0 8)), (1, .int (jI a0))] := hl
  exact f_10_isOfConstants_9 X hRf hRl hret rv1 hw (lv_sub hl [1, 0] rfl) h

end
theorem e_10_isOfConstants {l : Launch} {a0 : Int} (ra0 : inR a0) {Q : Int → iST → Prop} {u : iST} (h : v_10_isOfConstants a0 Q u) : yMI l yX10_isOfConstants (.code yX10_isOfConstants cX10_isOfConstants 3 (some .boolean) :: wsN) { frames := 1, cells := 0, slots := 0, locals := 23 } (fun ad => [.ref (ad 0 8), .int (jI a0)]) Q u := yMZ_of (own := RX10) rfl (by decide +kernel) (fun _ => Nat.le_of_ble_eq_true rfl) (fun X hRf hRl hret hw hl => f_10_isOfConstants_s X hRf hRl hret ra0 hw hl h)

/-! ProofHouse$Proofs.valueAt -/
theorem dX3_valueAt_0 : decode cX3_valueAt 0 = .ok (.aload_n 0, 1) := by decide +kernel
theorem dX3_valueAt_1 : decode cX3_valueAt 1 = .ok (.getfield 45, 3) := by decide +kernel
theorem dX3_valueAt_4 : decode cX3_valueAt 4 = .ok (.aload_n 0, 1) := by decide +kernel
theorem dX3_valueAt_5 : decode cX3_valueAt 5 = .ok (.getfield 37, 3) := by decide +kernel
theorem dX3_valueAt_8 : decode cX3_valueAt 8 = .ok (.iload_n 1, 1) := by decide +kernel
theorem dX3_valueAt_9 : decode cX3_valueAt 9 = .ok (.iconst 1, 1) := by decide +kernel
theorem dX3_valueAt_10 : decode cX3_valueAt 10 = .ok (.invokevirtual 67, 3) := by decide +kernel
theorem dX3_valueAt_13 : decode cX3_valueAt 13 = .ok (.iconst 0, 1) := by decide +kernel
theorem dX3_valueAt_14 : decode cX3_valueAt 14 = .ok (.invokevirtual 112, 3) := by decide +kernel
theorem dX3_valueAt_17 : decode cX3_valueAt 17 = .ok (.istore_n 2, 1) := by decide +kernel
theorem dX3_valueAt_18 : decode cX3_valueAt 18 = .ok (.aload_n 0, 1) := by decide +kernel
theorem dX3_valueAt_19 : decode cX3_valueAt 19 = .ok (.getfield 37, 3) := by decide +kernel
theorem dX3_valueAt_22 : decode cX3_valueAt 22 = .ok (.iload_n 2, 1) := by decide +kernel
theorem dX3_valueAt_23 : decode cX3_valueAt 23 = .ok (.invokevirtual 89, 3) := by decide +kernel
theorem dX3_valueAt_26 : decode cX3_valueAt 26 = .ok (.istore_n 3, 1) := by decide +kernel
theorem dX3_valueAt_27 : decode cX3_valueAt 27 = .ok (.aload_n 0, 1) := by decide +kernel
theorem dX3_valueAt_28 : decode cX3_valueAt 28 = .ok (.getfield 37, 3) := by decide +kernel
theorem dX3_valueAt_31 : decode cX3_valueAt 31 = .ok (.iload_n 2, 1) := by decide +kernel
theorem dX3_valueAt_32 : decode cX3_valueAt 32 = .ok (.invokevirtual 140, 3) := by decide +kernel
theorem dX3_valueAt_35 : decode cX3_valueAt 35 = .ok (.ifCond .eq 20, 3) := by decide +kernel
theorem dX3_valueAt_38 : decode cX3_valueAt 38 = .ok (.iload_n 3, 1) := by decide +kernel
theorem dX3_valueAt_39 : decode cX3_valueAt 39 = .ok (.bipush 16, 2) := by decide +kernel
theorem dX3_valueAt_41 : decode cX3_valueAt 41 = .ok (.if_icmp .gt 14, 3) := by decide +kernel
theorem dX3_valueAt_44 : decode cX3_valueAt 44 = .ok (.aload_n 0, 1) := by decide +kernel
theorem dX3_valueAt_45 : decode cX3_valueAt 45 = .ok (.getfield 45, 3) := by decide +kernel
theorem dX3_valueAt_48 : decode cX3_valueAt 48 = .ok (.iload_n 2, 1) := by decide +kernel
theorem dX3_valueAt_49 : decode cX3_valueAt 49 = .ok (.invokevirtual 143, 3) := by decide +kernel
theorem dX3_valueAt_52 : decode cX3_valueAt 52 = .ok (.ifCond .ne 5, 3) := by decide +kernel
theorem dX3_valueAt_55 : decode cX3_valueAt 55 = .ok (.iconst (-1), 1) := by decide +kernel
theorem dX3_valueAt_56 : decode cX3_valueAt 56 = .ok (.ireturn, 1) := by decide +kernel
theorem dX3_valueAt_57 : decode cX3_valueAt 57 = .ok (.aload_n 0, 1) := by decide +kernel
theorem dX3_valueAt_58 : decode cX3_valueAt 58 = .ok (.getfield 37, 3) := by decide +kernel
theorem dX3_valueAt_61 : decode cX3_valueAt 61 = .ok (.aload_n 0, 1) := by decide +kernel
theorem dX3_valueAt_62 : decode cX3_valueAt 62 = .ok (.getfield 37, 3) := by decide +kernel
theorem dX3_valueAt_65 : decode cX3_valueAt 65 = .ok (.iload_n 2, 1) := by decide +kernel
theorem dX3_valueAt_66 : decode cX3_valueAt 66 = .ok (.iconst 1, 1) := by decide +kernel
theorem dX3_valueAt_67 : decode cX3_valueAt 67 = .ok (.invokevirtual 67, 3) := by decide +kernel
theorem dX3_valueAt_70 : decode cX3_valueAt 70 = .ok (.invokevirtual 146, 3) := by decide +kernel
theorem dX3_valueAt_73 : decode cX3_valueAt 73 = .ok (.istore 4, 2) := by decide +kernel
theorem dX3_valueAt_75 : decode cX3_valueAt 75 = .ok (.aload_n 0, 1) := by decide +kernel
theorem dX3_valueAt_76 : decode cX3_valueAt 76 = .ok (.getfield 37, 3) := by decide +kernel
theorem dX3_valueAt_79 : decode cX3_valueAt 79 = .ok (.aload_n 0, 1) := by decide +kernel
theorem dX3_valueAt_80 : decode cX3_valueAt 80 = .ok (.getfield 37, 3) := by decide +kernel
theorem dX3_valueAt_83 : decode cX3_valueAt 83 = .ok (.iload_n 2, 1) := by decide +kernel
theorem dX3_valueAt_84 : decode cX3_valueAt 84 = .ok (.iconst 2, 1) := by decide +kernel
theorem dX3_valueAt_85 : decode cX3_valueAt 85 = .ok (.invokevirtual 67, 3) := by decide +kernel
theorem dX3_valueAt_88 : decode cX3_valueAt 88 = .ok (.invokevirtual 146, 3) := by decide +kernel
theorem dX3_valueAt_91 : decode cX3_valueAt 91 = .ok (.istore 5, 2) := by decide +kernel
theorem dX3_valueAt_93 : decode cX3_valueAt 93 = .ok (.aload_n 0, 1) := by decide +kernel
theorem dX3_valueAt_94 : decode cX3_valueAt 94 = .ok (.getfield 49, 3) := by decide +kernel
theorem dX3_valueAt_97 : decode cX3_valueAt 97 = .ok (.iload_n 3, 1) := by decide +kernel
theorem dX3_valueAt_98 : decode cX3_valueAt 98 = .ok (.iload 4, 2) := by decide +kernel
theorem dX3_valueAt_100 : decode cX3_valueAt 100 = .ok (.iload 5, 2) := by decide +kernel
theorem dX3_valueAt_102 : decode cX3_valueAt 102 = .ok (.aload_n 0, 1) := by decide +kernel
theorem dX3_valueAt_103 : decode cX3_valueAt 103 = .ok (.getfield 37, 3) := by decide +kernel
theorem dX3_valueAt_106 : decode cX3_valueAt 106 = .ok (.aload_n 0, 1) := by decide +kernel
theorem dX3_valueAt_107 : decode cX3_valueAt 107 = .ok (.getfield 37, 3) := by decide +kernel
theorem dX3_valueAt_110 : decode cX3_valueAt 110 = .ok (.iload_n 2, 1) := by decide +kernel
theorem dX3_valueAt_111 : decode cX3_valueAt 111 = .ok (.iconst 3, 1) := by decide +kernel
theorem dX3_valueAt_112 : decode cX3_valueAt 112 = .ok (.invokevirtual 67, 3) := by decide +kernel
theorem dX3_valueAt_115 : decode cX3_valueAt 115 = .ok (.invokevirtual 146, 3) := by decide +kernel
theorem dX3_valueAt_118 : decode cX3_valueAt 118 = .ok (.invokevirtual 149, 3) := by decide +kernel
theorem dX3_valueAt_121 : decode cX3_valueAt 121 = .ok (.ireturn, 1) := by decide +kernel

section
variable {p : Program} {l : Launch} {e : Env} {R : Room} {s : State} {m : MethodId} {args : Array Value} {below : List Frame} {meth : Method} {c : Code} {H : Heap} {locs : List Loc} {Qf : State → Prop}
variable {ls : Array Slot} {D : va_G} {ca : Nat → ClassId} {A : Nat → Prop} {ad : Nat → Nat → Nat} {u : iST}
def v_3_valueAt (a0 : Int) (Q : Int → iST → Prop) (u : iST) : Prop :=
  v_7_item a0 1 (fun v1 u => 
  v_10_rebuilt v1 0 (fun v2 u => 
  v_7_left v2 (fun v3 u => 
  v_7_isCall v2 (fun v4 u => 
  br (v4 = 0) (
    Q (-1) u) (
    br (16 < v3) (
      Q (-1) u) (
      v_10_isOfConstants v2 (fun v5 u => 
      br (v5 ≠ 0) (
        v_7_item v2 1 (fun v6 u => 
        v_7_valueOf v6 (fun v7 u => 
        v_7_item v2 2 (fun v8 u => 
        v_7_valueOf v8 (fun v9 u => 
        v_7_item v2 3 (fun v10 u => 
        v_7_valueOf v10 (fun v11 u => 
        v_2_baseValue v3 v7 v9 v11 (fun v12 u => 
        Q v12 u) u) u) u) u) u) u) u) (
        Q (-1) u)) u))) u) u) u) u
set_option maxRecDepth 20000 in
set_option maxHeartbeats 4000000 in
theorem f_3_valueAt_s (X : yX RX3 p m c cX3_valueAt 6 s args D ca ad A) (hRf : 3 ≤ R.frames) (hRl : 75 ≤ R.locals) {Q : Int → iST → Prop} (hret : ∀ (v : Int) (u : iST) (H : Heap) (locs : List Loc) (ls : Array Slot) (pc : Nat), inR v → Q v u → yW D ca A ad s H locs u → decode cX3_valueAt pc = .ok (.ireturn, 1) → W p l e R s m args below meth c H locs 0 0 Qf (F0 m pc ls [.int (jI v)])) {a0 : Int} (ra0 : inR a0) (hw : yW D ca A ad s H locs u) (hl : lv_has ls 6 [(0, .ref (ad 0 2)), (1, .int (jI a0))]) (h : v_3_valueAt a0 Q u) : W p l e R s m args below meth c H locs 0 0 Qf (F0 m 0 ls []) := by
  have hx := X.1.1
  have hb := X.1.2.1
  unfold v_3_valueAt at h
  refine lv_aload_n hx hb dX3_valueAt_0 rfl (lv_at hl 0 rfl) ?_
  refine yg_3_45 X hw dX3_valueAt_1 ?_
  refine lv_aload_n hx hb dX3_valueAt_4 rfl (lv_at hl 0 rfl) ?_
  refine yg_3_37 X hw dX3_valueAt_5 ?_
  refine lv_iload_n hx hb dX3_valueAt_8 rfl (lv_at hl 1 rfl) ?_
  refine lv_iconst hx hb dX3_valueAt_9 (v := jI 1) rfl ?_
  refine ycI (n := 2) (e_7_item ra0 (by decide) h) 7 6 (r := (RX7, TX7, 9)) rfl yG_3_67 yD_7_item X hw rfl yGo_7 (Nat.le_trans (Nat.le_of_ble_eq_true rfl) hRf) (Nat.le_trans (Nat.le_of_ble_eq_true rfl) hRl) rfl hl.1 (Nat.le_of_ble_eq_true rfl) rfl dX3_valueAt_10 (fun v1 u H locs rv1 h hw => ?_)
  refine lv_iconst hx hb dX3_valueAt_13 (v := jI 0) rfl ?_
  refine ycI (n := 2) (e_10_rebuilt rv1 (by decide) h) 10 8 (r := (RX10, TX10, 16)) rfl yG_3_112 yD_10_rebuilt X hw rfl yGo_10 (Nat.le_trans (Nat.le_of_ble_eq_true rfl) hRf) (Nat.le_trans (Nat.le_of_ble_eq_true rfl) hRl) rfl hl.1 (Nat.le_of_ble_eq_true rfl) rfl dX3_valueAt_14 (fun v2 u H locs rv2 h hw => ?_)
  refine lv_istore_n hx hb dX3_valueAt_17 rfl hl (by decide) rfl (fun ls hl => ?_)
  have hl : lv_has ls 6 [(2, .int (jI v2)), (0, .ref (ad 0 2)), (1, .int (jI a0))] := hl
  refine lv_aload_n hx hb dX3_valueAt_18 rfl (lv_at hl 1 rfl) ?_
  refine yg_3_37 X hw dX3_valueAt_19 ?_
  refine lv_iload_n hx hb dX3_valueAt_22 rfl (lv_at hl 0 rfl) ?_
  refine ycI (n := 1) (e_7_left rv2 h) 7 6 (r := (RX7, TX7, 9)) rfl yG_3_89 yD_7_left X hw rfl yGo_7 (Nat.le_trans (Nat.le_of_ble_eq_true rfl) hRf) (Nat.le_trans (Nat.le_of_ble_eq_true rfl) hRl) rfl hl.1 (Nat.le_of_ble_eq_true rfl) rfl dX3_valueAt_23 (fun v3 u H locs rv3 h hw => ?_)
  refine lv_istore_n hx hb dX3_valueAt_26 rfl hl (by decide) rfl (fun ls hl => ?_)
  have hl : lv_has ls 6 [(3, .int (jI v3)), (2, .int (jI v2)), (0, .ref (ad 0 2)), (1, .int (jI a0))] := hl
  refine lv_aload_n hx hb dX3_valueAt_27 rfl (lv_at hl 2 rfl) ?_
  refine yg_3_37 X hw dX3_valueAt_28 ?_
  refine lv_iload_n hx hb dX3_valueAt_31 rfl (lv_at hl 1 rfl) ?_
  refine ycI (n := 1) (e_7_isCall rv2 h) 7 6 (r := (RX7, TX7, 9)) rfl yG_3_140 yD_7_isCall X hw rfl yGo_7 (Nat.le_trans (Nat.le_of_ble_eq_true rfl) hRf) (Nat.le_trans (Nat.le_of_ble_eq_true rfl) hRl) rfl hl.1 (Nat.le_of_ble_eq_true rfl) rfl dX3_valueAt_32 (fun v4 u H locs rv4 h hw => ?_)
  refine k_if_eq hx hb rv4 dX3_valueAt_35 (tgt := 55) rfl h (fun h => ?_) (fun h => ?_)
  · refine lv_iconst hx hb dX3_valueAt_55 (v := jI (-1)) rfl ?_
    exact hret _ _ _ _ _ _ (by decide) h hw dX3_valueAt_56
  · refine lv_iload_n hx hb dX3_valueAt_38 rfl (lv_at hl 0 rfl) ?_
    refine lv_bipush hx hb dX3_valueAt_39 (v := jI 16) rfl ?_
    refine k_icmp_gt hx hb rv3 (by decide) dX3_valueAt_41 (tgt := 55) rfl h (fun h => ?_) (fun h => ?_)
    · refine lv_iconst hx hb dX3_valueAt_55 (v := jI (-1)) rfl ?_
      exact hret _ _ _ _ _ _ (by decide) h hw dX3_valueAt_56
    · refine lv_aload_n hx hb dX3_valueAt_44 rfl (lv_at hl 2 rfl) ?_
      refine yg_3_45 X hw dX3_valueAt_45 ?_
      refine lv_iload_n hx hb dX3_valueAt_48 rfl (lv_at hl 1 rfl) ?_
      refine ycI (n := 1) (e_10_isOfConstants rv2 h) 10 8 (r := (RX10, TX10, 16)) rfl yG_3_143 yD_10_isOfConstants X hw rfl yGo_10 (Nat.le_trans (Nat.le_of_ble_eq_true rfl) hRf) (Nat.le_trans (Nat.le_of_ble_eq_true rfl) hRl) rfl hl.1 (Nat.le_of_ble_eq_true rfl) rfl dX3_valueAt_49 (fun v5 u H locs rv5 h hw => ?_)
      refine k_if_ne hx hb rv5 dX3_valueAt_52 (tgt := 57) rfl h (fun h => ?_) (fun h => ?_)
      · refine lv_aload_n hx hb dX3_valueAt_57 rfl (lv_at hl 2 rfl) ?_
        refine yg_3_37 X hw dX3_valueAt_58 ?_
        refine lv_aload_n hx hb dX3_valueAt_61 rfl (lv_at hl 2 rfl) ?_
        refine yg_3_37 X hw dX3_valueAt_62 ?_
        refine lv_iload_n hx hb dX3_valueAt_65 rfl (lv_at hl 1 rfl) ?_
        refine lv_iconst hx hb dX3_valueAt_66 (v := jI 1) rfl ?_
        refine ycI (n := 2) (e_7_item rv2 (by decide) h) 7 6 (r := (RX7, TX7, 9)) rfl yG_3_67 yD_7_item X hw rfl yGo_7 (Nat.le_trans (Nat.le_of_ble_eq_true rfl) hRf) (Nat.le_trans (Nat.le_of_ble_eq_true rfl) hRl) rfl hl.1 (Nat.le_of_ble_eq_true rfl) rfl dX3_valueAt_67 (fun v6 u H locs rv6 h hw => ?_)
        refine ycI (n := 1) (e_7_valueOf rv6 h) 7 6 (r := (RX7, TX7, 9)) rfl yG_3_146 yD_7_valueOf X hw rfl yGo_7 (Nat.le_trans (Nat.le_of_ble_eq_true rfl) hRf) (Nat.le_trans (Nat.le_of_ble_eq_true rfl) hRl) rfl hl.1 (Nat.le_of_ble_eq_true rfl) rfl dX3_valueAt_70 (fun v7 u H locs rv7 h hw => ?_)
        refine lv_istore hx hb dX3_valueAt_73 hl (by decide) rfl (fun ls hl => ?_)
        have hl : lv_has ls 6 [(4, .int (jI v7)), (3, .int (jI v3)), (2, .int (jI v2)), (0, .ref (ad 0 2)), (1, .int (jI a0))] := hl
        refine lv_aload_n hx hb dX3_valueAt_75 rfl (lv_at hl 3 rfl) ?_
        refine yg_3_37 X hw dX3_valueAt_76 ?_
        refine lv_aload_n hx hb dX3_valueAt_79 rfl (lv_at hl 3 rfl) ?_
        refine yg_3_37 X hw dX3_valueAt_80 ?_
        refine lv_iload_n hx hb dX3_valueAt_83 rfl (lv_at hl 2 rfl) ?_
        refine lv_iconst hx hb dX3_valueAt_84 (v := jI 2) rfl ?_
        refine ycI (n := 2) (e_7_item rv2 (by decide) h) 7 6 (r := (RX7, TX7, 9)) rfl yG_3_67 yD_7_item X hw rfl yGo_7 (Nat.le_trans (Nat.le_of_ble_eq_true rfl) hRf) (Nat.le_trans (Nat.le_of_ble_eq_true rfl) hRl) rfl hl.1 (Nat.le_of_ble_eq_true rfl) rfl dX3_valueAt_85 (fun v8 u H locs rv8 h hw => ?_)
        refine ycI (n := 1) (e_7_valueOf rv8 h) 7 6 (r := (RX7, TX7, 9)) rfl yG_3_146 yD_7_valueOf X hw rfl yGo_7 (Nat.le_trans (Nat.le_of_ble_eq_true rfl) hRf) (Nat.le_trans (Nat.le_of_ble_eq_true rfl) hRl) rfl hl.1 (Nat.le_of_ble_eq_true rfl) rfl dX3_valueAt_88 (fun v9 u H locs rv9 h hw => ?_)
        refine lv_istore hx hb dX3_valueAt_91 hl (by decide) rfl (fun ls hl => ?_)
        have hl : lv_has ls 6 [(5, .int (jI v9)), (4, .int (jI v7)), (3, .int (jI v3)), (2, .int (jI v2)), (0, .ref (ad 0 2)), (1, .int (jI a0))] := hl
        refine lv_aload_n hx hb dX3_valueAt_93 rfl (lv_at hl 4 rfl) ?_
        refine yg_3_49 X hw dX3_valueAt_94 ?_
        refine lv_iload_n hx hb dX3_valueAt_97 rfl (lv_at hl 2 rfl) ?_
        refine lv_iload hx hb dX3_valueAt_98 (lv_at hl 1 rfl) ?_
        refine lv_iload hx hb dX3_valueAt_100 (lv_at hl 0 rfl) ?_
        refine lv_aload_n hx hb dX3_valueAt_102 rfl (lv_at hl 4 rfl) ?_
        refine yg_3_37 X hw dX3_valueAt_103 ?_
        refine lv_aload_n hx hb dX3_valueAt_106 rfl (lv_at hl 4 rfl) ?_
        refine yg_3_37 X hw dX3_valueAt_107 ?_
        refine lv_iload_n hx hb dX3_valueAt_110 rfl (lv_at hl 3 rfl) ?_
        refine lv_iconst hx hb dX3_valueAt_111 (v := jI 3) rfl ?_
        refine ycI (n := 2) (e_7_item rv2 (by decide) h) 7 6 (r := (RX7, TX7, 9)) rfl yG_3_67 yD_7_item X hw rfl yGo_7 (Nat.le_trans (Nat.le_of_ble_eq_true rfl) hRf) (Nat.le_trans (Nat.le_of_ble_eq_true rfl) hRl) rfl hl.1 (Nat.le_of_ble_eq_true rfl) rfl dX3_valueAt_112 (fun v10 u H locs rv10 h hw => ?_)
        refine ycI (n := 1) (e_7_valueOf rv10 h) 7 6 (r := (RX7, TX7, 9)) rfl yG_3_146 yD_7_valueOf X hw rfl yGo_7 (Nat.le_trans (Nat.le_of_ble_eq_true rfl) hRf) (Nat.le_trans (Nat.le_of_ble_eq_true rfl) hRl) rfl hl.1 (Nat.le_of_ble_eq_true rfl) rfl dX3_valueAt_115 (fun v11 u H locs rv11 h hw => ?_)
        refine ycI (n := 4) (e_2_baseValue rv3 rv7 rv9 rv11 h) 2 1 (r := (RX2, TX2, 15)) rfl yG_3_149 yD_2_baseValue X hw rfl yGo_2 (Nat.le_trans (Nat.le_of_ble_eq_true rfl) hRf) (Nat.le_trans (Nat.le_of_ble_eq_true rfl) hRl) rfl hl.1 (Nat.le_of_ble_eq_true rfl) rfl dX3_valueAt_118 (fun v12 u H locs rv12 h hw => ?_)
        exact hret _ _ _ _ _ _ rv12 h hw dX3_valueAt_121
      · refine lv_iconst hx hb dX3_valueAt_55 (v := jI (-1)) rfl ?_
        exact hret _ _ _ _ _ _ (by decide) h hw dX3_valueAt_56

end
theorem e_3_valueAt {l : Launch} {a0 : Int} (ra0 : inR a0) {Q : Int → iST → Prop} {u : iST} (h : v_3_valueAt a0 Q u) : yMI l yX3_valueAt (.code yX3_valueAt cX3_valueAt 6 (some .int) :: wsN) { frames := 3, cells := 0, slots := 0, locals := 75 } (fun ad => [.ref (ad 0 2), .int (jI a0)]) Q u := yMI_of (own := RX3) rfl (by decide +kernel) (fun _ => Nat.le_of_ble_eq_true rfl) (fun X hRf hRl hret hw hl => f_3_valueAt_s X hRf hRl hret ra0 hw hl h)

/-! ProofHouse$Proofs.isListOfTerms -/
theorem dX3_isListOfTerms_0 : decode cX3_isListOfTerms 0 = .ok (.aload_n 0, 1) := by decide +kernel
theorem dX3_isListOfTerms_1 : decode cX3_isListOfTerms 1 = .ok (.getfield 37, 3) := by decide +kernel
theorem dX3_isListOfTerms_4 : decode cX3_isListOfTerms 4 = .ok (.iload_n 1, 1) := by decide +kernel
theorem dX3_isListOfTerms_5 : decode cX3_isListOfTerms 5 = .ok (.invokevirtual 93, 3) := by decide +kernel
theorem dX3_isListOfTerms_8 : decode cX3_isListOfTerms 8 = .ok (.iconst (-1), 1) := by decide +kernel
theorem dX3_isListOfTerms_9 : decode cX3_isListOfTerms 9 = .ok (.if_icmp .eq 7, 3) := by decide +kernel
theorem dX3_isListOfTerms_12 : decode cX3_isListOfTerms 12 = .ok (.iconst 1, 1) := by decide +kernel
theorem dX3_isListOfTerms_13 : decode cX3_isListOfTerms 13 = .ok (.goto 4, 3) := by decide +kernel
theorem dX3_isListOfTerms_16 : decode cX3_isListOfTerms 16 = .ok (.iconst 0, 1) := by decide +kernel
theorem dX3_isListOfTerms_17 : decode cX3_isListOfTerms 17 = .ok (.istore_n 2, 1) := by decide +kernel
theorem dX3_isListOfTerms_18 : decode cX3_isListOfTerms 18 = .ok (.iload_n 1, 1) := by decide +kernel
theorem dX3_isListOfTerms_19 : decode cX3_isListOfTerms 19 = .ok (.istore_n 3, 1) := by decide +kernel
theorem dX3_isListOfTerms_20 : decode cX3_isListOfTerms 20 = .ok (.aload_n 0, 1) := by decide +kernel
theorem dX3_isListOfTerms_21 : decode cX3_isListOfTerms 21 = .ok (.getfield 37, 3) := by decide +kernel
theorem dX3_isListOfTerms_24 : decode cX3_isListOfTerms 24 = .ok (.iload_n 3, 1) := by decide +kernel
theorem dX3_isListOfTerms_25 : decode cX3_isListOfTerms 25 = .ok (.invokevirtual 155, 3) := by decide +kernel
theorem dX3_isListOfTerms_28 : decode cX3_isListOfTerms 28 = .ok (.ifCond .eq 45, 3) := by decide +kernel
theorem dX3_isListOfTerms_31 : decode cX3_isListOfTerms 31 = .ok (.iload_n 2, 1) := by decide +kernel
theorem dX3_isListOfTerms_32 : decode cX3_isListOfTerms 32 = .ok (.ifCond .eq 41, 3) := by decide +kernel
theorem dX3_isListOfTerms_35 : decode cX3_isListOfTerms 35 = .ok (.aload_n 0, 1) := by decide +kernel
theorem dX3_isListOfTerms_36 : decode cX3_isListOfTerms 36 = .ok (.getfield 45, 3) := by decide +kernel
theorem dX3_isListOfTerms_39 : decode cX3_isListOfTerms 39 = .ok (.aload_n 0, 1) := by decide +kernel
theorem dX3_isListOfTerms_40 : decode cX3_isListOfTerms 40 = .ok (.getfield 37, 3) := by decide +kernel
theorem dX3_isListOfTerms_43 : decode cX3_isListOfTerms 43 = .ok (.iload_n 3, 1) := by decide +kernel
theorem dX3_isListOfTerms_44 : decode cX3_isListOfTerms 44 = .ok (.invokevirtual 89, 3) := by decide +kernel
theorem dX3_isListOfTerms_47 : decode cX3_isListOfTerms 47 = .ok (.iconst 0, 1) := by decide +kernel
theorem dX3_isListOfTerms_48 : decode cX3_isListOfTerms 48 = .ok (.invokevirtual 112, 3) := by decide +kernel
theorem dX3_isListOfTerms_51 : decode cX3_isListOfTerms 51 = .ok (.iconst (-1), 1) := by decide +kernel
theorem dX3_isListOfTerms_52 : decode cX3_isListOfTerms 52 = .ok (.if_icmp .eq 7, 3) := by decide +kernel
theorem dX3_isListOfTerms_55 : decode cX3_isListOfTerms 55 = .ok (.iconst 1, 1) := by decide +kernel
theorem dX3_isListOfTerms_56 : decode cX3_isListOfTerms 56 = .ok (.goto 4, 3) := by decide +kernel
theorem dX3_isListOfTerms_59 : decode cX3_isListOfTerms 59 = .ok (.iconst 0, 1) := by decide +kernel
theorem dX3_isListOfTerms_60 : decode cX3_isListOfTerms 60 = .ok (.istore_n 2, 1) := by decide +kernel
theorem dX3_isListOfTerms_61 : decode cX3_isListOfTerms 61 = .ok (.aload_n 0, 1) := by decide +kernel
theorem dX3_isListOfTerms_62 : decode cX3_isListOfTerms 62 = .ok (.getfield 37, 3) := by decide +kernel
theorem dX3_isListOfTerms_65 : decode cX3_isListOfTerms 65 = .ok (.iload_n 3, 1) := by decide +kernel
theorem dX3_isListOfTerms_66 : decode cX3_isListOfTerms 66 = .ok (.invokevirtual 131, 3) := by decide +kernel
theorem dX3_isListOfTerms_69 : decode cX3_isListOfTerms 69 = .ok (.istore_n 3, 1) := by decide +kernel
theorem dX3_isListOfTerms_70 : decode cX3_isListOfTerms 70 = .ok (.goto (-50), 3) := by decide +kernel
theorem dX3_isListOfTerms_73 : decode cX3_isListOfTerms 73 = .ok (.iload_n 2, 1) := by decide +kernel
theorem dX3_isListOfTerms_74 : decode cX3_isListOfTerms 74 = .ok (.ireturn, 1) := by decide +kernel

section
variable {p : Program} {l : Launch} {e : Env} {R : Room} {s : State} {m : MethodId} {args : Array Value} {below : List Frame} {meth : Method} {c : Code} {H : Heap} {locs : List Loc} {Qf : State → Prop}
variable {ls : Array Slot} {D : va_G} {ca : Nat → ClassId} {A : Nat → Prop} {ad : Nat → Nat → Nat} {u : iST}
def v_3_isListOfTerms_60 (R20 : Int → Int → iST → Prop) (Q : Int → iST → Prop) (x3 : Int) (y0 : Int) (u : iST) : Prop :=
  v_7_right x3 (fun v5 u => 
  R20 y0 v5 u) u
set_option maxRecDepth 20000 in
set_option maxHeartbeats 4000000 in
theorem f_3_isListOfTerms_60 (X : yX RX3 p m c cX3_isListOfTerms 4 s args D ca ad A) (hRf : 3 ≤ R.frames) (hRl : 75 ≤ R.locals) {Q : Int → iST → Prop} (hret : ∀ (v : Int) (u : iST) (H : Heap) (locs : List Loc) (ls : Array Slot) (pc : Nat), bz v → Q v u → yW D ca A ad s H locs u → decode cX3_isListOfTerms pc = .ok (.ireturn, 1) → W p l e R s m args below meth c H locs 0 0 Qf (F0 m pc ls [.int (jI v)])) {R20 : Int → Int → iST → Prop} (hR20 : ∀ (x2 : Int) (x3 : Int) (u : iST) (H : Heap) (locs : List Loc) (ls : Array Slot), inR x2 → inR x3 → yW D ca A ad s H locs u → lv_has ls 4 [(0, .ref (ad 0 2)), (2, .int (jI x2)), (3, .int (jI x3))] → R20 x2 x3 u → W p l e R s m args below meth c H locs 0 0 Qf (F0 m 20 ls [])) {x3 y0 : Int} (rx3 : inR x3) (ry0 : inR y0) (hw : yW D ca A ad s H locs u) (hl : lv_has ls 4 [(0, .ref (ad 0 2)), (3, .int (jI x3))]) (h : v_3_isListOfTerms_60 R20 Q x3 y0 u) : W p l e R s m args below meth c H locs 0 0 Qf (F0 m 60 ls [.int (jI y0)]) := by
  have hx := X.1.1
  have hb := X.1.2.1
  unfold v_3_isListOfTerms_60 at h
  refine lv_istore_n hx hb dX3_isListOfTerms_60 rfl hl (by decide) rfl (fun ls hl => ?_)
  have hl : lv_has ls 4 [(2, .int (jI y0)), (0, .ref (ad 0 2)), (3, .int (jI x3))] := hl
  refine lv_aload_n hx hb dX3_isListOfTerms_61 rfl (lv_at hl 1 rfl) ?_
  refine yg_3_37 X hw dX3_isListOfTerms_62 ?_
  refine lv_iload_n hx hb dX3_isListOfTerms_65 rfl (lv_at hl 2 rfl) ?_
  refine ycI (n := 1) (e_7_right rx3 h) 7 6 (r := (RX7, TX7, 9)) rfl yG_3_131 yD_7_right X hw rfl yGo_7 (Nat.le_trans (Nat.le_of_ble_eq_true rfl) hRf) (Nat.le_trans (Nat.le_of_ble_eq_true rfl) hRl) rfl hl.1 (Nat.le_of_ble_eq_true rfl) rfl dX3_isListOfTerms_66 (fun v5 u H locs rv5 h hw => ?_)
  refine lv_istore_n hx hb dX3_isListOfTerms_69 rfl hl (by decide) rfl (fun ls hl => ?_)
  have hl : lv_has ls 4 [(3, .int (jI v5)), (2, .int (jI y0)), (0, .ref (ad 0 2))] := hl
  refine lv_goto hx hb dX3_isListOfTerms_70 (tgt := 20) rfl ?_
  exact hR20 _ _ _ H locs ls ry0 rv5 hw (lv_sub hl [2, 1, 0] rfl) h

def v_3_isListOfTerms_20b (R20 : Int → Int → iST → Prop) (Q : Int → iST → Prop) (x2 : Int) (x3 : Int) (u : iST) : Prop :=
  v_7_isPair x3 (fun v2 u => 
  br (v2 = 0) (
    zt x2 (Q x2 u)) (
    br (x2 = 0) (
      zt x2 (Q x2 u)) (
      v_7_left x3 (fun v3 u => 
      v_10_rebuilt v3 0 (fun v4 u => 
      br (v4 = (-1)) (
        v_3_isListOfTerms_60 R20 Q x3 0 u) (
        v_3_isListOfTerms_60 R20 Q x3 1 u)) u) u))) u
def v_3_isListOfTerms_20 (Q : Int → iST → Prop) (x2 : Int) (x3 : Int) (u : iST) : Prop := ∀ R20 : Int → Int → iST → Prop, (∀ (x2 : Int) (x3 : Int) (u : iST), v_3_isListOfTerms_20b R20 Q x2 x3 u → R20 x2 x3 u) → R20 x2 x3 u
set_option maxRecDepth 20000 in
set_option maxHeartbeats 4000000 in
theorem f_3_isListOfTerms_20 (X : yX RX3 p m c cX3_isListOfTerms 4 s args D ca ad A) (hRf : 3 ≤ R.frames) (hRl : 75 ≤ R.locals) {Q : Int → iST → Prop} (hret : ∀ (v : Int) (u : iST) (H : Heap) (locs : List Loc) (ls : Array Slot) (pc : Nat), bz v → Q v u → yW D ca A ad s H locs u → decode cX3_isListOfTerms pc = .ok (.ireturn, 1) → W p l e R s m args below meth c H locs 0 0 Qf (F0 m pc ls [.int (jI v)])) {x2 x3 : Int} (rx2 : inR x2) (rx3 : inR x3) (hw : yW D ca A ad s H locs u) (hl : lv_has ls 4 [(0, .ref (ad 0 2)), (2, .int (jI x2)), (3, .int (jI x3))]) (h : v_3_isListOfTerms_20 Q x2 x3 u) : W p l e R s m args below meth c H locs 0 0 Qf (F0 m 20 ls []) := by
  refine h (fun x2 x3 u => ∀ (H : Heap) (locs : List Loc) (ls : Array Slot), inR x2 → inR x3 → yW D ca A ad s H locs u → lv_has ls 4 [(0, .ref (ad 0 2)), (2, .int (jI x2)), (3, .int (jI x3))] → W p l e R s m args below meth c H locs 0 0 Qf (F0 m 20 ls [])) ?_ H locs ls rx2 rx3 hw hl
  clear h hl hw rx2 rx3
  intro x2 x3 u h H locs ls rx2 rx3 hw hl
  have hR20 : ∀ (x2 : Int) (x3 : Int) (u : iST) (H : Heap) (locs : List Loc) (ls : Array Slot), inR x2 → inR x3 → yW D ca A ad s H locs u → lv_has ls 4 [(0, .ref (ad 0 2)), (2, .int (jI x2)), (3, .int (jI x3))] → (fun (x2 : Int) (x3 : Int) u => ∀ (H : Heap) (locs : List Loc) (ls : Array Slot), inR x2 → inR x3 → yW D ca A ad s H locs u → lv_has ls 4 [(0, .ref (ad 0 2)), (2, .int (jI x2)), (3, .int (jI x3))] → W p l e R s m args below meth c H locs 0 0 Qf (F0 m 20 ls [])) x2 x3 u → W p l e R s m args below meth c H locs 0 0 Qf (F0 m 20 ls []) := fun x2 x3 u H locs ls rx2 rx3 hw hl h => h H locs ls rx2 rx3 hw hl
  have hx := X.1.1
  have hb := X.1.2.1
  unfold v_3_isListOfTerms_20b at h
  refine lv_aload_n hx hb dX3_isListOfTerms_20 rfl (lv_at hl 0 rfl) ?_
  refine yg_3_37 X hw dX3_isListOfTerms_21 ?_
  refine lv_iload_n hx hb dX3_isListOfTerms_24 rfl (lv_at hl 2 rfl) ?_
  refine ycI (n := 1) (e_7_isPair rx3 h) 7 6 (r := (RX7, TX7, 9)) rfl yG_3_155 yD_7_isPair X hw rfl yGo_7 (Nat.le_trans (Nat.le_of_ble_eq_true rfl) hRf) (Nat.le_trans (Nat.le_of_ble_eq_true rfl) hRl) rfl hl.1 (Nat.le_of_ble_eq_true rfl) rfl dX3_isListOfTerms_25 (fun v2 u H locs rv2 h hw => ?_)
  refine k_if_eq hx hb rv2 dX3_isListOfTerms_28 (tgt := 73) rfl h (fun h => ?_) (fun h => ?_)
  · refine lv_iload_n hx hb dX3_isListOfTerms_73 rfl (lv_at hl 1 rfl) ?_
    exact hret _ _ _ _ _ _ h.1 h.2 hw dX3_isListOfTerms_74
  · refine lv_iload_n hx hb dX3_isListOfTerms_31 rfl (lv_at hl 1 rfl) ?_
    refine k_if_eq hx hb rx2 dX3_isListOfTerms_32 (tgt := 73) rfl h (fun h => ?_) (fun h => ?_)
    · refine lv_iload_n hx hb dX3_isListOfTerms_73 rfl (lv_at hl 1 rfl) ?_
      exact hret _ _ _ _ _ _ h.1 h.2 hw dX3_isListOfTerms_74
    · refine lv_aload_n hx hb dX3_isListOfTerms_35 rfl (lv_at hl 0 rfl) ?_
      refine yg_3_45 X hw dX3_isListOfTerms_36 ?_
      refine lv_aload_n hx hb dX3_isListOfTerms_39 rfl (lv_at hl 0 rfl) ?_
      refine yg_3_37 X hw dX3_isListOfTerms_40 ?_
      refine lv_iload_n hx hb dX3_isListOfTerms_43 rfl (lv_at hl 2 rfl) ?_
      refine ycI (n := 1) (e_7_left rx3 h) 7 6 (r := (RX7, TX7, 9)) rfl yG_3_89 yD_7_left X hw rfl yGo_7 (Nat.le_trans (Nat.le_of_ble_eq_true rfl) hRf) (Nat.le_trans (Nat.le_of_ble_eq_true rfl) hRl) rfl hl.1 (Nat.le_of_ble_eq_true rfl) rfl dX3_isListOfTerms_44 (fun v3 u H locs rv3 h hw => ?_)
      refine lv_iconst hx hb dX3_isListOfTerms_47 (v := jI 0) rfl ?_
      refine ycI (n := 2) (e_10_rebuilt rv3 (by decide) h) 10 8 (r := (RX10, TX10, 16)) rfl yG_3_112 yD_10_rebuilt X hw rfl yGo_10 (Nat.le_trans (Nat.le_of_ble_eq_true rfl) hRf) (Nat.le_trans (Nat.le_of_ble_eq_true rfl) hRl) rfl hl.1 (Nat.le_of_ble_eq_true rfl) rfl dX3_isListOfTerms_48 (fun v4 u H locs rv4 h hw => ?_)
      refine lv_iconst hx hb dX3_isListOfTerms_51 (v := jI (-1)) rfl ?_
      refine k_icmp_eq hx hb rv4 (by decide) dX3_isListOfTerms_52 (tgt := 59) rfl h (fun h => ?_) (fun h => ?_)
      · refine lv_iconst hx hb dX3_isListOfTerms_59 (v := jI 0) rfl ?_
        exact f_3_isListOfTerms_60 X hRf hRl hret hR20 rx3 (by decide) hw (lv_sub hl [0, 2] rfl) h
      · refine lv_iconst hx hb dX3_isListOfTerms_55 (v := jI 1) rfl ?_
        refine lv_goto hx hb dX3_isListOfTerms_56 (tgt := 60) rfl ?_
        exact f_3_isListOfTerms_60 X hRf hRl hret hR20 rx3 (by decide) hw (lv_sub hl [0, 2] rfl) h

def v_3_isListOfTerms_17 (Q : Int → iST → Prop) (x1 : Int) (y0 : Int) (u : iST) : Prop :=
  v_3_isListOfTerms_20 Q y0 x1 u
set_option maxRecDepth 20000 in
set_option maxHeartbeats 4000000 in
theorem f_3_isListOfTerms_17 (X : yX RX3 p m c cX3_isListOfTerms 4 s args D ca ad A) (hRf : 3 ≤ R.frames) (hRl : 75 ≤ R.locals) {Q : Int → iST → Prop} (hret : ∀ (v : Int) (u : iST) (H : Heap) (locs : List Loc) (ls : Array Slot) (pc : Nat), bz v → Q v u → yW D ca A ad s H locs u → decode cX3_isListOfTerms pc = .ok (.ireturn, 1) → W p l e R s m args below meth c H locs 0 0 Qf (F0 m pc ls [.int (jI v)])) {x1 y0 : Int} (rx1 : inR x1) (ry0 : inR y0) (hw : yW D ca A ad s H locs u) (hl : lv_has ls 4 [(0, .ref (ad 0 2)), (1, .int (jI x1))]) (h : v_3_isListOfTerms_17 Q x1 y0 u) : W p l e R s m args below meth c H locs 0 0 Qf (F0 m 17 ls [.int (jI y0)]) := by
  have hx := X.1.1
  have hb := X.1.2.1
  unfold v_3_isListOfTerms_17 at h
  refine lv_istore_n hx hb dX3_isListOfTerms_17 rfl hl (by decide) rfl (fun ls hl => ?_)
  have hl : lv_has ls 4 [(2, .int (jI y0)), (0, .ref (ad 0 2)), (1, .int (jI x1))] := hl
  refine lv_iload_n hx hb dX3_isListOfTerms_18 rfl (lv_at hl 2 rfl) ?_
  refine lv_istore_n hx hb dX3_isListOfTerms_19 rfl hl (by decide) rfl (fun ls hl => ?_)
  have hl : lv_has ls 4 [(3, .int (jI x1)), (2, .int (jI y0)), (0, .ref (ad 0 2)), (1, .int (jI x1))] := hl
  exact f_3_isListOfTerms_20 X hRf hRl hret ry0 rx1 hw (lv_sub hl [2, 1, 0] rfl) h

def v_3_isListOfTerms (a0 : Int) (Q : Int → iST → Prop) (u : iST) : Prop :=
  v_7_lengthOf a0 (fun v1 u => 
  br (v1 = (-1)) (
    v_3_isListOfTerms_17 Q a0 0 u) (
    v_3_isListOfTerms_17 Q a0 1 u)) u
set_option maxRecDepth 20000 in
set_option maxHeartbeats 4000000 in
theorem f_3_isListOfTerms_s (X : yX RX3 p m c cX3_isListOfTerms 4 s args D ca ad A) (hRf : 3 ≤ R.frames) (hRl : 75 ≤ R.locals) {Q : Int → iST → Prop} (hret : ∀ (v : Int) (u : iST) (H : Heap) (locs : List Loc) (ls : Array Slot) (pc : Nat), bz v → Q v u → yW D ca A ad s H locs u → decode cX3_isListOfTerms pc = .ok (.ireturn, 1) → W p l e R s m args below meth c H locs 0 0 Qf (F0 m pc ls [.int (jI v)])) {a0 : Int} (ra0 : inR a0) (hw : yW D ca A ad s H locs u) (hl : lv_has ls 4 [(0, .ref (ad 0 2)), (1, .int (jI a0))]) (h : v_3_isListOfTerms a0 Q u) : W p l e R s m args below meth c H locs 0 0 Qf (F0 m 0 ls []) := by
  have hx := X.1.1
  have hb := X.1.2.1
  unfold v_3_isListOfTerms at h
  refine lv_aload_n hx hb dX3_isListOfTerms_0 rfl (lv_at hl 0 rfl) ?_
  refine yg_3_37 X hw dX3_isListOfTerms_1 ?_
  refine lv_iload_n hx hb dX3_isListOfTerms_4 rfl (lv_at hl 1 rfl) ?_
  refine ycI (n := 1) (e_7_lengthOf ra0 h) 7 6 (r := (RX7, TX7, 9)) rfl yG_3_93 yD_7_lengthOf X hw rfl yGo_7 (Nat.le_trans (Nat.le_of_ble_eq_true rfl) hRf) (Nat.le_trans (Nat.le_of_ble_eq_true rfl) hRl) rfl hl.1 (Nat.le_of_ble_eq_true rfl) rfl dX3_isListOfTerms_5 (fun v1 u H locs rv1 h hw => ?_)
  refine lv_iconst hx hb dX3_isListOfTerms_8 (v := jI (-1)) rfl ?_
  refine k_icmp_eq hx hb rv1 (by decide) dX3_isListOfTerms_9 (tgt := 16) rfl h (fun h => ?_) (fun h => ?_)
  · refine lv_iconst hx hb dX3_isListOfTerms_16 (v := jI 0) rfl ?_
    exact f_3_isListOfTerms_17 X hRf hRl hret ra0 (by decide) hw hl h
  · refine lv_iconst hx hb dX3_isListOfTerms_12 (v := jI 1) rfl ?_
    refine lv_goto hx hb dX3_isListOfTerms_13 (tgt := 17) rfl ?_
    exact f_3_isListOfTerms_17 X hRf hRl hret ra0 (by decide) hw hl h

end
theorem e_3_isListOfTerms {l : Launch} {a0 : Int} (ra0 : inR a0) {Q : Int → iST → Prop} {u : iST} (h : v_3_isListOfTerms a0 Q u) : yMI l yX3_isListOfTerms (.code yX3_isListOfTerms cX3_isListOfTerms 4 (some .boolean) :: wsN) { frames := 3, cells := 0, slots := 0, locals := 75 } (fun ad => [.ref (ad 0 2), .int (jI a0)]) Q u := yMZ_of (own := RX3) rfl (by decide +kernel) (fun _ => Nat.le_of_ble_eq_true rfl) (fun X hRf hRl hret hw hl => f_3_isListOfTerms_s X hRf hRl hret ra0 hw hl h)

/-! ProofHouse$Terms.bind -/
theorem dX10_bind_0 : decode cX10_bind 0 = .ok (.aload_n 0, 1) := by decide +kernel
theorem dX10_bind_1 : decode cX10_bind 1 = .ok (.getfield 25, 3) := by decide +kernel
theorem dX10_bind_4 : decode cX10_bind 4 = .ok (.sipush 256, 3) := by decide +kernel
theorem dX10_bind_7 : decode cX10_bind 7 = .ok (.if_icmp .ge 33, 3) := by decide +kernel
theorem dX10_bind_10 : decode cX10_bind 10 = .ok (.aload_n 0, 1) := by decide +kernel
theorem dX10_bind_11 : decode cX10_bind 11 = .ok (.getfield 18, 3) := by decide +kernel
theorem dX10_bind_14 : decode cX10_bind 14 = .ok (.aload_n 0, 1) := by decide +kernel
theorem dX10_bind_15 : decode cX10_bind 15 = .ok (.getfield 25, 3) := by decide +kernel
theorem dX10_bind_18 : decode cX10_bind 18 = .ok (.iload_n 1, 1) := by decide +kernel
theorem dX10_bind_19 : decode cX10_bind 19 = .ok (.iastore, 1) := by decide +kernel
theorem dX10_bind_20 : decode cX10_bind 20 = .ok (.aload_n 0, 1) := by decide +kernel
theorem dX10_bind_21 : decode cX10_bind 21 = .ok (.getfield 22, 3) := by decide +kernel
theorem dX10_bind_24 : decode cX10_bind 24 = .ok (.aload_n 0, 1) := by decide +kernel
theorem dX10_bind_25 : decode cX10_bind 25 = .ok (.getfield 25, 3) := by decide +kernel
theorem dX10_bind_28 : decode cX10_bind 28 = .ok (.iload_n 2, 1) := by decide +kernel
theorem dX10_bind_29 : decode cX10_bind 29 = .ok (.iastore, 1) := by decide +kernel
theorem dX10_bind_30 : decode cX10_bind 30 = .ok (.aload_n 0, 1) := by decide +kernel
theorem dX10_bind_31 : decode cX10_bind 31 = .ok (.dup, 1) := by decide +kernel
theorem dX10_bind_32 : decode cX10_bind 32 = .ok (.getfield 25, 3) := by decide +kernel
theorem dX10_bind_35 : decode cX10_bind 35 = .ok (.iconst 1, 1) := by decide +kernel
theorem dX10_bind_36 : decode cX10_bind 36 = .ok (.iadd, 1) := by decide +kernel
theorem dX10_bind_37 : decode cX10_bind 37 = .ok (.putfield 25, 3) := by decide +kernel
theorem dX10_bind_40 : decode cX10_bind 40 = .ok (.return_, 1) := by decide +kernel

section
variable {p : Program} {l : Launch} {e : Env} {R : Room} {s : State} {m : MethodId} {args : Array Value} {below : List Frame} {meth : Method} {c : Code} {H : Heap} {locs : List Loc} {Qf : State → Prop}
variable {ls : Array Slot} {D : va_G} {ca : Nat → ClassId} {A : Nat → Prop} {ad : Nat → Nat → Nat} {u : iST}
def v_10_bind (a0 : Int) (a1 : Int) (Q : iST → Prop) (u : iST) : Prop :=
  rd (u.1 39) (fun v1 => 
  br (256 ≤ v1) (
    Q u) (
    rd (u.1 39) (fun v2 => 
    bd v2 256 (sw (iA u 35 v2 a0) (fun u => 
    rd (u.1 39) (fun v3 => 
    bd v3 256 (sw (iA u 36 v3 a1) (fun u => 
    rd (u.1 39) (fun v4 => 
    ov (v4 + 1) (
    sw (iI u 39 (v4 + 1)) (fun u => 
    Q u)))))))))))
set_option maxRecDepth 20000 in
set_option maxHeartbeats 4000000 in
theorem f_10_bind_s (X : yX RX10 p m c cX10_bind 3 s args D ca ad A) (hRf : 0 ≤ R.frames) (hRl : 0 ≤ R.locals) {Q : iST → Prop} (hret : ∀ (u : iST) (H : Heap) (locs : List Loc) (ls : Array Slot) (pc : Nat), Q u → yW D ca A ad s H locs u → decode cX10_bind pc = .ok (.return_, 1) → W p l e R s m args below meth c H locs 0 0 Qf (F0 m pc ls [])) {a0 a1 : Int} (ra0 : inR a0) (ra1 : inR a1) (hw : yW D ca A ad s H locs u) (hl : lv_has ls 3 [(0, .ref (ad 0 8)), (1, .int (jI a0)), (2, .int (jI a1))]) (h : v_10_bind a0 a1 Q u) : W p l e R s m args below meth c H locs 0 0 Qf (F0 m 0 ls []) := by
  have hx := X.1.1
  have hb := X.1.2.1
  unfold v_10_bind at h
  refine lv_aload_n hx hb dX10_bind_0 rfl (lv_at hl 0 rfl) ?_
  refine yg_10_25 X hw dX10_bind_1 h (fun v1 rv1 h => ?_)
  refine lv_sipush hx hb dX10_bind_4 (v := jI 256) rfl ?_
  refine k_icmp_ge hx hb rv1 (by decide) dX10_bind_7 (tgt := 40) rfl h (fun h => ?_) (fun h => ?_)
  · exact hret _ _ _ _ _ h hw dX10_bind_40
  · refine lv_aload_n hx hb dX10_bind_10 rfl (lv_at hl 0 rfl) ?_
    refine yg_10_18 X hw dX10_bind_11 ?_
    refine lv_aload_n hx hb dX10_bind_14 rfl (lv_at hl 0 rfl) ?_
    refine yg_10_25 X hw dX10_bind_15 h (fun v2 rv2 h => ?_)
    refine lv_iload_n hx hb dX10_bind_18 rfl (lv_at hl 1 rfl) ?_
    refine yt_35 X hw rv2 ra0 dX10_bind_19 h (fun H locs u hw h => ?_)
    refine lv_aload_n hx hb dX10_bind_20 rfl (lv_at hl 0 rfl) ?_
    refine yg_10_22 X hw dX10_bind_21 ?_
    refine lv_aload_n hx hb dX10_bind_24 rfl (lv_at hl 0 rfl) ?_
    refine yg_10_25 X hw dX10_bind_25 h (fun v3 rv3 h => ?_)
    refine lv_iload_n hx hb dX10_bind_28 rfl (lv_at hl 2 rfl) ?_
    refine yt_36 X hw rv3 ra1 dX10_bind_29 h (fun H locs u hw h => ?_)
    refine lv_aload_n hx hb dX10_bind_30 rfl (lv_at hl 0 rfl) ?_
    refine lv_dup hx hb dX10_bind_31 rfl ?_
    refine yg_10_25 X hw dX10_bind_32 h (fun v4 rv4 h => ?_)
    refine lv_iconst hx hb dX10_bind_35 (v := jI 1) rfl ?_
    refine k_iadd hx hb dX10_bind_36 h (fun r5 h => ?_)
    refine yp_10_25 X hw r5 dX10_bind_37 h (fun H locs u hw h => ?_)
    exact hret _ _ _ _ _ h hw dX10_bind_40

end
theorem e_10_bind {l : Launch} {a0 : Int} {a1 : Int} (ra0 : inR a0) (ra1 : inR a1) {Q : iST → Prop} {u : iST} (h : v_10_bind a0 a1 Q u) : yMV l yX10_bind (.code yX10_bind cX10_bind 3 none :: wsN) { frames := 0, cells := 0, slots := 0, locals := 0 } (fun ad => [.ref (ad 0 8), .int (jI a0), .int (jI a1)]) Q u := yMV_of (own := RX10) rfl (by decide +kernel) (fun _ => Nat.le_of_ble_eq_true rfl) (fun X hRf hRl hret hw hl => f_10_bind_s X hRf hRl hret ra0 ra1 hw hl h)

/-! ProofHouse$Terms.bindPairs -/
theorem dX10_bindPairs_0 : decode cX10_bindPairs 0 = .ok (.aload_n 0, 1) := by decide +kernel
theorem dX10_bindPairs_1 : decode cX10_bindPairs 1 = .ok (.iconst 0, 1) := by decide +kernel
theorem dX10_bindPairs_2 : decode cX10_bindPairs 2 = .ok (.putfield 25, 3) := by decide +kernel
theorem dX10_bindPairs_5 : decode cX10_bindPairs 5 = .ok (.iload_n 1, 1) := by decide +kernel
theorem dX10_bindPairs_6 : decode cX10_bindPairs 6 = .ok (.istore_n 2, 1) := by decide +kernel
theorem dX10_bindPairs_7 : decode cX10_bindPairs 7 = .ok (.aload_n 0, 1) := by decide +kernel
theorem dX10_bindPairs_8 : decode cX10_bindPairs 8 = .ok (.getfield 55, 3) := by decide +kernel
theorem dX10_bindPairs_11 : decode cX10_bindPairs 11 = .ok (.iload_n 2, 1) := by decide +kernel
theorem dX10_bindPairs_12 : decode cX10_bindPairs 12 = .ok (.invokevirtual 80, 3) := by decide +kernel
theorem dX10_bindPairs_15 : decode cX10_bindPairs 15 = .ok (.ifCond .eq 104, 3) := by decide +kernel
theorem dX10_bindPairs_18 : decode cX10_bindPairs 18 = .ok (.aload_n 0, 1) := by decide +kernel
theorem dX10_bindPairs_19 : decode cX10_bindPairs 19 = .ok (.getfield 55, 3) := by decide +kernel
theorem dX10_bindPairs_22 : decode cX10_bindPairs 22 = .ok (.iload_n 2, 1) := by decide +kernel
theorem dX10_bindPairs_23 : decode cX10_bindPairs 23 = .ok (.invokevirtual 72, 3) := by decide +kernel
theorem dX10_bindPairs_26 : decode cX10_bindPairs 26 = .ok (.istore_n 3, 1) := by decide +kernel
theorem dX10_bindPairs_27 : decode cX10_bindPairs 27 = .ok (.aload_n 0, 1) := by decide +kernel
theorem dX10_bindPairs_28 : decode cX10_bindPairs 28 = .ok (.getfield 55, 3) := by decide +kernel
theorem dX10_bindPairs_31 : decode cX10_bindPairs 31 = .ok (.iload_n 3, 1) := by decide +kernel
theorem dX10_bindPairs_32 : decode cX10_bindPairs 32 = .ok (.invokevirtual 72, 3) := by decide +kernel
theorem dX10_bindPairs_35 : decode cX10_bindPairs 35 = .ok (.istore 4, 2) := by decide +kernel
theorem dX10_bindPairs_37 : decode cX10_bindPairs 37 = .ok (.aload_n 0, 1) := by decide +kernel
theorem dX10_bindPairs_38 : decode cX10_bindPairs 38 = .ok (.getfield 55, 3) := by decide +kernel
theorem dX10_bindPairs_41 : decode cX10_bindPairs 41 = .ok (.iload_n 3, 1) := by decide +kernel
theorem dX10_bindPairs_42 : decode cX10_bindPairs 42 = .ok (.invokevirtual 126, 3) := by decide +kernel
theorem dX10_bindPairs_45 : decode cX10_bindPairs 45 = .ok (.iconst 2, 1) := by decide +kernel
theorem dX10_bindPairs_46 : decode cX10_bindPairs 46 = .ok (.if_icmp .ne 20, 3) := by decide +kernel
theorem dX10_bindPairs_49 : decode cX10_bindPairs 49 = .ok (.aload_n 0, 1) := by decide +kernel
theorem dX10_bindPairs_50 : decode cX10_bindPairs 50 = .ok (.aload_n 0, 1) := by decide +kernel
theorem dX10_bindPairs_51 : decode cX10_bindPairs 51 = .ok (.getfield 55, 3) := by decide +kernel
theorem dX10_bindPairs_54 : decode cX10_bindPairs 54 = .ok (.iload_n 3, 1) := by decide +kernel
theorem dX10_bindPairs_55 : decode cX10_bindPairs 55 = .ok (.iconst 1, 1) := by decide +kernel
theorem dX10_bindPairs_56 : decode cX10_bindPairs 56 = .ok (.invokevirtual 133, 3) := by decide +kernel
theorem dX10_bindPairs_59 : decode cX10_bindPairs 59 = .ok (.iconst 0, 1) := by decide +kernel
theorem dX10_bindPairs_60 : decode cX10_bindPairs 60 = .ok (.invokevirtual 136, 3) := by decide +kernel
theorem dX10_bindPairs_63 : decode cX10_bindPairs 63 = .ok (.goto 4, 3) := by decide +kernel
theorem dX10_bindPairs_66 : decode cX10_bindPairs 66 = .ok (.iconst (-1), 1) := by decide +kernel
theorem dX10_bindPairs_67 : decode cX10_bindPairs 67 = .ok (.istore 5, 2) := by decide +kernel
theorem dX10_bindPairs_69 : decode cX10_bindPairs 69 = .ok (.iload 5, 2) := by decide +kernel
theorem dX10_bindPairs_71 : decode cX10_bindPairs 71 = .ok (.iconst (-1), 1) := by decide +kernel
theorem dX10_bindPairs_72 : decode cX10_bindPairs 72 = .ok (.if_icmp .eq 25, 3) := by decide +kernel
theorem dX10_bindPairs_75 : decode cX10_bindPairs 75 = .ok (.aload_n 0, 1) := by decide +kernel
theorem dX10_bindPairs_76 : decode cX10_bindPairs 76 = .ok (.getfield 55, 3) := by decide +kernel
theorem dX10_bindPairs_79 : decode cX10_bindPairs 79 = .ok (.iload 4, 2) := by decide +kernel
theorem dX10_bindPairs_81 : decode cX10_bindPairs 81 = .ok (.invokevirtual 106, 3) := by decide +kernel
theorem dX10_bindPairs_84 : decode cX10_bindPairs 84 = .ok (.ifCond .eq 13, 3) := by decide +kernel
theorem dX10_bindPairs_87 : decode cX10_bindPairs 87 = .ok (.aload_n 0, 1) := by decide +kernel
theorem dX10_bindPairs_88 : decode cX10_bindPairs 88 = .ok (.iload 4, 2) := by decide +kernel
theorem dX10_bindPairs_90 : decode cX10_bindPairs 90 = .ok (.invokevirtual 109, 3) := by decide +kernel
theorem dX10_bindPairs_93 : decode cX10_bindPairs 93 = .ok (.iconst (-1), 1) := by decide +kernel
theorem dX10_bindPairs_94 : decode cX10_bindPairs 94 = .ok (.if_icmp .eq 5, 3) := by decide +kernel
theorem dX10_bindPairs_97 : decode cX10_bindPairs 97 = .ok (.iconst 0, 1) := by decide +kernel
theorem dX10_bindPairs_98 : decode cX10_bindPairs 98 = .ok (.ireturn, 1) := by decide +kernel
theorem dX10_bindPairs_99 : decode cX10_bindPairs 99 = .ok (.aload_n 0, 1) := by decide +kernel
theorem dX10_bindPairs_100 : decode cX10_bindPairs 100 = .ok (.iload 4, 2) := by decide +kernel
theorem dX10_bindPairs_102 : decode cX10_bindPairs 102 = .ok (.iload 5, 2) := by decide +kernel
theorem dX10_bindPairs_104 : decode cX10_bindPairs 104 = .ok (.invokevirtual 129, 3) := by decide +kernel
theorem dX10_bindPairs_107 : decode cX10_bindPairs 107 = .ok (.aload_n 0, 1) := by decide +kernel
theorem dX10_bindPairs_108 : decode cX10_bindPairs 108 = .ok (.getfield 55, 3) := by decide +kernel
theorem dX10_bindPairs_111 : decode cX10_bindPairs 111 = .ok (.iload_n 2, 1) := by decide +kernel
theorem dX10_bindPairs_112 : decode cX10_bindPairs 112 = .ok (.invokevirtual 77, 3) := by decide +kernel
theorem dX10_bindPairs_115 : decode cX10_bindPairs 115 = .ok (.istore_n 2, 1) := by decide +kernel
theorem dX10_bindPairs_116 : decode cX10_bindPairs 116 = .ok (.goto (-109), 3) := by decide +kernel
theorem dX10_bindPairs_119 : decode cX10_bindPairs 119 = .ok (.iconst 1, 1) := by decide +kernel
theorem dX10_bindPairs_120 : decode cX10_bindPairs 120 = .ok (.ireturn, 1) := by decide +kernel

section
variable {p : Program} {l : Launch} {e : Env} {R : Room} {s : State} {m : MethodId} {args : Array Value} {below : List Frame} {meth : Method} {c : Code} {H : Heap} {locs : List Loc} {Qf : State → Prop}
variable {ls : Array Slot} {D : va_G} {ca : Nat → ClassId} {A : Nat → Prop} {ad : Nat → Nat → Nat} {u : iST}
def v_10_bindPairs_67 (R7 : Int → iST → Prop) (Q : Int → iST → Prop) (x2 : Int) (x4 : Int) (y0 : Int) (u : iST) : Prop :=
  br (y0 = (-1)) (
    zt 0 (Q 0 u)) (
    v_7_isVariable x4 (fun v5 u => 
    br (v5 = 0) (
      zt 0 (Q 0 u)) (
      v_10_standsFor x4 (fun v6 u => 
      br (v6 = (-1)) (
        v_10_bind x4 y0 (fun u => 
        v_7_right x2 (fun v8 u => 
        R7 v8 u) u) u) (
        zt 0 (Q 0 u))) u)) u)
set_option maxRecDepth 20000 in
set_option maxHeartbeats 4000000 in
theorem f_10_bindPairs_67 (X : yX RX10 p m c cX10_bindPairs 6 s args D ca ad A) (hRf : 3 ≤ R.frames) (hRl : 75 ≤ R.locals) {Q : Int → iST → Prop} (hret : ∀ (v : Int) (u : iST) (H : Heap) (locs : List Loc) (ls : Array Slot) (pc : Nat), bz v → Q v u → yW D ca A ad s H locs u → decode cX10_bindPairs pc = .ok (.ireturn, 1) → W p l e R s m args below meth c H locs 0 0 Qf (F0 m pc ls [.int (jI v)])) {R7 : Int → iST → Prop} (hR7 : ∀ (x2 : Int) (u : iST) (H : Heap) (locs : List Loc) (ls : Array Slot), inR x2 → yW D ca A ad s H locs u → lv_has ls 6 [(0, .ref (ad 0 8)), (2, .int (jI x2))] → R7 x2 u → W p l e R s m args below meth c H locs 0 0 Qf (F0 m 7 ls [])) {x2 x4 y0 : Int} (rx2 : inR x2) (rx4 : inR x4) (ry0 : inR y0) (hw : yW D ca A ad s H locs u) (hl : lv_has ls 6 [(0, .ref (ad 0 8)), (2, .int (jI x2)), (4, .int (jI x4))]) (h : v_10_bindPairs_67 R7 Q x2 x4 y0 u) : W p l e R s m args below meth c H locs 0 0 Qf (F0 m 67 ls [.int (jI y0)]) := by
  have hx := X.1.1
  have hb := X.1.2.1
  unfold v_10_bindPairs_67 at h
  refine lv_istore hx hb dX10_bindPairs_67 hl (by decide) rfl (fun ls hl => ?_)
  have hl : lv_has ls 6 [(5, .int (jI y0)), (0, .ref (ad 0 8)), (2, .int (jI x2)), (4, .int (jI x4))] := hl
  refine lv_iload hx hb dX10_bindPairs_69 (lv_at hl 0 rfl) ?_
  refine lv_iconst hx hb dX10_bindPairs_71 (v := jI (-1)) rfl ?_
  refine k_icmp_eq hx hb ry0 (by decide) dX10_bindPairs_72 (tgt := 97) rfl h (fun h => ?_) (fun h => ?_)
  · refine lv_iconst hx hb dX10_bindPairs_97 (v := jI 0) rfl ?_
    exact hret _ _ _ _ _ _ h.1 h.2 hw dX10_bindPairs_98
  · refine lv_aload_n hx hb dX10_bindPairs_75 rfl (lv_at hl 1 rfl) ?_
    refine yg_10_55 X hw dX10_bindPairs_76 ?_
    refine lv_iload hx hb dX10_bindPairs_79 (lv_at hl 3 rfl) ?_
    refine ycI (n := 1) (e_7_isVariable rx4 h) 7 6 (r := (RX7, TX7, 9)) rfl yG_10_106 yD_7_isVariable X hw rfl yGo_7 (Nat.le_trans (Nat.le_of_ble_eq_true rfl) hRf) (Nat.le_trans (Nat.le_of_ble_eq_true rfl) hRl) rfl hl.1 (Nat.le_of_ble_eq_true rfl) rfl dX10_bindPairs_81 (fun v5 u H locs rv5 h hw => ?_)
    refine k_if_eq hx hb rv5 dX10_bindPairs_84 (tgt := 97) rfl h (fun h => ?_) (fun h => ?_)
    · refine lv_iconst hx hb dX10_bindPairs_97 (v := jI 0) rfl ?_
      exact hret _ _ _ _ _ _ h.1 h.2 hw dX10_bindPairs_98
    · refine lv_aload_n hx hb dX10_bindPairs_87 rfl (lv_at hl 1 rfl) ?_
      refine lv_iload hx hb dX10_bindPairs_88 (lv_at hl 3 rfl) ?_
      refine ycI (n := 1) (e_10_standsFor rx4 h) 10 8 (r := (RX10, TX10, 16)) rfl yG_10_109 yD_10_standsFor X hw rfl yGo_10 (Nat.le_trans (Nat.le_of_ble_eq_true rfl) hRf) (Nat.le_trans (Nat.le_of_ble_eq_true rfl) hRl) rfl hl.1 (Nat.le_of_ble_eq_true rfl) rfl dX10_bindPairs_90 (fun v6 u H locs rv6 h hw => ?_)
      refine lv_iconst hx hb dX10_bindPairs_93 (v := jI (-1)) rfl ?_
      refine k_icmp_eq hx hb rv6 (by decide) dX10_bindPairs_94 (tgt := 99) rfl h (fun h => ?_) (fun h => ?_)
      · refine lv_aload_n hx hb dX10_bindPairs_99 rfl (lv_at hl 1 rfl) ?_
        refine lv_iload hx hb dX10_bindPairs_100 (lv_at hl 3 rfl) ?_
        refine lv_iload hx hb dX10_bindPairs_102 (lv_at hl 0 rfl) ?_
        refine ycV (n := 2) (e_10_bind rx4 ry0 h) 10 8 (r := (RX10, TX10, 16)) rfl yG_10_129 yD_10_bind X hw rfl yGo_10 (Nat.le_trans (Nat.le_of_ble_eq_true rfl) hRf) (Nat.le_trans (Nat.le_of_ble_eq_true rfl) hRl) rfl hl.1 (Nat.le_of_ble_eq_true rfl) rfl dX10_bindPairs_104 (fun u H locs h hw => ?_)
        refine lv_aload_n hx hb dX10_bindPairs_107 rfl (lv_at hl 1 rfl) ?_
        refine yg_10_55 X hw dX10_bindPairs_108 ?_
        refine lv_iload_n hx hb dX10_bindPairs_111 rfl (lv_at hl 2 rfl) ?_
        refine ycI (n := 1) (e_7_right rx2 h) 7 6 (r := (RX7, TX7, 9)) rfl yG_10_77 yD_7_right X hw rfl yGo_7 (Nat.le_trans (Nat.le_of_ble_eq_true rfl) hRf) (Nat.le_trans (Nat.le_of_ble_eq_true rfl) hRl) rfl hl.1 (Nat.le_of_ble_eq_true rfl) rfl dX10_bindPairs_112 (fun v8 u H locs rv8 h hw => ?_)
        refine lv_istore_n hx hb dX10_bindPairs_115 rfl hl (by decide) rfl (fun ls hl => ?_)
        have hl : lv_has ls 6 [(2, .int (jI v8)), (5, .int (jI y0)), (0, .ref (ad 0 8)), (4, .int (jI x4))] := hl
        refine lv_goto hx hb dX10_bindPairs_116 (tgt := 7) rfl ?_
        exact hR7 _ _ H locs ls rv8 hw (lv_sub hl [2, 0] rfl) h
      · refine lv_iconst hx hb dX10_bindPairs_97 (v := jI 0) rfl ?_
        exact hret _ _ _ _ _ _ h.1 h.2 hw dX10_bindPairs_98

def v_10_bindPairs_7b (R7 : Int → iST → Prop) (Q : Int → iST → Prop) (x2 : Int) (u : iST) : Prop :=
  v_7_isPair x2 (fun v1 u => 
  br (v1 = 0) (
    zt 1 (Q 1 u)) (
    v_7_left x2 (fun v2 u => 
    v_7_left v2 (fun v3 u => 
    v_7_lengthOf v2 (fun v4 u => 
    br (v4 ≠ 2) (
      v_10_bindPairs_67 R7 Q x2 v3 (-1) u) (
      v_7_item v2 1 (fun v9 u => 
      v_10_rebuilt v9 0 (fun v10 u => 
      v_10_bindPairs_67 R7 Q x2 v3 v10 u) u) u)) u) u) u)) u
def v_10_bindPairs_7 (Q : Int → iST → Prop) (x2 : Int) (u : iST) : Prop := ∀ R7 : Int → iST → Prop, (∀ (x2 : Int) (u : iST), v_10_bindPairs_7b R7 Q x2 u → R7 x2 u) → R7 x2 u
set_option maxRecDepth 20000 in
set_option maxHeartbeats 4000000 in
theorem f_10_bindPairs_7 (X : yX RX10 p m c cX10_bindPairs 6 s args D ca ad A) (hRf : 3 ≤ R.frames) (hRl : 75 ≤ R.locals) {Q : Int → iST → Prop} (hret : ∀ (v : Int) (u : iST) (H : Heap) (locs : List Loc) (ls : Array Slot) (pc : Nat), bz v → Q v u → yW D ca A ad s H locs u → decode cX10_bindPairs pc = .ok (.ireturn, 1) → W p l e R s m args below meth c H locs 0 0 Qf (F0 m pc ls [.int (jI v)])) {x2 : Int} (rx2 : inR x2) (hw : yW D ca A ad s H locs u) (hl : lv_has ls 6 [(0, .ref (ad 0 8)), (2, .int (jI x2))]) (h : v_10_bindPairs_7 Q x2 u) : W p l e R s m args below meth c H locs 0 0 Qf (F0 m 7 ls []) := by
  refine h (fun x2 u => ∀ (H : Heap) (locs : List Loc) (ls : Array Slot), inR x2 → yW D ca A ad s H locs u → lv_has ls 6 [(0, .ref (ad 0 8)), (2, .int (jI x2))] → W p l e R s m args below meth c H locs 0 0 Qf (F0 m 7 ls [])) ?_ H locs ls rx2 hw hl
  clear h hl hw rx2
  intro x2 u h H locs ls rx2 hw hl
  have hR7 : ∀ (x2 : Int) (u : iST) (H : Heap) (locs : List Loc) (ls : Array Slot), inR x2 → yW D ca A ad s H locs u → lv_has ls 6 [(0, .ref (ad 0 8)), (2, .int (jI x2))] → (fun (x2 : Int) u => ∀ (H : Heap) (locs : List Loc) (ls : Array Slot), inR x2 → yW D ca A ad s H locs u → lv_has ls 6 [(0, .ref (ad 0 8)), (2, .int (jI x2))] → W p l e R s m args below meth c H locs 0 0 Qf (F0 m 7 ls [])) x2 u → W p l e R s m args below meth c H locs 0 0 Qf (F0 m 7 ls []) := fun x2 u H locs ls rx2 hw hl h => h H locs ls rx2 hw hl
  have hx := X.1.1
  have hb := X.1.2.1
  unfold v_10_bindPairs_7b at h
  refine lv_aload_n hx hb dX10_bindPairs_7 rfl (lv_at hl 0 rfl) ?_
  refine yg_10_55 X hw dX10_bindPairs_8 ?_
  refine lv_iload_n hx hb dX10_bindPairs_11 rfl (lv_at hl 1 rfl) ?_
  refine ycI (n := 1) (e_7_isPair rx2 h) 7 6 (r := (RX7, TX7, 9)) rfl yG_10_80 yD_7_isPair X hw rfl yGo_7 (Nat.le_trans (Nat.le_of_ble_eq_true rfl) hRf) (Nat.le_trans (Nat.le_of_ble_eq_true rfl) hRl) rfl hl.1 (Nat.le_of_ble_eq_true rfl) rfl dX10_bindPairs_12 (fun v1 u H locs rv1 h hw => ?_)
  refine k_if_eq hx hb rv1 dX10_bindPairs_15 (tgt := 119) rfl h (fun h => ?_) (fun h => ?_)
  · refine lv_iconst hx hb dX10_bindPairs_119 (v := jI 1) rfl ?_
    exact hret _ _ _ _ _ _ h.1 h.2 hw dX10_bindPairs_120
  · refine lv_aload_n hx hb dX10_bindPairs_18 rfl (lv_at hl 0 rfl) ?_
    refine yg_10_55 X hw dX10_bindPairs_19 ?_
    refine lv_iload_n hx hb dX10_bindPairs_22 rfl (lv_at hl 1 rfl) ?_
    refine ycI (n := 1) (e_7_left rx2 h) 7 6 (r := (RX7, TX7, 9)) rfl yG_10_72 yD_7_left X hw rfl yGo_7 (Nat.le_trans (Nat.le_of_ble_eq_true rfl) hRf) (Nat.le_trans (Nat.le_of_ble_eq_true rfl) hRl) rfl hl.1 (Nat.le_of_ble_eq_true rfl) rfl dX10_bindPairs_23 (fun v2 u H locs rv2 h hw => ?_)
    refine lv_istore_n hx hb dX10_bindPairs_26 rfl hl (by decide) rfl (fun ls hl => ?_)
    have hl : lv_has ls 6 [(3, .int (jI v2)), (0, .ref (ad 0 8)), (2, .int (jI x2))] := hl
    refine lv_aload_n hx hb dX10_bindPairs_27 rfl (lv_at hl 1 rfl) ?_
    refine yg_10_55 X hw dX10_bindPairs_28 ?_
    refine lv_iload_n hx hb dX10_bindPairs_31 rfl (lv_at hl 0 rfl) ?_
    refine ycI (n := 1) (e_7_left rv2 h) 7 6 (r := (RX7, TX7, 9)) rfl yG_10_72 yD_7_left X hw rfl yGo_7 (Nat.le_trans (Nat.le_of_ble_eq_true rfl) hRf) (Nat.le_trans (Nat.le_of_ble_eq_true rfl) hRl) rfl hl.1 (Nat.le_of_ble_eq_true rfl) rfl dX10_bindPairs_32 (fun v3 u H locs rv3 h hw => ?_)
    refine lv_istore hx hb dX10_bindPairs_35 hl (by decide) rfl (fun ls hl => ?_)
    have hl : lv_has ls 6 [(4, .int (jI v3)), (3, .int (jI v2)), (0, .ref (ad 0 8)), (2, .int (jI x2))] := hl
    refine lv_aload_n hx hb dX10_bindPairs_37 rfl (lv_at hl 2 rfl) ?_
    refine yg_10_55 X hw dX10_bindPairs_38 ?_
    refine lv_iload_n hx hb dX10_bindPairs_41 rfl (lv_at hl 1 rfl) ?_
    refine ycI (n := 1) (e_7_lengthOf rv2 h) 7 6 (r := (RX7, TX7, 9)) rfl yG_10_126 yD_7_lengthOf X hw rfl yGo_7 (Nat.le_trans (Nat.le_of_ble_eq_true rfl) hRf) (Nat.le_trans (Nat.le_of_ble_eq_true rfl) hRl) rfl hl.1 (Nat.le_of_ble_eq_true rfl) rfl dX10_bindPairs_42 (fun v4 u H locs rv4 h hw => ?_)
    refine lv_iconst hx hb dX10_bindPairs_45 (v := jI 2) rfl ?_
    refine k_icmp_ne hx hb rv4 (by decide) dX10_bindPairs_46 (tgt := 66) rfl h (fun h => ?_) (fun h => ?_)
    · refine lv_iconst hx hb dX10_bindPairs_66 (v := jI (-1)) rfl ?_
      exact f_10_bindPairs_67 X hRf hRl hret hR7 rx2 rv3 (by decide) hw (lv_sub hl [2, 3, 0] rfl) h
    · refine lv_aload_n hx hb dX10_bindPairs_49 rfl (lv_at hl 2 rfl) ?_
      refine lv_aload_n hx hb dX10_bindPairs_50 rfl (lv_at hl 2 rfl) ?_
      refine yg_10_55 X hw dX10_bindPairs_51 ?_
      refine lv_iload_n hx hb dX10_bindPairs_54 rfl (lv_at hl 1 rfl) ?_
      refine lv_iconst hx hb dX10_bindPairs_55 (v := jI 1) rfl ?_
      refine ycI (n := 2) (e_7_item rv2 (by decide) h) 7 6 (r := (RX7, TX7, 9)) rfl yG_10_133 yD_7_item X hw rfl yGo_7 (Nat.le_trans (Nat.le_of_ble_eq_true rfl) hRf) (Nat.le_trans (Nat.le_of_ble_eq_true rfl) hRl) rfl hl.1 (Nat.le_of_ble_eq_true rfl) rfl dX10_bindPairs_56 (fun v9 u H locs rv9 h hw => ?_)
      refine lv_iconst hx hb dX10_bindPairs_59 (v := jI 0) rfl ?_
      refine ycI (n := 2) (e_10_rebuilt rv9 (by decide) h) 10 8 (r := (RX10, TX10, 16)) rfl yG_10_136 yD_10_rebuilt X hw rfl yGo_10 (Nat.le_trans (Nat.le_of_ble_eq_true rfl) hRf) (Nat.le_trans (Nat.le_of_ble_eq_true rfl) hRl) rfl hl.1 (Nat.le_of_ble_eq_true rfl) rfl dX10_bindPairs_60 (fun v10 u H locs rv10 h hw => ?_)
      refine lv_goto hx hb dX10_bindPairs_63 (tgt := 67) rfl ?_
      exact f_10_bindPairs_67 X hRf hRl hret hR7 rx2 rv3 rv10 hw (lv_sub hl [2, 3, 0] rfl) h

def v_10_bindPairs (a0 : Int) (Q : Int → iST → Prop) (u : iST) : Prop :=
  sw (iI u 39 0) (fun u => 
  v_10_bindPairs_7 Q a0 u)
set_option maxRecDepth 20000 in
set_option maxHeartbeats 4000000 in
theorem f_10_bindPairs_s (X : yX RX10 p m c cX10_bindPairs 6 s args D ca ad A) (hRf : 3 ≤ R.frames) (hRl : 75 ≤ R.locals) {Q : Int → iST → Prop} (hret : ∀ (v : Int) (u : iST) (H : Heap) (locs : List Loc) (ls : Array Slot) (pc : Nat), bz v → Q v u → yW D ca A ad s H locs u → decode cX10_bindPairs pc = .ok (.ireturn, 1) → W p l e R s m args below meth c H locs 0 0 Qf (F0 m pc ls [.int (jI v)])) {a0 : Int} (ra0 : inR a0) (hw : yW D ca A ad s H locs u) (hl : lv_has ls 6 [(0, .ref (ad 0 8)), (1, .int (jI a0))]) (h : v_10_bindPairs a0 Q u) : W p l e R s m args below meth c H locs 0 0 Qf (F0 m 0 ls []) := by
  have hx := X.1.1
  have hb := X.1.2.1
  unfold v_10_bindPairs at h
  refine lv_aload_n hx hb dX10_bindPairs_0 rfl (lv_at hl 0 rfl) ?_
  refine lv_iconst hx hb dX10_bindPairs_1 (v := jI 0) rfl ?_
  refine yp_10_25 X hw (by decide) dX10_bindPairs_2 h (fun H locs u hw h => ?_)
  refine lv_iload_n hx hb dX10_bindPairs_5 rfl (lv_at hl 1 rfl) ?_
  refine lv_istore_n hx hb dX10_bindPairs_6 rfl hl (by decide) rfl (fun ls hl => ?_)
  have hl : lv_has ls 6 [(2, .int (jI a0)), (0, .ref (ad 0 8)), (1, .int (jI a0))] := hl
  exact f_10_bindPairs_7 X hRf hRl hret ra0 hw (lv_sub hl [1, 0] rfl) h

end
theorem e_10_bindPairs {l : Launch} {a0 : Int} (ra0 : inR a0) {Q : Int → iST → Prop} {u : iST} (h : v_10_bindPairs a0 Q u) : yMI l yX10_bindPairs (.code yX10_bindPairs cX10_bindPairs 6 (some .boolean) :: wsN) { frames := 3, cells := 0, slots := 0, locals := 75 } (fun ad => [.ref (ad 0 8), .int (jI a0)]) Q u := yMZ_of (own := RX10) rfl (by decide +kernel) (fun _ => Nat.le_of_ble_eq_true rfl) (fun X hRf hRl hret hw hl => f_10_bindPairs_s X hRf hRl hret ra0 hw hl h)

/-! ProofHouse$Room.isName -/
theorem dX7_isName_0 : decode cX7_isName 0 = .ok (.iload_n 1, 1) := by decide +kernel
theorem dX7_isName_1 : decode cX7_isName 1 = .ok (.bipush 16, 2) := by decide +kernel
theorem dX7_isName_3 : decode cX7_isName 3 = .ok (.if_icmp .le 29, 3) := by decide +kernel
theorem dX7_isName_6 : decode cX7_isName 6 = .ok (.iload_n 1, 1) := by decide +kernel
theorem dX7_isName_7 : decode cX7_isName 7 = .ok (.aload_n 0, 1) := by decide +kernel
theorem dX7_isName_8 : decode cX7_isName 8 = .ok (.getfield 30, 3) := by decide +kernel
theorem dX7_isName_11 : decode cX7_isName 11 = .ok (.if_icmp .ge 21, 3) := by decide +kernel
theorem dX7_isName_14 : decode cX7_isName 14 = .ok (.aload_n 0, 1) := by decide +kernel
theorem dX7_isName_15 : decode cX7_isName 15 = .ok (.getfield 12, 3) := by decide +kernel
theorem dX7_isName_18 : decode cX7_isName 18 = .ok (.iload_n 1, 1) := by decide +kernel
theorem dX7_isName_19 : decode cX7_isName 19 = .ok (.laload, 1) := by decide +kernel
theorem dX7_isName_20 : decode cX7_isName 20 = .ok (.bipush 62, 2) := by decide +kernel
theorem dX7_isName_22 : decode cX7_isName 22 = .ok (.lushr, 1) := by decide +kernel
theorem dX7_isName_23 : decode cX7_isName 23 = .ok (.lconst 1, 1) := by decide +kernel
theorem dX7_isName_24 : decode cX7_isName 24 = .ok (.lcmp, 1) := by decide +kernel
theorem dX7_isName_25 : decode cX7_isName 25 = .ok (.ifCond .ne 7, 3) := by decide +kernel
theorem dX7_isName_28 : decode cX7_isName 28 = .ok (.iconst 1, 1) := by decide +kernel
theorem dX7_isName_29 : decode cX7_isName 29 = .ok (.goto 4, 3) := by decide +kernel
theorem dX7_isName_32 : decode cX7_isName 32 = .ok (.iconst 0, 1) := by decide +kernel
theorem dX7_isName_33 : decode cX7_isName 33 = .ok (.ireturn, 1) := by decide +kernel

section
variable {p : Program} {l : Launch} {e : Env} {R : Room} {s : State} {m : MethodId} {args : Array Value} {below : List Frame} {meth : Method} {c : Code} {H : Heap} {locs : List Loc} {Qf : State → Prop}
variable {ls : Array Slot} {D : va_G} {ca : Nat → ClassId} {A : Nat → Prop} {ad : Nat → Nat → Nat} {u : iST}
def v_7_isName (a0 : Int) (Q : Int → iST → Prop) (u : iST) : Prop :=
  br (a0 ≤ 16) (
    zt 0 (Q 0 u)) (
    rd (u.1 29) (fun v1 => 
    br (v1 ≤ a0) (
      zt 0 (Q 0 u)) (
      bd a0 160000 (rl (u.2.2 a0) (fun v2 => 
      rl (wlushr v2 62) (fun v3 => 
      br (v3 ≠ 1) (
        zt 0 (Q 0 u)) (
        zt 1 (Q 1 u))))))))
set_option maxRecDepth 20000 in
set_option maxHeartbeats 4000000 in
theorem f_7_isName_s (X : yX RX7 p m c cX7_isName 2 s args D ca ad A) (hRf : 0 ≤ R.frames) (hRl : 0 ≤ R.locals) {Q : Int → iST → Prop} (hret : ∀ (v : Int) (u : iST) (H : Heap) (locs : List Loc) (ls : Array Slot) (pc : Nat), bz v → Q v u → yW D ca A ad s H locs u → decode cX7_isName pc = .ok (.ireturn, 1) → W p l e R s m args below meth c H locs 0 0 Qf (F0 m pc ls [.int (jI v)])) {a0 : Int} (ra0 : inR a0) (hw : yW D ca A ad s H locs u) (hl : lv_has ls 2 [(0, .ref (ad 0 6)), (1, .int (jI a0))]) (h : v_7_isName a0 Q u) : W p l e R s m args below meth c H locs 0 0 Qf (F0 m 0 ls []) := by
  have hx := X.1.1
  have hb := X.1.2.1
  unfold v_7_isName at h
  refine lv_iload_n hx hb dX7_isName_0 rfl (lv_at hl 1 rfl) ?_
  refine lv_bipush hx hb dX7_isName_1 (v := jI 16) rfl ?_
  refine k_icmp_le hx hb ra0 (by decide) dX7_isName_3 (tgt := 32) rfl h (fun h => ?_) (fun h => ?_)
  · refine lv_iconst hx hb dX7_isName_32 (v := jI 0) rfl ?_
    exact hret _ _ _ _ _ _ h.1 h.2 hw dX7_isName_33
  · refine lv_iload_n hx hb dX7_isName_6 rfl (lv_at hl 1 rfl) ?_
    refine lv_aload_n hx hb dX7_isName_7 rfl (lv_at hl 0 rfl) ?_
    refine yg_7_30 X hw dX7_isName_8 h (fun v1 rv1 h => ?_)
    refine k_icmp_ge hx hb ra0 rv1 dX7_isName_11 (tgt := 32) rfl h (fun h => ?_) (fun h => ?_)
    · refine lv_iconst hx hb dX7_isName_32 (v := jI 0) rfl ?_
      exact hret _ _ _ _ _ _ h.1 h.2 hw dX7_isName_33
    · refine lv_aload_n hx hb dX7_isName_14 rfl (lv_at hl 0 rfl) ?_
      refine yg_7_12 X hw dX7_isName_15 ?_
      refine lv_iload_n hx hb dX7_isName_18 rfl (lv_at hl 1 rfl) ?_
      refine yJl X hw ra0 dX7_isName_19 h (fun v2 rv2 h => ?_)
      refine lv_bipush hx hb dX7_isName_20 (v := jI 62) rfl ?_
      refine k_wlushr hx hb dX7_isName_22 h (fun v3 rv3 h => ?_)
      refine lv_lconst hx hb dX7_isName_23 (v := jL 1) rfl ?_
      refine k_lcmp_ne hx hb rv3 (by decide) dX7_isName_24 dX7_isName_25 (tgt := 32) rfl h (fun h => ?_) (fun h => ?_)
      · refine lv_iconst hx hb dX7_isName_32 (v := jI 0) rfl ?_
        exact hret _ _ _ _ _ _ h.1 h.2 hw dX7_isName_33
      · refine lv_iconst hx hb dX7_isName_28 (v := jI 1) rfl ?_
        refine lv_goto hx hb dX7_isName_29 (tgt := 33) rfl ?_
        exact hret _ _ _ _ _ _ h.1 h.2 hw dX7_isName_33

end
theorem e_7_isName {l : Launch} {a0 : Int} (ra0 : inR a0) {Q : Int → iST → Prop} {u : iST} (h : v_7_isName a0 Q u) : yMI l yX7_isName (.code yX7_isName cX7_isName 2 (some .boolean) :: wsN) { frames := 0, cells := 0, slots := 0, locals := 0 } (fun ad => [.ref (ad 0 6), .int (jI a0)]) Q u := yMZ_of (own := RX7) rfl (by decide +kernel) (fun _ => Nat.le_of_ble_eq_true rfl) (fun X hRf hRl hret hw hl => f_7_isName_s X hRf hRl hret ra0 hw hl h)

/-! ProofHouse$Terms.areDifferentVariables -/
theorem dX10_areDifferentVariables_0 : decode cX10_areDifferentVariables 0 = .ok (.iload_n 1, 1) := by decide +kernel
theorem dX10_areDifferentVariables_1 : decode cX10_areDifferentVariables 1 = .ok (.istore_n 2, 1) := by decide +kernel
theorem dX10_areDifferentVariables_2 : decode cX10_areDifferentVariables 2 = .ok (.aload_n 0, 1) := by decide +kernel
theorem dX10_areDifferentVariables_3 : decode cX10_areDifferentVariables 3 = .ok (.getfield 55, 3) := by decide +kernel
theorem dX10_areDifferentVariables_6 : decode cX10_areDifferentVariables 6 = .ok (.iload_n 2, 1) := by decide +kernel
theorem dX10_areDifferentVariables_7 : decode cX10_areDifferentVariables 7 = .ok (.invokevirtual 80, 3) := by decide +kernel
theorem dX10_areDifferentVariables_10 : decode cX10_areDifferentVariables 10 = .ok (.ifCond .eq 88, 3) := by decide +kernel
theorem dX10_areDifferentVariables_13 : decode cX10_areDifferentVariables 13 = .ok (.aload_n 0, 1) := by decide +kernel
theorem dX10_areDifferentVariables_14 : decode cX10_areDifferentVariables 14 = .ok (.getfield 55, 3) := by decide +kernel
theorem dX10_areDifferentVariables_17 : decode cX10_areDifferentVariables 17 = .ok (.aload_n 0, 1) := by decide +kernel
theorem dX10_areDifferentVariables_18 : decode cX10_areDifferentVariables 18 = .ok (.getfield 55, 3) := by decide +kernel
theorem dX10_areDifferentVariables_21 : decode cX10_areDifferentVariables 21 = .ok (.iload_n 2, 1) := by decide +kernel
theorem dX10_areDifferentVariables_22 : decode cX10_areDifferentVariables 22 = .ok (.invokevirtual 72, 3) := by decide +kernel
theorem dX10_areDifferentVariables_25 : decode cX10_areDifferentVariables 25 = .ok (.invokevirtual 106, 3) := by decide +kernel
theorem dX10_areDifferentVariables_28 : decode cX10_areDifferentVariables 28 = .ok (.ifCond .ne 5, 3) := by decide +kernel
theorem dX10_areDifferentVariables_31 : decode cX10_areDifferentVariables 31 = .ok (.iconst 0, 1) := by decide +kernel
theorem dX10_areDifferentVariables_32 : decode cX10_areDifferentVariables 32 = .ok (.ireturn, 1) := by decide +kernel
theorem dX10_areDifferentVariables_33 : decode cX10_areDifferentVariables 33 = .ok (.aload_n 0, 1) := by decide +kernel
theorem dX10_areDifferentVariables_34 : decode cX10_areDifferentVariables 34 = .ok (.getfield 55, 3) := by decide +kernel
theorem dX10_areDifferentVariables_37 : decode cX10_areDifferentVariables 37 = .ok (.iload_n 2, 1) := by decide +kernel
theorem dX10_areDifferentVariables_38 : decode cX10_areDifferentVariables 38 = .ok (.invokevirtual 77, 3) := by decide +kernel
theorem dX10_areDifferentVariables_41 : decode cX10_areDifferentVariables 41 = .ok (.istore_n 3, 1) := by decide +kernel
theorem dX10_areDifferentVariables_42 : decode cX10_areDifferentVariables 42 = .ok (.aload_n 0, 1) := by decide +kernel
theorem dX10_areDifferentVariables_43 : decode cX10_areDifferentVariables 43 = .ok (.getfield 55, 3) := by decide +kernel
theorem dX10_areDifferentVariables_46 : decode cX10_areDifferentVariables 46 = .ok (.iload_n 3, 1) := by decide +kernel
theorem dX10_areDifferentVariables_47 : decode cX10_areDifferentVariables 47 = .ok (.invokevirtual 80, 3) := by decide +kernel
theorem dX10_areDifferentVariables_50 : decode cX10_areDifferentVariables 50 = .ok (.ifCond .eq 36, 3) := by decide +kernel
theorem dX10_areDifferentVariables_53 : decode cX10_areDifferentVariables 53 = .ok (.aload_n 0, 1) := by decide +kernel
theorem dX10_areDifferentVariables_54 : decode cX10_areDifferentVariables 54 = .ok (.getfield 55, 3) := by decide +kernel
theorem dX10_areDifferentVariables_57 : decode cX10_areDifferentVariables 57 = .ok (.iload_n 3, 1) := by decide +kernel
theorem dX10_areDifferentVariables_58 : decode cX10_areDifferentVariables 58 = .ok (.invokevirtual 72, 3) := by decide +kernel
theorem dX10_areDifferentVariables_61 : decode cX10_areDifferentVariables 61 = .ok (.aload_n 0, 1) := by decide +kernel
theorem dX10_areDifferentVariables_62 : decode cX10_areDifferentVariables 62 = .ok (.getfield 55, 3) := by decide +kernel
theorem dX10_areDifferentVariables_65 : decode cX10_areDifferentVariables 65 = .ok (.iload_n 2, 1) := by decide +kernel
theorem dX10_areDifferentVariables_66 : decode cX10_areDifferentVariables 66 = .ok (.invokevirtual 72, 3) := by decide +kernel
theorem dX10_areDifferentVariables_69 : decode cX10_areDifferentVariables 69 = .ok (.if_icmp .ne 5, 3) := by decide +kernel
theorem dX10_areDifferentVariables_72 : decode cX10_areDifferentVariables 72 = .ok (.iconst 0, 1) := by decide +kernel
theorem dX10_areDifferentVariables_73 : decode cX10_areDifferentVariables 73 = .ok (.ireturn, 1) := by decide +kernel
theorem dX10_areDifferentVariables_74 : decode cX10_areDifferentVariables 74 = .ok (.aload_n 0, 1) := by decide +kernel
theorem dX10_areDifferentVariables_75 : decode cX10_areDifferentVariables 75 = .ok (.getfield 55, 3) := by decide +kernel
theorem dX10_areDifferentVariables_78 : decode cX10_areDifferentVariables 78 = .ok (.iload_n 3, 1) := by decide +kernel
theorem dX10_areDifferentVariables_79 : decode cX10_areDifferentVariables 79 = .ok (.invokevirtual 77, 3) := by decide +kernel
theorem dX10_areDifferentVariables_82 : decode cX10_areDifferentVariables 82 = .ok (.istore_n 3, 1) := by decide +kernel
theorem dX10_areDifferentVariables_83 : decode cX10_areDifferentVariables 83 = .ok (.goto (-41), 3) := by decide +kernel
theorem dX10_areDifferentVariables_86 : decode cX10_areDifferentVariables 86 = .ok (.aload_n 0, 1) := by decide +kernel
theorem dX10_areDifferentVariables_87 : decode cX10_areDifferentVariables 87 = .ok (.getfield 55, 3) := by decide +kernel
theorem dX10_areDifferentVariables_90 : decode cX10_areDifferentVariables 90 = .ok (.iload_n 2, 1) := by decide +kernel
theorem dX10_areDifferentVariables_91 : decode cX10_areDifferentVariables 91 = .ok (.invokevirtual 77, 3) := by decide +kernel
theorem dX10_areDifferentVariables_94 : decode cX10_areDifferentVariables 94 = .ok (.istore_n 2, 1) := by decide +kernel
theorem dX10_areDifferentVariables_95 : decode cX10_areDifferentVariables 95 = .ok (.goto (-93), 3) := by decide +kernel
theorem dX10_areDifferentVariables_98 : decode cX10_areDifferentVariables 98 = .ok (.iconst 1, 1) := by decide +kernel
theorem dX10_areDifferentVariables_99 : decode cX10_areDifferentVariables 99 = .ok (.ireturn, 1) := by decide +kernel

section
variable {p : Program} {l : Launch} {e : Env} {R : Room} {s : State} {m : MethodId} {args : Array Value} {below : List Frame} {meth : Method} {c : Code} {H : Heap} {locs : List Loc} {Qf : State → Prop}
variable {ls : Array Slot} {D : va_G} {ca : Nat → ClassId} {A : Nat → Prop} {ad : Nat → Nat → Nat} {u : iST}
def v_10_areDifferentVariables_42b (R2 : Int → iST → Prop) (R42 : Int → Int → iST → Prop) (Q : Int → iST → Prop) (x2 : Int) (x3 : Int) (u : iST) : Prop :=
  v_7_isPair x3 (fun v5 u => 
  br (v5 = 0) (
    v_7_right x2 (fun v6 u => 
    R2 v6 u) u) (
    v_7_left x3 (fun v7 u => 
    v_7_left x2 (fun v8 u => 
    br (v7 ≠ v8) (
      v_7_right x3 (fun v9 u => 
      R42 x2 v9 u) u) (
      zt 0 (Q 0 u))) u) u)) u
def v_10_areDifferentVariables_42 (R2 : Int → iST → Prop) (Q : Int → iST → Prop) (x2 : Int) (x3 : Int) (u : iST) : Prop := ∀ R42 : Int → Int → iST → Prop, (∀ (x2 : Int) (x3 : Int) (u : iST), v_10_areDifferentVariables_42b R2 R42 Q x2 x3 u → R42 x2 x3 u) → R42 x2 x3 u
set_option maxRecDepth 20000 in
set_option maxHeartbeats 4000000 in
theorem f_10_areDifferentVariables_42 (X : yX RX10 p m c cX10_areDifferentVariables 4 s args D ca ad A) (hRf : 1 ≤ R.frames) (hRl : 21 ≤ R.locals) {Q : Int → iST → Prop} (hret : ∀ (v : Int) (u : iST) (H : Heap) (locs : List Loc) (ls : Array Slot) (pc : Nat), bz v → Q v u → yW D ca A ad s H locs u → decode cX10_areDifferentVariables pc = .ok (.ireturn, 1) → W p l e R s m args below meth c H locs 0 0 Qf (F0 m pc ls [.int (jI v)])) {R2 : Int → iST → Prop} (hR2 : ∀ (x2 : Int) (u : iST) (H : Heap) (locs : List Loc) (ls : Array Slot), inR x2 → yW D ca A ad s H locs u → lv_has ls 4 [(0, .ref (ad 0 8)), (2, .int (jI x2))] → R2 x2 u → W p l e R s m args below meth c H locs 0 0 Qf (F0 m 2 ls [])) {x2 x3 : Int} (rx2 : inR x2) (rx3 : inR x3) (hw : yW D ca A ad s H locs u) (hl : lv_has ls 4 [(0, .ref (ad 0 8)), (2, .int (jI x2)), (3, .int (jI x3))]) (h : v_10_areDifferentVariables_42 R2 Q x2 x3 u) : W p l e R s m args below meth c H locs 0 0 Qf (F0 m 42 ls []) := by
  refine h (fun x2 x3 u => ∀ (H : Heap) (locs : List Loc) (ls : Array Slot), inR x2 → inR x3 → yW D ca A ad s H locs u → lv_has ls 4 [(0, .ref (ad 0 8)), (2, .int (jI x2)), (3, .int (jI x3))] → W p l e R s m args below meth c H locs 0 0 Qf (F0 m 42 ls [])) ?_ H locs ls rx2 rx3 hw hl
  clear h hl hw rx2 rx3
  intro x2 x3 u h H locs ls rx2 rx3 hw hl
  have hR42 : ∀ (x2 : Int) (x3 : Int) (u : iST) (H : Heap) (locs : List Loc) (ls : Array Slot), inR x2 → inR x3 → yW D ca A ad s H locs u → lv_has ls 4 [(0, .ref (ad 0 8)), (2, .int (jI x2)), (3, .int (jI x3))] → (fun (x2 : Int) (x3 : Int) u => ∀ (H : Heap) (locs : List Loc) (ls : Array Slot), inR x2 → inR x3 → yW D ca A ad s H locs u → lv_has ls 4 [(0, .ref (ad 0 8)), (2, .int (jI x2)), (3, .int (jI x3))] → W p l e R s m args below meth c H locs 0 0 Qf (F0 m 42 ls [])) x2 x3 u → W p l e R s m args below meth c H locs 0 0 Qf (F0 m 42 ls []) := fun x2 x3 u H locs ls rx2 rx3 hw hl h => h H locs ls rx2 rx3 hw hl
  have hx := X.1.1
  have hb := X.1.2.1
  unfold v_10_areDifferentVariables_42b at h
  refine lv_aload_n hx hb dX10_areDifferentVariables_42 rfl (lv_at hl 0 rfl) ?_
  refine yg_10_55 X hw dX10_areDifferentVariables_43 ?_
  refine lv_iload_n hx hb dX10_areDifferentVariables_46 rfl (lv_at hl 2 rfl) ?_
  refine ycI (n := 1) (e_7_isPair rx3 h) 7 6 (r := (RX7, TX7, 9)) rfl yG_10_80 yD_7_isPair X hw rfl yGo_7 (Nat.le_trans (Nat.le_of_ble_eq_true rfl) hRf) (Nat.le_trans (Nat.le_of_ble_eq_true rfl) hRl) rfl hl.1 (Nat.le_of_ble_eq_true rfl) rfl dX10_areDifferentVariables_47 (fun v5 u H locs rv5 h hw => ?_)
  refine k_if_eq hx hb rv5 dX10_areDifferentVariables_50 (tgt := 86) rfl h (fun h => ?_) (fun h => ?_)
  · refine lv_aload_n hx hb dX10_areDifferentVariables_86 rfl (lv_at hl 0 rfl) ?_
    refine yg_10_55 X hw dX10_areDifferentVariables_87 ?_
    refine lv_iload_n hx hb dX10_areDifferentVariables_90 rfl (lv_at hl 1 rfl) ?_
    refine ycI (n := 1) (e_7_right rx2 h) 7 6 (r := (RX7, TX7, 9)) rfl yG_10_77 yD_7_right X hw rfl yGo_7 (Nat.le_trans (Nat.le_of_ble_eq_true rfl) hRf) (Nat.le_trans (Nat.le_of_ble_eq_true rfl) hRl) rfl hl.1 (Nat.le_of_ble_eq_true rfl) rfl dX10_areDifferentVariables_91 (fun v6 u H locs rv6 h hw => ?_)
    refine lv_istore_n hx hb dX10_areDifferentVariables_94 rfl hl (by decide) rfl (fun ls hl => ?_)
    have hl : lv_has ls 4 [(2, .int (jI v6)), (0, .ref (ad 0 8)), (3, .int (jI x3))] := hl
    refine lv_goto hx hb dX10_areDifferentVariables_95 (tgt := 2) rfl ?_
    exact hR2 _ _ H locs ls rv6 hw (lv_sub hl [1, 0] rfl) h
  · refine lv_aload_n hx hb dX10_areDifferentVariables_53 rfl (lv_at hl 0 rfl) ?_
    refine yg_10_55 X hw dX10_areDifferentVariables_54 ?_
    refine lv_iload_n hx hb dX10_areDifferentVariables_57 rfl (lv_at hl 2 rfl) ?_
    refine ycI (n := 1) (e_7_left rx3 h) 7 6 (r := (RX7, TX7, 9)) rfl yG_10_72 yD_7_left X hw rfl yGo_7 (Nat.le_trans (Nat.le_of_ble_eq_true rfl) hRf) (Nat.le_trans (Nat.le_of_ble_eq_true rfl) hRl) rfl hl.1 (Nat.le_of_ble_eq_true rfl) rfl dX10_areDifferentVariables_58 (fun v7 u H locs rv7 h hw => ?_)
    refine lv_aload_n hx hb dX10_areDifferentVariables_61 rfl (lv_at hl 0 rfl) ?_
    refine yg_10_55 X hw dX10_areDifferentVariables_62 ?_
    refine lv_iload_n hx hb dX10_areDifferentVariables_65 rfl (lv_at hl 1 rfl) ?_
    refine ycI (n := 1) (e_7_left rx2 h) 7 6 (r := (RX7, TX7, 9)) rfl yG_10_72 yD_7_left X hw rfl yGo_7 (Nat.le_trans (Nat.le_of_ble_eq_true rfl) hRf) (Nat.le_trans (Nat.le_of_ble_eq_true rfl) hRl) rfl hl.1 (Nat.le_of_ble_eq_true rfl) rfl dX10_areDifferentVariables_66 (fun v8 u H locs rv8 h hw => ?_)
    refine k_icmp_ne hx hb rv7 rv8 dX10_areDifferentVariables_69 (tgt := 74) rfl h (fun h => ?_) (fun h => ?_)
    · refine lv_aload_n hx hb dX10_areDifferentVariables_74 rfl (lv_at hl 0 rfl) ?_
      refine yg_10_55 X hw dX10_areDifferentVariables_75 ?_
      refine lv_iload_n hx hb dX10_areDifferentVariables_78 rfl (lv_at hl 2 rfl) ?_
      refine ycI (n := 1) (e_7_right rx3 h) 7 6 (r := (RX7, TX7, 9)) rfl yG_10_77 yD_7_right X hw rfl yGo_7 (Nat.le_trans (Nat.le_of_ble_eq_true rfl) hRf) (Nat.le_trans (Nat.le_of_ble_eq_true rfl) hRl) rfl hl.1 (Nat.le_of_ble_eq_true rfl) rfl dX10_areDifferentVariables_79 (fun v9 u H locs rv9 h hw => ?_)
      refine lv_istore_n hx hb dX10_areDifferentVariables_82 rfl hl (by decide) rfl (fun ls hl => ?_)
      have hl : lv_has ls 4 [(3, .int (jI v9)), (0, .ref (ad 0 8)), (2, .int (jI x2))] := hl
      refine lv_goto hx hb dX10_areDifferentVariables_83 (tgt := 42) rfl ?_
      exact hR42 _ _ _ H locs ls rx2 rv9 hw (lv_sub hl [1, 2, 0] rfl) h
    · refine lv_iconst hx hb dX10_areDifferentVariables_72 (v := jI 0) rfl ?_
      exact hret _ _ _ _ _ _ h.1 h.2 hw dX10_areDifferentVariables_73

def v_10_areDifferentVariables_2b (R2 : Int → iST → Prop) (Q : Int → iST → Prop) (x2 : Int) (u : iST) : Prop :=
  v_7_isPair x2 (fun v1 u => 
  br (v1 = 0) (
    zt 1 (Q 1 u)) (
    v_7_left x2 (fun v2 u => 
    v_7_isVariable v2 (fun v3 u => 
    br (v3 ≠ 0) (
      v_7_right x2 (fun v4 u => 
      v_10_areDifferentVariables_42 R2 Q x2 v4 u) u) (
      zt 0 (Q 0 u))) u) u)) u
def v_10_areDifferentVariables_2 (Q : Int → iST → Prop) (x2 : Int) (u : iST) : Prop := ∀ R2 : Int → iST → Prop, (∀ (x2 : Int) (u : iST), v_10_areDifferentVariables_2b R2 Q x2 u → R2 x2 u) → R2 x2 u
set_option maxRecDepth 20000 in
set_option maxHeartbeats 4000000 in
theorem f_10_areDifferentVariables_2 (X : yX RX10 p m c cX10_areDifferentVariables 4 s args D ca ad A) (hRf : 1 ≤ R.frames) (hRl : 21 ≤ R.locals) {Q : Int → iST → Prop} (hret : ∀ (v : Int) (u : iST) (H : Heap) (locs : List Loc) (ls : Array Slot) (pc : Nat), bz v → Q v u → yW D ca A ad s H locs u → decode cX10_areDifferentVariables pc = .ok (.ireturn, 1) → W p l e R s m args below meth c H locs 0 0 Qf (F0 m pc ls [.int (jI v)])) {x2 : Int} (rx2 : inR x2) (hw : yW D ca A ad s H locs u) (hl : lv_has ls 4 [(0, .ref (ad 0 8)), (2, .int (jI x2))]) (h : v_10_areDifferentVariables_2 Q x2 u) : W p l e R s m args below meth c H locs 0 0 Qf (F0 m 2 ls []) := by
  refine h (fun x2 u => ∀ (H : Heap) (locs : List Loc) (ls : Array Slot), inR x2 → yW D ca A ad s H locs u → lv_has ls 4 [(0, .ref (ad 0 8)), (2, .int (jI x2))] → W p l e R s m args below meth c H locs 0 0 Qf (F0 m 2 ls [])) ?_ H locs ls rx2 hw hl
  clear h hl hw rx2
  intro x2 u h H locs ls rx2 hw hl
  have hR2 : ∀ (x2 : Int) (u : iST) (H : Heap) (locs : List Loc) (ls : Array Slot), inR x2 → yW D ca A ad s H locs u → lv_has ls 4 [(0, .ref (ad 0 8)), (2, .int (jI x2))] → (fun (x2 : Int) u => ∀ (H : Heap) (locs : List Loc) (ls : Array Slot), inR x2 → yW D ca A ad s H locs u → lv_has ls 4 [(0, .ref (ad 0 8)), (2, .int (jI x2))] → W p l e R s m args below meth c H locs 0 0 Qf (F0 m 2 ls [])) x2 u → W p l e R s m args below meth c H locs 0 0 Qf (F0 m 2 ls []) := fun x2 u H locs ls rx2 hw hl h => h H locs ls rx2 hw hl
  have hx := X.1.1
  have hb := X.1.2.1
  unfold v_10_areDifferentVariables_2b at h
  refine lv_aload_n hx hb dX10_areDifferentVariables_2 rfl (lv_at hl 0 rfl) ?_
  refine yg_10_55 X hw dX10_areDifferentVariables_3 ?_
  refine lv_iload_n hx hb dX10_areDifferentVariables_6 rfl (lv_at hl 1 rfl) ?_
  refine ycI (n := 1) (e_7_isPair rx2 h) 7 6 (r := (RX7, TX7, 9)) rfl yG_10_80 yD_7_isPair X hw rfl yGo_7 (Nat.le_trans (Nat.le_of_ble_eq_true rfl) hRf) (Nat.le_trans (Nat.le_of_ble_eq_true rfl) hRl) rfl hl.1 (Nat.le_of_ble_eq_true rfl) rfl dX10_areDifferentVariables_7 (fun v1 u H locs rv1 h hw => ?_)
  refine k_if_eq hx hb rv1 dX10_areDifferentVariables_10 (tgt := 98) rfl h (fun h => ?_) (fun h => ?_)
  · refine lv_iconst hx hb dX10_areDifferentVariables_98 (v := jI 1) rfl ?_
    exact hret _ _ _ _ _ _ h.1 h.2 hw dX10_areDifferentVariables_99
  · refine lv_aload_n hx hb dX10_areDifferentVariables_13 rfl (lv_at hl 0 rfl) ?_
    refine yg_10_55 X hw dX10_areDifferentVariables_14 ?_
    refine lv_aload_n hx hb dX10_areDifferentVariables_17 rfl (lv_at hl 0 rfl) ?_
    refine yg_10_55 X hw dX10_areDifferentVariables_18 ?_
    refine lv_iload_n hx hb dX10_areDifferentVariables_21 rfl (lv_at hl 1 rfl) ?_
    refine ycI (n := 1) (e_7_left rx2 h) 7 6 (r := (RX7, TX7, 9)) rfl yG_10_72 yD_7_left X hw rfl yGo_7 (Nat.le_trans (Nat.le_of_ble_eq_true rfl) hRf) (Nat.le_trans (Nat.le_of_ble_eq_true rfl) hRl) rfl hl.1 (Nat.le_of_ble_eq_true rfl) rfl dX10_areDifferentVariables_22 (fun v2 u H locs rv2 h hw => ?_)
    refine ycI (n := 1) (e_7_isVariable rv2 h) 7 6 (r := (RX7, TX7, 9)) rfl yG_10_106 yD_7_isVariable X hw rfl yGo_7 (Nat.le_trans (Nat.le_of_ble_eq_true rfl) hRf) (Nat.le_trans (Nat.le_of_ble_eq_true rfl) hRl) rfl hl.1 (Nat.le_of_ble_eq_true rfl) rfl dX10_areDifferentVariables_25 (fun v3 u H locs rv3 h hw => ?_)
    refine k_if_ne hx hb rv3 dX10_areDifferentVariables_28 (tgt := 33) rfl h (fun h => ?_) (fun h => ?_)
    · refine lv_aload_n hx hb dX10_areDifferentVariables_33 rfl (lv_at hl 0 rfl) ?_
      refine yg_10_55 X hw dX10_areDifferentVariables_34 ?_
      refine lv_iload_n hx hb dX10_areDifferentVariables_37 rfl (lv_at hl 1 rfl) ?_
      refine ycI (n := 1) (e_7_right rx2 h) 7 6 (r := (RX7, TX7, 9)) rfl yG_10_77 yD_7_right X hw rfl yGo_7 (Nat.le_trans (Nat.le_of_ble_eq_true rfl) hRf) (Nat.le_trans (Nat.le_of_ble_eq_true rfl) hRl) rfl hl.1 (Nat.le_of_ble_eq_true rfl) rfl dX10_areDifferentVariables_38 (fun v4 u H locs rv4 h hw => ?_)
      refine lv_istore_n hx hb dX10_areDifferentVariables_41 rfl hl (by decide) rfl (fun ls hl => ?_)
      have hl : lv_has ls 4 [(3, .int (jI v4)), (0, .ref (ad 0 8)), (2, .int (jI x2))] := hl
      exact f_10_areDifferentVariables_42 X hRf hRl hret hR2 rx2 rv4 hw (lv_sub hl [1, 2, 0] rfl) h
    · refine lv_iconst hx hb dX10_areDifferentVariables_31 (v := jI 0) rfl ?_
      exact hret _ _ _ _ _ _ h.1 h.2 hw dX10_areDifferentVariables_32

def v_10_areDifferentVariables (a0 : Int) (Q : Int → iST → Prop) (u : iST) : Prop :=
  v_10_areDifferentVariables_2 Q a0 u
set_option maxRecDepth 20000 in
set_option maxHeartbeats 4000000 in
theorem f_10_areDifferentVariables_s (X : yX RX10 p m c cX10_areDifferentVariables 4 s args D ca ad A) (hRf : 1 ≤ R.frames) (hRl : 21 ≤ R.locals) {Q : Int → iST → Prop} (hret : ∀ (v : Int) (u : iST) (H : Heap) (locs : List Loc) (ls : Array Slot) (pc : Nat), bz v → Q v u → yW D ca A ad s H locs u → decode cX10_areDifferentVariables pc = .ok (.ireturn, 1) → W p l e R s m args below meth c H locs 0 0 Qf (F0 m pc ls [.int (jI v)])) {a0 : Int} (ra0 : inR a0) (hw : yW D ca A ad s H locs u) (hl : lv_has ls 4 [(0, .ref (ad 0 8)), (1, .int (jI a0))]) (h : v_10_areDifferentVariables a0 Q u) : W p l e R s m args below meth c H locs 0 0 Qf (F0 m 0 ls []) := by
  have hx := X.1.1
  have hb := X.1.2.1
  unfold v_10_areDifferentVariables at h
  refine lv_iload_n hx hb dX10_areDifferentVariables_0 rfl (lv_at hl 1 rfl) ?_
  refine lv_istore_n hx hb dX10_areDifferentVariables_1 rfl hl (by decide) rfl (fun ls hl => ?_)
  have hl : lv_has ls 4 [(2, .int (jI a0)), (0, .ref (ad 0 8)), (1, .int (jI a0))] := hl
  exact f_10_areDifferentVariables_2 X hRf hRl hret ra0 hw (lv_sub hl [1, 0] rfl) h

end
theorem e_10_areDifferentVariables {l : Launch} {a0 : Int} (ra0 : inR a0) {Q : Int → iST → Prop} {u : iST} (h : v_10_areDifferentVariables a0 Q u) : yMI l yX10_areDifferentVariables (.code yX10_areDifferentVariables cX10_areDifferentVariables 4 (some .boolean) :: wsN) { frames := 1, cells := 0, slots := 0, locals := 21 } (fun ad => [.ref (ad 0 8), .int (jI a0)]) Q u := yMZ_of (own := RX10) rfl (by decide +kernel) (fun _ => Nat.le_of_ble_eq_true rfl) (fun X hRf hRl hret hw hl => f_10_areDifferentVariables_s X hRf hRl hret ra0 hw hl h)

/-! ProofHouse$Schemes.inductionAsked -/
theorem dX8_inductionAsked_0 : decode cX8_inductionAsked 0 = .ok (.aload_n 0, 1) := by decide +kernel
theorem dX8_inductionAsked_1 : decode cX8_inductionAsked 1 = .ok (.getfield 38, 3) := by decide +kernel
theorem dX8_inductionAsked_4 : decode cX8_inductionAsked 4 = .ok (.iload_n 1, 1) := by decide +kernel
theorem dX8_inductionAsked_5 : decode cX8_inductionAsked 5 = .ok (.invokevirtual 87, 3) := by decide +kernel
theorem dX8_inductionAsked_8 : decode cX8_inductionAsked 8 = .ok (.istore_n 2, 1) := by decide +kernel
theorem dX8_inductionAsked_9 : decode cX8_inductionAsked 9 = .ok (.aload_n 0, 1) := by decide +kernel
theorem dX8_inductionAsked_10 : decode cX8_inductionAsked 10 = .ok (.getfield 38, 3) := by decide +kernel
theorem dX8_inductionAsked_13 : decode cX8_inductionAsked 13 = .ok (.iload_n 1, 1) := by decide +kernel
theorem dX8_inductionAsked_14 : decode cX8_inductionAsked 14 = .ok (.invokevirtual 176, 3) := by decide +kernel
theorem dX8_inductionAsked_17 : decode cX8_inductionAsked 17 = .ok (.iconst 1, 1) := by decide +kernel
theorem dX8_inductionAsked_18 : decode cX8_inductionAsked 18 = .ok (.isub, 1) := by decide +kernel
theorem dX8_inductionAsked_19 : decode cX8_inductionAsked 19 = .ok (.istore_n 3, 1) := by decide +kernel
theorem dX8_inductionAsked_20 : decode cX8_inductionAsked 20 = .ok (.iload_n 3, 1) := by decide +kernel
theorem dX8_inductionAsked_21 : decode cX8_inductionAsked 21 = .ok (.ifCond .lt 32, 3) := by decide +kernel
theorem dX8_inductionAsked_24 : decode cX8_inductionAsked 24 = .ok (.aload_n 0, 1) := by decide +kernel
theorem dX8_inductionAsked_25 : decode cX8_inductionAsked 25 = .ok (.getfield 38, 3) := by decide +kernel
theorem dX8_inductionAsked_28 : decode cX8_inductionAsked 28 = .ok (.iload_n 2, 1) := by decide +kernel
theorem dX8_inductionAsked_29 : decode cX8_inductionAsked 29 = .ok (.invokevirtual 193, 3) := by decide +kernel
theorem dX8_inductionAsked_32 : decode cX8_inductionAsked 32 = .ok (.ifCond .eq 21, 3) := by decide +kernel
theorem dX8_inductionAsked_35 : decode cX8_inductionAsked 35 = .ok (.aload_n 0, 1) := by decide +kernel
theorem dX8_inductionAsked_36 : decode cX8_inductionAsked 36 = .ok (.getfield 46, 3) := by decide +kernel
theorem dX8_inductionAsked_39 : decode cX8_inductionAsked 39 = .ok (.aload_n 0, 1) := by decide +kernel
theorem dX8_inductionAsked_40 : decode cX8_inductionAsked 40 = .ok (.getfield 38, 3) := by decide +kernel
theorem dX8_inductionAsked_43 : decode cX8_inductionAsked 43 = .ok (.iload_n 1, 1) := by decide +kernel
theorem dX8_inductionAsked_44 : decode cX8_inductionAsked 44 = .ok (.invokevirtual 81, 3) := by decide +kernel
theorem dX8_inductionAsked_47 : decode cX8_inductionAsked 47 = .ok (.invokevirtual 199, 3) := by decide +kernel
theorem dX8_inductionAsked_50 : decode cX8_inductionAsked 50 = .ok (.ifCond .ne 5, 3) := by decide +kernel
theorem dX8_inductionAsked_53 : decode cX8_inductionAsked 53 = .ok (.iconst 2, 1) := by decide +kernel
theorem dX8_inductionAsked_54 : decode cX8_inductionAsked 54 = .ok (.ireturn, 1) := by decide +kernel
theorem dX8_inductionAsked_55 : decode cX8_inductionAsked 55 = .ok (.aload_n 0, 1) := by decide +kernel
theorem dX8_inductionAsked_56 : decode cX8_inductionAsked 56 = .ok (.getfield 42, 3) := by decide +kernel
theorem dX8_inductionAsked_59 : decode cX8_inductionAsked 59 = .ok (.iload_n 2, 1) := by decide +kernel
theorem dX8_inductionAsked_60 : decode cX8_inductionAsked 60 = .ok (.invokevirtual 162, 3) := by decide +kernel
theorem dX8_inductionAsked_63 : decode cX8_inductionAsked 63 = .ok (.istore 4, 2) := by decide +kernel
theorem dX8_inductionAsked_65 : decode cX8_inductionAsked 65 = .ok (.iload 4, 2) := by decide +kernel
theorem dX8_inductionAsked_67 : decode cX8_inductionAsked 67 = .ok (.iconst (-1), 1) := by decide +kernel
theorem dX8_inductionAsked_68 : decode cX8_inductionAsked 68 = .ok (.if_icmp .ne 5, 3) := by decide +kernel
theorem dX8_inductionAsked_71 : decode cX8_inductionAsked 71 = .ok (.iconst 3, 1) := by decide +kernel
theorem dX8_inductionAsked_72 : decode cX8_inductionAsked 72 = .ok (.ireturn, 1) := by decide +kernel
theorem dX8_inductionAsked_73 : decode cX8_inductionAsked 73 = .ok (.aload_n 0, 1) := by decide +kernel
theorem dX8_inductionAsked_74 : decode cX8_inductionAsked 74 = .ok (.getfield 42, 3) := by decide +kernel
theorem dX8_inductionAsked_77 : decode cX8_inductionAsked 77 = .ok (.getfield 202, 3) := by decide +kernel
theorem dX8_inductionAsked_80 : decode cX8_inductionAsked 80 = .ok (.iload 4, 2) := by decide +kernel
theorem dX8_inductionAsked_82 : decode cX8_inductionAsked 82 = .ok (.iaload, 1) := by decide +kernel
theorem dX8_inductionAsked_83 : decode cX8_inductionAsked 83 = .ok (.iconst (-1), 1) := by decide +kernel
theorem dX8_inductionAsked_84 : decode cX8_inductionAsked 84 = .ok (.if_icmp .eq 21, 3) := by decide +kernel
theorem dX8_inductionAsked_87 : decode cX8_inductionAsked 87 = .ok (.aload_n 0, 1) := by decide +kernel
theorem dX8_inductionAsked_88 : decode cX8_inductionAsked 88 = .ok (.getfield 42, 3) := by decide +kernel
theorem dX8_inductionAsked_91 : decode cX8_inductionAsked 91 = .ok (.getfield 129, 3) := by decide +kernel
theorem dX8_inductionAsked_94 : decode cX8_inductionAsked 94 = .ok (.iload 4, 2) := by decide +kernel
theorem dX8_inductionAsked_96 : decode cX8_inductionAsked 96 = .ok (.iaload, 1) := by decide +kernel
theorem dX8_inductionAsked_97 : decode cX8_inductionAsked 97 = .ok (.iload_n 3, 1) := by decide +kernel
theorem dX8_inductionAsked_98 : decode cX8_inductionAsked 98 = .ok (.if_icmp .ne 7, 3) := by decide +kernel
theorem dX8_inductionAsked_101 : decode cX8_inductionAsked 101 = .ok (.iconst 1, 1) := by decide +kernel
theorem dX8_inductionAsked_102 : decode cX8_inductionAsked 102 = .ok (.goto 4, 3) := by decide +kernel
theorem dX8_inductionAsked_105 : decode cX8_inductionAsked 105 = .ok (.iconst 0, 1) := by decide +kernel
theorem dX8_inductionAsked_106 : decode cX8_inductionAsked 106 = .ok (.istore 5, 2) := by decide +kernel
theorem dX8_inductionAsked_108 : decode cX8_inductionAsked 108 = .ok (.iload 5, 2) := by decide +kernel
theorem dX8_inductionAsked_110 : decode cX8_inductionAsked 110 = .ok (.ifCond .eq 7, 3) := by decide +kernel
theorem dX8_inductionAsked_113 : decode cX8_inductionAsked 113 = .ok (.iconst 0, 1) := by decide +kernel
theorem dX8_inductionAsked_114 : decode cX8_inductionAsked 114 = .ok (.goto 4, 3) := by decide +kernel
theorem dX8_inductionAsked_117 : decode cX8_inductionAsked 117 = .ok (.iconst 2, 1) := by decide +kernel
theorem dX8_inductionAsked_118 : decode cX8_inductionAsked 118 = .ok (.ireturn, 1) := by decide +kernel

section
variable {p : Program} {l : Launch} {e : Env} {R : Room} {s : State} {m : MethodId} {args : Array Value} {below : List Frame} {meth : Method} {c : Code} {H : Heap} {locs : List Loc} {Qf : State → Prop}
variable {ls : Array Slot} {D : va_G} {ca : Nat → ClassId} {A : Nat → Prop} {ad : Nat → Nat → Nat} {u : iST}
def v_8_inductionAsked_106 (Q : Int → iST → Prop) (y0 : Int) (u : iST) : Prop :=
  br (y0 = 0) (
    Q 2 u) (
    Q 0 u)
set_option maxRecDepth 20000 in
set_option maxHeartbeats 4000000 in
theorem f_8_inductionAsked_106 (X : yX RX8 p m c cX8_inductionAsked 6 s args D ca ad A) (hRf : 2 ≤ R.frames) (hRl : 44 ≤ R.locals) {Q : Int → iST → Prop} (hret : ∀ (v : Int) (u : iST) (H : Heap) (locs : List Loc) (ls : Array Slot) (pc : Nat), inR v → Q v u → yW D ca A ad s H locs u → decode cX8_inductionAsked pc = .ok (.ireturn, 1) → W p l e R s m args below meth c H locs 0 0 Qf (F0 m pc ls [.int (jI v)])) {y0 : Int} (ry0 : inR y0) (hw : yW D ca A ad s H locs u) (hl : lv_has ls 6 [(0, .ref (ad 0 7))]) (h : v_8_inductionAsked_106 Q y0 u) : W p l e R s m args below meth c H locs 0 0 Qf (F0 m 106 ls [.int (jI y0)]) := by
  have hx := X.1.1
  have hb := X.1.2.1
  unfold v_8_inductionAsked_106 at h
  refine lv_istore hx hb dX8_inductionAsked_106 hl (by decide) rfl (fun ls hl => ?_)
  have hl : lv_has ls 6 [(5, .int (jI y0)), (0, .ref (ad 0 7))] := hl
  refine lv_iload hx hb dX8_inductionAsked_108 (lv_at hl 0 rfl) ?_
  refine k_if_eq hx hb ry0 dX8_inductionAsked_110 (tgt := 117) rfl h (fun h => ?_) (fun h => ?_)
  · refine lv_iconst hx hb dX8_inductionAsked_117 (v := jI 2) rfl ?_
    exact hret _ _ _ _ _ _ (by decide) h hw dX8_inductionAsked_118
  · refine lv_iconst hx hb dX8_inductionAsked_113 (v := jI 0) rfl ?_
    refine lv_goto hx hb dX8_inductionAsked_114 (tgt := 118) rfl ?_
    exact hret _ _ _ _ _ _ (by decide) h hw dX8_inductionAsked_118

def v_8_inductionAsked_105 (Q : Int → iST → Prop) (u : iST) : Prop :=
  v_8_inductionAsked_106 Q 0 u
set_option maxRecDepth 20000 in
set_option maxHeartbeats 4000000 in
theorem f_8_inductionAsked_105 (X : yX RX8 p m c cX8_inductionAsked 6 s args D ca ad A) (hRf : 2 ≤ R.frames) (hRl : 44 ≤ R.locals) {Q : Int → iST → Prop} (hret : ∀ (v : Int) (u : iST) (H : Heap) (locs : List Loc) (ls : Array Slot) (pc : Nat), inR v → Q v u → yW D ca A ad s H locs u → decode cX8_inductionAsked pc = .ok (.ireturn, 1) → W p l e R s m args below meth c H locs 0 0 Qf (F0 m pc ls [.int (jI v)])) (hw : yW D ca A ad s H locs u) (hl : lv_has ls 6 [(0, .ref (ad 0 7))]) (h : v_8_inductionAsked_105 Q u) : W p l e R s m args below meth c H locs 0 0 Qf (F0 m 105 ls []) := by
  have hx := X.1.1
  have hb := X.1.2.1
  unfold v_8_inductionAsked_105 at h
  refine lv_iconst hx hb dX8_inductionAsked_105 (v := jI 0) rfl ?_
  exact f_8_inductionAsked_106 X hRf hRl hret (by decide) hw hl h

def v_8_inductionAsked (a0 : Int) (Q : Int → iST → Prop) (u : iST) : Prop :=
  v_7_left a0 (fun v1 u => 
  v_7_lengthOf a0 (fun v2 u => 
  ov (v2 - 1) (
  br ((v2 - 1) < 0) (
    Q 2 u) (
    v_7_isName v1 (fun v4 u => 
    br (v4 = 0) (
      Q 2 u) (
      v_7_right a0 (fun v5 u => 
      v_10_areDifferentVariables v5 (fun v6 u => 
      br (v6 ≠ 0) (
        v_0_functionOf v1 (fun v7 u => 
        br (v7 ≠ (-1)) (
          bd v7 40 (rd (u.2.1 4 v7) (fun v8 => 
          br (v8 = (-1)) (
            v_8_inductionAsked_105 Q u) (
            bd v7 40 (rd (u.2.1 2 v7) (fun v9 => 
            br (v9 ≠ (v2 - 1)) (
              v_8_inductionAsked_105 Q u) (
              v_8_inductionAsked_106 Q 1 u))))))) (
          Q 3 u)) u) (
        Q 2 u)) u) u)) u))) u) u
set_option maxRecDepth 20000 in
set_option maxHeartbeats 4000000 in
theorem f_8_inductionAsked_s (X : yX RX8 p m c cX8_inductionAsked 6 s args D ca ad A) (hRf : 2 ≤ R.frames) (hRl : 44 ≤ R.locals) {Q : Int → iST → Prop} (hret : ∀ (v : Int) (u : iST) (H : Heap) (locs : List Loc) (ls : Array Slot) (pc : Nat), inR v → Q v u → yW D ca A ad s H locs u → decode cX8_inductionAsked pc = .ok (.ireturn, 1) → W p l e R s m args below meth c H locs 0 0 Qf (F0 m pc ls [.int (jI v)])) {a0 : Int} (ra0 : inR a0) (hw : yW D ca A ad s H locs u) (hl : lv_has ls 6 [(0, .ref (ad 0 7)), (1, .int (jI a0))]) (h : v_8_inductionAsked a0 Q u) : W p l e R s m args below meth c H locs 0 0 Qf (F0 m 0 ls []) := by
  have hx := X.1.1
  have hb := X.1.2.1
  unfold v_8_inductionAsked at h
  refine lv_aload_n hx hb dX8_inductionAsked_0 rfl (lv_at hl 0 rfl) ?_
  refine yg_8_38 X hw dX8_inductionAsked_1 ?_
  refine lv_iload_n hx hb dX8_inductionAsked_4 rfl (lv_at hl 1 rfl) ?_
  refine ycI (n := 1) (e_7_left ra0 h) 7 6 (r := (RX7, TX7, 9)) rfl yG_8_87 yD_7_left X hw rfl yGo_7 (Nat.le_trans (Nat.le_of_ble_eq_true rfl) hRf) (Nat.le_trans (Nat.le_of_ble_eq_true rfl) hRl) rfl hl.1 (Nat.le_of_ble_eq_true rfl) rfl dX8_inductionAsked_5 (fun v1 u H locs rv1 h hw => ?_)
  refine lv_istore_n hx hb dX8_inductionAsked_8 rfl hl (by decide) rfl (fun ls hl => ?_)
  have hl : lv_has ls 6 [(2, .int (jI v1)), (0, .ref (ad 0 7)), (1, .int (jI a0))] := hl
  refine lv_aload_n hx hb dX8_inductionAsked_9 rfl (lv_at hl 1 rfl) ?_
  refine yg_8_38 X hw dX8_inductionAsked_10 ?_
  refine lv_iload_n hx hb dX8_inductionAsked_13 rfl (lv_at hl 2 rfl) ?_
  refine ycI (n := 1) (e_7_lengthOf ra0 h) 7 6 (r := (RX7, TX7, 9)) rfl yG_8_176 yD_7_lengthOf X hw rfl yGo_7 (Nat.le_trans (Nat.le_of_ble_eq_true rfl) hRf) (Nat.le_trans (Nat.le_of_ble_eq_true rfl) hRl) rfl hl.1 (Nat.le_of_ble_eq_true rfl) rfl dX8_inductionAsked_14 (fun v2 u H locs rv2 h hw => ?_)
  refine lv_iconst hx hb dX8_inductionAsked_17 (v := jI 1) rfl ?_
  refine k_isub hx hb dX8_inductionAsked_18 h (fun r3 h => ?_)
  refine lv_istore_n hx hb dX8_inductionAsked_19 rfl hl (by decide) rfl (fun ls hl => ?_)
  have hl : lv_has ls 6 [(3, .int (jI (v2 - 1))), (2, .int (jI v1)), (0, .ref (ad 0 7)), (1, .int (jI a0))] := hl
  refine lv_iload_n hx hb dX8_inductionAsked_20 rfl (lv_at hl 0 rfl) ?_
  refine k_if_lt hx hb r3 dX8_inductionAsked_21 (tgt := 53) rfl h (fun h => ?_) (fun h => ?_)
  · refine lv_iconst hx hb dX8_inductionAsked_53 (v := jI 2) rfl ?_
    exact hret _ _ _ _ _ _ (by decide) h hw dX8_inductionAsked_54
  · refine lv_aload_n hx hb dX8_inductionAsked_24 rfl (lv_at hl 2 rfl) ?_
    refine yg_8_38 X hw dX8_inductionAsked_25 ?_
    refine lv_iload_n hx hb dX8_inductionAsked_28 rfl (lv_at hl 1 rfl) ?_
    refine ycI (n := 1) (e_7_isName rv1 h) 7 6 (r := (RX7, TX7, 9)) rfl yG_8_193 yD_7_isName X hw rfl yGo_7 (Nat.le_trans (Nat.le_of_ble_eq_true rfl) hRf) (Nat.le_trans (Nat.le_of_ble_eq_true rfl) hRl) rfl hl.1 (Nat.le_of_ble_eq_true rfl) rfl dX8_inductionAsked_29 (fun v4 u H locs rv4 h hw => ?_)
    refine k_if_eq hx hb rv4 dX8_inductionAsked_32 (tgt := 53) rfl h (fun h => ?_) (fun h => ?_)
    · refine lv_iconst hx hb dX8_inductionAsked_53 (v := jI 2) rfl ?_
      exact hret _ _ _ _ _ _ (by decide) h hw dX8_inductionAsked_54
    · refine lv_aload_n hx hb dX8_inductionAsked_35 rfl (lv_at hl 2 rfl) ?_
      refine yg_8_46 X hw dX8_inductionAsked_36 ?_
      refine lv_aload_n hx hb dX8_inductionAsked_39 rfl (lv_at hl 2 rfl) ?_
      refine yg_8_38 X hw dX8_inductionAsked_40 ?_
      refine lv_iload_n hx hb dX8_inductionAsked_43 rfl (lv_at hl 3 rfl) ?_
      refine ycI (n := 1) (e_7_right ra0 h) 7 6 (r := (RX7, TX7, 9)) rfl yG_8_81 yD_7_right X hw rfl yGo_7 (Nat.le_trans (Nat.le_of_ble_eq_true rfl) hRf) (Nat.le_trans (Nat.le_of_ble_eq_true rfl) hRl) rfl hl.1 (Nat.le_of_ble_eq_true rfl) rfl dX8_inductionAsked_44 (fun v5 u H locs rv5 h hw => ?_)
      refine ycI (n := 1) (e_10_areDifferentVariables rv5 h) 10 8 (r := (RX10, TX10, 16)) rfl yG_8_199 yD_10_areDifferentVariables X hw rfl yGo_10 (Nat.le_trans (Nat.le_of_ble_eq_true rfl) hRf) (Nat.le_trans (Nat.le_of_ble_eq_true rfl) hRl) rfl hl.1 (Nat.le_of_ble_eq_true rfl) rfl dX8_inductionAsked_47 (fun v6 u H locs rv6 h hw => ?_)
      refine k_if_ne hx hb rv6 dX8_inductionAsked_50 (tgt := 55) rfl h (fun h => ?_) (fun h => ?_)
      · refine lv_aload_n hx hb dX8_inductionAsked_55 rfl (lv_at hl 2 rfl) ?_
        refine yg_8_42 X hw dX8_inductionAsked_56 ?_
        refine lv_iload_n hx hb dX8_inductionAsked_59 rfl (lv_at hl 1 rfl) ?_
        refine ycI (n := 1) (e_0_functionOf rv1 h) 0 0 (r := (RX0, TX0, 21)) rfl yG_8_162 yD_0_functionOf X hw rfl yGo_0 (Nat.le_trans (Nat.le_of_ble_eq_true rfl) hRf) (Nat.le_trans (Nat.le_of_ble_eq_true rfl) hRl) rfl hl.1 (Nat.le_of_ble_eq_true rfl) rfl dX8_inductionAsked_60 (fun v7 u H locs rv7 h hw => ?_)
        refine lv_istore hx hb dX8_inductionAsked_63 hl (by decide) rfl (fun ls hl => ?_)
        have hl : lv_has ls 6 [(4, .int (jI v7)), (3, .int (jI (v2 - 1))), (2, .int (jI v1)), (0, .ref (ad 0 7)), (1, .int (jI a0))] := hl
        refine lv_iload hx hb dX8_inductionAsked_65 (lv_at hl 0 rfl) ?_
        refine lv_iconst hx hb dX8_inductionAsked_67 (v := jI (-1)) rfl ?_
        refine k_icmp_ne hx hb rv7 (by decide) dX8_inductionAsked_68 (tgt := 73) rfl h (fun h => ?_) (fun h => ?_)
        · refine lv_aload_n hx hb dX8_inductionAsked_73 rfl (lv_at hl 3 rfl) ?_
          refine yg_8_42 X hw dX8_inductionAsked_74 ?_
          refine yg_8_202 X hw dX8_inductionAsked_77 ?_
          refine lv_iload hx hb dX8_inductionAsked_80 (lv_at hl 0 rfl) ?_
          refine yl_4 X hw rv7 dX8_inductionAsked_82 h (fun v8 rv8 h => ?_)
          refine lv_iconst hx hb dX8_inductionAsked_83 (v := jI (-1)) rfl ?_
          refine k_icmp_eq hx hb rv8 (by decide) dX8_inductionAsked_84 (tgt := 105) rfl h (fun h => ?_) (fun h => ?_)
          · exact f_8_inductionAsked_105 X hRf hRl hret hw (lv_sub hl [3] rfl) h
          · refine lv_aload_n hx hb dX8_inductionAsked_87 rfl (lv_at hl 3 rfl) ?_
            refine yg_8_42 X hw dX8_inductionAsked_88 ?_
            refine yg_8_129 X hw dX8_inductionAsked_91 ?_
            refine lv_iload hx hb dX8_inductionAsked_94 (lv_at hl 0 rfl) ?_
            refine yl_2 X hw rv7 dX8_inductionAsked_96 h (fun v9 rv9 h => ?_)
            refine lv_iload_n hx hb dX8_inductionAsked_97 rfl (lv_at hl 1 rfl) ?_
            refine k_icmp_ne hx hb rv9 r3 dX8_inductionAsked_98 (tgt := 105) rfl h (fun h => ?_) (fun h => ?_)
            · exact f_8_inductionAsked_105 X hRf hRl hret hw (lv_sub hl [3] rfl) h
            · refine lv_iconst hx hb dX8_inductionAsked_101 (v := jI 1) rfl ?_
              refine lv_goto hx hb dX8_inductionAsked_102 (tgt := 106) rfl ?_
              exact f_8_inductionAsked_106 X hRf hRl hret (by decide) hw (lv_sub hl [3] rfl) h
        · refine lv_iconst hx hb dX8_inductionAsked_71 (v := jI 3) rfl ?_
          exact hret _ _ _ _ _ _ (by decide) h hw dX8_inductionAsked_72
      · refine lv_iconst hx hb dX8_inductionAsked_53 (v := jI 2) rfl ?_
        exact hret _ _ _ _ _ _ (by decide) h hw dX8_inductionAsked_54

end
theorem e_8_inductionAsked {l : Launch} {a0 : Int} (ra0 : inR a0) {Q : Int → iST → Prop} {u : iST} (h : v_8_inductionAsked a0 Q u) : yMI l yX8_inductionAsked (.code yX8_inductionAsked cX8_inductionAsked 6 (some .int) :: wsN) { frames := 2, cells := 0, slots := 0, locals := 44 } (fun ad => [.ref (ad 0 7), .int (jI a0)]) Q u := yMI_of (own := RX8) rfl (by decide +kernel) (fun _ => Nat.le_of_ble_eq_true rfl) (fun X hRf hRl hret hw hl => f_8_inductionAsked_s X hRf hRl hret ra0 hw hl h)
