/-! ProofHouse$Rewriter.compute -/
theorem dX6_compute_0 : decode cX6_compute 0 = .ok (.aload_n 1, 1) := by decide +kernel
theorem dX6_compute_1 : decode cX6_compute 1 = .ok (.iconst 5, 1) := by decide +kernel
theorem dX6_compute_2 : decode cX6_compute 2 = .ok (.iaload, 1) := by decide +kernel
theorem dX6_compute_3 : decode cX6_compute 3 = .ok (.istore_n 2, 1) := by decide +kernel
theorem dX6_compute_4 : decode cX6_compute 4 = .ok (.aload_n 0, 1) := by decide +kernel
theorem dX6_compute_5 : decode cX6_compute 5 = .ok (.getfield 39, 3) := by decide +kernel
theorem dX6_compute_8 : decode cX6_compute 8 = .ok (.iload_n 2, 1) := by decide +kernel
theorem dX6_compute_9 : decode cX6_compute 9 = .ok (.invokevirtual 120, 3) := by decide +kernel
theorem dX6_compute_12 : decode cX6_compute 12 = .ok (.istore_n 3, 1) := by decide +kernel
theorem dX6_compute_13 : decode cX6_compute 13 = .ok (.aload_n 1, 1) := by decide +kernel
theorem dX6_compute_14 : decode cX6_compute 14 = .ok (.iconst 3, 1) := by decide +kernel
theorem dX6_compute_15 : decode cX6_compute 15 = .ok (.iload_n 3, 1) := by decide +kernel
theorem dX6_compute_16 : decode cX6_compute 16 = .ok (.iconst 4, 1) := by decide +kernel
theorem dX6_compute_17 : decode cX6_compute 17 = .ok (.if_icmp .ne 8, 3) := by decide +kernel
theorem dX6_compute_20 : decode cX6_compute 20 = .ok (.bipush 8, 2) := by decide +kernel
theorem dX6_compute_22 : decode cX6_compute 22 = .ok (.goto 16, 3) := by decide +kernel
theorem dX6_compute_25 : decode cX6_compute 25 = .ok (.iload_n 3, 1) := by decide +kernel
theorem dX6_compute_26 : decode cX6_compute 26 = .ok (.bipush 9, 2) := by decide +kernel
theorem dX6_compute_28 : decode cX6_compute 28 = .ok (.if_icmp .ne 8, 3) := by decide +kernel
theorem dX6_compute_31 : decode cX6_compute 31 = .ok (.bipush 9, 2) := by decide +kernel
theorem dX6_compute_33 : decode cX6_compute 33 = .ok (.goto 5, 3) := by decide +kernel
theorem dX6_compute_36 : decode cX6_compute 36 = .ok (.bipush 10, 2) := by decide +kernel
theorem dX6_compute_38 : decode cX6_compute 38 = .ok (.iastore, 1) := by decide +kernel
theorem dX6_compute_39 : decode cX6_compute 39 = .ok (.aload_n 0, 1) := by decide +kernel
theorem dX6_compute_40 : decode cX6_compute 40 = .ok (.getfield 47, 3) := by decide +kernel
theorem dX6_compute_43 : decode cX6_compute 43 = .ok (.iload_n 2, 1) := by decide +kernel
theorem dX6_compute_44 : decode cX6_compute 44 = .ok (.invokevirtual 216, 3) := by decide +kernel
theorem dX6_compute_47 : decode cX6_compute 47 = .ok (.ifCond .ne 4, 3) := by decide +kernel
theorem dX6_compute_50 : decode cX6_compute 50 = .ok (.return_, 1) := by decide +kernel
theorem dX6_compute_51 : decode cX6_compute 51 = .ok (.iload_n 3, 1) := by decide +kernel
theorem dX6_compute_52 : decode cX6_compute 52 = .ok (.bipush 16, 2) := by decide +kernel
theorem dX6_compute_54 : decode cX6_compute 54 = .ok (.if_icmp .gt 53, 3) := by decide +kernel
theorem dX6_compute_57 : decode cX6_compute 57 = .ok (.aload_n 0, 1) := by decide +kernel
theorem dX6_compute_58 : decode cX6_compute 58 = .ok (.getfield 39, 3) := by decide +kernel
theorem dX6_compute_61 : decode cX6_compute 61 = .ok (.aload_n 0, 1) := by decide +kernel
theorem dX6_compute_62 : decode cX6_compute 62 = .ok (.getfield 39, 3) := by decide +kernel
theorem dX6_compute_65 : decode cX6_compute 65 = .ok (.iload_n 2, 1) := by decide +kernel
theorem dX6_compute_66 : decode cX6_compute 66 = .ok (.iconst 1, 1) := by decide +kernel
theorem dX6_compute_67 : decode cX6_compute 67 = .ok (.invokevirtual 109, 3) := by decide +kernel
theorem dX6_compute_70 : decode cX6_compute 70 = .ok (.invokevirtual 219, 3) := by decide +kernel
theorem dX6_compute_73 : decode cX6_compute 73 = .ok (.istore 5, 2) := by decide +kernel
theorem dX6_compute_75 : decode cX6_compute 75 = .ok (.aload_n 0, 1) := by decide +kernel
theorem dX6_compute_76 : decode cX6_compute 76 = .ok (.getfield 51, 3) := by decide +kernel
theorem dX6_compute_79 : decode cX6_compute 79 = .ok (.iload_n 3, 1) := by decide +kernel
theorem dX6_compute_80 : decode cX6_compute 80 = .ok (.iload 5, 2) := by decide +kernel
theorem dX6_compute_82 : decode cX6_compute 82 = .ok (.aload_n 0, 1) := by decide +kernel
theorem dX6_compute_83 : decode cX6_compute 83 = .ok (.getfield 39, 3) := by decide +kernel
theorem dX6_compute_86 : decode cX6_compute 86 = .ok (.aload_n 0, 1) := by decide +kernel
theorem dX6_compute_87 : decode cX6_compute 87 = .ok (.getfield 39, 3) := by decide +kernel
theorem dX6_compute_90 : decode cX6_compute 90 = .ok (.iload_n 2, 1) := by decide +kernel
theorem dX6_compute_91 : decode cX6_compute 91 = .ok (.iconst 2, 1) := by decide +kernel
theorem dX6_compute_92 : decode cX6_compute 92 = .ok (.invokevirtual 109, 3) := by decide +kernel
theorem dX6_compute_95 : decode cX6_compute 95 = .ok (.invokevirtual 219, 3) := by decide +kernel
theorem dX6_compute_98 : decode cX6_compute 98 = .ok (.iconst 0, 1) := by decide +kernel
theorem dX6_compute_99 : decode cX6_compute 99 = .ok (.invokevirtual 222, 3) := by decide +kernel
theorem dX6_compute_102 : decode cX6_compute 102 = .ok (.istore 4, 2) := by decide +kernel
theorem dX6_compute_104 : decode cX6_compute 104 = .ok (.goto 15, 3) := by decide +kernel
theorem dX6_compute_107 : decode cX6_compute 107 = .ok (.aload_n 0, 1) := by decide +kernel
theorem dX6_compute_108 : decode cX6_compute 108 = .ok (.getfield 51, 3) := by decide +kernel
theorem dX6_compute_111 : decode cX6_compute 111 = .ok (.iload_n 2, 1) := by decide +kernel
theorem dX6_compute_112 : decode cX6_compute 112 = .ok (.bipush 100, 2) := by decide +kernel
theorem dX6_compute_114 : decode cX6_compute 114 = .ok (.invokevirtual 227, 3) := by decide +kernel
theorem dX6_compute_117 : decode cX6_compute 117 = .ok (.istore 4, 2) := by decide +kernel
theorem dX6_compute_119 : decode cX6_compute 119 = .ok (.iload 4, 2) := by decide +kernel
theorem dX6_compute_121 : decode cX6_compute 121 = .ok (.iconst (-1), 1) := by decide +kernel
theorem dX6_compute_122 : decode cX6_compute 122 = .ok (.if_icmp .eq 16, 3) := by decide +kernel
theorem dX6_compute_125 : decode cX6_compute 125 = .ok (.aload_n 0, 1) := by decide +kernel
theorem dX6_compute_126 : decode cX6_compute 126 = .ok (.aload_n 0, 1) := by decide +kernel
theorem dX6_compute_127 : decode cX6_compute 127 = .ok (.getfield 39, 3) := by decide +kernel
theorem dX6_compute_130 : decode cX6_compute 130 = .ok (.iload 4, 2) := by decide +kernel
theorem dX6_compute_132 : decode cX6_compute 132 = .ok (.invokevirtual 230, 3) := by decide +kernel
theorem dX6_compute_135 : decode cX6_compute 135 = .ok (.invokevirtual 96, 3) := by decide +kernel
theorem dX6_compute_138 : decode cX6_compute 138 = .ok (.return_, 1) := by decide +kernel

section
variable {p : Program} {l : Launch} {e : Env} {R : Room} {s : State} {m : MethodId} {args : Array Value} {below : List Frame} {meth : Method} {c : Code} {H : Heap} {locs : List Loc} {Qf : State → Prop}
variable {ls : Array Slot} {D : va_G} {ca : Nat → ClassId} {A : Nat → Prop} {ad : Nat → Nat → Nat} {u : iST}
def v_6_compute_119 (Q : iST → Prop) (x4 : Int) (u : iST) : Prop :=
  br (x4 = (-1)) (
    Q u) (
    v_7_constantOf x4 (fun v5 u => 
    v_6_finish v5 (fun u => 
    Q u) u) u)
set_option maxRecDepth 20000 in
set_option maxHeartbeats 4000000 in
theorem f_6_compute_119 (X : yX RX6 p m c cX6_compute 6 s args D ca ad A) (hRf : 3 ≤ R.frames) (hRl : 84 ≤ R.locals) {Q : iST → Prop} (hret : ∀ (u : iST) (H : Heap) (locs : List Loc) (ls : Array Slot) (pc : Nat), Q u → yW D ca A ad s H locs u → decode cX6_compute pc = .ok (.return_, 1) → W p l e R s m args below meth c H locs 0 0 Qf (F0 m pc ls [])) {x4 : Int} (rx4 : inR x4) (hw : yW D ca A ad s H locs u) (hl : lv_has ls 6 [(0, .ref (ad 0 5)), (4, .int (jI x4))]) (h : v_6_compute_119 Q x4 u) : W p l e R s m args below meth c H locs 0 0 Qf (F0 m 119 ls []) := by
  have hx := X.1.1
  have hb := X.1.2.1
  unfold v_6_compute_119 at h
  refine lv_iload hx hb dX6_compute_119 (lv_at hl 1 rfl) ?_
  refine lv_iconst hx hb dX6_compute_121 (v := jI (-1)) rfl ?_
  refine k_icmp_eq hx hb rx4 (by decide) dX6_compute_122 (tgt := 138) rfl h (fun h => ?_) (fun h => ?_)
  · exact hret _ _ _ _ _ h hw dX6_compute_138
  · refine lv_aload_n hx hb dX6_compute_125 rfl (lv_at hl 0 rfl) ?_
    refine lv_aload_n hx hb dX6_compute_126 rfl (lv_at hl 0 rfl) ?_
    refine yg_6_39 X hw dX6_compute_127 ?_
    refine lv_iload hx hb dX6_compute_130 (lv_at hl 1 rfl) ?_
    refine ycI (n := 1) (e_7_constantOf rx4 h) 7 6 (r := (RX7, TX7, 9)) rfl yG_6_230 yD_7_constantOf X hw rfl yGo_7 (Nat.le_trans (Nat.le_of_ble_eq_true rfl) hRf) (Nat.le_trans (Nat.le_of_ble_eq_true rfl) hRl) rfl hl.1 (Nat.le_of_ble_eq_true rfl) rfl dX6_compute_132 (fun v5 u H locs rv5 h hw => ?_)
    refine ycV (n := 1) (e_6_finish rv5 h) 6 5 (r := (RX6, TX6, 14)) rfl yG_6_96 yD_6_finish X hw rfl yGo_6 (Nat.le_trans (Nat.le_of_ble_eq_true rfl) hRf) (Nat.le_trans (Nat.le_of_ble_eq_true rfl) hRl) rfl hl.1 (Nat.le_of_ble_eq_true rfl) rfl dX6_compute_135 (fun u H locs h hw => ?_)
    exact hret _ _ _ _ _ h hw dX6_compute_138

def v_6_compute_38 (Q : iST → Prop) (x2 : Int) (x3 : Int) (y0 : Int) (y1 : Int) (y2 : Int) (u : iST) : Prop :=
  bd y1 17 (sw (iA u 51 (17 * y0 + y1) y2) (fun u => 
  v_10_isOfConstants x2 (fun v3 u => 
  br (v3 ≠ 0) (
    br (16 < x3) (
      v_2_evaluated x2 100 (fun v4 u => 
      v_6_compute_119 Q v4 u) u) (
      v_7_item x2 1 (fun v7 u => 
      v_7_valueOf v7 (fun v8 u => 
      v_7_item x2 2 (fun v9 u => 
      v_7_valueOf v9 (fun v10 u => 
      v_2_baseValue x3 v8 v10 0 (fun v11 u => 
      v_6_compute_119 Q v11 u) u) u) u) u) u)) (
    Q u)) u))
set_option maxRecDepth 20000 in
set_option maxHeartbeats 4000000 in
theorem f_6_compute_38 (X : yX RX6 p m c cX6_compute 6 s args D ca ad A) (hRf : 3 ≤ R.frames) (hRl : 84 ≤ R.locals) {Q : iST → Prop} (hret : ∀ (u : iST) (H : Heap) (locs : List Loc) (ls : Array Slot) (pc : Nat), Q u → yW D ca A ad s H locs u → decode cX6_compute pc = .ok (.return_, 1) → W p l e R s m args below meth c H locs 0 0 Qf (F0 m pc ls [])) {x2 x3 y0 y1 y2 : Int} (rx2 : inR x2) (rx3 : inR x3) (ry0 : (0 ≤ y0 ∧ y0 < 60)) (ry1 : inR y1) (ry2 : inR y2) (hw : yW D ca A ad s H locs u) (hl : lv_has ls 6 [(0, .ref (ad 0 5)), (2, .int (jI x2)), (3, .int (jI x3))]) (h : v_6_compute_38 Q x2 x3 y0 y1 y2 u) : W p l e R s m args below meth c H locs 0 0 Qf (F0 m 38 ls [.int (jI y2), .int (jI y1), .ref (ad 7 y0.toNat)]) := by
  have hx := X.1.1
  have hb := X.1.2.1
  unfold v_6_compute_38 at h
  refine yft_frames X hw ry0 ry1 ry2 dX6_compute_38 h (fun H locs u hw h => ?_)
  refine lv_aload_n hx hb dX6_compute_39 rfl (lv_at hl 0 rfl) ?_
  refine yg_6_47 X hw dX6_compute_40 ?_
  refine lv_iload_n hx hb dX6_compute_43 rfl (lv_at hl 1 rfl) ?_
  refine ycI (n := 1) (e_10_isOfConstants rx2 h) 10 8 (r := (RX10, TX10, 16)) rfl yG_6_216 yD_10_isOfConstants X hw rfl yGo_10 (Nat.le_trans (Nat.le_of_ble_eq_true rfl) hRf) (Nat.le_trans (Nat.le_of_ble_eq_true rfl) hRl) rfl hl.1 (Nat.le_of_ble_eq_true rfl) rfl dX6_compute_44 (fun v3 u H locs rv3 h hw => ?_)
  refine k_if_ne hx hb rv3 dX6_compute_47 (tgt := 51) rfl h (fun h => ?_) (fun h => ?_)
  · refine lv_iload_n hx hb dX6_compute_51 rfl (lv_at hl 2 rfl) ?_
    refine lv_bipush hx hb dX6_compute_52 (v := jI 16) rfl ?_
    refine k_icmp_gt hx hb rx3 (by decide) dX6_compute_54 (tgt := 107) rfl h (fun h => ?_) (fun h => ?_)
    · refine lv_aload_n hx hb dX6_compute_107 rfl (lv_at hl 0 rfl) ?_
      refine yg_6_51 X hw dX6_compute_108 ?_
      refine lv_iload_n hx hb dX6_compute_111 rfl (lv_at hl 1 rfl) ?_
      refine lv_bipush hx hb dX6_compute_112 (v := jI 100) rfl ?_
      refine ycI (n := 2) (e_2_evaluated rx2 (by decide) h) 2 1 (r := (RX2, TX2, 15)) rfl yG_6_227 yD_2_evaluated X hw rfl yGo_2 (Nat.le_trans (Nat.le_of_ble_eq_true rfl) hRf) (Nat.le_trans (Nat.le_of_ble_eq_true rfl) hRl) rfl hl.1 (Nat.le_of_ble_eq_true rfl) rfl dX6_compute_114 (fun v4 u H locs rv4 h hw => ?_)
      refine lv_istore hx hb dX6_compute_117 hl (by decide) rfl (fun ls hl => ?_)
      have hl : lv_has ls 6 [(4, .int (jI v4)), (0, .ref (ad 0 5)), (2, .int (jI x2)), (3, .int (jI x3))] := hl
      exact f_6_compute_119 X hRf hRl hret rv4 hw (lv_sub hl [1, 0] rfl) h
    · refine lv_aload_n hx hb dX6_compute_57 rfl (lv_at hl 0 rfl) ?_
      refine yg_6_39 X hw dX6_compute_58 ?_
      refine lv_aload_n hx hb dX6_compute_61 rfl (lv_at hl 0 rfl) ?_
      refine yg_6_39 X hw dX6_compute_62 ?_
      refine lv_iload_n hx hb dX6_compute_65 rfl (lv_at hl 1 rfl) ?_
      refine lv_iconst hx hb dX6_compute_66 (v := jI 1) rfl ?_
      refine ycI (n := 2) (e_7_item rx2 (by decide) h) 7 6 (r := (RX7, TX7, 9)) rfl yG_6_109 yD_7_item X hw rfl yGo_7 (Nat.le_trans (Nat.le_of_ble_eq_true rfl) hRf) (Nat.le_trans (Nat.le_of_ble_eq_true rfl) hRl) rfl hl.1 (Nat.le_of_ble_eq_true rfl) rfl dX6_compute_67 (fun v7 u H locs rv7 h hw => ?_)
      refine ycI (n := 1) (e_7_valueOf rv7 h) 7 6 (r := (RX7, TX7, 9)) rfl yG_6_219 yD_7_valueOf X hw rfl yGo_7 (Nat.le_trans (Nat.le_of_ble_eq_true rfl) hRf) (Nat.le_trans (Nat.le_of_ble_eq_true rfl) hRl) rfl hl.1 (Nat.le_of_ble_eq_true rfl) rfl dX6_compute_70 (fun v8 u H locs rv8 h hw => ?_)
      refine lv_istore hx hb dX6_compute_73 hl (by decide) rfl (fun ls hl => ?_)
      have hl : lv_has ls 6 [(5, .int (jI v8)), (0, .ref (ad 0 5)), (2, .int (jI x2)), (3, .int (jI x3))] := hl
      refine lv_aload_n hx hb dX6_compute_75 rfl (lv_at hl 1 rfl) ?_
      refine yg_6_51 X hw dX6_compute_76 ?_
      refine lv_iload_n hx hb dX6_compute_79 rfl (lv_at hl 3 rfl) ?_
      refine lv_iload hx hb dX6_compute_80 (lv_at hl 0 rfl) ?_
      refine lv_aload_n hx hb dX6_compute_82 rfl (lv_at hl 1 rfl) ?_
      refine yg_6_39 X hw dX6_compute_83 ?_
      refine lv_aload_n hx hb dX6_compute_86 rfl (lv_at hl 1 rfl) ?_
      refine yg_6_39 X hw dX6_compute_87 ?_
      refine lv_iload_n hx hb dX6_compute_90 rfl (lv_at hl 2 rfl) ?_
      refine lv_iconst hx hb dX6_compute_91 (v := jI 2) rfl ?_
      refine ycI (n := 2) (e_7_item rx2 (by decide) h) 7 6 (r := (RX7, TX7, 9)) rfl yG_6_109 yD_7_item X hw rfl yGo_7 (Nat.le_trans (Nat.le_of_ble_eq_true rfl) hRf) (Nat.le_trans (Nat.le_of_ble_eq_true rfl) hRl) rfl hl.1 (Nat.le_of_ble_eq_true rfl) rfl dX6_compute_92 (fun v9 u H locs rv9 h hw => ?_)
      refine ycI (n := 1) (e_7_valueOf rv9 h) 7 6 (r := (RX7, TX7, 9)) rfl yG_6_219 yD_7_valueOf X hw rfl yGo_7 (Nat.le_trans (Nat.le_of_ble_eq_true rfl) hRf) (Nat.le_trans (Nat.le_of_ble_eq_true rfl) hRl) rfl hl.1 (Nat.le_of_ble_eq_true rfl) rfl dX6_compute_95 (fun v10 u H locs rv10 h hw => ?_)
      refine lv_iconst hx hb dX6_compute_98 (v := jI 0) rfl ?_
      refine ycI (n := 4) (e_2_baseValue rx3 rv8 rv10 (by decide) h) 2 1 (r := (RX2, TX2, 15)) rfl yG_6_222 yD_2_baseValue X hw rfl yGo_2 (Nat.le_trans (Nat.le_of_ble_eq_true rfl) hRf) (Nat.le_trans (Nat.le_of_ble_eq_true rfl) hRl) rfl hl.1 (Nat.le_of_ble_eq_true rfl) rfl dX6_compute_99 (fun v11 u H locs rv11 h hw => ?_)
      refine lv_istore hx hb dX6_compute_102 hl (by decide) rfl (fun ls hl => ?_)
      have hl : lv_has ls 6 [(4, .int (jI v11)), (5, .int (jI v8)), (0, .ref (ad 0 5)), (2, .int (jI x2)), (3, .int (jI x3))] := hl
      refine lv_goto hx hb dX6_compute_104 (tgt := 119) rfl ?_
      exact f_6_compute_119 X hRf hRl hret rv11 hw (lv_sub hl [2, 0] rfl) h
  · exact hret _ _ _ _ _ h hw dX6_compute_50

def v_6_compute (a0 : Int) (Q : iST → Prop) (u : iST) : Prop :=
  bd 5 17 (rd (u.2.1 51 (17 * a0 + 5)) (fun v1 => 
  v_7_left v1 (fun v2 u => 
  br (v2 ≠ 4) (
    br (v2 ≠ 9) (
      v_6_compute_38 Q v1 v2 a0 3 10 u) (
      v_6_compute_38 Q v1 v2 a0 3 9 u)) (
    v_6_compute_38 Q v1 v2 a0 3 8 u)) u))
set_option maxRecDepth 20000 in
set_option maxHeartbeats 4000000 in
theorem f_6_compute_s (X : yX RX6 p m c cX6_compute 6 s args D ca ad A) (hRf : 3 ≤ R.frames) (hRl : 84 ≤ R.locals) {Q : iST → Prop} (hret : ∀ (u : iST) (H : Heap) (locs : List Loc) (ls : Array Slot) (pc : Nat), Q u → yW D ca A ad s H locs u → decode cX6_compute pc = .ok (.return_, 1) → W p l e R s m args below meth c H locs 0 0 Qf (F0 m pc ls [])) {a0 : Int} (ra0 : (0 ≤ a0 ∧ a0 < 60)) (hw : yW D ca A ad s H locs u) (hl : lv_has ls 6 [(0, .ref (ad 0 5)), (1, .ref (ad 7 a0.toNat))]) (h : v_6_compute a0 Q u) : W p l e R s m args below meth c H locs 0 0 Qf (F0 m 0 ls []) := by
  have hx := X.1.1
  have hb := X.1.2.1
  unfold v_6_compute at h
  refine lv_aload_n hx hb dX6_compute_0 rfl (lv_at hl 1 rfl) ?_
  refine lv_iconst hx hb dX6_compute_1 (v := jI 5) rfl ?_
  refine yfl_frames X hw ra0 (by decide) dX6_compute_2 h (fun v1 rv1 h => ?_)
  refine lv_istore_n hx hb dX6_compute_3 rfl hl (by decide) rfl (fun ls hl => ?_)
  have hl : lv_has ls 6 [(2, .int (jI v1)), (0, .ref (ad 0 5)), (1, .ref (ad 7 a0.toNat))] := hl
  refine lv_aload_n hx hb dX6_compute_4 rfl (lv_at hl 1 rfl) ?_
  refine yg_6_39 X hw dX6_compute_5 ?_
  refine lv_iload_n hx hb dX6_compute_8 rfl (lv_at hl 0 rfl) ?_
  refine ycI (n := 1) (e_7_left rv1 h) 7 6 (r := (RX7, TX7, 9)) rfl yG_6_120 yD_7_left X hw rfl yGo_7 (Nat.le_trans (Nat.le_of_ble_eq_true rfl) hRf) (Nat.le_trans (Nat.le_of_ble_eq_true rfl) hRl) rfl hl.1 (Nat.le_of_ble_eq_true rfl) rfl dX6_compute_9 (fun v2 u H locs rv2 h hw => ?_)
  refine lv_istore_n hx hb dX6_compute_12 rfl hl (by decide) rfl (fun ls hl => ?_)
  have hl : lv_has ls 6 [(3, .int (jI v2)), (2, .int (jI v1)), (0, .ref (ad 0 5)), (1, .ref (ad 7 a0.toNat))] := hl
  refine lv_aload_n hx hb dX6_compute_13 rfl (lv_at hl 3 rfl) ?_
  refine lv_iconst hx hb dX6_compute_14 (v := jI 3) rfl ?_
  refine lv_iload_n hx hb dX6_compute_15 rfl (lv_at hl 0 rfl) ?_
  refine lv_iconst hx hb dX6_compute_16 (v := jI 4) rfl ?_
  refine k_icmp_ne hx hb rv2 (by decide) dX6_compute_17 (tgt := 25) rfl h (fun h => ?_) (fun h => ?_)
  · refine lv_iload_n hx hb dX6_compute_25 rfl (lv_at hl 0 rfl) ?_
    refine lv_bipush hx hb dX6_compute_26 (v := jI 9) rfl ?_
    refine k_icmp_ne hx hb rv2 (by decide) dX6_compute_28 (tgt := 36) rfl h (fun h => ?_) (fun h => ?_)
    · refine lv_bipush hx hb dX6_compute_36 (v := jI 10) rfl ?_
      exact f_6_compute_38 X hRf hRl hret rv1 rv2 ra0 (by decide) (by decide) hw (lv_sub hl [2, 1, 0] rfl) h
    · refine lv_bipush hx hb dX6_compute_31 (v := jI 9) rfl ?_
      refine lv_goto hx hb dX6_compute_33 (tgt := 38) rfl ?_
      exact f_6_compute_38 X hRf hRl hret rv1 rv2 ra0 (by decide) (by decide) hw (lv_sub hl [2, 1, 0] rfl) h
  · refine lv_bipush hx hb dX6_compute_20 (v := jI 8) rfl ?_
    refine lv_goto hx hb dX6_compute_22 (tgt := 38) rfl ?_
    exact f_6_compute_38 X hRf hRl hret rv1 rv2 ra0 (by decide) (by decide) hw (lv_sub hl [2, 1, 0] rfl) h

end
theorem e_6_compute {l : Launch} {a0 : Int} (ra0 : (0 ≤ a0 ∧ a0 < 60)) {Q : iST → Prop} {u : iST} (h : v_6_compute a0 Q u) : yMV l yX6_compute (.code yX6_compute cX6_compute 6 none :: wsN) { frames := 3, cells := 0, slots := 0, locals := 84 } (fun ad => [.ref (ad 0 5), .ref (ad 7 a0.toNat)]) Q u := yMV_of (own := RX6) rfl (by decide +kernel) (fun _ => Nat.le_of_ble_eq_true rfl) (fun X hRf hRl hret hw hl => f_6_compute_s X hRf hRl hret ra0 hw hl h)

/-! ProofHouse$Rewriter.reduceEqual -/
theorem dX6_reduceEqual_0 : decode cX6_reduceEqual 0 = .ok (.aload_n 0, 1) := by decide +kernel
theorem dX6_reduceEqual_1 : decode cX6_reduceEqual 1 = .ok (.getfield 39, 3) := by decide +kernel
theorem dX6_reduceEqual_4 : decode cX6_reduceEqual 4 = .ok (.iload_n 2, 1) := by decide +kernel
theorem dX6_reduceEqual_5 : decode cX6_reduceEqual 5 = .ok (.iconst 5, 1) := by decide +kernel
theorem dX6_reduceEqual_6 : decode cX6_reduceEqual 6 = .ok (.invokevirtual 175, 3) := by decide +kernel
theorem dX6_reduceEqual_9 : decode cX6_reduceEqual 9 = .ok (.istore 4, 2) := by decide +kernel
theorem dX6_reduceEqual_11 : decode cX6_reduceEqual 11 = .ok (.aload_n 0, 1) := by decide +kernel
theorem dX6_reduceEqual_12 : decode cX6_reduceEqual 12 = .ok (.getfield 39, 3) := by decide +kernel
theorem dX6_reduceEqual_15 : decode cX6_reduceEqual 15 = .ok (.iload_n 3, 1) := by decide +kernel
theorem dX6_reduceEqual_16 : decode cX6_reduceEqual 16 = .ok (.iconst 5, 1) := by decide +kernel
theorem dX6_reduceEqual_17 : decode cX6_reduceEqual 17 = .ok (.invokevirtual 175, 3) := by decide +kernel
theorem dX6_reduceEqual_20 : decode cX6_reduceEqual 20 = .ok (.istore 5, 2) := by decide +kernel
theorem dX6_reduceEqual_22 : decode cX6_reduceEqual 22 = .ok (.iload 4, 2) := by decide +kernel
theorem dX6_reduceEqual_24 : decode cX6_reduceEqual 24 = .ok (.ifCond .eq 7, 3) := by decide +kernel
theorem dX6_reduceEqual_27 : decode cX6_reduceEqual 27 = .ok (.iload_n 3, 1) := by decide +kernel
theorem dX6_reduceEqual_28 : decode cX6_reduceEqual 28 = .ok (.goto 4, 3) := by decide +kernel
theorem dX6_reduceEqual_31 : decode cX6_reduceEqual 31 = .ok (.iload_n 2, 1) := by decide +kernel
theorem dX6_reduceEqual_32 : decode cX6_reduceEqual 32 = .ok (.istore 6, 2) := by decide +kernel
theorem dX6_reduceEqual_34 : decode cX6_reduceEqual 34 = .ok (.iload_n 2, 1) := by decide +kernel
theorem dX6_reduceEqual_35 : decode cX6_reduceEqual 35 = .ok (.iload_n 3, 1) := by decide +kernel
theorem dX6_reduceEqual_36 : decode cX6_reduceEqual 36 = .ok (.if_icmp .ne 11, 3) := by decide +kernel
theorem dX6_reduceEqual_39 : decode cX6_reduceEqual 39 = .ok (.aload_n 0, 1) := by decide +kernel
theorem dX6_reduceEqual_40 : decode cX6_reduceEqual 40 = .ok (.iconst 1, 1) := by decide +kernel
theorem dX6_reduceEqual_41 : decode cX6_reduceEqual 41 = .ok (.invokevirtual 96, 3) := by decide +kernel
theorem dX6_reduceEqual_44 : decode cX6_reduceEqual 44 = .ok (.goto 146, 3) := by decide +kernel
theorem dX6_reduceEqual_47 : decode cX6_reduceEqual 47 = .ok (.iload 4, 2) := by decide +kernel
theorem dX6_reduceEqual_49 : decode cX6_reduceEqual 49 = .ok (.ifCond .eq 87, 3) := by decide +kernel
theorem dX6_reduceEqual_52 : decode cX6_reduceEqual 52 = .ok (.iload 5, 2) := by decide +kernel
theorem dX6_reduceEqual_54 : decode cX6_reduceEqual 54 = .ok (.ifCond .eq 82, 3) := by decide +kernel
theorem dX6_reduceEqual_57 : decode cX6_reduceEqual 57 = .ok (.aload_n 0, 1) := by decide +kernel
theorem dX6_reduceEqual_58 : decode cX6_reduceEqual 58 = .ok (.getfield 47, 3) := by decide +kernel
theorem dX6_reduceEqual_61 : decode cX6_reduceEqual 61 = .ok (.iconst 4, 1) := by decide +kernel
theorem dX6_reduceEqual_62 : decode cX6_reduceEqual 62 = .ok (.aload_n 0, 1) := by decide +kernel
theorem dX6_reduceEqual_63 : decode cX6_reduceEqual 63 = .ok (.getfield 39, 3) := by decide +kernel
theorem dX6_reduceEqual_66 : decode cX6_reduceEqual 66 = .ok (.iload_n 2, 1) := by decide +kernel
theorem dX6_reduceEqual_67 : decode cX6_reduceEqual 67 = .ok (.iconst 1, 1) := by decide +kernel
theorem dX6_reduceEqual_68 : decode cX6_reduceEqual 68 = .ok (.invokevirtual 109, 3) := by decide +kernel
theorem dX6_reduceEqual_71 : decode cX6_reduceEqual 71 = .ok (.aload_n 0, 1) := by decide +kernel
theorem dX6_reduceEqual_72 : decode cX6_reduceEqual 72 = .ok (.getfield 39, 3) := by decide +kernel
theorem dX6_reduceEqual_75 : decode cX6_reduceEqual 75 = .ok (.iload_n 3, 1) := by decide +kernel
theorem dX6_reduceEqual_76 : decode cX6_reduceEqual 76 = .ok (.iconst 1, 1) := by decide +kernel
theorem dX6_reduceEqual_77 : decode cX6_reduceEqual 77 = .ok (.invokevirtual 109, 3) := by decide +kernel
theorem dX6_reduceEqual_80 : decode cX6_reduceEqual 80 = .ok (.iconst (-1), 1) := by decide +kernel
theorem dX6_reduceEqual_81 : decode cX6_reduceEqual 81 = .ok (.invokevirtual 179, 3) := by decide +kernel
theorem dX6_reduceEqual_84 : decode cX6_reduceEqual 84 = .ok (.istore 7, 2) := by decide +kernel
theorem dX6_reduceEqual_86 : decode cX6_reduceEqual 86 = .ok (.aload_n 0, 1) := by decide +kernel
theorem dX6_reduceEqual_87 : decode cX6_reduceEqual 87 = .ok (.getfield 47, 3) := by decide +kernel
theorem dX6_reduceEqual_90 : decode cX6_reduceEqual 90 = .ok (.iconst 4, 1) := by decide +kernel
theorem dX6_reduceEqual_91 : decode cX6_reduceEqual 91 = .ok (.aload_n 0, 1) := by decide +kernel
theorem dX6_reduceEqual_92 : decode cX6_reduceEqual 92 = .ok (.getfield 39, 3) := by decide +kernel
theorem dX6_reduceEqual_95 : decode cX6_reduceEqual 95 = .ok (.iload_n 2, 1) := by decide +kernel
theorem dX6_reduceEqual_96 : decode cX6_reduceEqual 96 = .ok (.iconst 2, 1) := by decide +kernel
theorem dX6_reduceEqual_97 : decode cX6_reduceEqual 97 = .ok (.invokevirtual 109, 3) := by decide +kernel
theorem dX6_reduceEqual_100 : decode cX6_reduceEqual 100 = .ok (.aload_n 0, 1) := by decide +kernel
theorem dX6_reduceEqual_101 : decode cX6_reduceEqual 101 = .ok (.getfield 39, 3) := by decide +kernel
theorem dX6_reduceEqual_104 : decode cX6_reduceEqual 104 = .ok (.iload_n 3, 1) := by decide +kernel
theorem dX6_reduceEqual_105 : decode cX6_reduceEqual 105 = .ok (.iconst 2, 1) := by decide +kernel
theorem dX6_reduceEqual_106 : decode cX6_reduceEqual 106 = .ok (.invokevirtual 109, 3) := by decide +kernel
theorem dX6_reduceEqual_109 : decode cX6_reduceEqual 109 = .ok (.iconst (-1), 1) := by decide +kernel
theorem dX6_reduceEqual_110 : decode cX6_reduceEqual 110 = .ok (.invokevirtual 179, 3) := by decide +kernel
theorem dX6_reduceEqual_113 : decode cX6_reduceEqual 113 = .ok (.istore 8, 2) := by decide +kernel
theorem dX6_reduceEqual_115 : decode cX6_reduceEqual 115 = .ok (.aload_n 0, 1) := by decide +kernel
theorem dX6_reduceEqual_116 : decode cX6_reduceEqual 116 = .ok (.aload_n 1, 1) := by decide +kernel
theorem dX6_reduceEqual_117 : decode cX6_reduceEqual 117 = .ok (.aload_n 0, 1) := by decide +kernel
theorem dX6_reduceEqual_118 : decode cX6_reduceEqual 118 = .ok (.getfield 47, 3) := by decide +kernel
theorem dX6_reduceEqual_121 : decode cX6_reduceEqual 121 = .ok (.iconst 3, 1) := by decide +kernel
theorem dX6_reduceEqual_122 : decode cX6_reduceEqual 122 = .ok (.iload 7, 2) := by decide +kernel
theorem dX6_reduceEqual_124 : decode cX6_reduceEqual 124 = .ok (.iload 8, 2) := by decide +kernel
theorem dX6_reduceEqual_126 : decode cX6_reduceEqual 126 = .ok (.iconst 0, 1) := by decide +kernel
theorem dX6_reduceEqual_127 : decode cX6_reduceEqual 127 = .ok (.invokevirtual 179, 3) := by decide +kernel
theorem dX6_reduceEqual_130 : decode cX6_reduceEqual 130 = .ok (.invokevirtual 184, 3) := by decide +kernel
theorem dX6_reduceEqual_133 : decode cX6_reduceEqual 133 = .ok (.goto 57, 3) := by decide +kernel
theorem dX6_reduceEqual_136 : decode cX6_reduceEqual 136 = .ok (.iload 4, 2) := by decide +kernel
theorem dX6_reduceEqual_138 : decode cX6_reduceEqual 138 = .ok (.ifCond .ne 8, 3) := by decide +kernel
theorem dX6_reduceEqual_141 : decode cX6_reduceEqual 141 = .ok (.iload 5, 2) := by decide +kernel
theorem dX6_reduceEqual_143 : decode cX6_reduceEqual 143 = .ok (.ifCond .eq 42, 3) := by decide +kernel
theorem dX6_reduceEqual_146 : decode cX6_reduceEqual 146 = .ok (.aload_n 0, 1) := by decide +kernel
theorem dX6_reduceEqual_147 : decode cX6_reduceEqual 147 = .ok (.getfield 39, 3) := by decide +kernel
theorem dX6_reduceEqual_150 : decode cX6_reduceEqual 150 = .ok (.iload 6, 2) := by decide +kernel
theorem dX6_reduceEqual_152 : decode cX6_reduceEqual 152 = .ok (.invokevirtual 165, 3) := by decide +kernel
theorem dX6_reduceEqual_155 : decode cX6_reduceEqual 155 = .ok (.ifCond .eq 30, 3) := by decide +kernel
theorem dX6_reduceEqual_158 : decode cX6_reduceEqual 158 = .ok (.aload_n 0, 1) := by decide +kernel
theorem dX6_reduceEqual_159 : decode cX6_reduceEqual 159 = .ok (.getfield 39, 3) := by decide +kernel
theorem dX6_reduceEqual_162 : decode cX6_reduceEqual 162 = .ok (.aload_n 0, 1) := by decide +kernel
theorem dX6_reduceEqual_163 : decode cX6_reduceEqual 163 = .ok (.getfield 39, 3) := by decide +kernel
theorem dX6_reduceEqual_166 : decode cX6_reduceEqual 166 = .ok (.iload 6, 2) := by decide +kernel
theorem dX6_reduceEqual_168 : decode cX6_reduceEqual 168 = .ok (.invokevirtual 219, 3) := by decide +kernel
theorem dX6_reduceEqual_171 : decode cX6_reduceEqual 171 = .ok (.invokevirtual 205, 3) := by decide +kernel
theorem dX6_reduceEqual_174 : decode cX6_reduceEqual 174 = .ok (.ifCond .ne 11, 3) := by decide +kernel
theorem dX6_reduceEqual_177 : decode cX6_reduceEqual 177 = .ok (.aload_n 0, 1) := by decide +kernel
theorem dX6_reduceEqual_178 : decode cX6_reduceEqual 178 = .ok (.iconst 0, 1) := by decide +kernel
theorem dX6_reduceEqual_179 : decode cX6_reduceEqual 179 = .ok (.invokevirtual 96, 3) := by decide +kernel
theorem dX6_reduceEqual_182 : decode cX6_reduceEqual 182 = .ok (.goto 8, 3) := by decide +kernel
theorem dX6_reduceEqual_185 : decode cX6_reduceEqual 185 = .ok (.aload_n 1, 1) := by decide +kernel
theorem dX6_reduceEqual_186 : decode cX6_reduceEqual 186 = .ok (.iconst 3, 1) := by decide +kernel
theorem dX6_reduceEqual_187 : decode cX6_reduceEqual 187 = .ok (.bipush 11, 2) := by decide +kernel
theorem dX6_reduceEqual_189 : decode cX6_reduceEqual 189 = .ok (.iastore, 1) := by decide +kernel
theorem dX6_reduceEqual_190 : decode cX6_reduceEqual 190 = .ok (.return_, 1) := by decide +kernel

section
variable {p : Program} {l : Launch} {e : Env} {R : Room} {s : State} {m : MethodId} {args : Array Value} {below : List Frame} {meth : Method} {c : Code} {H : Heap} {locs : List Loc} {Qf : State → Prop}
variable {ls : Array Slot} {D : va_G} {ca : Nat → ClassId} {A : Nat → Prop} {ad : Nat → Nat → Nat} {u : iST}
def v_6_reduceEqual_185 (Q : iST → Prop) (x1 : Int) (u : iST) : Prop :=
  bd 3 17 (sw (iA u 51 (17 * x1 + 3) 11) (fun u => 
  Q u))
set_option maxRecDepth 20000 in
set_option maxHeartbeats 4000000 in
theorem f_6_reduceEqual_185 (X : yX RX6 p m c cX6_reduceEqual 9 s args D ca ad A) (hRf : 3 ≤ R.frames) (hRl : 106 ≤ R.locals) {Q : iST → Prop} (hret : ∀ (u : iST) (H : Heap) (locs : List Loc) (ls : Array Slot) (pc : Nat), Q u → yW D ca A ad s H locs u → decode cX6_reduceEqual pc = .ok (.return_, 1) → W p l e R s m args below meth c H locs 0 0 Qf (F0 m pc ls [])) {x1 : Int} (rx1 : (0 ≤ x1 ∧ x1 < 60)) (hw : yW D ca A ad s H locs u) (hl : lv_has ls 9 [(0, .ref (ad 0 5)), (1, .ref (ad 7 x1.toNat))]) (h : v_6_reduceEqual_185 Q x1 u) : W p l e R s m args below meth c H locs 0 0 Qf (F0 m 185 ls []) := by
  have hx := X.1.1
  have hb := X.1.2.1
  unfold v_6_reduceEqual_185 at h
  refine lv_aload_n hx hb dX6_reduceEqual_185 rfl (lv_at hl 1 rfl) ?_
  refine lv_iconst hx hb dX6_reduceEqual_186 (v := jI 3) rfl ?_
  refine lv_bipush hx hb dX6_reduceEqual_187 (v := jI 11) rfl ?_
  refine yft_frames X hw rx1 (by decide) (by decide) dX6_reduceEqual_189 h (fun H locs u hw h => ?_)
  exact hret _ _ _ _ _ h hw dX6_reduceEqual_190

def v_6_reduceEqual_146 (Q : iST → Prop) (x1 : Int) (x6 : Int) (u : iST) : Prop :=
  v_7_isConstant x6 (fun v3 u => 
  br (v3 = 0) (
    v_6_reduceEqual_185 Q x1 u) (
    v_7_valueOf x6 (fun v4 u => 
    v_7_isPair v4 (fun v5 u => 
    br (v5 ≠ 0) (
      v_6_reduceEqual_185 Q x1 u) (
      v_6_finish 0 (fun u => 
      Q u) u)) u) u)) u
set_option maxRecDepth 20000 in
set_option maxHeartbeats 4000000 in
theorem f_6_reduceEqual_146 (X : yX RX6 p m c cX6_reduceEqual 9 s args D ca ad A) (hRf : 3 ≤ R.frames) (hRl : 106 ≤ R.locals) {Q : iST → Prop} (hret : ∀ (u : iST) (H : Heap) (locs : List Loc) (ls : Array Slot) (pc : Nat), Q u → yW D ca A ad s H locs u → decode cX6_reduceEqual pc = .ok (.return_, 1) → W p l e R s m args below meth c H locs 0 0 Qf (F0 m pc ls [])) {x1 x6 : Int} (rx1 : (0 ≤ x1 ∧ x1 < 60)) (rx6 : inR x6) (hw : yW D ca A ad s H locs u) (hl : lv_has ls 9 [(0, .ref (ad 0 5)), (1, .ref (ad 7 x1.toNat)), (6, .int (jI x6))]) (h : v_6_reduceEqual_146 Q x1 x6 u) : W p l e R s m args below meth c H locs 0 0 Qf (F0 m 146 ls []) := by
  have hx := X.1.1
  have hb := X.1.2.1
  unfold v_6_reduceEqual_146 at h
  refine lv_aload_n hx hb dX6_reduceEqual_146 rfl (lv_at hl 0 rfl) ?_
  refine yg_6_39 X hw dX6_reduceEqual_147 ?_
  refine lv_iload hx hb dX6_reduceEqual_150 (lv_at hl 2 rfl) ?_
  refine ycI (n := 1) (e_7_isConstant rx6 h) 7 6 (r := (RX7, TX7, 9)) rfl yG_6_165 yD_7_isConstant X hw rfl yGo_7 (Nat.le_trans (Nat.le_of_ble_eq_true rfl) hRf) (Nat.le_trans (Nat.le_of_ble_eq_true rfl) hRl) rfl hl.1 (Nat.le_of_ble_eq_true rfl) rfl dX6_reduceEqual_152 (fun v3 u H locs rv3 h hw => ?_)
  refine k_if_eq hx hb rv3 dX6_reduceEqual_155 (tgt := 185) rfl h (fun h => ?_) (fun h => ?_)
  · exact f_6_reduceEqual_185 X hRf hRl hret rx1 hw (lv_sub hl [0, 1] rfl) h
  · refine lv_aload_n hx hb dX6_reduceEqual_158 rfl (lv_at hl 0 rfl) ?_
    refine yg_6_39 X hw dX6_reduceEqual_159 ?_
    refine lv_aload_n hx hb dX6_reduceEqual_162 rfl (lv_at hl 0 rfl) ?_
    refine yg_6_39 X hw dX6_reduceEqual_163 ?_
    refine lv_iload hx hb dX6_reduceEqual_166 (lv_at hl 2 rfl) ?_
    refine ycI (n := 1) (e_7_valueOf rx6 h) 7 6 (r := (RX7, TX7, 9)) rfl yG_6_219 yD_7_valueOf X hw rfl yGo_7 (Nat.le_trans (Nat.le_of_ble_eq_true rfl) hRf) (Nat.le_trans (Nat.le_of_ble_eq_true rfl) hRl) rfl hl.1 (Nat.le_of_ble_eq_true rfl) rfl dX6_reduceEqual_168 (fun v4 u H locs rv4 h hw => ?_)
    refine ycI (n := 1) (e_7_isPair rv4 h) 7 6 (r := (RX7, TX7, 9)) rfl yG_6_205 yD_7_isPair X hw rfl yGo_7 (Nat.le_trans (Nat.le_of_ble_eq_true rfl) hRf) (Nat.le_trans (Nat.le_of_ble_eq_true rfl) hRl) rfl hl.1 (Nat.le_of_ble_eq_true rfl) rfl dX6_reduceEqual_171 (fun v5 u H locs rv5 h hw => ?_)
    refine k_if_ne hx hb rv5 dX6_reduceEqual_174 (tgt := 185) rfl h (fun h => ?_) (fun h => ?_)
    · exact f_6_reduceEqual_185 X hRf hRl hret rx1 hw (lv_sub hl [0, 1] rfl) h
    · refine lv_aload_n hx hb dX6_reduceEqual_177 rfl (lv_at hl 0 rfl) ?_
      refine lv_iconst hx hb dX6_reduceEqual_178 (v := jI 0) rfl ?_
      refine ycV (n := 1) (e_6_finish (by decide) h) 6 5 (r := (RX6, TX6, 14)) rfl yG_6_96 yD_6_finish X hw rfl yGo_6 (Nat.le_trans (Nat.le_of_ble_eq_true rfl) hRf) (Nat.le_trans (Nat.le_of_ble_eq_true rfl) hRl) rfl hl.1 (Nat.le_of_ble_eq_true rfl) rfl dX6_reduceEqual_179 (fun u H locs h hw => ?_)
      refine lv_goto hx hb dX6_reduceEqual_182 (tgt := 190) rfl ?_
      exact hret _ _ _ _ _ h hw dX6_reduceEqual_190

def v_6_reduceEqual_136 (Q : iST → Prop) (x1 : Int) (x4 : Int) (x5 : Int) (x6 : Int) (u : iST) : Prop :=
  br (x4 ≠ 0) (
    v_6_reduceEqual_146 Q x1 x6 u) (
    br (x5 = 0) (
      v_6_reduceEqual_185 Q x1 u) (
      v_6_reduceEqual_146 Q x1 x6 u))
set_option maxRecDepth 20000 in
set_option maxHeartbeats 4000000 in
theorem f_6_reduceEqual_136 (X : yX RX6 p m c cX6_reduceEqual 9 s args D ca ad A) (hRf : 3 ≤ R.frames) (hRl : 106 ≤ R.locals) {Q : iST → Prop} (hret : ∀ (u : iST) (H : Heap) (locs : List Loc) (ls : Array Slot) (pc : Nat), Q u → yW D ca A ad s H locs u → decode cX6_reduceEqual pc = .ok (.return_, 1) → W p l e R s m args below meth c H locs 0 0 Qf (F0 m pc ls [])) {x1 x4 x5 x6 : Int} (rx1 : (0 ≤ x1 ∧ x1 < 60)) (rx4 : inR x4) (rx5 : inR x5) (rx6 : inR x6) (hw : yW D ca A ad s H locs u) (hl : lv_has ls 9 [(0, .ref (ad 0 5)), (1, .ref (ad 7 x1.toNat)), (4, .int (jI x4)), (5, .int (jI x5)), (6, .int (jI x6))]) (h : v_6_reduceEqual_136 Q x1 x4 x5 x6 u) : W p l e R s m args below meth c H locs 0 0 Qf (F0 m 136 ls []) := by
  have hx := X.1.1
  have hb := X.1.2.1
  unfold v_6_reduceEqual_136 at h
  refine lv_iload hx hb dX6_reduceEqual_136 (lv_at hl 2 rfl) ?_
  refine k_if_ne hx hb rx4 dX6_reduceEqual_138 (tgt := 146) rfl h (fun h => ?_) (fun h => ?_)
  · exact f_6_reduceEqual_146 X hRf hRl hret rx1 rx6 hw (lv_sub hl [0, 1, 4] rfl) h
  · refine lv_iload hx hb dX6_reduceEqual_141 (lv_at hl 3 rfl) ?_
    refine k_if_eq hx hb rx5 dX6_reduceEqual_143 (tgt := 185) rfl h (fun h => ?_) (fun h => ?_)
    · exact f_6_reduceEqual_185 X hRf hRl hret rx1 hw (lv_sub hl [0, 1] rfl) h
    · exact f_6_reduceEqual_146 X hRf hRl hret rx1 rx6 hw (lv_sub hl [0, 1, 4] rfl) h

def v_6_reduceEqual_32 (Q : iST → Prop) (x1 : Int) (x2 : Int) (x3 : Int) (x4 : Int) (x5 : Int) (y0 : Int) (u : iST) : Prop :=
  br (x2 ≠ x3) (
    br (x4 = 0) (
      v_6_reduceEqual_136 Q x1 x4 x5 y0 u) (
      br (x5 = 0) (
        v_6_reduceEqual_136 Q x1 x4 x5 y0 u) (
        v_7_item x2 1 (fun v7 u => 
        v_7_item x3 1 (fun v8 u => 
        v_10_call 4 v7 v8 (-1) (fun v9 u => 
        v_7_item x2 2 (fun v10 u => 
        v_7_item x3 2 (fun v11 u => 
        v_10_call 4 v10 v11 (-1) (fun v12 u => 
        v_10_call 3 v9 v12 0 (fun v13 u => 
        v_6_askInstead x1 v13 (fun u => 
        Q u) u) u) u) u) u) u) u) u))) (
    v_6_finish 1 (fun u => 
    Q u) u)
set_option maxRecDepth 20000 in
set_option maxHeartbeats 4000000 in
theorem f_6_reduceEqual_32 (X : yX RX6 p m c cX6_reduceEqual 9 s args D ca ad A) (hRf : 3 ≤ R.frames) (hRl : 106 ≤ R.locals) {Q : iST → Prop} (hret : ∀ (u : iST) (H : Heap) (locs : List Loc) (ls : Array Slot) (pc : Nat), Q u → yW D ca A ad s H locs u → decode cX6_reduceEqual pc = .ok (.return_, 1) → W p l e R s m args below meth c H locs 0 0 Qf (F0 m pc ls [])) {x1 x2 x3 x4 x5 y0 : Int} (rx1 : (0 ≤ x1 ∧ x1 < 60)) (rx2 : inR x2) (rx3 : inR x3) (rx4 : inR x4) (rx5 : inR x5) (ry0 : inR y0) (hw : yW D ca A ad s H locs u) (hl : lv_has ls 9 [(0, .ref (ad 0 5)), (1, .ref (ad 7 x1.toNat)), (2, .int (jI x2)), (3, .int (jI x3)), (4, .int (jI x4)), (5, .int (jI x5))]) (h : v_6_reduceEqual_32 Q x1 x2 x3 x4 x5 y0 u) : W p l e R s m args below meth c H locs 0 0 Qf (F0 m 32 ls [.int (jI y0)]) := by
  have hx := X.1.1
  have hb := X.1.2.1
  unfold v_6_reduceEqual_32 at h
  refine lv_istore hx hb dX6_reduceEqual_32 hl (by decide) rfl (fun ls hl => ?_)
  have hl : lv_has ls 9 [(6, .int (jI y0)), (0, .ref (ad 0 5)), (1, .ref (ad 7 x1.toNat)), (2, .int (jI x2)), (3, .int (jI x3)), (4, .int (jI x4)), (5, .int (jI x5))] := hl
  refine lv_iload_n hx hb dX6_reduceEqual_34 rfl (lv_at hl 3 rfl) ?_
  refine lv_iload_n hx hb dX6_reduceEqual_35 rfl (lv_at hl 4 rfl) ?_
  refine k_icmp_ne hx hb rx2 rx3 dX6_reduceEqual_36 (tgt := 47) rfl h (fun h => ?_) (fun h => ?_)
  · refine lv_iload hx hb dX6_reduceEqual_47 (lv_at hl 5 rfl) ?_
    refine k_if_eq hx hb rx4 dX6_reduceEqual_49 (tgt := 136) rfl h (fun h => ?_) (fun h => ?_)
    · exact f_6_reduceEqual_136 X hRf hRl hret rx1 rx4 rx5 ry0 hw (lv_sub hl [1, 2, 5, 6, 0] rfl) h
    · refine lv_iload hx hb dX6_reduceEqual_52 (lv_at hl 6 rfl) ?_
      refine k_if_eq hx hb rx5 dX6_reduceEqual_54 (tgt := 136) rfl h (fun h => ?_) (fun h => ?_)
      · exact f_6_reduceEqual_136 X hRf hRl hret rx1 rx4 rx5 ry0 hw (lv_sub hl [1, 2, 5, 6, 0] rfl) h
      · refine lv_aload_n hx hb dX6_reduceEqual_57 rfl (lv_at hl 1 rfl) ?_
        refine yg_6_47 X hw dX6_reduceEqual_58 ?_
        refine lv_iconst hx hb dX6_reduceEqual_61 (v := jI 4) rfl ?_
        refine lv_aload_n hx hb dX6_reduceEqual_62 rfl (lv_at hl 1 rfl) ?_
        refine yg_6_39 X hw dX6_reduceEqual_63 ?_
        refine lv_iload_n hx hb dX6_reduceEqual_66 rfl (lv_at hl 3 rfl) ?_
        refine lv_iconst hx hb dX6_reduceEqual_67 (v := jI 1) rfl ?_
        refine ycI (n := 2) (e_7_item rx2 (by decide) h) 7 6 (r := (RX7, TX7, 9)) rfl yG_6_109 yD_7_item X hw rfl yGo_7 (Nat.le_trans (Nat.le_of_ble_eq_true rfl) hRf) (Nat.le_trans (Nat.le_of_ble_eq_true rfl) hRl) rfl hl.1 (Nat.le_of_ble_eq_true rfl) rfl dX6_reduceEqual_68 (fun v7 u H locs rv7 h hw => ?_)
        refine lv_aload_n hx hb dX6_reduceEqual_71 rfl (lv_at hl 1 rfl) ?_
        refine yg_6_39 X hw dX6_reduceEqual_72 ?_
        refine lv_iload_n hx hb dX6_reduceEqual_75 rfl (lv_at hl 4 rfl) ?_
        refine lv_iconst hx hb dX6_reduceEqual_76 (v := jI 1) rfl ?_
        refine ycI (n := 2) (e_7_item rx3 (by decide) h) 7 6 (r := (RX7, TX7, 9)) rfl yG_6_109 yD_7_item X hw rfl yGo_7 (Nat.le_trans (Nat.le_of_ble_eq_true rfl) hRf) (Nat.le_trans (Nat.le_of_ble_eq_true rfl) hRl) rfl hl.1 (Nat.le_of_ble_eq_true rfl) rfl dX6_reduceEqual_77 (fun v8 u H locs rv8 h hw => ?_)
        refine lv_iconst hx hb dX6_reduceEqual_80 (v := jI (-1)) rfl ?_
        refine ycI (n := 4) (e_10_call (by decide) rv7 rv8 (by decide) h) 10 8 (r := (RX10, TX10, 16)) rfl yG_6_179 yD_10_call X hw rfl yGo_10 (Nat.le_trans (Nat.le_of_ble_eq_true rfl) hRf) (Nat.le_trans (Nat.le_of_ble_eq_true rfl) hRl) rfl hl.1 (Nat.le_of_ble_eq_true rfl) rfl dX6_reduceEqual_81 (fun v9 u H locs rv9 h hw => ?_)
        refine lv_istore hx hb dX6_reduceEqual_84 hl (by decide) rfl (fun ls hl => ?_)
        have hl : lv_has ls 9 [(7, .int (jI v9)), (6, .int (jI y0)), (0, .ref (ad 0 5)), (1, .ref (ad 7 x1.toNat)), (2, .int (jI x2)), (3, .int (jI x3)), (4, .int (jI x4)), (5, .int (jI x5))] := hl
        refine lv_aload_n hx hb dX6_reduceEqual_86 rfl (lv_at hl 2 rfl) ?_
        refine yg_6_47 X hw dX6_reduceEqual_87 ?_
        refine lv_iconst hx hb dX6_reduceEqual_90 (v := jI 4) rfl ?_
        refine lv_aload_n hx hb dX6_reduceEqual_91 rfl (lv_at hl 2 rfl) ?_
        refine yg_6_39 X hw dX6_reduceEqual_92 ?_
        refine lv_iload_n hx hb dX6_reduceEqual_95 rfl (lv_at hl 4 rfl) ?_
        refine lv_iconst hx hb dX6_reduceEqual_96 (v := jI 2) rfl ?_
        refine ycI (n := 2) (e_7_item rx2 (by decide) h) 7 6 (r := (RX7, TX7, 9)) rfl yG_6_109 yD_7_item X hw rfl yGo_7 (Nat.le_trans (Nat.le_of_ble_eq_true rfl) hRf) (Nat.le_trans (Nat.le_of_ble_eq_true rfl) hRl) rfl hl.1 (Nat.le_of_ble_eq_true rfl) rfl dX6_reduceEqual_97 (fun v10 u H locs rv10 h hw => ?_)
        refine lv_aload_n hx hb dX6_reduceEqual_100 rfl (lv_at hl 2 rfl) ?_
        refine yg_6_39 X hw dX6_reduceEqual_101 ?_
        refine lv_iload_n hx hb dX6_reduceEqual_104 rfl (lv_at hl 5 rfl) ?_
        refine lv_iconst hx hb dX6_reduceEqual_105 (v := jI 2) rfl ?_
        refine ycI (n := 2) (e_7_item rx3 (by decide) h) 7 6 (r := (RX7, TX7, 9)) rfl yG_6_109 yD_7_item X hw rfl yGo_7 (Nat.le_trans (Nat.le_of_ble_eq_true rfl) hRf) (Nat.le_trans (Nat.le_of_ble_eq_true rfl) hRl) rfl hl.1 (Nat.le_of_ble_eq_true rfl) rfl dX6_reduceEqual_106 (fun v11 u H locs rv11 h hw => ?_)
        refine lv_iconst hx hb dX6_reduceEqual_109 (v := jI (-1)) rfl ?_
        refine ycI (n := 4) (e_10_call (by decide) rv10 rv11 (by decide) h) 10 8 (r := (RX10, TX10, 16)) rfl yG_6_179 yD_10_call X hw rfl yGo_10 (Nat.le_trans (Nat.le_of_ble_eq_true rfl) hRf) (Nat.le_trans (Nat.le_of_ble_eq_true rfl) hRl) rfl hl.1 (Nat.le_of_ble_eq_true rfl) rfl dX6_reduceEqual_110 (fun v12 u H locs rv12 h hw => ?_)
        refine lv_istore hx hb dX6_reduceEqual_113 hl (by decide) rfl (fun ls hl => ?_)
        have hl : lv_has ls 9 [(8, .int (jI v12)), (7, .int (jI v9)), (6, .int (jI y0)), (0, .ref (ad 0 5)), (1, .ref (ad 7 x1.toNat)), (2, .int (jI x2)), (3, .int (jI x3)), (4, .int (jI x4)), (5, .int (jI x5))] := hl
        refine lv_aload_n hx hb dX6_reduceEqual_115 rfl (lv_at hl 3 rfl) ?_
        refine lv_aload_n hx hb dX6_reduceEqual_116 rfl (lv_at hl 4 rfl) ?_
        refine lv_aload_n hx hb dX6_reduceEqual_117 rfl (lv_at hl 3 rfl) ?_
        refine yg_6_47 X hw dX6_reduceEqual_118 ?_
        refine lv_iconst hx hb dX6_reduceEqual_121 (v := jI 3) rfl ?_
        refine lv_iload hx hb dX6_reduceEqual_122 (lv_at hl 1 rfl) ?_
        refine lv_iload hx hb dX6_reduceEqual_124 (lv_at hl 0 rfl) ?_
        refine lv_iconst hx hb dX6_reduceEqual_126 (v := jI 0) rfl ?_
        refine ycI (n := 4) (e_10_call (by decide) rv9 rv12 (by decide) h) 10 8 (r := (RX10, TX10, 16)) rfl yG_6_179 yD_10_call X hw rfl yGo_10 (Nat.le_trans (Nat.le_of_ble_eq_true rfl) hRf) (Nat.le_trans (Nat.le_of_ble_eq_true rfl) hRl) rfl hl.1 (Nat.le_of_ble_eq_true rfl) rfl dX6_reduceEqual_127 (fun v13 u H locs rv13 h hw => ?_)
        refine ycV (n := 2) (e_6_askInstead rx1 rv13 h) 6 5 (r := (RX6, TX6, 14)) rfl yG_6_184 yD_6_askInstead X hw rfl yGo_6 (Nat.le_trans (Nat.le_of_ble_eq_true rfl) hRf) (Nat.le_trans (Nat.le_of_ble_eq_true rfl) hRl) rfl hl.1 (Nat.le_of_ble_eq_true rfl) rfl dX6_reduceEqual_130 (fun u H locs h hw => ?_)
        refine lv_goto hx hb dX6_reduceEqual_133 (tgt := 190) rfl ?_
        exact hret _ _ _ _ _ h hw dX6_reduceEqual_190
  · refine lv_aload_n hx hb dX6_reduceEqual_39 rfl (lv_at hl 1 rfl) ?_
    refine lv_iconst hx hb dX6_reduceEqual_40 (v := jI 1) rfl ?_
    refine ycV (n := 1) (e_6_finish (by decide) h) 6 5 (r := (RX6, TX6, 14)) rfl yG_6_96 yD_6_finish X hw rfl yGo_6 (Nat.le_trans (Nat.le_of_ble_eq_true rfl) hRf) (Nat.le_trans (Nat.le_of_ble_eq_true rfl) hRl) rfl hl.1 (Nat.le_of_ble_eq_true rfl) rfl dX6_reduceEqual_41 (fun u H locs h hw => ?_)
    refine lv_goto hx hb dX6_reduceEqual_44 (tgt := 190) rfl ?_
    exact hret _ _ _ _ _ h hw dX6_reduceEqual_190

def v_6_reduceEqual (a0 : Int) (a1 : Int) (a2 : Int) (Q : iST → Prop) (u : iST) : Prop :=
  v_7_isCallOf a1 5 (fun v1 u => 
  v_7_isCallOf a2 5 (fun v2 u => 
  br (v1 = 0) (
    v_6_reduceEqual_32 Q a0 a1 a2 v1 v2 a1 u) (
    v_6_reduceEqual_32 Q a0 a1 a2 v1 v2 a2 u)) u) u
set_option maxRecDepth 20000 in
set_option maxHeartbeats 4000000 in
theorem f_6_reduceEqual_s (X : yX RX6 p m c cX6_reduceEqual 9 s args D ca ad A) (hRf : 3 ≤ R.frames) (hRl : 106 ≤ R.locals) {Q : iST → Prop} (hret : ∀ (u : iST) (H : Heap) (locs : List Loc) (ls : Array Slot) (pc : Nat), Q u → yW D ca A ad s H locs u → decode cX6_reduceEqual pc = .ok (.return_, 1) → W p l e R s m args below meth c H locs 0 0 Qf (F0 m pc ls [])) {a0 a1 a2 : Int} (ra0 : (0 ≤ a0 ∧ a0 < 60)) (ra1 : inR a1) (ra2 : inR a2) (hw : yW D ca A ad s H locs u) (hl : lv_has ls 9 [(0, .ref (ad 0 5)), (1, .ref (ad 7 a0.toNat)), (2, .int (jI a1)), (3, .int (jI a2))]) (h : v_6_reduceEqual a0 a1 a2 Q u) : W p l e R s m args below meth c H locs 0 0 Qf (F0 m 0 ls []) := by
  have hx := X.1.1
  have hb := X.1.2.1
  unfold v_6_reduceEqual at h
  refine lv_aload_n hx hb dX6_reduceEqual_0 rfl (lv_at hl 0 rfl) ?_
  refine yg_6_39 X hw dX6_reduceEqual_1 ?_
  refine lv_iload_n hx hb dX6_reduceEqual_4 rfl (lv_at hl 2 rfl) ?_
  refine lv_iconst hx hb dX6_reduceEqual_5 (v := jI 5) rfl ?_
  refine ycI (n := 2) (e_7_isCallOf ra1 (by decide) h) 7 6 (r := (RX7, TX7, 9)) rfl yG_6_175 yD_7_isCallOf X hw rfl yGo_7 (Nat.le_trans (Nat.le_of_ble_eq_true rfl) hRf) (Nat.le_trans (Nat.le_of_ble_eq_true rfl) hRl) rfl hl.1 (Nat.le_of_ble_eq_true rfl) rfl dX6_reduceEqual_6 (fun v1 u H locs rv1 h hw => ?_)
  refine lv_istore hx hb dX6_reduceEqual_9 hl (by decide) rfl (fun ls hl => ?_)
  have hl : lv_has ls 9 [(4, .int (jI v1)), (0, .ref (ad 0 5)), (1, .ref (ad 7 a0.toNat)), (2, .int (jI a1)), (3, .int (jI a2))] := hl
  refine lv_aload_n hx hb dX6_reduceEqual_11 rfl (lv_at hl 1 rfl) ?_
  refine yg_6_39 X hw dX6_reduceEqual_12 ?_
  refine lv_iload_n hx hb dX6_reduceEqual_15 rfl (lv_at hl 4 rfl) ?_
  refine lv_iconst hx hb dX6_reduceEqual_16 (v := jI 5) rfl ?_
  refine ycI (n := 2) (e_7_isCallOf ra2 (by decide) h) 7 6 (r := (RX7, TX7, 9)) rfl yG_6_175 yD_7_isCallOf X hw rfl yGo_7 (Nat.le_trans (Nat.le_of_ble_eq_true rfl) hRf) (Nat.le_trans (Nat.le_of_ble_eq_true rfl) hRl) rfl hl.1 (Nat.le_of_ble_eq_true rfl) rfl dX6_reduceEqual_17 (fun v2 u H locs rv2 h hw => ?_)
  refine lv_istore hx hb dX6_reduceEqual_20 hl (by decide) rfl (fun ls hl => ?_)
  have hl : lv_has ls 9 [(5, .int (jI v2)), (4, .int (jI v1)), (0, .ref (ad 0 5)), (1, .ref (ad 7 a0.toNat)), (2, .int (jI a1)), (3, .int (jI a2))] := hl
  refine lv_iload hx hb dX6_reduceEqual_22 (lv_at hl 1 rfl) ?_
  refine k_if_eq hx hb rv1 dX6_reduceEqual_24 (tgt := 31) rfl h (fun h => ?_) (fun h => ?_)
  · refine lv_iload_n hx hb dX6_reduceEqual_31 rfl (lv_at hl 4 rfl) ?_
    exact f_6_reduceEqual_32 X hRf hRl hret ra0 ra1 ra2 rv1 rv2 ra1 hw (lv_sub hl [2, 3, 4, 5, 1, 0] rfl) h
  · refine lv_iload_n hx hb dX6_reduceEqual_27 rfl (lv_at hl 5 rfl) ?_
    refine lv_goto hx hb dX6_reduceEqual_28 (tgt := 32) rfl ?_
    exact f_6_reduceEqual_32 X hRf hRl hret ra0 ra1 ra2 rv1 rv2 ra2 hw (lv_sub hl [2, 3, 4, 5, 1, 0] rfl) h

end
theorem e_6_reduceEqual {l : Launch} {a0 : Int} {a1 : Int} {a2 : Int} (ra0 : (0 ≤ a0 ∧ a0 < 60)) (ra1 : inR a1) (ra2 : inR a2) {Q : iST → Prop} {u : iST} (h : v_6_reduceEqual a0 a1 a2 Q u) : yMV l yX6_reduceEqual (.code yX6_reduceEqual cX6_reduceEqual 9 none :: wsN) { frames := 3, cells := 0, slots := 0, locals := 106 } (fun ad => [.ref (ad 0 5), .ref (ad 7 a0.toNat), .int (jI a1), .int (jI a2)]) Q u := yMV_of (own := RX6) rfl (by decide +kernel) (fun _ => Nat.le_of_ble_eq_true rfl) (fun X hRf hRl hret hw hl => f_6_reduceEqual_s X hRf hRl hret ra0 ra1 ra2 hw hl h)

/-! ProofHouse$Rewriter.reduceLess -/
theorem dX6_reduceLess_0 : decode cX6_reduceLess 0 = .ok (.aload_n 0, 1) := by decide +kernel
theorem dX6_reduceLess_1 : decode cX6_reduceLess 1 = .ok (.getfield 39, 3) := by decide +kernel
theorem dX6_reduceLess_4 : decode cX6_reduceLess 4 = .ok (.iload_n 2, 1) := by decide +kernel
theorem dX6_reduceLess_5 : decode cX6_reduceLess 5 = .ok (.iconst 1, 1) := by decide +kernel
theorem dX6_reduceLess_6 : decode cX6_reduceLess 6 = .ok (.invokevirtual 109, 3) := by decide +kernel
theorem dX6_reduceLess_9 : decode cX6_reduceLess 9 = .ok (.istore 4, 2) := by decide +kernel
theorem dX6_reduceLess_11 : decode cX6_reduceLess 11 = .ok (.aload_n 0, 1) := by decide +kernel
theorem dX6_reduceLess_12 : decode cX6_reduceLess 12 = .ok (.getfield 39, 3) := by decide +kernel
theorem dX6_reduceLess_15 : decode cX6_reduceLess 15 = .ok (.iload_n 3, 1) := by decide +kernel
theorem dX6_reduceLess_16 : decode cX6_reduceLess 16 = .ok (.iconst 1, 1) := by decide +kernel
theorem dX6_reduceLess_17 : decode cX6_reduceLess 17 = .ok (.invokevirtual 109, 3) := by decide +kernel
theorem dX6_reduceLess_20 : decode cX6_reduceLess 20 = .ok (.istore 5, 2) := by decide +kernel
theorem dX6_reduceLess_22 : decode cX6_reduceLess 22 = .ok (.aload_n 0, 1) := by decide +kernel
theorem dX6_reduceLess_23 : decode cX6_reduceLess 23 = .ok (.getfield 39, 3) := by decide +kernel
theorem dX6_reduceLess_26 : decode cX6_reduceLess 26 = .ok (.iload 4, 2) := by decide +kernel
theorem dX6_reduceLess_28 : decode cX6_reduceLess 28 = .ok (.bipush 11, 2) := by decide +kernel
theorem dX6_reduceLess_30 : decode cX6_reduceLess 30 = .ok (.invokevirtual 175, 3) := by decide +kernel
theorem dX6_reduceLess_33 : decode cX6_reduceLess 33 = .ok (.ifCond .ne 17, 3) := by decide +kernel
theorem dX6_reduceLess_36 : decode cX6_reduceLess 36 = .ok (.aload_n 0, 1) := by decide +kernel
theorem dX6_reduceLess_37 : decode cX6_reduceLess 37 = .ok (.getfield 39, 3) := by decide +kernel
theorem dX6_reduceLess_40 : decode cX6_reduceLess 40 = .ok (.iload 4, 2) := by decide +kernel
theorem dX6_reduceLess_42 : decode cX6_reduceLess 42 = .ok (.bipush 12, 2) := by decide +kernel
theorem dX6_reduceLess_44 : decode cX6_reduceLess 44 = .ok (.invokevirtual 175, 3) := by decide +kernel
theorem dX6_reduceLess_47 : decode cX6_reduceLess 47 = .ok (.ifCond .eq 7, 3) := by decide +kernel
theorem dX6_reduceLess_50 : decode cX6_reduceLess 50 = .ok (.iconst 1, 1) := by decide +kernel
theorem dX6_reduceLess_51 : decode cX6_reduceLess 51 = .ok (.goto 4, 3) := by decide +kernel
theorem dX6_reduceLess_54 : decode cX6_reduceLess 54 = .ok (.iconst 0, 1) := by decide +kernel
theorem dX6_reduceLess_55 : decode cX6_reduceLess 55 = .ok (.istore 6, 2) := by decide +kernel
theorem dX6_reduceLess_57 : decode cX6_reduceLess 57 = .ok (.aload_n 0, 1) := by decide +kernel
theorem dX6_reduceLess_58 : decode cX6_reduceLess 58 = .ok (.getfield 39, 3) := by decide +kernel
theorem dX6_reduceLess_61 : decode cX6_reduceLess 61 = .ok (.iload_n 2, 1) := by decide +kernel
theorem dX6_reduceLess_62 : decode cX6_reduceLess 62 = .ok (.bipush 15, 2) := by decide +kernel
theorem dX6_reduceLess_64 : decode cX6_reduceLess 64 = .ok (.invokevirtual 175, 3) := by decide +kernel
theorem dX6_reduceLess_67 : decode cX6_reduceLess 67 = .ok (.ifCond .eq 20, 3) := by decide +kernel
theorem dX6_reduceLess_70 : decode cX6_reduceLess 70 = .ok (.aload_n 0, 1) := by decide +kernel
theorem dX6_reduceLess_71 : decode cX6_reduceLess 71 = .ok (.getfield 39, 3) := by decide +kernel
theorem dX6_reduceLess_74 : decode cX6_reduceLess 74 = .ok (.iload_n 3, 1) := by decide +kernel
theorem dX6_reduceLess_75 : decode cX6_reduceLess 75 = .ok (.bipush 15, 2) := by decide +kernel
theorem dX6_reduceLess_77 : decode cX6_reduceLess 77 = .ok (.invokevirtual 175, 3) := by decide +kernel
theorem dX6_reduceLess_80 : decode cX6_reduceLess 80 = .ok (.ifCond .eq 7, 3) := by decide +kernel
theorem dX6_reduceLess_83 : decode cX6_reduceLess 83 = .ok (.iconst 1, 1) := by decide +kernel
theorem dX6_reduceLess_84 : decode cX6_reduceLess 84 = .ok (.goto 4, 3) := by decide +kernel
theorem dX6_reduceLess_87 : decode cX6_reduceLess 87 = .ok (.iconst 0, 1) := by decide +kernel
theorem dX6_reduceLess_88 : decode cX6_reduceLess 88 = .ok (.istore 7, 2) := by decide +kernel
theorem dX6_reduceLess_90 : decode cX6_reduceLess 90 = .ok (.iload_n 2, 1) := by decide +kernel
theorem dX6_reduceLess_91 : decode cX6_reduceLess 91 = .ok (.iload_n 3, 1) := by decide +kernel
theorem dX6_reduceLess_92 : decode cX6_reduceLess 92 = .ok (.if_icmp .eq 27, 3) := by decide +kernel
theorem dX6_reduceLess_95 : decode cX6_reduceLess 95 = .ok (.aload_n 0, 1) := by decide +kernel
theorem dX6_reduceLess_96 : decode cX6_reduceLess 96 = .ok (.getfield 39, 3) := by decide +kernel
theorem dX6_reduceLess_99 : decode cX6_reduceLess 99 = .ok (.iload_n 3, 1) := by decide +kernel
theorem dX6_reduceLess_100 : decode cX6_reduceLess 100 = .ok (.invokevirtual 233, 3) := by decide +kernel
theorem dX6_reduceLess_103 : decode cX6_reduceLess 103 = .ok (.ifCond .eq 24, 3) := by decide +kernel
theorem dX6_reduceLess_106 : decode cX6_reduceLess 106 = .ok (.aload_n 0, 1) := by decide +kernel
theorem dX6_reduceLess_107 : decode cX6_reduceLess 107 = .ok (.getfield 39, 3) := by decide +kernel
theorem dX6_reduceLess_110 : decode cX6_reduceLess 110 = .ok (.iload_n 3, 1) := by decide +kernel
theorem dX6_reduceLess_111 : decode cX6_reduceLess 111 = .ok (.invokevirtual 236, 3) := by decide +kernel
theorem dX6_reduceLess_114 : decode cX6_reduceLess 114 = .ok (.lconst 0, 1) := by decide +kernel
theorem dX6_reduceLess_115 : decode cX6_reduceLess 115 = .ok (.lcmp, 1) := by decide +kernel
theorem dX6_reduceLess_116 : decode cX6_reduceLess 116 = .ok (.ifCond .ne 11, 3) := by decide +kernel
theorem dX6_reduceLess_119 : decode cX6_reduceLess 119 = .ok (.aload_n 0, 1) := by decide +kernel
theorem dX6_reduceLess_120 : decode cX6_reduceLess 120 = .ok (.iconst 0, 1) := by decide +kernel
theorem dX6_reduceLess_121 : decode cX6_reduceLess 121 = .ok (.invokevirtual 96, 3) := by decide +kernel
theorem dX6_reduceLess_124 : decode cX6_reduceLess 124 = .ok (.goto 121, 3) := by decide +kernel
theorem dX6_reduceLess_127 : decode cX6_reduceLess 127 = .ok (.iload 7, 2) := by decide +kernel
theorem dX6_reduceLess_129 : decode cX6_reduceLess 129 = .ok (.ifCond .eq 44, 3) := by decide +kernel
theorem dX6_reduceLess_132 : decode cX6_reduceLess 132 = .ok (.iload 6, 2) := by decide +kernel
theorem dX6_reduceLess_134 : decode cX6_reduceLess 134 = .ok (.ifCond .eq 39, 3) := by decide +kernel
theorem dX6_reduceLess_137 : decode cX6_reduceLess 137 = .ok (.aload_n 0, 1) := by decide +kernel
theorem dX6_reduceLess_138 : decode cX6_reduceLess 138 = .ok (.getfield 39, 3) := by decide +kernel
theorem dX6_reduceLess_141 : decode cX6_reduceLess 141 = .ok (.iload 4, 2) := by decide +kernel
theorem dX6_reduceLess_143 : decode cX6_reduceLess 143 = .ok (.iconst 1, 1) := by decide +kernel
theorem dX6_reduceLess_144 : decode cX6_reduceLess 144 = .ok (.invokevirtual 109, 3) := by decide +kernel
theorem dX6_reduceLess_147 : decode cX6_reduceLess 147 = .ok (.iload 5, 2) := by decide +kernel
theorem dX6_reduceLess_149 : decode cX6_reduceLess 149 = .ok (.if_icmp .ne 24, 3) := by decide +kernel
theorem dX6_reduceLess_152 : decode cX6_reduceLess 152 = .ok (.aload_n 0, 1) := by decide +kernel
theorem dX6_reduceLess_153 : decode cX6_reduceLess 153 = .ok (.aload_n 1, 1) := by decide +kernel
theorem dX6_reduceLess_154 : decode cX6_reduceLess 154 = .ok (.aload_n 0, 1) := by decide +kernel
theorem dX6_reduceLess_155 : decode cX6_reduceLess 155 = .ok (.getfield 47, 3) := by decide +kernel
theorem dX6_reduceLess_158 : decode cX6_reduceLess 158 = .ok (.bipush 10, 2) := by decide +kernel
theorem dX6_reduceLess_160 : decode cX6_reduceLess 160 = .ok (.iload 5, 2) := by decide +kernel
theorem dX6_reduceLess_162 : decode cX6_reduceLess 162 = .ok (.iconst (-1), 1) := by decide +kernel
theorem dX6_reduceLess_163 : decode cX6_reduceLess 163 = .ok (.iconst (-1), 1) := by decide +kernel
theorem dX6_reduceLess_164 : decode cX6_reduceLess 164 = .ok (.invokevirtual 179, 3) := by decide +kernel
theorem dX6_reduceLess_167 : decode cX6_reduceLess 167 = .ok (.invokevirtual 184, 3) := by decide +kernel
theorem dX6_reduceLess_170 : decode cX6_reduceLess 170 = .ok (.goto 75, 3) := by decide +kernel
theorem dX6_reduceLess_173 : decode cX6_reduceLess 173 = .ok (.aload_n 0, 1) := by decide +kernel
theorem dX6_reduceLess_174 : decode cX6_reduceLess 174 = .ok (.getfield 39, 3) := by decide +kernel
theorem dX6_reduceLess_177 : decode cX6_reduceLess 177 = .ok (.iload_n 2, 1) := by decide +kernel
theorem dX6_reduceLess_178 : decode cX6_reduceLess 178 = .ok (.bipush 8, 2) := by decide +kernel
theorem dX6_reduceLess_180 : decode cX6_reduceLess 180 = .ok (.invokevirtual 175, 3) := by decide +kernel
theorem dX6_reduceLess_183 : decode cX6_reduceLess 183 = .ok (.ifCond .eq 57, 3) := by decide +kernel
theorem dX6_reduceLess_186 : decode cX6_reduceLess 186 = .ok (.iload 4, 2) := by decide +kernel
theorem dX6_reduceLess_188 : decode cX6_reduceLess 188 = .ok (.iload_n 3, 1) := by decide +kernel
theorem dX6_reduceLess_189 : decode cX6_reduceLess 189 = .ok (.if_icmp .ne 51, 3) := by decide +kernel
theorem dX6_reduceLess_192 : decode cX6_reduceLess 192 = .ok (.aload_n 0, 1) := by decide +kernel
theorem dX6_reduceLess_193 : decode cX6_reduceLess 193 = .ok (.getfield 39, 3) := by decide +kernel
theorem dX6_reduceLess_196 : decode cX6_reduceLess 196 = .ok (.aload_n 0, 1) := by decide +kernel
theorem dX6_reduceLess_197 : decode cX6_reduceLess 197 = .ok (.getfield 39, 3) := by decide +kernel
theorem dX6_reduceLess_200 : decode cX6_reduceLess 200 = .ok (.iload_n 2, 1) := by decide +kernel
theorem dX6_reduceLess_201 : decode cX6_reduceLess 201 = .ok (.iconst 2, 1) := by decide +kernel
theorem dX6_reduceLess_202 : decode cX6_reduceLess 202 = .ok (.invokevirtual 109, 3) := by decide +kernel
theorem dX6_reduceLess_205 : decode cX6_reduceLess 205 = .ok (.invokevirtual 236, 3) := by decide +kernel
theorem dX6_reduceLess_208 : decode cX6_reduceLess 208 = .ok (.lconst 0, 1) := by decide +kernel
theorem dX6_reduceLess_209 : decode cX6_reduceLess 209 = .ok (.lcmp, 1) := by decide +kernel
theorem dX6_reduceLess_210 : decode cX6_reduceLess 210 = .ok (.ifCond .le 30, 3) := by decide +kernel
theorem dX6_reduceLess_213 : decode cX6_reduceLess 213 = .ok (.aload_n 0, 1) := by decide +kernel
theorem dX6_reduceLess_214 : decode cX6_reduceLess 214 = .ok (.aload_n 1, 1) := by decide +kernel
theorem dX6_reduceLess_215 : decode cX6_reduceLess 215 = .ok (.aload_n 0, 1) := by decide +kernel
theorem dX6_reduceLess_216 : decode cX6_reduceLess 216 = .ok (.getfield 47, 3) := by decide +kernel
theorem dX6_reduceLess_219 : decode cX6_reduceLess 219 = .ok (.bipush 9, 2) := by decide +kernel
theorem dX6_reduceLess_221 : decode cX6_reduceLess 221 = .ok (.aload_n 0, 1) := by decide +kernel
theorem dX6_reduceLess_222 : decode cX6_reduceLess 222 = .ok (.getfield 39, 3) := by decide +kernel
theorem dX6_reduceLess_225 : decode cX6_reduceLess 225 = .ok (.lconst 0, 1) := by decide +kernel
theorem dX6_reduceLess_226 : decode cX6_reduceLess 226 = .ok (.invokevirtual 195, 3) := by decide +kernel
theorem dX6_reduceLess_229 : decode cX6_reduceLess 229 = .ok (.iload_n 3, 1) := by decide +kernel
theorem dX6_reduceLess_230 : decode cX6_reduceLess 230 = .ok (.iconst (-1), 1) := by decide +kernel
theorem dX6_reduceLess_231 : decode cX6_reduceLess 231 = .ok (.invokevirtual 179, 3) := by decide +kernel
theorem dX6_reduceLess_234 : decode cX6_reduceLess 234 = .ok (.invokevirtual 184, 3) := by decide +kernel
theorem dX6_reduceLess_237 : decode cX6_reduceLess 237 = .ok (.goto 8, 3) := by decide +kernel
theorem dX6_reduceLess_240 : decode cX6_reduceLess 240 = .ok (.aload_n 1, 1) := by decide +kernel
theorem dX6_reduceLess_241 : decode cX6_reduceLess 241 = .ok (.iconst 3, 1) := by decide +kernel
theorem dX6_reduceLess_242 : decode cX6_reduceLess 242 = .ok (.bipush 11, 2) := by decide +kernel
theorem dX6_reduceLess_244 : decode cX6_reduceLess 244 = .ok (.iastore, 1) := by decide +kernel
theorem dX6_reduceLess_245 : decode cX6_reduceLess 245 = .ok (.return_, 1) := by decide +kernel

section
variable {p : Program} {l : Launch} {e : Env} {R : Room} {s : State} {m : MethodId} {args : Array Value} {below : List Frame} {meth : Method} {c : Code} {H : Heap} {locs : List Loc} {Qf : State → Prop}
variable {ls : Array Slot} {D : va_G} {ca : Nat → ClassId} {A : Nat → Prop} {ad : Nat → Nat → Nat} {u : iST}
def v_6_reduceLess_119 (Q : iST → Prop) (u : iST) : Prop :=
  v_6_finish 0 (fun u => 
  Q u) u
set_option maxRecDepth 20000 in
set_option maxHeartbeats 4000000 in
theorem f_6_reduceLess_119 (X : yX RX6 p m c cX6_reduceLess 8 s args D ca ad A) (hRf : 3 ≤ R.frames) (hRl : 106 ≤ R.locals) {Q : iST → Prop} (hret : ∀ (u : iST) (H : Heap) (locs : List Loc) (ls : Array Slot) (pc : Nat), Q u → yW D ca A ad s H locs u → decode cX6_reduceLess pc = .ok (.return_, 1) → W p l e R s m args below meth c H locs 0 0 Qf (F0 m pc ls [])) (hw : yW D ca A ad s H locs u) (hl : lv_has ls 8 [(0, .ref (ad 0 5))]) (h : v_6_reduceLess_119 Q u) : W p l e R s m args below meth c H locs 0 0 Qf (F0 m 119 ls []) := by
  have hx := X.1.1
  have hb := X.1.2.1
  unfold v_6_reduceLess_119 at h
  refine lv_aload_n hx hb dX6_reduceLess_119 rfl (lv_at hl 0 rfl) ?_
  refine lv_iconst hx hb dX6_reduceLess_120 (v := jI 0) rfl ?_
  refine ycV (n := 1) (e_6_finish (by decide) h) 6 5 (r := (RX6, TX6, 14)) rfl yG_6_96 yD_6_finish X hw rfl yGo_6 (Nat.le_trans (Nat.le_of_ble_eq_true rfl) hRf) (Nat.le_trans (Nat.le_of_ble_eq_true rfl) hRl) rfl hl.1 (Nat.le_of_ble_eq_true rfl) rfl dX6_reduceLess_121 (fun u H locs h hw => ?_)
  refine lv_goto hx hb dX6_reduceLess_124 (tgt := 245) rfl ?_
  exact hret _ _ _ _ _ h hw dX6_reduceLess_245

def v_6_reduceLess_240 (Q : iST → Prop) (x1 : Int) (u : iST) : Prop :=
  bd 3 17 (sw (iA u 51 (17 * x1 + 3) 11) (fun u => 
  Q u))
set_option maxRecDepth 20000 in
set_option maxHeartbeats 4000000 in
theorem f_6_reduceLess_240 (X : yX RX6 p m c cX6_reduceLess 8 s args D ca ad A) (hRf : 3 ≤ R.frames) (hRl : 106 ≤ R.locals) {Q : iST → Prop} (hret : ∀ (u : iST) (H : Heap) (locs : List Loc) (ls : Array Slot) (pc : Nat), Q u → yW D ca A ad s H locs u → decode cX6_reduceLess pc = .ok (.return_, 1) → W p l e R s m args below meth c H locs 0 0 Qf (F0 m pc ls [])) {x1 : Int} (rx1 : (0 ≤ x1 ∧ x1 < 60)) (hw : yW D ca A ad s H locs u) (hl : lv_has ls 8 [(0, .ref (ad 0 5)), (1, .ref (ad 7 x1.toNat))]) (h : v_6_reduceLess_240 Q x1 u) : W p l e R s m args below meth c H locs 0 0 Qf (F0 m 240 ls []) := by
  have hx := X.1.1
  have hb := X.1.2.1
  unfold v_6_reduceLess_240 at h
  refine lv_aload_n hx hb dX6_reduceLess_240 rfl (lv_at hl 1 rfl) ?_
  refine lv_iconst hx hb dX6_reduceLess_241 (v := jI 3) rfl ?_
  refine lv_bipush hx hb dX6_reduceLess_242 (v := jI 11) rfl ?_
  refine yft_frames X hw rx1 (by decide) (by decide) dX6_reduceLess_244 h (fun H locs u hw h => ?_)
  exact hret _ _ _ _ _ h hw dX6_reduceLess_245

def v_6_reduceLess_173 (Q : iST → Prop) (x1 : Int) (x2 : Int) (x3 : Int) (x4 : Int) (u : iST) : Prop :=
  v_7_isCallOf x2 8 (fun v7 u => 
  br (v7 = 0) (
    v_6_reduceLess_240 Q x1 u) (
    br (x4 ≠ x3) (
      v_6_reduceLess_240 Q x1 u) (
      v_7_item x2 2 (fun v8 u => 
      v_7_numberOf v8 (fun v9 u => 
      br (v9 ≤ 0) (
        v_6_reduceLess_240 Q x1 u) (
        v_7_made 0 (fun v10 u => 
        v_10_call 9 v10 x3 (-1) (fun v11 u => 
        v_6_askInstead x1 v11 (fun u => 
        Q u) u) u) u)) u) u))) u
set_option maxRecDepth 20000 in
set_option maxHeartbeats 4000000 in
theorem f_6_reduceLess_173 (X : yX RX6 p m c cX6_reduceLess 8 s args D ca ad A) (hRf : 3 ≤ R.frames) (hRl : 106 ≤ R.locals) {Q : iST → Prop} (hret : ∀ (u : iST) (H : Heap) (locs : List Loc) (ls : Array Slot) (pc : Nat), Q u → yW D ca A ad s H locs u → decode cX6_reduceLess pc = .ok (.return_, 1) → W p l e R s m args below meth c H locs 0 0 Qf (F0 m pc ls [])) {x1 x2 x3 x4 : Int} (rx1 : (0 ≤ x1 ∧ x1 < 60)) (rx2 : inR x2) (rx3 : inR x3) (rx4 : inR x4) (hw : yW D ca A ad s H locs u) (hl : lv_has ls 8 [(0, .ref (ad 0 5)), (1, .ref (ad 7 x1.toNat)), (2, .int (jI x2)), (3, .int (jI x3)), (4, .int (jI x4))]) (h : v_6_reduceLess_173 Q x1 x2 x3 x4 u) : W p l e R s m args below meth c H locs 0 0 Qf (F0 m 173 ls []) := by
  have hx := X.1.1
  have hb := X.1.2.1
  unfold v_6_reduceLess_173 at h
  refine lv_aload_n hx hb dX6_reduceLess_173 rfl (lv_at hl 0 rfl) ?_
  refine yg_6_39 X hw dX6_reduceLess_174 ?_
  refine lv_iload_n hx hb dX6_reduceLess_177 rfl (lv_at hl 2 rfl) ?_
  refine lv_bipush hx hb dX6_reduceLess_178 (v := jI 8) rfl ?_
  refine ycI (n := 2) (e_7_isCallOf rx2 (by decide) h) 7 6 (r := (RX7, TX7, 9)) rfl yG_6_175 yD_7_isCallOf X hw rfl yGo_7 (Nat.le_trans (Nat.le_of_ble_eq_true rfl) hRf) (Nat.le_trans (Nat.le_of_ble_eq_true rfl) hRl) rfl hl.1 (Nat.le_of_ble_eq_true rfl) rfl dX6_reduceLess_180 (fun v7 u H locs rv7 h hw => ?_)
  refine k_if_eq hx hb rv7 dX6_reduceLess_183 (tgt := 240) rfl h (fun h => ?_) (fun h => ?_)
  · exact f_6_reduceLess_240 X hRf hRl hret rx1 hw (lv_sub hl [0, 1] rfl) h
  · refine lv_iload hx hb dX6_reduceLess_186 (lv_at hl 4 rfl) ?_
    refine lv_iload_n hx hb dX6_reduceLess_188 rfl (lv_at hl 3 rfl) ?_
    refine k_icmp_ne hx hb rx4 rx3 dX6_reduceLess_189 (tgt := 240) rfl h (fun h => ?_) (fun h => ?_)
    · exact f_6_reduceLess_240 X hRf hRl hret rx1 hw (lv_sub hl [0, 1] rfl) h
    · refine lv_aload_n hx hb dX6_reduceLess_192 rfl (lv_at hl 0 rfl) ?_
      refine yg_6_39 X hw dX6_reduceLess_193 ?_
      refine lv_aload_n hx hb dX6_reduceLess_196 rfl (lv_at hl 0 rfl) ?_
      refine yg_6_39 X hw dX6_reduceLess_197 ?_
      refine lv_iload_n hx hb dX6_reduceLess_200 rfl (lv_at hl 2 rfl) ?_
      refine lv_iconst hx hb dX6_reduceLess_201 (v := jI 2) rfl ?_
      refine ycI (n := 2) (e_7_item rx2 (by decide) h) 7 6 (r := (RX7, TX7, 9)) rfl yG_6_109 yD_7_item X hw rfl yGo_7 (Nat.le_trans (Nat.le_of_ble_eq_true rfl) hRf) (Nat.le_trans (Nat.le_of_ble_eq_true rfl) hRl) rfl hl.1 (Nat.le_of_ble_eq_true rfl) rfl dX6_reduceLess_202 (fun v8 u H locs rv8 h hw => ?_)
      refine ycL (n := 1) (e_7_numberOf rv8 h) 7 6 (r := (RX7, TX7, 9)) rfl yG_6_236 yD_7_numberOf X hw rfl yGo_7 (Nat.le_trans (Nat.le_of_ble_eq_true rfl) hRf) (Nat.le_trans (Nat.le_of_ble_eq_true rfl) hRl) rfl hl.1 (Nat.le_of_ble_eq_true rfl) rfl dX6_reduceLess_205 (fun v9 u H locs rv9 h hw => ?_)
      refine lv_lconst hx hb dX6_reduceLess_208 (v := jL 0) rfl ?_
      refine k_lcmp_le hx hb rv9 (by decide) dX6_reduceLess_209 dX6_reduceLess_210 (tgt := 240) rfl h (fun h => ?_) (fun h => ?_)
      · exact f_6_reduceLess_240 X hRf hRl hret rx1 hw (lv_sub hl [0, 1] rfl) h
      · refine lv_aload_n hx hb dX6_reduceLess_213 rfl (lv_at hl 0 rfl) ?_
        refine lv_aload_n hx hb dX6_reduceLess_214 rfl (lv_at hl 1 rfl) ?_
        refine lv_aload_n hx hb dX6_reduceLess_215 rfl (lv_at hl 0 rfl) ?_
        refine yg_6_47 X hw dX6_reduceLess_216 ?_
        refine lv_bipush hx hb dX6_reduceLess_219 (v := jI 9) rfl ?_
        refine lv_aload_n hx hb dX6_reduceLess_221 rfl (lv_at hl 0 rfl) ?_
        refine yg_6_39 X hw dX6_reduceLess_222 ?_
        refine lv_lconst hx hb dX6_reduceLess_225 (v := jL 0) rfl ?_
        refine ycI (n := 1) (e_7_made (by decide) h) 7 6 (r := (RX7, TX7, 9)) rfl yG_6_195 yD_7_made X hw rfl yGo_7 (Nat.le_trans (Nat.le_of_ble_eq_true rfl) hRf) (Nat.le_trans (Nat.le_of_ble_eq_true rfl) hRl) rfl hl.1 (Nat.le_of_ble_eq_true rfl) rfl dX6_reduceLess_226 (fun v10 u H locs rv10 h hw => ?_)
        refine lv_iload_n hx hb dX6_reduceLess_229 rfl (lv_at hl 3 rfl) ?_
        refine lv_iconst hx hb dX6_reduceLess_230 (v := jI (-1)) rfl ?_
        refine ycI (n := 4) (e_10_call (by decide) rv10 rx3 (by decide) h) 10 8 (r := (RX10, TX10, 16)) rfl yG_6_179 yD_10_call X hw rfl yGo_10 (Nat.le_trans (Nat.le_of_ble_eq_true rfl) hRf) (Nat.le_trans (Nat.le_of_ble_eq_true rfl) hRl) rfl hl.1 (Nat.le_of_ble_eq_true rfl) rfl dX6_reduceLess_231 (fun v11 u H locs rv11 h hw => ?_)
        refine ycV (n := 2) (e_6_askInstead rx1 rv11 h) 6 5 (r := (RX6, TX6, 14)) rfl yG_6_184 yD_6_askInstead X hw rfl yGo_6 (Nat.le_trans (Nat.le_of_ble_eq_true rfl) hRf) (Nat.le_trans (Nat.le_of_ble_eq_true rfl) hRl) rfl hl.1 (Nat.le_of_ble_eq_true rfl) rfl dX6_reduceLess_234 (fun u H locs h hw => ?_)
        refine lv_goto hx hb dX6_reduceLess_237 (tgt := 245) rfl ?_
        exact hret _ _ _ _ _ h hw dX6_reduceLess_245

def v_6_reduceLess_127 (Q : iST → Prop) (x1 : Int) (x2 : Int) (x3 : Int) (x4 : Int) (x5 : Int) (x6 : Int) (x7 : Int) (u : iST) : Prop :=
  br (x7 = 0) (
    v_6_reduceLess_173 Q x1 x2 x3 x4 u) (
    br (x6 = 0) (
      v_6_reduceLess_173 Q x1 x2 x3 x4 u) (
      v_7_item x4 1 (fun v13 u => 
      br (v13 ≠ x5) (
        v_6_reduceLess_173 Q x1 x2 x3 x4 u) (
        v_10_call 10 x5 (-1) (-1) (fun v14 u => 
        v_6_askInstead x1 v14 (fun u => 
        Q u) u) u)) u))
set_option maxRecDepth 20000 in
set_option maxHeartbeats 4000000 in
theorem f_6_reduceLess_127 (X : yX RX6 p m c cX6_reduceLess 8 s args D ca ad A) (hRf : 3 ≤ R.frames) (hRl : 106 ≤ R.locals) {Q : iST → Prop} (hret : ∀ (u : iST) (H : Heap) (locs : List Loc) (ls : Array Slot) (pc : Nat), Q u → yW D ca A ad s H locs u → decode cX6_reduceLess pc = .ok (.return_, 1) → W p l e R s m args below meth c H locs 0 0 Qf (F0 m pc ls [])) {x1 x2 x3 x4 x5 x6 x7 : Int} (rx1 : (0 ≤ x1 ∧ x1 < 60)) (rx2 : inR x2) (rx3 : inR x3) (rx4 : inR x4) (rx5 : inR x5) (rx6 : inR x6) (rx7 : inR x7) (hw : yW D ca A ad s H locs u) (hl : lv_has ls 8 [(0, .ref (ad 0 5)), (1, .ref (ad 7 x1.toNat)), (2, .int (jI x2)), (3, .int (jI x3)), (4, .int (jI x4)), (5, .int (jI x5)), (6, .int (jI x6)), (7, .int (jI x7))]) (h : v_6_reduceLess_127 Q x1 x2 x3 x4 x5 x6 x7 u) : W p l e R s m args below meth c H locs 0 0 Qf (F0 m 127 ls []) := by
  have hx := X.1.1
  have hb := X.1.2.1
  unfold v_6_reduceLess_127 at h
  refine lv_iload hx hb dX6_reduceLess_127 (lv_at hl 7 rfl) ?_
  refine k_if_eq hx hb rx7 dX6_reduceLess_129 (tgt := 173) rfl h (fun h => ?_) (fun h => ?_)
  · exact f_6_reduceLess_173 X hRf hRl hret rx1 rx2 rx3 rx4 hw (lv_sub hl [0, 1, 2, 3, 4] rfl) h
  · refine lv_iload hx hb dX6_reduceLess_132 (lv_at hl 6 rfl) ?_
    refine k_if_eq hx hb rx6 dX6_reduceLess_134 (tgt := 173) rfl h (fun h => ?_) (fun h => ?_)
    · exact f_6_reduceLess_173 X hRf hRl hret rx1 rx2 rx3 rx4 hw (lv_sub hl [0, 1, 2, 3, 4] rfl) h
    · refine lv_aload_n hx hb dX6_reduceLess_137 rfl (lv_at hl 0 rfl) ?_
      refine yg_6_39 X hw dX6_reduceLess_138 ?_
      refine lv_iload hx hb dX6_reduceLess_141 (lv_at hl 4 rfl) ?_
      refine lv_iconst hx hb dX6_reduceLess_143 (v := jI 1) rfl ?_
      refine ycI (n := 2) (e_7_item rx4 (by decide) h) 7 6 (r := (RX7, TX7, 9)) rfl yG_6_109 yD_7_item X hw rfl yGo_7 (Nat.le_trans (Nat.le_of_ble_eq_true rfl) hRf) (Nat.le_trans (Nat.le_of_ble_eq_true rfl) hRl) rfl hl.1 (Nat.le_of_ble_eq_true rfl) rfl dX6_reduceLess_144 (fun v13 u H locs rv13 h hw => ?_)
      refine lv_iload hx hb dX6_reduceLess_147 (lv_at hl 5 rfl) ?_
      refine k_icmp_ne hx hb rv13 rx5 dX6_reduceLess_149 (tgt := 173) rfl h (fun h => ?_) (fun h => ?_)
      · exact f_6_reduceLess_173 X hRf hRl hret rx1 rx2 rx3 rx4 hw (lv_sub hl [0, 1, 2, 3, 4] rfl) h
      · refine lv_aload_n hx hb dX6_reduceLess_152 rfl (lv_at hl 0 rfl) ?_
        refine lv_aload_n hx hb dX6_reduceLess_153 rfl (lv_at hl 1 rfl) ?_
        refine lv_aload_n hx hb dX6_reduceLess_154 rfl (lv_at hl 0 rfl) ?_
        refine yg_6_47 X hw dX6_reduceLess_155 ?_
        refine lv_bipush hx hb dX6_reduceLess_158 (v := jI 10) rfl ?_
        refine lv_iload hx hb dX6_reduceLess_160 (lv_at hl 5 rfl) ?_
        refine lv_iconst hx hb dX6_reduceLess_162 (v := jI (-1)) rfl ?_
        refine lv_iconst hx hb dX6_reduceLess_163 (v := jI (-1)) rfl ?_
        refine ycI (n := 4) (e_10_call (by decide) rx5 (by decide) (by decide) h) 10 8 (r := (RX10, TX10, 16)) rfl yG_6_179 yD_10_call X hw rfl yGo_10 (Nat.le_trans (Nat.le_of_ble_eq_true rfl) hRf) (Nat.le_trans (Nat.le_of_ble_eq_true rfl) hRl) rfl hl.1 (Nat.le_of_ble_eq_true rfl) rfl dX6_reduceLess_164 (fun v14 u H locs rv14 h hw => ?_)
        refine ycV (n := 2) (e_6_askInstead rx1 rv14 h) 6 5 (r := (RX6, TX6, 14)) rfl yG_6_184 yD_6_askInstead X hw rfl yGo_6 (Nat.le_trans (Nat.le_of_ble_eq_true rfl) hRf) (Nat.le_trans (Nat.le_of_ble_eq_true rfl) hRl) rfl hl.1 (Nat.le_of_ble_eq_true rfl) rfl dX6_reduceLess_167 (fun u H locs h hw => ?_)
        refine lv_goto hx hb dX6_reduceLess_170 (tgt := 245) rfl ?_
        exact hret _ _ _ _ _ h hw dX6_reduceLess_245

def v_6_reduceLess_88 (Q : iST → Prop) (x1 : Int) (x2 : Int) (x3 : Int) (x4 : Int) (x5 : Int) (x6 : Int) (y0 : Int) (u : iST) : Prop :=
  br (x2 = x3) (
    v_6_reduceLess_119 Q u) (
    v_7_isNatural x3 (fun v6 u => 
    br (v6 = 0) (
      v_6_reduceLess_127 Q x1 x2 x3 x4 x5 x6 y0 u) (
      v_7_numberOf x3 (fun v16 u => 
      br (v16 ≠ 0) (
        v_6_reduceLess_127 Q x1 x2 x3 x4 x5 x6 y0 u) (
        v_6_reduceLess_119 Q u)) u)) u)
set_option maxRecDepth 20000 in
set_option maxHeartbeats 4000000 in
theorem f_6_reduceLess_88 (X : yX RX6 p m c cX6_reduceLess 8 s args D ca ad A) (hRf : 3 ≤ R.frames) (hRl : 106 ≤ R.locals) {Q : iST → Prop} (hret : ∀ (u : iST) (H : Heap) (locs : List Loc) (ls : Array Slot) (pc : Nat), Q u → yW D ca A ad s H locs u → decode cX6_reduceLess pc = .ok (.return_, 1) → W p l e R s m args below meth c H locs 0 0 Qf (F0 m pc ls [])) {x1 x2 x3 x4 x5 x6 y0 : Int} (rx1 : (0 ≤ x1 ∧ x1 < 60)) (rx2 : inR x2) (rx3 : inR x3) (rx4 : inR x4) (rx5 : inR x5) (rx6 : inR x6) (ry0 : inR y0) (hw : yW D ca A ad s H locs u) (hl : lv_has ls 8 [(0, .ref (ad 0 5)), (1, .ref (ad 7 x1.toNat)), (2, .int (jI x2)), (3, .int (jI x3)), (4, .int (jI x4)), (5, .int (jI x5)), (6, .int (jI x6))]) (h : v_6_reduceLess_88 Q x1 x2 x3 x4 x5 x6 y0 u) : W p l e R s m args below meth c H locs 0 0 Qf (F0 m 88 ls [.int (jI y0)]) := by
  have hx := X.1.1
  have hb := X.1.2.1
  unfold v_6_reduceLess_88 at h
  refine lv_istore hx hb dX6_reduceLess_88 hl (by decide) rfl (fun ls hl => ?_)
  have hl : lv_has ls 8 [(7, .int (jI y0)), (0, .ref (ad 0 5)), (1, .ref (ad 7 x1.toNat)), (2, .int (jI x2)), (3, .int (jI x3)), (4, .int (jI x4)), (5, .int (jI x5)), (6, .int (jI x6))] := hl
  refine lv_iload_n hx hb dX6_reduceLess_90 rfl (lv_at hl 3 rfl) ?_
  refine lv_iload_n hx hb dX6_reduceLess_91 rfl (lv_at hl 4 rfl) ?_
  refine k_icmp_eq hx hb rx2 rx3 dX6_reduceLess_92 (tgt := 119) rfl h (fun h => ?_) (fun h => ?_)
  · exact f_6_reduceLess_119 X hRf hRl hret hw (lv_sub hl [1] rfl) h
  · refine lv_aload_n hx hb dX6_reduceLess_95 rfl (lv_at hl 1 rfl) ?_
    refine yg_6_39 X hw dX6_reduceLess_96 ?_
    refine lv_iload_n hx hb dX6_reduceLess_99 rfl (lv_at hl 4 rfl) ?_
    refine ycI (n := 1) (e_7_isNatural rx3 h) 7 6 (r := (RX7, TX7, 9)) rfl yG_6_233 yD_7_isNatural X hw rfl yGo_7 (Nat.le_trans (Nat.le_of_ble_eq_true rfl) hRf) (Nat.le_trans (Nat.le_of_ble_eq_true rfl) hRl) rfl hl.1 (Nat.le_of_ble_eq_true rfl) rfl dX6_reduceLess_100 (fun v6 u H locs rv6 h hw => ?_)
    refine k_if_eq hx hb rv6 dX6_reduceLess_103 (tgt := 127) rfl h (fun h => ?_) (fun h => ?_)
    · exact f_6_reduceLess_127 X hRf hRl hret rx1 rx2 rx3 rx4 rx5 rx6 ry0 hw (lv_sub hl [1, 2, 3, 4, 5, 6, 7, 0] rfl) h
    · refine lv_aload_n hx hb dX6_reduceLess_106 rfl (lv_at hl 1 rfl) ?_
      refine yg_6_39 X hw dX6_reduceLess_107 ?_
      refine lv_iload_n hx hb dX6_reduceLess_110 rfl (lv_at hl 4 rfl) ?_
      refine ycL (n := 1) (e_7_numberOf rx3 h) 7 6 (r := (RX7, TX7, 9)) rfl yG_6_236 yD_7_numberOf X hw rfl yGo_7 (Nat.le_trans (Nat.le_of_ble_eq_true rfl) hRf) (Nat.le_trans (Nat.le_of_ble_eq_true rfl) hRl) rfl hl.1 (Nat.le_of_ble_eq_true rfl) rfl dX6_reduceLess_111 (fun v16 u H locs rv16 h hw => ?_)
      refine lv_lconst hx hb dX6_reduceLess_114 (v := jL 0) rfl ?_
      refine k_lcmp_ne hx hb rv16 (by decide) dX6_reduceLess_115 dX6_reduceLess_116 (tgt := 127) rfl h (fun h => ?_) (fun h => ?_)
      · exact f_6_reduceLess_127 X hRf hRl hret rx1 rx2 rx3 rx4 rx5 rx6 ry0 hw (lv_sub hl [1, 2, 3, 4, 5, 6, 7, 0] rfl) h
      · exact f_6_reduceLess_119 X hRf hRl hret hw (lv_sub hl [1] rfl) h

def v_6_reduceLess_87 (Q : iST → Prop) (x1 : Int) (x2 : Int) (x3 : Int) (x4 : Int) (x5 : Int) (x6 : Int) (u : iST) : Prop :=
  v_6_reduceLess_88 Q x1 x2 x3 x4 x5 x6 0 u
set_option maxRecDepth 20000 in
set_option maxHeartbeats 4000000 in
theorem f_6_reduceLess_87 (X : yX RX6 p m c cX6_reduceLess 8 s args D ca ad A) (hRf : 3 ≤ R.frames) (hRl : 106 ≤ R.locals) {Q : iST → Prop} (hret : ∀ (u : iST) (H : Heap) (locs : List Loc) (ls : Array Slot) (pc : Nat), Q u → yW D ca A ad s H locs u → decode cX6_reduceLess pc = .ok (.return_, 1) → W p l e R s m args below meth c H locs 0 0 Qf (F0 m pc ls [])) {x1 x2 x3 x4 x5 x6 : Int} (rx1 : (0 ≤ x1 ∧ x1 < 60)) (rx2 : inR x2) (rx3 : inR x3) (rx4 : inR x4) (rx5 : inR x5) (rx6 : inR x6) (hw : yW D ca A ad s H locs u) (hl : lv_has ls 8 [(0, .ref (ad 0 5)), (1, .ref (ad 7 x1.toNat)), (2, .int (jI x2)), (3, .int (jI x3)), (4, .int (jI x4)), (5, .int (jI x5)), (6, .int (jI x6))]) (h : v_6_reduceLess_87 Q x1 x2 x3 x4 x5 x6 u) : W p l e R s m args below meth c H locs 0 0 Qf (F0 m 87 ls []) := by
  have hx := X.1.1
  have hb := X.1.2.1
  unfold v_6_reduceLess_87 at h
  refine lv_iconst hx hb dX6_reduceLess_87 (v := jI 0) rfl ?_
  exact f_6_reduceLess_88 X hRf hRl hret rx1 rx2 rx3 rx4 rx5 rx6 (by decide) hw hl h

def v_6_reduceLess_55 (Q : iST → Prop) (x1 : Int) (x2 : Int) (x3 : Int) (x4 : Int) (x5 : Int) (y0 : Int) (u : iST) : Prop :=
  v_7_isCallOf x2 15 (fun v4 u => 
  br (v4 = 0) (
    v_6_reduceLess_87 Q x1 x2 x3 x4 x5 y0 u) (
    v_7_isCallOf x3 15 (fun v17 u => 
    br (v17 = 0) (
      v_6_reduceLess_87 Q x1 x2 x3 x4 x5 y0 u) (
      v_6_reduceLess_88 Q x1 x2 x3 x4 x5 y0 1 u)) u)) u
set_option maxRecDepth 20000 in
set_option maxHeartbeats 4000000 in
theorem f_6_reduceLess_55 (X : yX RX6 p m c cX6_reduceLess 8 s args D ca ad A) (hRf : 3 ≤ R.frames) (hRl : 106 ≤ R.locals) {Q : iST → Prop} (hret : ∀ (u : iST) (H : Heap) (locs : List Loc) (ls : Array Slot) (pc : Nat), Q u → yW D ca A ad s H locs u → decode cX6_reduceLess pc = .ok (.return_, 1) → W p l e R s m args below meth c H locs 0 0 Qf (F0 m pc ls [])) {x1 x2 x3 x4 x5 y0 : Int} (rx1 : (0 ≤ x1 ∧ x1 < 60)) (rx2 : inR x2) (rx3 : inR x3) (rx4 : inR x4) (rx5 : inR x5) (ry0 : inR y0) (hw : yW D ca A ad s H locs u) (hl : lv_has ls 8 [(0, .ref (ad 0 5)), (1, .ref (ad 7 x1.toNat)), (2, .int (jI x2)), (3, .int (jI x3)), (4, .int (jI x4)), (5, .int (jI x5))]) (h : v_6_reduceLess_55 Q x1 x2 x3 x4 x5 y0 u) : W p l e R s m args below meth c H locs 0 0 Qf (F0 m 55 ls [.int (jI y0)]) := by
  have hx := X.1.1
  have hb := X.1.2.1
  unfold v_6_reduceLess_55 at h
  refine lv_istore hx hb dX6_reduceLess_55 hl (by decide) rfl (fun ls hl => ?_)
  have hl : lv_has ls 8 [(6, .int (jI y0)), (0, .ref (ad 0 5)), (1, .ref (ad 7 x1.toNat)), (2, .int (jI x2)), (3, .int (jI x3)), (4, .int (jI x4)), (5, .int (jI x5))] := hl
  refine lv_aload_n hx hb dX6_reduceLess_57 rfl (lv_at hl 1 rfl) ?_
  refine yg_6_39 X hw dX6_reduceLess_58 ?_
  refine lv_iload_n hx hb dX6_reduceLess_61 rfl (lv_at hl 3 rfl) ?_
  refine lv_bipush hx hb dX6_reduceLess_62 (v := jI 15) rfl ?_
  refine ycI (n := 2) (e_7_isCallOf rx2 (by decide) h) 7 6 (r := (RX7, TX7, 9)) rfl yG_6_175 yD_7_isCallOf X hw rfl yGo_7 (Nat.le_trans (Nat.le_of_ble_eq_true rfl) hRf) (Nat.le_trans (Nat.le_of_ble_eq_true rfl) hRl) rfl hl.1 (Nat.le_of_ble_eq_true rfl) rfl dX6_reduceLess_64 (fun v4 u H locs rv4 h hw => ?_)
  refine k_if_eq hx hb rv4 dX6_reduceLess_67 (tgt := 87) rfl h (fun h => ?_) (fun h => ?_)
  · exact f_6_reduceLess_87 X hRf hRl hret rx1 rx2 rx3 rx4 rx5 ry0 hw (lv_sub hl [1, 2, 3, 4, 5, 6, 0] rfl) h
  · refine lv_aload_n hx hb dX6_reduceLess_70 rfl (lv_at hl 1 rfl) ?_
    refine yg_6_39 X hw dX6_reduceLess_71 ?_
    refine lv_iload_n hx hb dX6_reduceLess_74 rfl (lv_at hl 4 rfl) ?_
    refine lv_bipush hx hb dX6_reduceLess_75 (v := jI 15) rfl ?_
    refine ycI (n := 2) (e_7_isCallOf rx3 (by decide) h) 7 6 (r := (RX7, TX7, 9)) rfl yG_6_175 yD_7_isCallOf X hw rfl yGo_7 (Nat.le_trans (Nat.le_of_ble_eq_true rfl) hRf) (Nat.le_trans (Nat.le_of_ble_eq_true rfl) hRl) rfl hl.1 (Nat.le_of_ble_eq_true rfl) rfl dX6_reduceLess_77 (fun v17 u H locs rv17 h hw => ?_)
    refine k_if_eq hx hb rv17 dX6_reduceLess_80 (tgt := 87) rfl h (fun h => ?_) (fun h => ?_)
    · exact f_6_reduceLess_87 X hRf hRl hret rx1 rx2 rx3 rx4 rx5 ry0 hw (lv_sub hl [1, 2, 3, 4, 5, 6, 0] rfl) h
    · refine lv_iconst hx hb dX6_reduceLess_83 (v := jI 1) rfl ?_
      refine lv_goto hx hb dX6_reduceLess_84 (tgt := 88) rfl ?_
      exact f_6_reduceLess_88 X hRf hRl hret rx1 rx2 rx3 rx4 rx5 ry0 (by decide) hw (lv_sub hl [1, 2, 3, 4, 5, 6, 0] rfl) h

def v_6_reduceLess_50 (Q : iST → Prop) (x1 : Int) (x2 : Int) (x3 : Int) (x4 : Int) (x5 : Int) (u : iST) : Prop :=
  v_6_reduceLess_55 Q x1 x2 x3 x4 x5 1 u
set_option maxRecDepth 20000 in
set_option maxHeartbeats 4000000 in
theorem f_6_reduceLess_50 (X : yX RX6 p m c cX6_reduceLess 8 s args D ca ad A) (hRf : 3 ≤ R.frames) (hRl : 106 ≤ R.locals) {Q : iST → Prop} (hret : ∀ (u : iST) (H : Heap) (locs : List Loc) (ls : Array Slot) (pc : Nat), Q u → yW D ca A ad s H locs u → decode cX6_reduceLess pc = .ok (.return_, 1) → W p l e R s m args below meth c H locs 0 0 Qf (F0 m pc ls [])) {x1 x2 x3 x4 x5 : Int} (rx1 : (0 ≤ x1 ∧ x1 < 60)) (rx2 : inR x2) (rx3 : inR x3) (rx4 : inR x4) (rx5 : inR x5) (hw : yW D ca A ad s H locs u) (hl : lv_has ls 8 [(0, .ref (ad 0 5)), (1, .ref (ad 7 x1.toNat)), (2, .int (jI x2)), (3, .int (jI x3)), (4, .int (jI x4)), (5, .int (jI x5))]) (h : v_6_reduceLess_50 Q x1 x2 x3 x4 x5 u) : W p l e R s m args below meth c H locs 0 0 Qf (F0 m 50 ls []) := by
  have hx := X.1.1
  have hb := X.1.2.1
  unfold v_6_reduceLess_50 at h
  refine lv_iconst hx hb dX6_reduceLess_50 (v := jI 1) rfl ?_
  refine lv_goto hx hb dX6_reduceLess_51 (tgt := 55) rfl ?_
  exact f_6_reduceLess_55 X hRf hRl hret rx1 rx2 rx3 rx4 rx5 (by decide) hw hl h

def v_6_reduceLess (a0 : Int) (a1 : Int) (a2 : Int) (Q : iST → Prop) (u : iST) : Prop :=
  v_7_item a1 1 (fun v1 u => 
  v_7_item a2 1 (fun v2 u => 
  v_7_isCallOf v1 11 (fun v3 u => 
  br (v3 ≠ 0) (
    v_6_reduceLess_50 Q a0 a1 a2 v1 v2 u) (
    v_7_isCallOf v1 12 (fun v18 u => 
    br (v18 = 0) (
      v_6_reduceLess_55 Q a0 a1 a2 v1 v2 0 u) (
      v_6_reduceLess_50 Q a0 a1 a2 v1 v2 u)) u)) u) u) u
set_option maxRecDepth 20000 in
set_option maxHeartbeats 4000000 in
theorem f_6_reduceLess_s (X : yX RX6 p m c cX6_reduceLess 8 s args D ca ad A) (hRf : 3 ≤ R.frames) (hRl : 106 ≤ R.locals) {Q : iST → Prop} (hret : ∀ (u : iST) (H : Heap) (locs : List Loc) (ls : Array Slot) (pc : Nat), Q u → yW D ca A ad s H locs u → decode cX6_reduceLess pc = .ok (.return_, 1) → W p l e R s m args below meth c H locs 0 0 Qf (F0 m pc ls [])) {a0 a1 a2 : Int} (ra0 : (0 ≤ a0 ∧ a0 < 60)) (ra1 : inR a1) (ra2 : inR a2) (hw : yW D ca A ad s H locs u) (hl : lv_has ls 8 [(0, .ref (ad 0 5)), (1, .ref (ad 7 a0.toNat)), (2, .int (jI a1)), (3, .int (jI a2))]) (h : v_6_reduceLess a0 a1 a2 Q u) : W p l e R s m args below meth c H locs 0 0 Qf (F0 m 0 ls []) := by
  have hx := X.1.1
  have hb := X.1.2.1
  unfold v_6_reduceLess at h
  refine lv_aload_n hx hb dX6_reduceLess_0 rfl (lv_at hl 0 rfl) ?_
  refine yg_6_39 X hw dX6_reduceLess_1 ?_
  refine lv_iload_n hx hb dX6_reduceLess_4 rfl (lv_at hl 2 rfl) ?_
  refine lv_iconst hx hb dX6_reduceLess_5 (v := jI 1) rfl ?_
  refine ycI (n := 2) (e_7_item ra1 (by decide) h) 7 6 (r := (RX7, TX7, 9)) rfl yG_6_109 yD_7_item X hw rfl yGo_7 (Nat.le_trans (Nat.le_of_ble_eq_true rfl) hRf) (Nat.le_trans (Nat.le_of_ble_eq_true rfl) hRl) rfl hl.1 (Nat.le_of_ble_eq_true rfl) rfl dX6_reduceLess_6 (fun v1 u H locs rv1 h hw => ?_)
  refine lv_istore hx hb dX6_reduceLess_9 hl (by decide) rfl (fun ls hl => ?_)
  have hl : lv_has ls 8 [(4, .int (jI v1)), (0, .ref (ad 0 5)), (1, .ref (ad 7 a0.toNat)), (2, .int (jI a1)), (3, .int (jI a2))] := hl
  refine lv_aload_n hx hb dX6_reduceLess_11 rfl (lv_at hl 1 rfl) ?_
  refine yg_6_39 X hw dX6_reduceLess_12 ?_
  refine lv_iload_n hx hb dX6_reduceLess_15 rfl (lv_at hl 4 rfl) ?_
  refine lv_iconst hx hb dX6_reduceLess_16 (v := jI 1) rfl ?_
  refine ycI (n := 2) (e_7_item ra2 (by decide) h) 7 6 (r := (RX7, TX7, 9)) rfl yG_6_109 yD_7_item X hw rfl yGo_7 (Nat.le_trans (Nat.le_of_ble_eq_true rfl) hRf) (Nat.le_trans (Nat.le_of_ble_eq_true rfl) hRl) rfl hl.1 (Nat.le_of_ble_eq_true rfl) rfl dX6_reduceLess_17 (fun v2 u H locs rv2 h hw => ?_)
  refine lv_istore hx hb dX6_reduceLess_20 hl (by decide) rfl (fun ls hl => ?_)
  have hl : lv_has ls 8 [(5, .int (jI v2)), (4, .int (jI v1)), (0, .ref (ad 0 5)), (1, .ref (ad 7 a0.toNat)), (2, .int (jI a1)), (3, .int (jI a2))] := hl
  refine lv_aload_n hx hb dX6_reduceLess_22 rfl (lv_at hl 2 rfl) ?_
  refine yg_6_39 X hw dX6_reduceLess_23 ?_
  refine lv_iload hx hb dX6_reduceLess_26 (lv_at hl 1 rfl) ?_
  refine lv_bipush hx hb dX6_reduceLess_28 (v := jI 11) rfl ?_
  refine ycI (n := 2) (e_7_isCallOf rv1 (by decide) h) 7 6 (r := (RX7, TX7, 9)) rfl yG_6_175 yD_7_isCallOf X hw rfl yGo_7 (Nat.le_trans (Nat.le_of_ble_eq_true rfl) hRf) (Nat.le_trans (Nat.le_of_ble_eq_true rfl) hRl) rfl hl.1 (Nat.le_of_ble_eq_true rfl) rfl dX6_reduceLess_30 (fun v3 u H locs rv3 h hw => ?_)
  refine k_if_ne hx hb rv3 dX6_reduceLess_33 (tgt := 50) rfl h (fun h => ?_) (fun h => ?_)
  · exact f_6_reduceLess_50 X hRf hRl hret ra0 ra1 ra2 rv1 rv2 hw (lv_sub hl [2, 3, 4, 5, 1, 0] rfl) h
  · refine lv_aload_n hx hb dX6_reduceLess_36 rfl (lv_at hl 2 rfl) ?_
    refine yg_6_39 X hw dX6_reduceLess_37 ?_
    refine lv_iload hx hb dX6_reduceLess_40 (lv_at hl 1 rfl) ?_
    refine lv_bipush hx hb dX6_reduceLess_42 (v := jI 12) rfl ?_
    refine ycI (n := 2) (e_7_isCallOf rv1 (by decide) h) 7 6 (r := (RX7, TX7, 9)) rfl yG_6_175 yD_7_isCallOf X hw rfl yGo_7 (Nat.le_trans (Nat.le_of_ble_eq_true rfl) hRf) (Nat.le_trans (Nat.le_of_ble_eq_true rfl) hRl) rfl hl.1 (Nat.le_of_ble_eq_true rfl) rfl dX6_reduceLess_44 (fun v18 u H locs rv18 h hw => ?_)
    refine k_if_eq hx hb rv18 dX6_reduceLess_47 (tgt := 54) rfl h (fun h => ?_) (fun h => ?_)
    · refine lv_iconst hx hb dX6_reduceLess_54 (v := jI 0) rfl ?_
      exact f_6_reduceLess_55 X hRf hRl hret ra0 ra1 ra2 rv1 rv2 (by decide) hw (lv_sub hl [2, 3, 4, 5, 1, 0] rfl) h
    · exact f_6_reduceLess_50 X hRf hRl hret ra0 ra1 ra2 rv1 rv2 hw (lv_sub hl [2, 3, 4, 5, 1, 0] rfl) h

end
theorem e_6_reduceLess {l : Launch} {a0 : Int} {a1 : Int} {a2 : Int} (ra0 : (0 ≤ a0 ∧ a0 < 60)) (ra1 : inR a1) (ra2 : inR a2) {Q : iST → Prop} {u : iST} (h : v_6_reduceLess a0 a1 a2 Q u) : yMV l yX6_reduceLess (.code yX6_reduceLess cX6_reduceLess 8 none :: wsN) { frames := 3, cells := 0, slots := 0, locals := 106 } (fun ad => [.ref (ad 0 5), .ref (ad 7 a0.toNat), .int (jI a1), .int (jI a2)]) Q u := yMV_of (own := RX6) rfl (by decide +kernel) (fun _ => Nat.le_of_ble_eq_true rfl) (fun X hRf hRl hret hw hl => f_6_reduceLess_s X hRf hRl hret ra0 ra1 ra2 hw hl h)

/-! ProofHouse$Rewriter.reduceOther -/
theorem dX6_reduceOther_0 : decode cX6_reduceOther 0 = .ok (.aload_n 0, 1) := by decide +kernel
theorem dX6_reduceOther_1 : decode cX6_reduceOther 1 = .ok (.getfield 39, 3) := by decide +kernel
theorem dX6_reduceOther_4 : decode cX6_reduceOther 4 = .ok (.iload_n 3, 1) := by decide +kernel
theorem dX6_reduceOther_5 : decode cX6_reduceOther 5 = .ok (.iconst 5, 1) := by decide +kernel
theorem dX6_reduceOther_6 : decode cX6_reduceOther 6 = .ok (.invokevirtual 175, 3) := by decide +kernel
theorem dX6_reduceOther_9 : decode cX6_reduceOther 9 = .ok (.istore 4, 2) := by decide +kernel
theorem dX6_reduceOther_11 : decode cX6_reduceOther 11 = .ok (.aload_n 0, 1) := by decide +kernel
theorem dX6_reduceOther_12 : decode cX6_reduceOther 12 = .ok (.getfield 39, 3) := by decide +kernel
theorem dX6_reduceOther_15 : decode cX6_reduceOther 15 = .ok (.iload_n 3, 1) := by decide +kernel
theorem dX6_reduceOther_16 : decode cX6_reduceOther 16 = .ok (.bipush 7, 2) := by decide +kernel
theorem dX6_reduceOther_18 : decode cX6_reduceOther 18 = .ok (.invokevirtual 175, 3) := by decide +kernel
theorem dX6_reduceOther_21 : decode cX6_reduceOther 21 = .ok (.ifCond .ne 29, 3) := by decide +kernel
theorem dX6_reduceOther_24 : decode cX6_reduceOther 24 = .ok (.aload_n 0, 1) := by decide +kernel
theorem dX6_reduceOther_25 : decode cX6_reduceOther 25 = .ok (.getfield 39, 3) := by decide +kernel
theorem dX6_reduceOther_28 : decode cX6_reduceOther 28 = .ok (.iload_n 3, 1) := by decide +kernel
theorem dX6_reduceOther_29 : decode cX6_reduceOther 29 = .ok (.bipush 8, 2) := by decide +kernel
theorem dX6_reduceOther_31 : decode cX6_reduceOther 31 = .ok (.invokevirtual 175, 3) := by decide +kernel
theorem dX6_reduceOther_34 : decode cX6_reduceOther 34 = .ok (.ifCond .ne 16, 3) := by decide +kernel
theorem dX6_reduceOther_37 : decode cX6_reduceOther 37 = .ok (.aload_n 0, 1) := by decide +kernel
theorem dX6_reduceOther_38 : decode cX6_reduceOther 38 = .ok (.getfield 39, 3) := by decide +kernel
theorem dX6_reduceOther_41 : decode cX6_reduceOther 41 = .ok (.iload_n 3, 1) := by decide +kernel
theorem dX6_reduceOther_42 : decode cX6_reduceOther 42 = .ok (.bipush 15, 2) := by decide +kernel
theorem dX6_reduceOther_44 : decode cX6_reduceOther 44 = .ok (.invokevirtual 175, 3) := by decide +kernel
theorem dX6_reduceOther_47 : decode cX6_reduceOther 47 = .ok (.ifCond .eq 7, 3) := by decide +kernel
theorem dX6_reduceOther_50 : decode cX6_reduceOther 50 = .ok (.iconst 1, 1) := by decide +kernel
theorem dX6_reduceOther_51 : decode cX6_reduceOther 51 = .ok (.goto 4, 3) := by decide +kernel
theorem dX6_reduceOther_54 : decode cX6_reduceOther 54 = .ok (.iconst 0, 1) := by decide +kernel
theorem dX6_reduceOther_55 : decode cX6_reduceOther 55 = .ok (.istore 5, 2) := by decide +kernel
theorem dX6_reduceOther_57 : decode cX6_reduceOther 57 = .ok (.iload_n 2, 1) := by decide +kernel
theorem dX6_reduceOther_58 : decode cX6_reduceOther 58 = .ok (.bipush 10, 2) := by decide +kernel
theorem dX6_reduceOther_60 : decode cX6_reduceOther 60 = .ok (.if_icmp .eq 15, 3) := by decide +kernel
theorem dX6_reduceOther_63 : decode cX6_reduceOther 63 = .ok (.iload_n 2, 1) := by decide +kernel
theorem dX6_reduceOther_64 : decode cX6_reduceOther 64 = .ok (.bipush 13, 2) := by decide +kernel
theorem dX6_reduceOther_66 : decode cX6_reduceOther 66 = .ok (.if_icmp .eq 9, 3) := by decide +kernel
theorem dX6_reduceOther_69 : decode cX6_reduceOther 69 = .ok (.iload_n 2, 1) := by decide +kernel
theorem dX6_reduceOther_70 : decode cX6_reduceOther 70 = .ok (.bipush 14, 2) := by decide +kernel
theorem dX6_reduceOther_72 : decode cX6_reduceOther 72 = .ok (.if_icmp .ne 7, 3) := by decide +kernel
theorem dX6_reduceOther_75 : decode cX6_reduceOther 75 = .ok (.iconst 1, 1) := by decide +kernel
theorem dX6_reduceOther_76 : decode cX6_reduceOther 76 = .ok (.goto 4, 3) := by decide +kernel
theorem dX6_reduceOther_79 : decode cX6_reduceOther 79 = .ok (.iconst 0, 1) := by decide +kernel
theorem dX6_reduceOther_80 : decode cX6_reduceOther 80 = .ok (.istore 6, 2) := by decide +kernel
theorem dX6_reduceOther_82 : decode cX6_reduceOther 82 = .ok (.iload 4, 2) := by decide +kernel
theorem dX6_reduceOther_84 : decode cX6_reduceOther 84 = .ok (.ifCond .eq 41, 3) := by decide +kernel
theorem dX6_reduceOther_87 : decode cX6_reduceOther 87 = .ok (.iload_n 2, 1) := by decide +kernel
theorem dX6_reduceOther_88 : decode cX6_reduceOther 88 = .ok (.bipush 11, 2) := by decide +kernel
theorem dX6_reduceOther_90 : decode cX6_reduceOther 90 = .ok (.if_icmp .eq 9, 3) := by decide +kernel
theorem dX6_reduceOther_93 : decode cX6_reduceOther 93 = .ok (.iload_n 2, 1) := by decide +kernel
theorem dX6_reduceOther_94 : decode cX6_reduceOther 94 = .ok (.bipush 12, 2) := by decide +kernel
theorem dX6_reduceOther_96 : decode cX6_reduceOther 96 = .ok (.if_icmp .ne 29, 3) := by decide +kernel
theorem dX6_reduceOther_99 : decode cX6_reduceOther 99 = .ok (.aload_n 0, 1) := by decide +kernel
theorem dX6_reduceOther_100 : decode cX6_reduceOther 100 = .ok (.aload_n 0, 1) := by decide +kernel
theorem dX6_reduceOther_101 : decode cX6_reduceOther 101 = .ok (.getfield 39, 3) := by decide +kernel
theorem dX6_reduceOther_104 : decode cX6_reduceOther 104 = .ok (.iload_n 3, 1) := by decide +kernel
theorem dX6_reduceOther_105 : decode cX6_reduceOther 105 = .ok (.iload_n 2, 1) := by decide +kernel
theorem dX6_reduceOther_106 : decode cX6_reduceOther 106 = .ok (.bipush 11, 2) := by decide +kernel
theorem dX6_reduceOther_108 : decode cX6_reduceOther 108 = .ok (.if_icmp .ne 7, 3) := by decide +kernel
theorem dX6_reduceOther_111 : decode cX6_reduceOther 111 = .ok (.iconst 1, 1) := by decide +kernel
theorem dX6_reduceOther_112 : decode cX6_reduceOther 112 = .ok (.goto 4, 3) := by decide +kernel
theorem dX6_reduceOther_115 : decode cX6_reduceOther 115 = .ok (.iconst 2, 1) := by decide +kernel
theorem dX6_reduceOther_116 : decode cX6_reduceOther 116 = .ok (.invokevirtual 109, 3) := by decide +kernel
theorem dX6_reduceOther_119 : decode cX6_reduceOther 119 = .ok (.invokevirtual 96, 3) := by decide +kernel
theorem dX6_reduceOther_122 : decode cX6_reduceOther 122 = .ok (.goto 51, 3) := by decide +kernel
theorem dX6_reduceOther_125 : decode cX6_reduceOther 125 = .ok (.iload 6, 2) := by decide +kernel
theorem dX6_reduceOther_127 : decode cX6_reduceOther 127 = .ok (.ifCond .eq 41, 3) := by decide +kernel
theorem dX6_reduceOther_130 : decode cX6_reduceOther 130 = .ok (.iload 4, 2) := by decide +kernel
theorem dX6_reduceOther_132 : decode cX6_reduceOther 132 = .ok (.ifCond .ne 8, 3) := by decide +kernel
theorem dX6_reduceOther_135 : decode cX6_reduceOther 135 = .ok (.iload 5, 2) := by decide +kernel
theorem dX6_reduceOther_137 : decode cX6_reduceOther 137 = .ok (.ifCond .eq 31, 3) := by decide +kernel
theorem dX6_reduceOther_140 : decode cX6_reduceOther 140 = .ok (.aload_n 0, 1) := by decide +kernel
theorem dX6_reduceOther_141 : decode cX6_reduceOther 141 = .ok (.iload_n 2, 1) := by decide +kernel
theorem dX6_reduceOther_142 : decode cX6_reduceOther 142 = .ok (.iload 4, 2) := by decide +kernel
theorem dX6_reduceOther_144 : decode cX6_reduceOther 144 = .ok (.ifCond .eq 8, 3) := by decide +kernel
theorem dX6_reduceOther_147 : decode cX6_reduceOther 147 = .ok (.bipush 10, 2) := by decide +kernel
theorem dX6_reduceOther_149 : decode cX6_reduceOther 149 = .ok (.goto 5, 3) := by decide +kernel
theorem dX6_reduceOther_152 : decode cX6_reduceOther 152 = .ok (.bipush 13, 2) := by decide +kernel
theorem dX6_reduceOther_154 : decode cX6_reduceOther 154 = .ok (.if_icmp .ne 7, 3) := by decide +kernel
theorem dX6_reduceOther_157 : decode cX6_reduceOther 157 = .ok (.iconst 1, 1) := by decide +kernel
theorem dX6_reduceOther_158 : decode cX6_reduceOther 158 = .ok (.goto 4, 3) := by decide +kernel
theorem dX6_reduceOther_161 : decode cX6_reduceOther 161 = .ok (.iconst 0, 1) := by decide +kernel
theorem dX6_reduceOther_162 : decode cX6_reduceOther 162 = .ok (.invokevirtual 96, 3) := by decide +kernel
theorem dX6_reduceOther_165 : decode cX6_reduceOther 165 = .ok (.goto 8, 3) := by decide +kernel
theorem dX6_reduceOther_168 : decode cX6_reduceOther 168 = .ok (.aload_n 1, 1) := by decide +kernel
theorem dX6_reduceOther_169 : decode cX6_reduceOther 169 = .ok (.iconst 3, 1) := by decide +kernel
theorem dX6_reduceOther_170 : decode cX6_reduceOther 170 = .ok (.bipush 11, 2) := by decide +kernel
theorem dX6_reduceOther_172 : decode cX6_reduceOther 172 = .ok (.iastore, 1) := by decide +kernel
theorem dX6_reduceOther_173 : decode cX6_reduceOther 173 = .ok (.return_, 1) := by decide +kernel

section
variable {p : Program} {l : Launch} {e : Env} {R : Room} {s : State} {m : MethodId} {args : Array Value} {below : List Frame} {meth : Method} {c : Code} {H : Heap} {locs : List Loc} {Qf : State → Prop}
variable {ls : Array Slot} {D : va_G} {ca : Nat → ClassId} {A : Nat → Prop} {ad : Nat → Nat → Nat} {u : iST}
def v_6_reduceOther_168 (Q : iST → Prop) (x1 : Int) (u : iST) : Prop :=
  bd 3 17 (sw (iA u 51 (17 * x1 + 3) 11) (fun u => 
  Q u))
set_option maxRecDepth 20000 in
set_option maxHeartbeats 4000000 in
theorem f_6_reduceOther_168 (X : yX RX6 p m c cX6_reduceOther 7 s args D ca ad A) (hRf : 2 ≤ R.frames) (hRl : 46 ≤ R.locals) {Q : iST → Prop} (hret : ∀ (u : iST) (H : Heap) (locs : List Loc) (ls : Array Slot) (pc : Nat), Q u → yW D ca A ad s H locs u → decode cX6_reduceOther pc = .ok (.return_, 1) → W p l e R s m args below meth c H locs 0 0 Qf (F0 m pc ls [])) {x1 : Int} (rx1 : (0 ≤ x1 ∧ x1 < 60)) (hw : yW D ca A ad s H locs u) (hl : lv_has ls 7 [(0, .ref (ad 0 5)), (1, .ref (ad 7 x1.toNat))]) (h : v_6_reduceOther_168 Q x1 u) : W p l e R s m args below meth c H locs 0 0 Qf (F0 m 168 ls []) := by
  have hx := X.1.1
  have hb := X.1.2.1
  unfold v_6_reduceOther_168 at h
  refine lv_aload_n hx hb dX6_reduceOther_168 rfl (lv_at hl 1 rfl) ?_
  refine lv_iconst hx hb dX6_reduceOther_169 (v := jI 3) rfl ?_
  refine lv_bipush hx hb dX6_reduceOther_170 (v := jI 11) rfl ?_
  refine yft_frames X hw rx1 (by decide) (by decide) dX6_reduceOther_172 h (fun H locs u hw h => ?_)
  exact hret _ _ _ _ _ h hw dX6_reduceOther_173

def v_6_reduceOther_162 (Q : iST → Prop) (y1 : Int) (u : iST) : Prop :=
  v_6_finish y1 (fun u => 
  Q u) u
set_option maxRecDepth 20000 in
set_option maxHeartbeats 4000000 in
theorem f_6_reduceOther_162 (X : yX RX6 p m c cX6_reduceOther 7 s args D ca ad A) (hRf : 2 ≤ R.frames) (hRl : 46 ≤ R.locals) {Q : iST → Prop} (hret : ∀ (u : iST) (H : Heap) (locs : List Loc) (ls : Array Slot) (pc : Nat), Q u → yW D ca A ad s H locs u → decode cX6_reduceOther pc = .ok (.return_, 1) → W p l e R s m args below meth c H locs 0 0 Qf (F0 m pc ls [])) {y1 : Int} (ry1 : inR y1) (hw : yW D ca A ad s H locs u) (hl : lv_has ls 7 [(0, .ref (ad 0 5))]) (h : v_6_reduceOther_162 Q y1 u) : W p l e R s m args below meth c H locs 0 0 Qf (F0 m 162 ls [.int (jI y1), .ref (ad 0 5)]) := by
  have hx := X.1.1
  have hb := X.1.2.1
  unfold v_6_reduceOther_162 at h
  refine ycV (n := 1) (e_6_finish ry1 h) 6 5 (r := (RX6, TX6, 14)) rfl yG_6_96 yD_6_finish X hw rfl yGo_6 (Nat.le_trans (Nat.le_of_ble_eq_true rfl) hRf) (Nat.le_trans (Nat.le_of_ble_eq_true rfl) hRl) rfl hl.1 (Nat.le_of_ble_eq_true rfl) rfl dX6_reduceOther_162 (fun u H locs h hw => ?_)
  refine lv_goto hx hb dX6_reduceOther_165 (tgt := 173) rfl ?_
  exact hret _ _ _ _ _ h hw dX6_reduceOther_173

def v_6_reduceOther_154 (Q : iST → Prop) (y1 : Int) (y2 : Int) (u : iST) : Prop :=
  br (y1 ≠ y2) (
    v_6_reduceOther_162 Q 0 u) (
    v_6_reduceOther_162 Q 1 u)
set_option maxRecDepth 20000 in
set_option maxHeartbeats 4000000 in
theorem f_6_reduceOther_154 (X : yX RX6 p m c cX6_reduceOther 7 s args D ca ad A) (hRf : 2 ≤ R.frames) (hRl : 46 ≤ R.locals) {Q : iST → Prop} (hret : ∀ (u : iST) (H : Heap) (locs : List Loc) (ls : Array Slot) (pc : Nat), Q u → yW D ca A ad s H locs u → decode cX6_reduceOther pc = .ok (.return_, 1) → W p l e R s m args below meth c H locs 0 0 Qf (F0 m pc ls [])) {y1 y2 : Int} (ry1 : inR y1) (ry2 : inR y2) (hw : yW D ca A ad s H locs u) (hl : lv_has ls 7 [(0, .ref (ad 0 5))]) (h : v_6_reduceOther_154 Q y1 y2 u) : W p l e R s m args below meth c H locs 0 0 Qf (F0 m 154 ls [.int (jI y2), .int (jI y1), .ref (ad 0 5)]) := by
  have hx := X.1.1
  have hb := X.1.2.1
  unfold v_6_reduceOther_154 at h
  refine k_icmp_ne hx hb ry1 ry2 dX6_reduceOther_154 (tgt := 161) rfl h (fun h => ?_) (fun h => ?_)
  · refine lv_iconst hx hb dX6_reduceOther_161 (v := jI 0) rfl ?_
    exact f_6_reduceOther_162 X hRf hRl hret (by decide) hw hl h
  · refine lv_iconst hx hb dX6_reduceOther_157 (v := jI 1) rfl ?_
    refine lv_goto hx hb dX6_reduceOther_158 (tgt := 162) rfl ?_
    exact f_6_reduceOther_162 X hRf hRl hret (by decide) hw hl h

def v_6_reduceOther_140 (Q : iST → Prop) (x2 : Int) (x4 : Int) (u : iST) : Prop :=
  br (x4 = 0) (
    v_6_reduceOther_154 Q x2 13 u) (
    v_6_reduceOther_154 Q x2 10 u)
set_option maxRecDepth 20000 in
set_option maxHeartbeats 4000000 in
theorem f_6_reduceOther_140 (X : yX RX6 p m c cX6_reduceOther 7 s args D ca ad A) (hRf : 2 ≤ R.frames) (hRl : 46 ≤ R.locals) {Q : iST → Prop} (hret : ∀ (u : iST) (H : Heap) (locs : List Loc) (ls : Array Slot) (pc : Nat), Q u → yW D ca A ad s H locs u → decode cX6_reduceOther pc = .ok (.return_, 1) → W p l e R s m args below meth c H locs 0 0 Qf (F0 m pc ls [])) {x2 x4 : Int} (rx2 : inR x2) (rx4 : inR x4) (hw : yW D ca A ad s H locs u) (hl : lv_has ls 7 [(0, .ref (ad 0 5)), (2, .int (jI x2)), (4, .int (jI x4))]) (h : v_6_reduceOther_140 Q x2 x4 u) : W p l e R s m args below meth c H locs 0 0 Qf (F0 m 140 ls []) := by
  have hx := X.1.1
  have hb := X.1.2.1
  unfold v_6_reduceOther_140 at h
  refine lv_aload_n hx hb dX6_reduceOther_140 rfl (lv_at hl 0 rfl) ?_
  refine lv_iload_n hx hb dX6_reduceOther_141 rfl (lv_at hl 1 rfl) ?_
  refine lv_iload hx hb dX6_reduceOther_142 (lv_at hl 2 rfl) ?_
  refine k_if_eq hx hb rx4 dX6_reduceOther_144 (tgt := 152) rfl h (fun h => ?_) (fun h => ?_)
  · refine lv_bipush hx hb dX6_reduceOther_152 (v := jI 13) rfl ?_
    exact f_6_reduceOther_154 X hRf hRl hret rx2 (by decide) hw (lv_sub hl [0] rfl) h
  · refine lv_bipush hx hb dX6_reduceOther_147 (v := jI 10) rfl ?_
    refine lv_goto hx hb dX6_reduceOther_149 (tgt := 154) rfl ?_
    exact f_6_reduceOther_154 X hRf hRl hret rx2 (by decide) hw (lv_sub hl [0] rfl) h

def v_6_reduceOther_125 (Q : iST → Prop) (x1 : Int) (x2 : Int) (x4 : Int) (x5 : Int) (x6 : Int) (u : iST) : Prop :=
  br (x6 = 0) (
    v_6_reduceOther_168 Q x1 u) (
    br (x4 ≠ 0) (
      v_6_reduceOther_140 Q x2 x4 u) (
      br (x5 = 0) (
        v_6_reduceOther_168 Q x1 u) (
        v_6_reduceOther_140 Q x2 x4 u)))
set_option maxRecDepth 20000 in
set_option maxHeartbeats 4000000 in
theorem f_6_reduceOther_125 (X : yX RX6 p m c cX6_reduceOther 7 s args D ca ad A) (hRf : 2 ≤ R.frames) (hRl : 46 ≤ R.locals) {Q : iST → Prop} (hret : ∀ (u : iST) (H : Heap) (locs : List Loc) (ls : Array Slot) (pc : Nat), Q u → yW D ca A ad s H locs u → decode cX6_reduceOther pc = .ok (.return_, 1) → W p l e R s m args below meth c H locs 0 0 Qf (F0 m pc ls [])) {x1 x2 x4 x5 x6 : Int} (rx1 : (0 ≤ x1 ∧ x1 < 60)) (rx2 : inR x2) (rx4 : inR x4) (rx5 : inR x5) (rx6 : inR x6) (hw : yW D ca A ad s H locs u) (hl : lv_has ls 7 [(0, .ref (ad 0 5)), (1, .ref (ad 7 x1.toNat)), (2, .int (jI x2)), (4, .int (jI x4)), (5, .int (jI x5)), (6, .int (jI x6))]) (h : v_6_reduceOther_125 Q x1 x2 x4 x5 x6 u) : W p l e R s m args below meth c H locs 0 0 Qf (F0 m 125 ls []) := by
  have hx := X.1.1
  have hb := X.1.2.1
  unfold v_6_reduceOther_125 at h
  refine lv_iload hx hb dX6_reduceOther_125 (lv_at hl 5 rfl) ?_
  refine k_if_eq hx hb rx6 dX6_reduceOther_127 (tgt := 168) rfl h (fun h => ?_) (fun h => ?_)
  · exact f_6_reduceOther_168 X hRf hRl hret rx1 hw (lv_sub hl [0, 1] rfl) h
  · refine lv_iload hx hb dX6_reduceOther_130 (lv_at hl 3 rfl) ?_
    refine k_if_ne hx hb rx4 dX6_reduceOther_132 (tgt := 140) rfl h (fun h => ?_) (fun h => ?_)
    · exact f_6_reduceOther_140 X hRf hRl hret rx2 rx4 hw (lv_sub hl [0, 2, 3] rfl) h
    · refine lv_iload hx hb dX6_reduceOther_135 (lv_at hl 4 rfl) ?_
      refine k_if_eq hx hb rx5 dX6_reduceOther_137 (tgt := 168) rfl h (fun h => ?_) (fun h => ?_)
      · exact f_6_reduceOther_168 X hRf hRl hret rx1 hw (lv_sub hl [0, 1] rfl) h
      · exact f_6_reduceOther_140 X hRf hRl hret rx2 rx4 hw (lv_sub hl [0, 2, 3] rfl) h

def v_6_reduceOther_116 (Q : iST → Prop) (y2 : Int) (y3 : Int) (u : iST) : Prop :=
  v_7_item y2 y3 (fun v4 u => 
  v_6_finish v4 (fun u => 
  Q u) u) u
set_option maxRecDepth 20000 in
set_option maxHeartbeats 4000000 in
theorem f_6_reduceOther_116 (X : yX RX6 p m c cX6_reduceOther 7 s args D ca ad A) (hRf : 2 ≤ R.frames) (hRl : 46 ≤ R.locals) {Q : iST → Prop} (hret : ∀ (u : iST) (H : Heap) (locs : List Loc) (ls : Array Slot) (pc : Nat), Q u → yW D ca A ad s H locs u → decode cX6_reduceOther pc = .ok (.return_, 1) → W p l e R s m args below meth c H locs 0 0 Qf (F0 m pc ls [])) {y2 y3 : Int} (ry2 : inR y2) (ry3 : inR y3) (hw : yW D ca A ad s H locs u) (hl : lv_has ls 7 [(0, .ref (ad 0 5))]) (h : v_6_reduceOther_116 Q y2 y3 u) : W p l e R s m args below meth c H locs 0 0 Qf (F0 m 116 ls [.int (jI y3), .int (jI y2), .ref (ad 0 6), .ref (ad 0 5)]) := by
  have hx := X.1.1
  have hb := X.1.2.1
  unfold v_6_reduceOther_116 at h
  refine ycI (n := 2) (e_7_item ry2 ry3 h) 7 6 (r := (RX7, TX7, 9)) rfl yG_6_109 yD_7_item X hw rfl yGo_7 (Nat.le_trans (Nat.le_of_ble_eq_true rfl) hRf) (Nat.le_trans (Nat.le_of_ble_eq_true rfl) hRl) rfl hl.1 (Nat.le_of_ble_eq_true rfl) rfl dX6_reduceOther_116 (fun v4 u H locs rv4 h hw => ?_)
  refine ycV (n := 1) (e_6_finish rv4 h) 6 5 (r := (RX6, TX6, 14)) rfl yG_6_96 yD_6_finish X hw rfl yGo_6 (Nat.le_trans (Nat.le_of_ble_eq_true rfl) hRf) (Nat.le_trans (Nat.le_of_ble_eq_true rfl) hRl) rfl hl.1 (Nat.le_of_ble_eq_true rfl) rfl dX6_reduceOther_119 (fun u H locs h hw => ?_)
  refine lv_goto hx hb dX6_reduceOther_122 (tgt := 173) rfl ?_
  exact hret _ _ _ _ _ h hw dX6_reduceOther_173

def v_6_reduceOther_99 (Q : iST → Prop) (x2 : Int) (x3 : Int) (u : iST) : Prop :=
  br (x2 ≠ 11) (
    v_6_reduceOther_116 Q x3 2 u) (
    v_6_reduceOther_116 Q x3 1 u)
set_option maxRecDepth 20000 in
set_option maxHeartbeats 4000000 in
theorem f_6_reduceOther_99 (X : yX RX6 p m c cX6_reduceOther 7 s args D ca ad A) (hRf : 2 ≤ R.frames) (hRl : 46 ≤ R.locals) {Q : iST → Prop} (hret : ∀ (u : iST) (H : Heap) (locs : List Loc) (ls : Array Slot) (pc : Nat), Q u → yW D ca A ad s H locs u → decode cX6_reduceOther pc = .ok (.return_, 1) → W p l e R s m args below meth c H locs 0 0 Qf (F0 m pc ls [])) {x2 x3 : Int} (rx2 : inR x2) (rx3 : inR x3) (hw : yW D ca A ad s H locs u) (hl : lv_has ls 7 [(0, .ref (ad 0 5)), (2, .int (jI x2)), (3, .int (jI x3))]) (h : v_6_reduceOther_99 Q x2 x3 u) : W p l e R s m args below meth c H locs 0 0 Qf (F0 m 99 ls []) := by
  have hx := X.1.1
  have hb := X.1.2.1
  unfold v_6_reduceOther_99 at h
  refine lv_aload_n hx hb dX6_reduceOther_99 rfl (lv_at hl 0 rfl) ?_
  refine lv_aload_n hx hb dX6_reduceOther_100 rfl (lv_at hl 0 rfl) ?_
  refine yg_6_39 X hw dX6_reduceOther_101 ?_
  refine lv_iload_n hx hb dX6_reduceOther_104 rfl (lv_at hl 2 rfl) ?_
  refine lv_iload_n hx hb dX6_reduceOther_105 rfl (lv_at hl 1 rfl) ?_
  refine lv_bipush hx hb dX6_reduceOther_106 (v := jI 11) rfl ?_
  refine k_icmp_ne hx hb rx2 (by decide) dX6_reduceOther_108 (tgt := 115) rfl h (fun h => ?_) (fun h => ?_)
  · refine lv_iconst hx hb dX6_reduceOther_115 (v := jI 2) rfl ?_
    exact f_6_reduceOther_116 X hRf hRl hret rx3 (by decide) hw (lv_sub hl [0] rfl) h
  · refine lv_iconst hx hb dX6_reduceOther_111 (v := jI 1) rfl ?_
    refine lv_goto hx hb dX6_reduceOther_112 (tgt := 116) rfl ?_
    exact f_6_reduceOther_116 X hRf hRl hret rx3 (by decide) hw (lv_sub hl [0] rfl) h

def v_6_reduceOther_80 (Q : iST → Prop) (x1 : Int) (x2 : Int) (x3 : Int) (x4 : Int) (x5 : Int) (y0 : Int) (u : iST) : Prop :=
  br (x4 = 0) (
    v_6_reduceOther_125 Q x1 x2 x4 x5 y0 u) (
    br (x2 = 11) (
      v_6_reduceOther_99 Q x2 x3 u) (
      br (x2 ≠ 12) (
        v_6_reduceOther_125 Q x1 x2 x4 x5 y0 u) (
        v_6_reduceOther_99 Q x2 x3 u)))
set_option maxRecDepth 20000 in
set_option maxHeartbeats 4000000 in
theorem f_6_reduceOther_80 (X : yX RX6 p m c cX6_reduceOther 7 s args D ca ad A) (hRf : 2 ≤ R.frames) (hRl : 46 ≤ R.locals) {Q : iST → Prop} (hret : ∀ (u : iST) (H : Heap) (locs : List Loc) (ls : Array Slot) (pc : Nat), Q u → yW D ca A ad s H locs u → decode cX6_reduceOther pc = .ok (.return_, 1) → W p l e R s m args below meth c H locs 0 0 Qf (F0 m pc ls [])) {x1 x2 x3 x4 x5 y0 : Int} (rx1 : (0 ≤ x1 ∧ x1 < 60)) (rx2 : inR x2) (rx3 : inR x3) (rx4 : inR x4) (rx5 : inR x5) (ry0 : inR y0) (hw : yW D ca A ad s H locs u) (hl : lv_has ls 7 [(0, .ref (ad 0 5)), (1, .ref (ad 7 x1.toNat)), (2, .int (jI x2)), (3, .int (jI x3)), (4, .int (jI x4)), (5, .int (jI x5))]) (h : v_6_reduceOther_80 Q x1 x2 x3 x4 x5 y0 u) : W p l e R s m args below meth c H locs 0 0 Qf (F0 m 80 ls [.int (jI y0)]) := by
  have hx := X.1.1
  have hb := X.1.2.1
  unfold v_6_reduceOther_80 at h
  refine lv_istore hx hb dX6_reduceOther_80 hl (by decide) rfl (fun ls hl => ?_)
  have hl : lv_has ls 7 [(6, .int (jI y0)), (0, .ref (ad 0 5)), (1, .ref (ad 7 x1.toNat)), (2, .int (jI x2)), (3, .int (jI x3)), (4, .int (jI x4)), (5, .int (jI x5))] := hl
  refine lv_iload hx hb dX6_reduceOther_82 (lv_at hl 5 rfl) ?_
  refine k_if_eq hx hb rx4 dX6_reduceOther_84 (tgt := 125) rfl h (fun h => ?_) (fun h => ?_)
  · exact f_6_reduceOther_125 X hRf hRl hret rx1 rx2 rx4 rx5 ry0 hw (lv_sub hl [1, 2, 3, 5, 6, 0] rfl) h
  · refine lv_iload_n hx hb dX6_reduceOther_87 rfl (lv_at hl 3 rfl) ?_
    refine lv_bipush hx hb dX6_reduceOther_88 (v := jI 11) rfl ?_
    refine k_icmp_eq hx hb rx2 (by decide) dX6_reduceOther_90 (tgt := 99) rfl h (fun h => ?_) (fun h => ?_)
    · exact f_6_reduceOther_99 X hRf hRl hret rx2 rx3 hw (lv_sub hl [1, 3, 4] rfl) h
    · refine lv_iload_n hx hb dX6_reduceOther_93 rfl (lv_at hl 3 rfl) ?_
      refine lv_bipush hx hb dX6_reduceOther_94 (v := jI 12) rfl ?_
      refine k_icmp_ne hx hb rx2 (by decide) dX6_reduceOther_96 (tgt := 125) rfl h (fun h => ?_) (fun h => ?_)
      · exact f_6_reduceOther_125 X hRf hRl hret rx1 rx2 rx4 rx5 ry0 hw (lv_sub hl [1, 2, 3, 5, 6, 0] rfl) h
      · exact f_6_reduceOther_99 X hRf hRl hret rx2 rx3 hw (lv_sub hl [1, 3, 4] rfl) h

def v_6_reduceOther_75 (Q : iST → Prop) (x1 : Int) (x2 : Int) (x3 : Int) (x4 : Int) (x5 : Int) (u : iST) : Prop :=
  v_6_reduceOther_80 Q x1 x2 x3 x4 x5 1 u
set_option maxRecDepth 20000 in
set_option maxHeartbeats 4000000 in
theorem f_6_reduceOther_75 (X : yX RX6 p m c cX6_reduceOther 7 s args D ca ad A) (hRf : 2 ≤ R.frames) (hRl : 46 ≤ R.locals) {Q : iST → Prop} (hret : ∀ (u : iST) (H : Heap) (locs : List Loc) (ls : Array Slot) (pc : Nat), Q u → yW D ca A ad s H locs u → decode cX6_reduceOther pc = .ok (.return_, 1) → W p l e R s m args below meth c H locs 0 0 Qf (F0 m pc ls [])) {x1 x2 x3 x4 x5 : Int} (rx1 : (0 ≤ x1 ∧ x1 < 60)) (rx2 : inR x2) (rx3 : inR x3) (rx4 : inR x4) (rx5 : inR x5) (hw : yW D ca A ad s H locs u) (hl : lv_has ls 7 [(0, .ref (ad 0 5)), (1, .ref (ad 7 x1.toNat)), (2, .int (jI x2)), (3, .int (jI x3)), (4, .int (jI x4)), (5, .int (jI x5))]) (h : v_6_reduceOther_75 Q x1 x2 x3 x4 x5 u) : W p l e R s m args below meth c H locs 0 0 Qf (F0 m 75 ls []) := by
  have hx := X.1.1
  have hb := X.1.2.1
  unfold v_6_reduceOther_75 at h
  refine lv_iconst hx hb dX6_reduceOther_75 (v := jI 1) rfl ?_
  refine lv_goto hx hb dX6_reduceOther_76 (tgt := 80) rfl ?_
  exact f_6_reduceOther_80 X hRf hRl hret rx1 rx2 rx3 rx4 rx5 (by decide) hw hl h

def v_6_reduceOther_55 (Q : iST → Prop) (x1 : Int) (x2 : Int) (x3 : Int) (x4 : Int) (y0 : Int) (u : iST) : Prop :=
  br (x2 = 10) (
    v_6_reduceOther_75 Q x1 x2 x3 x4 y0 u) (
    br (x2 = 13) (
      v_6_reduceOther_75 Q x1 x2 x3 x4 y0 u) (
      br (x2 ≠ 14) (
        v_6_reduceOther_80 Q x1 x2 x3 x4 y0 0 u) (
        v_6_reduceOther_75 Q x1 x2 x3 x4 y0 u)))
set_option maxRecDepth 20000 in
set_option maxHeartbeats 4000000 in
theorem f_6_reduceOther_55 (X : yX RX6 p m c cX6_reduceOther 7 s args D ca ad A) (hRf : 2 ≤ R.frames) (hRl : 46 ≤ R.locals) {Q : iST → Prop} (hret : ∀ (u : iST) (H : Heap) (locs : List Loc) (ls : Array Slot) (pc : Nat), Q u → yW D ca A ad s H locs u → decode cX6_reduceOther pc = .ok (.return_, 1) → W p l e R s m args below meth c H locs 0 0 Qf (F0 m pc ls [])) {x1 x2 x3 x4 y0 : Int} (rx1 : (0 ≤ x1 ∧ x1 < 60)) (rx2 : inR x2) (rx3 : inR x3) (rx4 : inR x4) (ry0 : inR y0) (hw : yW D ca A ad s H locs u) (hl : lv_has ls 7 [(0, .ref (ad 0 5)), (1, .ref (ad 7 x1.toNat)), (2, .int (jI x2)), (3, .int (jI x3)), (4, .int (jI x4))]) (h : v_6_reduceOther_55 Q x1 x2 x3 x4 y0 u) : W p l e R s m args below meth c H locs 0 0 Qf (F0 m 55 ls [.int (jI y0)]) := by
  have hx := X.1.1
  have hb := X.1.2.1
  unfold v_6_reduceOther_55 at h
  refine lv_istore hx hb dX6_reduceOther_55 hl (by decide) rfl (fun ls hl => ?_)
  have hl : lv_has ls 7 [(5, .int (jI y0)), (0, .ref (ad 0 5)), (1, .ref (ad 7 x1.toNat)), (2, .int (jI x2)), (3, .int (jI x3)), (4, .int (jI x4))] := hl
  refine lv_iload_n hx hb dX6_reduceOther_57 rfl (lv_at hl 3 rfl) ?_
  refine lv_bipush hx hb dX6_reduceOther_58 (v := jI 10) rfl ?_
  refine k_icmp_eq hx hb rx2 (by decide) dX6_reduceOther_60 (tgt := 75) rfl h (fun h => ?_) (fun h => ?_)
  · exact f_6_reduceOther_75 X hRf hRl hret rx1 rx2 rx3 rx4 ry0 hw (lv_sub hl [1, 2, 3, 4, 5, 0] rfl) h
  · refine lv_iload_n hx hb dX6_reduceOther_63 rfl (lv_at hl 3 rfl) ?_
    refine lv_bipush hx hb dX6_reduceOther_64 (v := jI 13) rfl ?_
    refine k_icmp_eq hx hb rx2 (by decide) dX6_reduceOther_66 (tgt := 75) rfl h (fun h => ?_) (fun h => ?_)
    · exact f_6_reduceOther_75 X hRf hRl hret rx1 rx2 rx3 rx4 ry0 hw (lv_sub hl [1, 2, 3, 4, 5, 0] rfl) h
    · refine lv_iload_n hx hb dX6_reduceOther_69 rfl (lv_at hl 3 rfl) ?_
      refine lv_bipush hx hb dX6_reduceOther_70 (v := jI 14) rfl ?_
      refine k_icmp_ne hx hb rx2 (by decide) dX6_reduceOther_72 (tgt := 79) rfl h (fun h => ?_) (fun h => ?_)
      · refine lv_iconst hx hb dX6_reduceOther_79 (v := jI 0) rfl ?_
        exact f_6_reduceOther_80 X hRf hRl hret rx1 rx2 rx3 rx4 ry0 (by decide) hw (lv_sub hl [1, 2, 3, 4, 5, 0] rfl) h
      · exact f_6_reduceOther_75 X hRf hRl hret rx1 rx2 rx3 rx4 ry0 hw (lv_sub hl [1, 2, 3, 4, 5, 0] rfl) h

def v_6_reduceOther_50 (Q : iST → Prop) (x1 : Int) (x2 : Int) (x3 : Int) (x4 : Int) (u : iST) : Prop :=
  v_6_reduceOther_55 Q x1 x2 x3 x4 1 u
set_option maxRecDepth 20000 in
set_option maxHeartbeats 4000000 in
theorem f_6_reduceOther_50 (X : yX RX6 p m c cX6_reduceOther 7 s args D ca ad A) (hRf : 2 ≤ R.frames) (hRl : 46 ≤ R.locals) {Q : iST → Prop} (hret : ∀ (u : iST) (H : Heap) (locs : List Loc) (ls : Array Slot) (pc : Nat), Q u → yW D ca A ad s H locs u → decode cX6_reduceOther pc = .ok (.return_, 1) → W p l e R s m args below meth c H locs 0 0 Qf (F0 m pc ls [])) {x1 x2 x3 x4 : Int} (rx1 : (0 ≤ x1 ∧ x1 < 60)) (rx2 : inR x2) (rx3 : inR x3) (rx4 : inR x4) (hw : yW D ca A ad s H locs u) (hl : lv_has ls 7 [(0, .ref (ad 0 5)), (1, .ref (ad 7 x1.toNat)), (2, .int (jI x2)), (3, .int (jI x3)), (4, .int (jI x4))]) (h : v_6_reduceOther_50 Q x1 x2 x3 x4 u) : W p l e R s m args below meth c H locs 0 0 Qf (F0 m 50 ls []) := by
  have hx := X.1.1
  have hb := X.1.2.1
  unfold v_6_reduceOther_50 at h
  refine lv_iconst hx hb dX6_reduceOther_50 (v := jI 1) rfl ?_
  refine lv_goto hx hb dX6_reduceOther_51 (tgt := 55) rfl ?_
  exact f_6_reduceOther_55 X hRf hRl hret rx1 rx2 rx3 rx4 (by decide) hw hl h

def v_6_reduceOther (a0 : Int) (a1 : Int) (a2 : Int) (Q : iST → Prop) (u : iST) : Prop :=
  v_7_isCallOf a2 5 (fun v1 u => 
  v_7_isCallOf a2 7 (fun v2 u => 
  br (v2 ≠ 0) (
    v_6_reduceOther_50 Q a0 a1 a2 v1 u) (
    v_7_isCallOf a2 8 (fun v6 u => 
    br (v6 ≠ 0) (
      v_6_reduceOther_50 Q a0 a1 a2 v1 u) (
      v_7_isCallOf a2 15 (fun v7 u => 
      br (v7 = 0) (
        v_6_reduceOther_55 Q a0 a1 a2 v1 0 u) (
        v_6_reduceOther_50 Q a0 a1 a2 v1 u)) u)) u)) u) u
set_option maxRecDepth 20000 in
set_option maxHeartbeats 4000000 in
theorem f_6_reduceOther_s (X : yX RX6 p m c cX6_reduceOther 7 s args D ca ad A) (hRf : 2 ≤ R.frames) (hRl : 46 ≤ R.locals) {Q : iST → Prop} (hret : ∀ (u : iST) (H : Heap) (locs : List Loc) (ls : Array Slot) (pc : Nat), Q u → yW D ca A ad s H locs u → decode cX6_reduceOther pc = .ok (.return_, 1) → W p l e R s m args below meth c H locs 0 0 Qf (F0 m pc ls [])) {a0 a1 a2 : Int} (ra0 : (0 ≤ a0 ∧ a0 < 60)) (ra1 : inR a1) (ra2 : inR a2) (hw : yW D ca A ad s H locs u) (hl : lv_has ls 7 [(0, .ref (ad 0 5)), (1, .ref (ad 7 a0.toNat)), (2, .int (jI a1)), (3, .int (jI a2))]) (h : v_6_reduceOther a0 a1 a2 Q u) : W p l e R s m args below meth c H locs 0 0 Qf (F0 m 0 ls []) := by
  have hx := X.1.1
  have hb := X.1.2.1
  unfold v_6_reduceOther at h
  refine lv_aload_n hx hb dX6_reduceOther_0 rfl (lv_at hl 0 rfl) ?_
  refine yg_6_39 X hw dX6_reduceOther_1 ?_
  refine lv_iload_n hx hb dX6_reduceOther_4 rfl (lv_at hl 3 rfl) ?_
  refine lv_iconst hx hb dX6_reduceOther_5 (v := jI 5) rfl ?_
  refine ycI (n := 2) (e_7_isCallOf ra2 (by decide) h) 7 6 (r := (RX7, TX7, 9)) rfl yG_6_175 yD_7_isCallOf X hw rfl yGo_7 (Nat.le_trans (Nat.le_of_ble_eq_true rfl) hRf) (Nat.le_trans (Nat.le_of_ble_eq_true rfl) hRl) rfl hl.1 (Nat.le_of_ble_eq_true rfl) rfl dX6_reduceOther_6 (fun v1 u H locs rv1 h hw => ?_)
  refine lv_istore hx hb dX6_reduceOther_9 hl (by decide) rfl (fun ls hl => ?_)
  have hl : lv_has ls 7 [(4, .int (jI v1)), (0, .ref (ad 0 5)), (1, .ref (ad 7 a0.toNat)), (2, .int (jI a1)), (3, .int (jI a2))] := hl
  refine lv_aload_n hx hb dX6_reduceOther_11 rfl (lv_at hl 1 rfl) ?_
  refine yg_6_39 X hw dX6_reduceOther_12 ?_
  refine lv_iload_n hx hb dX6_reduceOther_15 rfl (lv_at hl 4 rfl) ?_
  refine lv_bipush hx hb dX6_reduceOther_16 (v := jI 7) rfl ?_
  refine ycI (n := 2) (e_7_isCallOf ra2 (by decide) h) 7 6 (r := (RX7, TX7, 9)) rfl yG_6_175 yD_7_isCallOf X hw rfl yGo_7 (Nat.le_trans (Nat.le_of_ble_eq_true rfl) hRf) (Nat.le_trans (Nat.le_of_ble_eq_true rfl) hRl) rfl hl.1 (Nat.le_of_ble_eq_true rfl) rfl dX6_reduceOther_18 (fun v2 u H locs rv2 h hw => ?_)
  refine k_if_ne hx hb rv2 dX6_reduceOther_21 (tgt := 50) rfl h (fun h => ?_) (fun h => ?_)
  · exact f_6_reduceOther_50 X hRf hRl hret ra0 ra1 ra2 rv1 hw (lv_sub hl [1, 2, 3, 4, 0] rfl) h
  · refine lv_aload_n hx hb dX6_reduceOther_24 rfl (lv_at hl 1 rfl) ?_
    refine yg_6_39 X hw dX6_reduceOther_25 ?_
    refine lv_iload_n hx hb dX6_reduceOther_28 rfl (lv_at hl 4 rfl) ?_
    refine lv_bipush hx hb dX6_reduceOther_29 (v := jI 8) rfl ?_
    refine ycI (n := 2) (e_7_isCallOf ra2 (by decide) h) 7 6 (r := (RX7, TX7, 9)) rfl yG_6_175 yD_7_isCallOf X hw rfl yGo_7 (Nat.le_trans (Nat.le_of_ble_eq_true rfl) hRf) (Nat.le_trans (Nat.le_of_ble_eq_true rfl) hRl) rfl hl.1 (Nat.le_of_ble_eq_true rfl) rfl dX6_reduceOther_31 (fun v6 u H locs rv6 h hw => ?_)
    refine k_if_ne hx hb rv6 dX6_reduceOther_34 (tgt := 50) rfl h (fun h => ?_) (fun h => ?_)
    · exact f_6_reduceOther_50 X hRf hRl hret ra0 ra1 ra2 rv1 hw (lv_sub hl [1, 2, 3, 4, 0] rfl) h
    · refine lv_aload_n hx hb dX6_reduceOther_37 rfl (lv_at hl 1 rfl) ?_
      refine yg_6_39 X hw dX6_reduceOther_38 ?_
      refine lv_iload_n hx hb dX6_reduceOther_41 rfl (lv_at hl 4 rfl) ?_
      refine lv_bipush hx hb dX6_reduceOther_42 (v := jI 15) rfl ?_
      refine ycI (n := 2) (e_7_isCallOf ra2 (by decide) h) 7 6 (r := (RX7, TX7, 9)) rfl yG_6_175 yD_7_isCallOf X hw rfl yGo_7 (Nat.le_trans (Nat.le_of_ble_eq_true rfl) hRf) (Nat.le_trans (Nat.le_of_ble_eq_true rfl) hRl) rfl hl.1 (Nat.le_of_ble_eq_true rfl) rfl dX6_reduceOther_44 (fun v7 u H locs rv7 h hw => ?_)
      refine k_if_eq hx hb rv7 dX6_reduceOther_47 (tgt := 54) rfl h (fun h => ?_) (fun h => ?_)
      · refine lv_iconst hx hb dX6_reduceOther_54 (v := jI 0) rfl ?_
        exact f_6_reduceOther_55 X hRf hRl hret ra0 ra1 ra2 rv1 (by decide) hw (lv_sub hl [1, 2, 3, 4, 0] rfl) h
      · exact f_6_reduceOther_50 X hRf hRl hret ra0 ra1 ra2 rv1 hw (lv_sub hl [1, 2, 3, 4, 0] rfl) h

end
theorem e_6_reduceOther {l : Launch} {a0 : Int} {a1 : Int} {a2 : Int} (ra0 : (0 ≤ a0 ∧ a0 < 60)) (ra1 : inR a1) (ra2 : inR a2) {Q : iST → Prop} {u : iST} (h : v_6_reduceOther a0 a1 a2 Q u) : yMV l yX6_reduceOther (.code yX6_reduceOther cX6_reduceOther 7 none :: wsN) { frames := 2, cells := 0, slots := 0, locals := 46 } (fun ad => [.ref (ad 0 5), .ref (ad 7 a0.toNat), .int (jI a1), .int (jI a2)]) Q u := yMV_of (own := RX6) rfl (by decide +kernel) (fun _ => Nat.le_of_ble_eq_true rfl) (fun X hRf hRl hret hw hl => f_6_reduceOther_s X hRf hRl hret ra0 ra1 ra2 hw hl h)

/-! ProofHouse$Rewriter.lookUp -/
theorem dX6_lookUp_0 : decode cX6_lookUp 0 = .ok (.aload_n 0, 1) := by decide +kernel
theorem dX6_lookUp_1 : decode cX6_lookUp 1 = .ok (.aload_n 1, 1) := by decide +kernel
theorem dX6_lookUp_2 : decode cX6_lookUp 2 = .ok (.iconst 5, 1) := by decide +kernel
theorem dX6_lookUp_3 : decode cX6_lookUp 3 = .ok (.iaload, 1) := by decide +kernel
theorem dX6_lookUp_4 : decode cX6_lookUp 4 = .ok (.aload_n 1, 1) := by decide +kernel
theorem dX6_lookUp_5 : decode cX6_lookUp 5 = .ok (.iconst 1, 1) := by decide +kernel
theorem dX6_lookUp_6 : decode cX6_lookUp 6 = .ok (.iaload, 1) := by decide +kernel
theorem dX6_lookUp_7 : decode cX6_lookUp 7 = .ok (.aload_n 1, 1) := by decide +kernel
theorem dX6_lookUp_8 : decode cX6_lookUp 8 = .ok (.iconst 2, 1) := by decide +kernel
theorem dX6_lookUp_9 : decode cX6_lookUp 9 = .ok (.iaload, 1) := by decide +kernel
theorem dX6_lookUp_10 : decode cX6_lookUp 10 = .ok (.invokevirtual 172, 3) := by decide +kernel
theorem dX6_lookUp_13 : decode cX6_lookUp 13 = .ok (.istore_n 2, 1) := by decide +kernel
theorem dX6_lookUp_14 : decode cX6_lookUp 14 = .ok (.iload_n 2, 1) := by decide +kernel
theorem dX6_lookUp_15 : decode cX6_lookUp 15 = .ok (.aload_n 1, 1) := by decide +kernel
theorem dX6_lookUp_16 : decode cX6_lookUp 16 = .ok (.iconst 5, 1) := by decide +kernel
theorem dX6_lookUp_17 : decode cX6_lookUp 17 = .ok (.iaload, 1) := by decide +kernel
theorem dX6_lookUp_18 : decode cX6_lookUp 18 = .ok (.if_icmp .eq 11, 3) := by decide +kernel
theorem dX6_lookUp_21 : decode cX6_lookUp 21 = .ok (.aload_n 0, 1) := by decide +kernel
theorem dX6_lookUp_22 : decode cX6_lookUp 22 = .ok (.iload_n 2, 1) := by decide +kernel
theorem dX6_lookUp_23 : decode cX6_lookUp 23 = .ok (.invokevirtual 96, 3) := by decide +kernel
theorem dX6_lookUp_26 : decode cX6_lookUp 26 = .ok (.goto 18, 3) := by decide +kernel
theorem dX6_lookUp_29 : decode cX6_lookUp 29 = .ok (.aload_n 1, 1) := by decide +kernel
theorem dX6_lookUp_30 : decode cX6_lookUp 30 = .ok (.iconst 3, 1) := by decide +kernel
theorem dX6_lookUp_31 : decode cX6_lookUp 31 = .ok (.bipush 12, 2) := by decide +kernel
theorem dX6_lookUp_33 : decode cX6_lookUp 33 = .ok (.iastore, 1) := by decide +kernel
theorem dX6_lookUp_34 : decode cX6_lookUp 34 = .ok (.aload_n 1, 1) := by decide +kernel
theorem dX6_lookUp_35 : decode cX6_lookUp 35 = .ok (.bipush 8, 2) := by decide +kernel
theorem dX6_lookUp_37 : decode cX6_lookUp 37 = .ok (.aload_n 0, 1) := by decide +kernel
theorem dX6_lookUp_38 : decode cX6_lookUp 38 = .ok (.getfield 23, 3) := by decide +kernel
theorem dX6_lookUp_41 : decode cX6_lookUp 41 = .ok (.iconst 1, 1) := by decide +kernel
theorem dX6_lookUp_42 : decode cX6_lookUp 42 = .ok (.isub, 1) := by decide +kernel
theorem dX6_lookUp_43 : decode cX6_lookUp 43 = .ok (.iastore, 1) := by decide +kernel
theorem dX6_lookUp_44 : decode cX6_lookUp 44 = .ok (.return_, 1) := by decide +kernel

section
variable {p : Program} {l : Launch} {e : Env} {R : Room} {s : State} {m : MethodId} {args : Array Value} {below : List Frame} {meth : Method} {c : Code} {H : Heap} {locs : List Loc} {Qf : State → Prop}
variable {ls : Array Slot} {D : va_G} {ca : Nat → ClassId} {A : Nat → Prop} {ad : Nat → Nat → Nat} {u : iST}
def v_6_lookUp (a0 : Int) (Q : iST → Prop) (u : iST) : Prop :=
  bd 5 17 (rd (u.2.1 51 (17 * a0 + 5)) (fun v1 => 
  bd 1 17 (rd (u.2.1 51 (17 * a0 + 1)) (fun v2 => 
  bd 2 17 (rd (u.2.1 51 (17 * a0 + 2)) (fun v3 => 
  v_6_lookedUp v1 v2 v3 (fun v4 u => 
  bd 5 17 (rd (u.2.1 51 (17 * a0 + 5)) (fun v5 => 
  br (v4 = v5) (
    bd 3 17 (sw (iA u 51 (17 * a0 + 3) 12) (fun u => 
    rd (u.1 25) (fun v6 => 
    ov (v6 - 1) (
    bd 8 17 (sw (iA u 51 (17 * a0 + 8) (v6 - 1)) (fun u => 
    Q u))))))) (
    v_6_finish v4 (fun u => 
    Q u) u)))) u))))))
set_option maxRecDepth 20000 in
set_option maxHeartbeats 4000000 in
theorem f_6_lookUp_s (X : yX RX6 p m c cX6_lookUp 3 s args D ca ad A) (hRf : 3 ≤ R.frames) (hRl : 72 ≤ R.locals) {Q : iST → Prop} (hret : ∀ (u : iST) (H : Heap) (locs : List Loc) (ls : Array Slot) (pc : Nat), Q u → yW D ca A ad s H locs u → decode cX6_lookUp pc = .ok (.return_, 1) → W p l e R s m args below meth c H locs 0 0 Qf (F0 m pc ls [])) {a0 : Int} (ra0 : (0 ≤ a0 ∧ a0 < 60)) (hw : yW D ca A ad s H locs u) (hl : lv_has ls 3 [(0, .ref (ad 0 5)), (1, .ref (ad 7 a0.toNat))]) (h : v_6_lookUp a0 Q u) : W p l e R s m args below meth c H locs 0 0 Qf (F0 m 0 ls []) := by
  have hx := X.1.1
  have hb := X.1.2.1
  unfold v_6_lookUp at h
  refine lv_aload_n hx hb dX6_lookUp_0 rfl (lv_at hl 0 rfl) ?_
  refine lv_aload_n hx hb dX6_lookUp_1 rfl (lv_at hl 1 rfl) ?_
  refine lv_iconst hx hb dX6_lookUp_2 (v := jI 5) rfl ?_
  refine yfl_frames X hw ra0 (by decide) dX6_lookUp_3 h (fun v1 rv1 h => ?_)
  refine lv_aload_n hx hb dX6_lookUp_4 rfl (lv_at hl 1 rfl) ?_
  refine lv_iconst hx hb dX6_lookUp_5 (v := jI 1) rfl ?_
  refine yfl_frames X hw ra0 (by decide) dX6_lookUp_6 h (fun v2 rv2 h => ?_)
  refine lv_aload_n hx hb dX6_lookUp_7 rfl (lv_at hl 1 rfl) ?_
  refine lv_iconst hx hb dX6_lookUp_8 (v := jI 2) rfl ?_
  refine yfl_frames X hw ra0 (by decide) dX6_lookUp_9 h (fun v3 rv3 h => ?_)
  refine ycI (n := 3) (e_6_lookedUp rv1 rv2 rv3 h) 6 5 (r := (RX6, TX6, 14)) rfl yG_6_172 yD_6_lookedUp X hw rfl yGo_6 (Nat.le_trans (Nat.le_of_ble_eq_true rfl) hRf) (Nat.le_trans (Nat.le_of_ble_eq_true rfl) hRl) rfl hl.1 (Nat.le_of_ble_eq_true rfl) rfl dX6_lookUp_10 (fun v4 u H locs rv4 h hw => ?_)
  refine lv_istore_n hx hb dX6_lookUp_13 rfl hl (by decide) rfl (fun ls hl => ?_)
  have hl : lv_has ls 3 [(2, .int (jI v4)), (0, .ref (ad 0 5)), (1, .ref (ad 7 a0.toNat))] := hl
  refine lv_iload_n hx hb dX6_lookUp_14 rfl (lv_at hl 0 rfl) ?_
  refine lv_aload_n hx hb dX6_lookUp_15 rfl (lv_at hl 2 rfl) ?_
  refine lv_iconst hx hb dX6_lookUp_16 (v := jI 5) rfl ?_
  refine yfl_frames X hw ra0 (by decide) dX6_lookUp_17 h (fun v5 rv5 h => ?_)
  refine k_icmp_eq hx hb rv4 rv5 dX6_lookUp_18 (tgt := 29) rfl h (fun h => ?_) (fun h => ?_)
  · refine lv_aload_n hx hb dX6_lookUp_29 rfl (lv_at hl 2 rfl) ?_
    refine lv_iconst hx hb dX6_lookUp_30 (v := jI 3) rfl ?_
    refine lv_bipush hx hb dX6_lookUp_31 (v := jI 12) rfl ?_
    refine yft_frames X hw ra0 (by decide) (by decide) dX6_lookUp_33 h (fun H locs u hw h => ?_)
    refine lv_aload_n hx hb dX6_lookUp_34 rfl (lv_at hl 2 rfl) ?_
    refine lv_bipush hx hb dX6_lookUp_35 (v := jI 8) rfl ?_
    refine lv_aload_n hx hb dX6_lookUp_37 rfl (lv_at hl 1 rfl) ?_
    refine yg_6_23 X hw dX6_lookUp_38 h (fun v6 rv6 h => ?_)
    refine lv_iconst hx hb dX6_lookUp_41 (v := jI 1) rfl ?_
    refine k_isub hx hb dX6_lookUp_42 h (fun r7 h => ?_)
    refine yft_frames X hw ra0 (by decide) r7 dX6_lookUp_43 h (fun H locs u hw h => ?_)
    exact hret _ _ _ _ _ h hw dX6_lookUp_44
  · refine lv_aload_n hx hb dX6_lookUp_21 rfl (lv_at hl 1 rfl) ?_
    refine lv_iload_n hx hb dX6_lookUp_22 rfl (lv_at hl 0 rfl) ?_
    refine ycV (n := 1) (e_6_finish rv4 h) 6 5 (r := (RX6, TX6, 14)) rfl yG_6_96 yD_6_finish X hw rfl yGo_6 (Nat.le_trans (Nat.le_of_ble_eq_true rfl) hRf) (Nat.le_trans (Nat.le_of_ble_eq_true rfl) hRl) rfl hl.1 (Nat.le_of_ble_eq_true rfl) rfl dX6_lookUp_23 (fun u H locs h hw => ?_)
    refine lv_goto hx hb dX6_lookUp_26 (tgt := 44) rfl ?_
    exact hret _ _ _ _ _ h hw dX6_lookUp_44

end
theorem e_6_lookUp {l : Launch} {a0 : Int} (ra0 : (0 ≤ a0 ∧ a0 < 60)) {Q : iST → Prop} {u : iST} (h : v_6_lookUp a0 Q u) : yMV l yX6_lookUp (.code yX6_lookUp cX6_lookUp 3 none :: wsN) { frames := 3, cells := 0, slots := 0, locals := 72 } (fun ad => [.ref (ad 0 5), .ref (ad 7 a0.toNat)]) Q u := yMV_of (own := RX6) rfl (by decide +kernel) (fun _ => Nat.le_of_ble_eq_true rfl) (fun X hRf hRl hret hw hl => f_6_lookUp_s X hRf hRl hret ra0 hw hl h)

/-! ProofHouse$Terms.matches -/
theorem dX10_matches_0 : decode cX10_matches 0 = .ok (.aload_n 0, 1) := by decide +kernel
theorem dX10_matches_1 : decode cX10_matches 1 = .ok (.iconst 0, 1) := by decide +kernel
theorem dX10_matches_2 : decode cX10_matches 2 = .ok (.putfield 25, 3) := by decide +kernel
theorem dX10_matches_5 : decode cX10_matches 5 = .ok (.aload_n 0, 1) := by decide +kernel
theorem dX10_matches_6 : decode cX10_matches 6 = .ok (.getfield 46, 3) := by decide +kernel
theorem dX10_matches_9 : decode cX10_matches 9 = .ok (.iconst 0, 1) := by decide +kernel
theorem dX10_matches_10 : decode cX10_matches 10 = .ok (.iload_n 1, 1) := by decide +kernel
theorem dX10_matches_11 : decode cX10_matches 11 = .ok (.iastore, 1) := by decide +kernel
theorem dX10_matches_12 : decode cX10_matches 12 = .ok (.aload_n 0, 1) := by decide +kernel
theorem dX10_matches_13 : decode cX10_matches 13 = .ok (.getfield 49, 3) := by decide +kernel
theorem dX10_matches_16 : decode cX10_matches 16 = .ok (.iconst 0, 1) := by decide +kernel
theorem dX10_matches_17 : decode cX10_matches 17 = .ok (.iload_n 2, 1) := by decide +kernel
theorem dX10_matches_18 : decode cX10_matches 18 = .ok (.iastore, 1) := by decide +kernel
theorem dX10_matches_19 : decode cX10_matches 19 = .ok (.iconst 1, 1) := by decide +kernel
theorem dX10_matches_20 : decode cX10_matches 20 = .ok (.istore_n 3, 1) := by decide +kernel
theorem dX10_matches_21 : decode cX10_matches 21 = .ok (.iconst 0, 1) := by decide +kernel
theorem dX10_matches_22 : decode cX10_matches 22 = .ok (.istore 4, 2) := by decide +kernel
theorem dX10_matches_24 : decode cX10_matches 24 = .ok (.iload 4, 2) := by decide +kernel
theorem dX10_matches_26 : decode cX10_matches 26 = .ok (.ldc 63, 2) := by decide +kernel
theorem dX10_matches_28 : decode cX10_matches 28 = .ok (.if_icmp .ge 224, 3) := by decide +kernel
theorem dX10_matches_31 : decode cX10_matches 31 = .ok (.iload_n 3, 1) := by decide +kernel
theorem dX10_matches_32 : decode cX10_matches 32 = .ok (.ifCond .le 220, 3) := by decide +kernel
theorem dX10_matches_35 : decode cX10_matches 35 = .ok (.iinc 3 (-1), 3) := by decide +kernel
theorem dX10_matches_38 : decode cX10_matches 38 = .ok (.aload_n 0, 1) := by decide +kernel
theorem dX10_matches_39 : decode cX10_matches 39 = .ok (.getfield 46, 3) := by decide +kernel
theorem dX10_matches_42 : decode cX10_matches 42 = .ok (.iload_n 3, 1) := by decide +kernel
theorem dX10_matches_43 : decode cX10_matches 43 = .ok (.iaload, 1) := by decide +kernel
theorem dX10_matches_44 : decode cX10_matches 44 = .ok (.istore 5, 2) := by decide +kernel
theorem dX10_matches_46 : decode cX10_matches 46 = .ok (.aload_n 0, 1) := by decide +kernel
theorem dX10_matches_47 : decode cX10_matches 47 = .ok (.getfield 49, 3) := by decide +kernel
theorem dX10_matches_50 : decode cX10_matches 50 = .ok (.iload_n 3, 1) := by decide +kernel
theorem dX10_matches_51 : decode cX10_matches 51 = .ok (.iaload, 1) := by decide +kernel
theorem dX10_matches_52 : decode cX10_matches 52 = .ok (.istore 6, 2) := by decide +kernel
theorem dX10_matches_54 : decode cX10_matches 54 = .ok (.aload_n 0, 1) := by decide +kernel
theorem dX10_matches_55 : decode cX10_matches 55 = .ok (.getfield 55, 3) := by decide +kernel
theorem dX10_matches_58 : decode cX10_matches 58 = .ok (.iload 5, 2) := by decide +kernel
theorem dX10_matches_60 : decode cX10_matches 60 = .ok (.invokevirtual 106, 3) := by decide +kernel
theorem dX10_matches_63 : decode cX10_matches 63 = .ok (.ifCond .eq 40, 3) := by decide +kernel
theorem dX10_matches_66 : decode cX10_matches 66 = .ok (.aload_n 0, 1) := by decide +kernel
theorem dX10_matches_67 : decode cX10_matches 67 = .ok (.iload 5, 2) := by decide +kernel
theorem dX10_matches_69 : decode cX10_matches 69 = .ok (.invokevirtual 109, 3) := by decide +kernel
theorem dX10_matches_72 : decode cX10_matches 72 = .ok (.istore 7, 2) := by decide +kernel
theorem dX10_matches_74 : decode cX10_matches 74 = .ok (.iload 7, 2) := by decide +kernel
theorem dX10_matches_76 : decode cX10_matches 76 = .ok (.iconst (-1), 1) := by decide +kernel
theorem dX10_matches_77 : decode cX10_matches 77 = .ok (.if_icmp .ne 14, 3) := by decide +kernel
theorem dX10_matches_80 : decode cX10_matches 80 = .ok (.aload_n 0, 1) := by decide +kernel
theorem dX10_matches_81 : decode cX10_matches 81 = .ok (.iload 5, 2) := by decide +kernel
theorem dX10_matches_83 : decode cX10_matches 83 = .ok (.iload 6, 2) := by decide +kernel
theorem dX10_matches_85 : decode cX10_matches 85 = .ok (.invokevirtual 129, 3) := by decide +kernel
theorem dX10_matches_88 : decode cX10_matches 88 = .ok (.goto 12, 3) := by decide +kernel
theorem dX10_matches_91 : decode cX10_matches 91 = .ok (.iload 7, 2) := by decide +kernel
theorem dX10_matches_93 : decode cX10_matches 93 = .ok (.iload 6, 2) := by decide +kernel
theorem dX10_matches_95 : decode cX10_matches 95 = .ok (.if_icmp .eq 5, 3) := by decide +kernel
theorem dX10_matches_98 : decode cX10_matches 98 = .ok (.iconst 0, 1) := by decide +kernel
theorem dX10_matches_99 : decode cX10_matches 99 = .ok (.ireturn, 1) := by decide +kernel
theorem dX10_matches_100 : decode cX10_matches 100 = .ok (.goto 146, 3) := by decide +kernel
theorem dX10_matches_103 : decode cX10_matches 103 = .ok (.aload_n 0, 1) := by decide +kernel
theorem dX10_matches_104 : decode cX10_matches 104 = .ok (.getfield 55, 3) := by decide +kernel
theorem dX10_matches_107 : decode cX10_matches 107 = .ok (.iload 5, 2) := by decide +kernel
theorem dX10_matches_109 : decode cX10_matches 109 = .ok (.invokevirtual 103, 3) := by decide +kernel
theorem dX10_matches_112 : decode cX10_matches 112 = .ok (.ifCond .ne 12, 3) := by decide +kernel
theorem dX10_matches_115 : decode cX10_matches 115 = .ok (.iload 5, 2) := by decide +kernel
theorem dX10_matches_117 : decode cX10_matches 117 = .ok (.iload 6, 2) := by decide +kernel
theorem dX10_matches_119 : decode cX10_matches 119 = .ok (.if_icmp .eq 127, 3) := by decide +kernel
theorem dX10_matches_122 : decode cX10_matches 122 = .ok (.iconst 0, 1) := by decide +kernel
theorem dX10_matches_123 : decode cX10_matches 123 = .ok (.ireturn, 1) := by decide +kernel
theorem dX10_matches_124 : decode cX10_matches 124 = .ok (.aload_n 0, 1) := by decide +kernel
theorem dX10_matches_125 : decode cX10_matches 125 = .ok (.getfield 55, 3) := by decide +kernel
theorem dX10_matches_128 : decode cX10_matches 128 = .ok (.iload 6, 2) := by decide +kernel
theorem dX10_matches_130 : decode cX10_matches 130 = .ok (.aload_n 0, 1) := by decide +kernel
theorem dX10_matches_131 : decode cX10_matches 131 = .ok (.getfield 55, 3) := by decide +kernel
theorem dX10_matches_134 : decode cX10_matches 134 = .ok (.iload 5, 2) := by decide +kernel
theorem dX10_matches_136 : decode cX10_matches 136 = .ok (.invokevirtual 72, 3) := by decide +kernel
theorem dX10_matches_139 : decode cX10_matches 139 = .ok (.invokevirtual 139, 3) := by decide +kernel
theorem dX10_matches_142 : decode cX10_matches 142 = .ok (.ifCond .ne 5, 3) := by decide +kernel
theorem dX10_matches_145 : decode cX10_matches 145 = .ok (.iconst 0, 1) := by decide +kernel
theorem dX10_matches_146 : decode cX10_matches 146 = .ok (.ireturn, 1) := by decide +kernel
theorem dX10_matches_147 : decode cX10_matches 147 = .ok (.aload_n 0, 1) := by decide +kernel
theorem dX10_matches_148 : decode cX10_matches 148 = .ok (.getfield 55, 3) := by decide +kernel
theorem dX10_matches_151 : decode cX10_matches 151 = .ok (.iload 6, 2) := by decide +kernel
theorem dX10_matches_153 : decode cX10_matches 153 = .ok (.invokevirtual 77, 3) := by decide +kernel
theorem dX10_matches_156 : decode cX10_matches 156 = .ok (.istore 7, 2) := by decide +kernel
theorem dX10_matches_158 : decode cX10_matches 158 = .ok (.aload_n 0, 1) := by decide +kernel
theorem dX10_matches_159 : decode cX10_matches 159 = .ok (.getfield 55, 3) := by decide +kernel
theorem dX10_matches_162 : decode cX10_matches 162 = .ok (.iload 5, 2) := by decide +kernel
theorem dX10_matches_164 : decode cX10_matches 164 = .ok (.invokevirtual 77, 3) := by decide +kernel
theorem dX10_matches_167 : decode cX10_matches 167 = .ok (.istore 8, 2) := by decide +kernel
theorem dX10_matches_169 : decode cX10_matches 169 = .ok (.aload_n 0, 1) := by decide +kernel
theorem dX10_matches_170 : decode cX10_matches 170 = .ok (.getfield 55, 3) := by decide +kernel
theorem dX10_matches_173 : decode cX10_matches 173 = .ok (.iload 8, 2) := by decide +kernel
theorem dX10_matches_175 : decode cX10_matches 175 = .ok (.invokevirtual 80, 3) := by decide +kernel
theorem dX10_matches_178 : decode cX10_matches 178 = .ok (.ifCond .eq 68, 3) := by decide +kernel
theorem dX10_matches_181 : decode cX10_matches 181 = .ok (.iload_n 3, 1) := by decide +kernel
theorem dX10_matches_182 : decode cX10_matches 182 = .ok (.sipush 128, 3) := by decide +kernel
theorem dX10_matches_185 : decode cX10_matches 185 = .ok (.if_icmp .ge 61, 3) := by decide +kernel
theorem dX10_matches_188 : decode cX10_matches 188 = .ok (.aload_n 0, 1) := by decide +kernel
theorem dX10_matches_189 : decode cX10_matches 189 = .ok (.getfield 46, 3) := by decide +kernel
theorem dX10_matches_192 : decode cX10_matches 192 = .ok (.iload_n 3, 1) := by decide +kernel
theorem dX10_matches_193 : decode cX10_matches 193 = .ok (.aload_n 0, 1) := by decide +kernel
theorem dX10_matches_194 : decode cX10_matches 194 = .ok (.getfield 55, 3) := by decide +kernel
theorem dX10_matches_197 : decode cX10_matches 197 = .ok (.iload 8, 2) := by decide +kernel
theorem dX10_matches_199 : decode cX10_matches 199 = .ok (.invokevirtual 72, 3) := by decide +kernel
theorem dX10_matches_202 : decode cX10_matches 202 = .ok (.iastore, 1) := by decide +kernel
theorem dX10_matches_203 : decode cX10_matches 203 = .ok (.aload_n 0, 1) := by decide +kernel
theorem dX10_matches_204 : decode cX10_matches 204 = .ok (.getfield 49, 3) := by decide +kernel
theorem dX10_matches_207 : decode cX10_matches 207 = .ok (.iload_n 3, 1) := by decide +kernel
theorem dX10_matches_208 : decode cX10_matches 208 = .ok (.aload_n 0, 1) := by decide +kernel
theorem dX10_matches_209 : decode cX10_matches 209 = .ok (.getfield 55, 3) := by decide +kernel
theorem dX10_matches_212 : decode cX10_matches 212 = .ok (.iload 7, 2) := by decide +kernel
theorem dX10_matches_214 : decode cX10_matches 214 = .ok (.invokevirtual 72, 3) := by decide +kernel
theorem dX10_matches_217 : decode cX10_matches 217 = .ok (.iastore, 1) := by decide +kernel
theorem dX10_matches_218 : decode cX10_matches 218 = .ok (.aload_n 0, 1) := by decide +kernel
theorem dX10_matches_219 : decode cX10_matches 219 = .ok (.getfield 55, 3) := by decide +kernel
theorem dX10_matches_222 : decode cX10_matches 222 = .ok (.iload 7, 2) := by decide +kernel
theorem dX10_matches_224 : decode cX10_matches 224 = .ok (.invokevirtual 77, 3) := by decide +kernel
theorem dX10_matches_227 : decode cX10_matches 227 = .ok (.istore 7, 2) := by decide +kernel
theorem dX10_matches_229 : decode cX10_matches 229 = .ok (.iinc 3 1, 3) := by decide +kernel
theorem dX10_matches_232 : decode cX10_matches 232 = .ok (.aload_n 0, 1) := by decide +kernel
theorem dX10_matches_233 : decode cX10_matches 233 = .ok (.getfield 55, 3) := by decide +kernel
theorem dX10_matches_236 : decode cX10_matches 236 = .ok (.iload 8, 2) := by decide +kernel
theorem dX10_matches_238 : decode cX10_matches 238 = .ok (.invokevirtual 77, 3) := by decide +kernel
theorem dX10_matches_241 : decode cX10_matches 241 = .ok (.istore 8, 2) := by decide +kernel
theorem dX10_matches_243 : decode cX10_matches 243 = .ok (.goto (-74), 3) := by decide +kernel
theorem dX10_matches_246 : decode cX10_matches 246 = .ok (.iinc 4 1, 3) := by decide +kernel
theorem dX10_matches_249 : decode cX10_matches 249 = .ok (.goto (-225), 3) := by decide +kernel
theorem dX10_matches_252 : decode cX10_matches 252 = .ok (.iconst 1, 1) := by decide +kernel
theorem dX10_matches_253 : decode cX10_matches 253 = .ok (.ireturn, 1) := by decide +kernel

section
variable {p : Program} {l : Launch} {e : Env} {R : Room} {s : State} {m : MethodId} {args : Array Value} {below : List Frame} {meth : Method} {c : Code} {H : Heap} {locs : List Loc} {Qf : State → Prop}
variable {ls : Array Slot} {D : va_G} {ca : Nat → ClassId} {A : Nat → Prop} {ad : Nat → Nat → Nat} {u : iST}
def v_10_matches_169b (R24 : Int → Int → iST → Prop) (R169 : Int → Int → Int → Int → iST → Prop) (Q : Int → iST → Prop) (x3 : Int) (x4 : Int) (x7 : Int) (x8 : Int) (u : iST) : Prop :=
  v_7_isPair x8 (fun v10 u => 
  br (v10 = 0) (
    ov (x4 + 1) (
    R24 x3 (x4 + 1) u)) (
    br (128 ≤ x3) (
      ov (x4 + 1) (
      R24 x3 (x4 + 1) u)) (
      v_7_left x8 (fun v13 u => 
      bd x3 128 (sw (iA u 41 x3 v13) (fun u => 
      v_7_left x7 (fun v14 u => 
      bd x3 128 (sw (iA u 42 x3 v14) (fun u => 
      v_7_right x7 (fun v15 u => 
      ov (x3 + 1) (
      v_7_right x8 (fun v17 u => 
      R169 (x3 + 1) x4 v15 v17 u) u)) u))) u))) u))) u
def v_10_matches_169 (R24 : Int → Int → iST → Prop) (Q : Int → iST → Prop) (x3 : Int) (x4 : Int) (x7 : Int) (x8 : Int) (u : iST) : Prop := ∀ R169 : Int → Int → Int → Int → iST → Prop, (∀ (x3 : Int) (x4 : Int) (x7 : Int) (x8 : Int) (u : iST), v_10_matches_169b R24 R169 Q x3 x4 x7 x8 u → R169 x3 x4 x7 x8 u) → R169 x3 x4 x7 x8 u
set_option maxRecDepth 20000 in
set_option maxHeartbeats 4000000 in
theorem f_10_matches_169 (X : yX RX10 p m c cX10_matches 9 s args D ca ad A) (hRf : 1 ≤ R.frames) (hRl : 22 ≤ R.locals) {Q : Int → iST → Prop} (hret : ∀ (v : Int) (u : iST) (H : Heap) (locs : List Loc) (ls : Array Slot) (pc : Nat), bz v → Q v u → yW D ca A ad s H locs u → decode cX10_matches pc = .ok (.ireturn, 1) → W p l e R s m args below meth c H locs 0 0 Qf (F0 m pc ls [.int (jI v)])) {R24 : Int → Int → iST → Prop} (hR24 : ∀ (x3 : Int) (x4 : Int) (u : iST) (H : Heap) (locs : List Loc) (ls : Array Slot), inR x3 → inR x4 → yW D ca A ad s H locs u → lv_has ls 9 [(0, .ref (ad 0 8)), (3, .int (jI x3)), (4, .int (jI x4))] → R24 x3 x4 u → W p l e R s m args below meth c H locs 0 0 Qf (F0 m 24 ls [])) {x3 x4 x7 x8 : Int} (rx3 : inR x3) (rx4 : inR x4) (rx7 : inR x7) (rx8 : inR x8) (hw : yW D ca A ad s H locs u) (hl : lv_has ls 9 [(0, .ref (ad 0 8)), (3, .int (jI x3)), (4, .int (jI x4)), (7, .int (jI x7)), (8, .int (jI x8))]) (h : v_10_matches_169 R24 Q x3 x4 x7 x8 u) : W p l e R s m args below meth c H locs 0 0 Qf (F0 m 169 ls []) := by
  refine h (fun x3 x4 x7 x8 u => ∀ (H : Heap) (locs : List Loc) (ls : Array Slot), inR x3 → inR x4 → inR x7 → inR x8 → yW D ca A ad s H locs u → lv_has ls 9 [(0, .ref (ad 0 8)), (3, .int (jI x3)), (4, .int (jI x4)), (7, .int (jI x7)), (8, .int (jI x8))] → W p l e R s m args below meth c H locs 0 0 Qf (F0 m 169 ls [])) ?_ H locs ls rx3 rx4 rx7 rx8 hw hl
  clear h hl hw rx3 rx4 rx7 rx8
  intro x3 x4 x7 x8 u h H locs ls rx3 rx4 rx7 rx8 hw hl
  have hR169 : ∀ (x3 : Int) (x4 : Int) (x7 : Int) (x8 : Int) (u : iST) (H : Heap) (locs : List Loc) (ls : Array Slot), inR x3 → inR x4 → inR x7 → inR x8 → yW D ca A ad s H locs u → lv_has ls 9 [(0, .ref (ad 0 8)), (3, .int (jI x3)), (4, .int (jI x4)), (7, .int (jI x7)), (8, .int (jI x8))] → (fun (x3 : Int) (x4 : Int) (x7 : Int) (x8 : Int) u => ∀ (H : Heap) (locs : List Loc) (ls : Array Slot), inR x3 → inR x4 → inR x7 → inR x8 → yW D ca A ad s H locs u → lv_has ls 9 [(0, .ref (ad 0 8)), (3, .int (jI x3)), (4, .int (jI x4)), (7, .int (jI x7)), (8, .int (jI x8))] → W p l e R s m args below meth c H locs 0 0 Qf (F0 m 169 ls [])) x3 x4 x7 x8 u → W p l e R s m args below meth c H locs 0 0 Qf (F0 m 169 ls []) := fun x3 x4 x7 x8 u H locs ls rx3 rx4 rx7 rx8 hw hl h => h H locs ls rx3 rx4 rx7 rx8 hw hl
  have hx := X.1.1
  have hb := X.1.2.1
  unfold v_10_matches_169b at h
  refine lv_aload_n hx hb dX10_matches_169 rfl (lv_at hl 0 rfl) ?_
  refine yg_10_55 X hw dX10_matches_170 ?_
  refine lv_iload hx hb dX10_matches_173 (lv_at hl 4 rfl) ?_
  refine ycI (n := 1) (e_7_isPair rx8 h) 7 6 (r := (RX7, TX7, 9)) rfl yG_10_80 yD_7_isPair X hw rfl yGo_7 (Nat.le_trans (Nat.le_of_ble_eq_true rfl) hRf) (Nat.le_trans (Nat.le_of_ble_eq_true rfl) hRl) rfl hl.1 (Nat.le_of_ble_eq_true rfl) rfl dX10_matches_175 (fun v10 u H locs rv10 h hw => ?_)
  refine k_if_eq hx hb rv10 dX10_matches_178 (tgt := 246) rfl h (fun h => ?_) (fun h => ?_)
  · refine k_iinc (k := 2) hx hb dX10_matches_246 hl rfl (by decide) rfl h (fun ls r11 h hl => ?_)
    have hl : lv_has ls 9 [(4, .int (jI (x4 + 1))), (0, .ref (ad 0 8)), (3, .int (jI x3)), (7, .int (jI x7)), (8, .int (jI x8))] := hl
    refine lv_goto hx hb dX10_matches_249 (tgt := 24) rfl ?_
    exact hR24 _ _ _ H locs ls rx3 r11 hw (lv_sub hl [1, 2, 0] rfl) h
  · refine lv_iload_n hx hb dX10_matches_181 rfl (lv_at hl 1 rfl) ?_
    refine lv_sipush hx hb dX10_matches_182 (v := jI 128) rfl ?_
    refine k_icmp_ge hx hb rx3 (by decide) dX10_matches_185 (tgt := 246) rfl h (fun h => ?_) (fun h => ?_)
    · refine k_iinc (k := 2) hx hb dX10_matches_246 hl rfl (by decide) rfl h (fun ls r12 h hl => ?_)
      have hl : lv_has ls 9 [(4, .int (jI (x4 + 1))), (0, .ref (ad 0 8)), (3, .int (jI x3)), (7, .int (jI x7)), (8, .int (jI x8))] := hl
      refine lv_goto hx hb dX10_matches_249 (tgt := 24) rfl ?_
      exact hR24 _ _ _ H locs ls rx3 r12 hw (lv_sub hl [1, 2, 0] rfl) h
    · refine lv_aload_n hx hb dX10_matches_188 rfl (lv_at hl 0 rfl) ?_
      refine yg_10_46 X hw dX10_matches_189 ?_
      refine lv_iload_n hx hb dX10_matches_192 rfl (lv_at hl 1 rfl) ?_
      refine lv_aload_n hx hb dX10_matches_193 rfl (lv_at hl 0 rfl) ?_
      refine yg_10_55 X hw dX10_matches_194 ?_
      refine lv_iload hx hb dX10_matches_197 (lv_at hl 4 rfl) ?_
      refine ycI (n := 1) (e_7_left rx8 h) 7 6 (r := (RX7, TX7, 9)) rfl yG_10_72 yD_7_left X hw rfl yGo_7 (Nat.le_trans (Nat.le_of_ble_eq_true rfl) hRf) (Nat.le_trans (Nat.le_of_ble_eq_true rfl) hRl) rfl hl.1 (Nat.le_of_ble_eq_true rfl) rfl dX10_matches_199 (fun v13 u H locs rv13 h hw => ?_)
      refine yt_41 X hw rx3 rv13 dX10_matches_202 h (fun H locs u hw h => ?_)
      refine lv_aload_n hx hb dX10_matches_203 rfl (lv_at hl 0 rfl) ?_
      refine yg_10_49 X hw dX10_matches_204 ?_
      refine lv_iload_n hx hb dX10_matches_207 rfl (lv_at hl 1 rfl) ?_
      refine lv_aload_n hx hb dX10_matches_208 rfl (lv_at hl 0 rfl) ?_
      refine yg_10_55 X hw dX10_matches_209 ?_
      refine lv_iload hx hb dX10_matches_212 (lv_at hl 3 rfl) ?_
      refine ycI (n := 1) (e_7_left rx7 h) 7 6 (r := (RX7, TX7, 9)) rfl yG_10_72 yD_7_left X hw rfl yGo_7 (Nat.le_trans (Nat.le_of_ble_eq_true rfl) hRf) (Nat.le_trans (Nat.le_of_ble_eq_true rfl) hRl) rfl hl.1 (Nat.le_of_ble_eq_true rfl) rfl dX10_matches_214 (fun v14 u H locs rv14 h hw => ?_)
      refine yt_42 X hw rx3 rv14 dX10_matches_217 h (fun H locs u hw h => ?_)
      refine lv_aload_n hx hb dX10_matches_218 rfl (lv_at hl 0 rfl) ?_
      refine yg_10_55 X hw dX10_matches_219 ?_
      refine lv_iload hx hb dX10_matches_222 (lv_at hl 3 rfl) ?_
      refine ycI (n := 1) (e_7_right rx7 h) 7 6 (r := (RX7, TX7, 9)) rfl yG_10_77 yD_7_right X hw rfl yGo_7 (Nat.le_trans (Nat.le_of_ble_eq_true rfl) hRf) (Nat.le_trans (Nat.le_of_ble_eq_true rfl) hRl) rfl hl.1 (Nat.le_of_ble_eq_true rfl) rfl dX10_matches_224 (fun v15 u H locs rv15 h hw => ?_)
      refine lv_istore hx hb dX10_matches_227 hl (by decide) rfl (fun ls hl => ?_)
      have hl : lv_has ls 9 [(7, .int (jI v15)), (0, .ref (ad 0 8)), (3, .int (jI x3)), (4, .int (jI x4)), (8, .int (jI x8))] := hl
      refine k_iinc (k := 2) hx hb dX10_matches_229 hl rfl (by decide) rfl h (fun ls r16 h hl => ?_)
      have hl : lv_has ls 9 [(3, .int (jI (x3 + 1))), (7, .int (jI v15)), (0, .ref (ad 0 8)), (4, .int (jI x4)), (8, .int (jI x8))] := hl
      refine lv_aload_n hx hb dX10_matches_232 rfl (lv_at hl 2 rfl) ?_
      refine yg_10_55 X hw dX10_matches_233 ?_
      refine lv_iload hx hb dX10_matches_236 (lv_at hl 4 rfl) ?_
      refine ycI (n := 1) (e_7_right rx8 h) 7 6 (r := (RX7, TX7, 9)) rfl yG_10_77 yD_7_right X hw rfl yGo_7 (Nat.le_trans (Nat.le_of_ble_eq_true rfl) hRf) (Nat.le_trans (Nat.le_of_ble_eq_true rfl) hRl) rfl hl.1 (Nat.le_of_ble_eq_true rfl) rfl dX10_matches_238 (fun v17 u H locs rv17 h hw => ?_)
      refine lv_istore hx hb dX10_matches_241 hl (by decide) rfl (fun ls hl => ?_)
      have hl : lv_has ls 9 [(8, .int (jI v17)), (3, .int (jI (x3 + 1))), (7, .int (jI v15)), (0, .ref (ad 0 8)), (4, .int (jI x4))] := hl
      refine lv_goto hx hb dX10_matches_243 (tgt := 169) rfl ?_
      exact hR169 _ _ _ _ _ H locs ls r16 rx4 rv15 rv17 hw (lv_sub hl [3, 1, 4, 2, 0] rfl) h

def v_10_matches_24b (R24 : Int → Int → iST → Prop) (Q : Int → iST → Prop) (x3 : Int) (x4 : Int) (u : iST) : Prop :=
  br (1000000 ≤ x4) (
    zt 1 (Q 1 u)) (
    br (x3 ≤ 0) (
      zt 1 (Q 1 u)) (
      ov (x3 + (-1)) (
      bd (x3 + (-1)) 128 (rd (u.2.1 41 (x3 + (-1))) (fun v2 => 
      bd (x3 + (-1)) 128 (rd (u.2.1 42 (x3 + (-1))) (fun v3 => 
      v_7_isVariable v2 (fun v4 u => 
      br (v4 = 0) (
        v_7_isCall v2 (fun v5 u => 
        br (v5 ≠ 0) (
          v_7_left v2 (fun v6 u => 
          v_7_isCallOf v3 v6 (fun v7 u => 
          br (v7 ≠ 0) (
            v_7_right v3 (fun v8 u => 
            v_7_right v2 (fun v9 u => 
            v_10_matches_169 R24 Q (x3 + (-1)) x4 v8 v9 u) u) u) (
            zt 0 (Q 0 u))) u) u) (
          br (v2 = v3) (
            ov (x4 + 1) (
            R24 (x3 + (-1)) (x4 + 1) u)) (
            zt 0 (Q 0 u)))) u) (
        v_10_standsFor v2 (fun v19 u => 
        br (v19 ≠ (-1)) (
          br (v19 = v3) (
            ov (x4 + 1) (
            R24 (x3 + (-1)) (x4 + 1) u)) (
            zt 0 (Q 0 u))) (
          v_10_bind v2 v3 (fun u => 
          ov (x4 + 1) (
          R24 (x3 + (-1)) (x4 + 1) u)) u)) u)) u)))))))
def v_10_matches_24 (Q : Int → iST → Prop) (x3 : Int) (x4 : Int) (u : iST) : Prop := ∀ R24 : Int → Int → iST → Prop, (∀ (x3 : Int) (x4 : Int) (u : iST), v_10_matches_24b R24 Q x3 x4 u → R24 x3 x4 u) → R24 x3 x4 u
set_option maxRecDepth 20000 in
set_option maxHeartbeats 4000000 in
theorem f_10_matches_24 (X : yX RX10 p m c cX10_matches 9 s args D ca ad A) (hRf : 1 ≤ R.frames) (hRl : 22 ≤ R.locals) {Q : Int → iST → Prop} (hret : ∀ (v : Int) (u : iST) (H : Heap) (locs : List Loc) (ls : Array Slot) (pc : Nat), bz v → Q v u → yW D ca A ad s H locs u → decode cX10_matches pc = .ok (.ireturn, 1) → W p l e R s m args below meth c H locs 0 0 Qf (F0 m pc ls [.int (jI v)])) {x3 x4 : Int} (rx3 : inR x3) (rx4 : inR x4) (hw : yW D ca A ad s H locs u) (hl : lv_has ls 9 [(0, .ref (ad 0 8)), (3, .int (jI x3)), (4, .int (jI x4))]) (h : v_10_matches_24 Q x3 x4 u) : W p l e R s m args below meth c H locs 0 0 Qf (F0 m 24 ls []) := by
  refine h (fun x3 x4 u => ∀ (H : Heap) (locs : List Loc) (ls : Array Slot), inR x3 → inR x4 → yW D ca A ad s H locs u → lv_has ls 9 [(0, .ref (ad 0 8)), (3, .int (jI x3)), (4, .int (jI x4))] → W p l e R s m args below meth c H locs 0 0 Qf (F0 m 24 ls [])) ?_ H locs ls rx3 rx4 hw hl
  clear h hl hw rx3 rx4
  intro x3 x4 u h H locs ls rx3 rx4 hw hl
  have hR24 : ∀ (x3 : Int) (x4 : Int) (u : iST) (H : Heap) (locs : List Loc) (ls : Array Slot), inR x3 → inR x4 → yW D ca A ad s H locs u → lv_has ls 9 [(0, .ref (ad 0 8)), (3, .int (jI x3)), (4, .int (jI x4))] → (fun (x3 : Int) (x4 : Int) u => ∀ (H : Heap) (locs : List Loc) (ls : Array Slot), inR x3 → inR x4 → yW D ca A ad s H locs u → lv_has ls 9 [(0, .ref (ad 0 8)), (3, .int (jI x3)), (4, .int (jI x4))] → W p l e R s m args below meth c H locs 0 0 Qf (F0 m 24 ls [])) x3 x4 u → W p l e R s m args below meth c H locs 0 0 Qf (F0 m 24 ls []) := fun x3 x4 u H locs ls rx3 rx4 hw hl h => h H locs ls rx3 rx4 hw hl
  have hx := X.1.1
  have hb := X.1.2.1
  unfold v_10_matches_24b at h
  refine lv_iload hx hb dX10_matches_24 (lv_at hl 2 rfl) ?_
  refine yld 63 yK_10_63 X dX10_matches_26 ?_
  refine k_icmp_ge hx hb rx4 (by decide) dX10_matches_28 (tgt := 252) rfl h (fun h => ?_) (fun h => ?_)
  · refine lv_iconst hx hb dX10_matches_252 (v := jI 1) rfl ?_
    exact hret _ _ _ _ _ _ h.1 h.2 hw dX10_matches_253
  · refine lv_iload_n hx hb dX10_matches_31 rfl (lv_at hl 1 rfl) ?_
    refine k_if_le hx hb rx3 dX10_matches_32 (tgt := 252) rfl h (fun h => ?_) (fun h => ?_)
    · refine lv_iconst hx hb dX10_matches_252 (v := jI 1) rfl ?_
      exact hret _ _ _ _ _ _ h.1 h.2 hw dX10_matches_253
    · refine k_iinc (k := 1) hx hb dX10_matches_35 hl rfl (by decide) rfl h (fun ls r1 h hl => ?_)
      have hl : lv_has ls 9 [(3, .int (jI (x3 + (-1)))), (0, .ref (ad 0 8)), (4, .int (jI x4))] := hl
      refine lv_aload_n hx hb dX10_matches_38 rfl (lv_at hl 1 rfl) ?_
      refine yg_10_46 X hw dX10_matches_39 ?_
      refine lv_iload_n hx hb dX10_matches_42 rfl (lv_at hl 0 rfl) ?_
      refine yl_41 X hw r1 dX10_matches_43 h (fun v2 rv2 h => ?_)
      refine lv_istore hx hb dX10_matches_44 hl (by decide) rfl (fun ls hl => ?_)
      have hl : lv_has ls 9 [(5, .int (jI v2)), (3, .int (jI (x3 + (-1)))), (0, .ref (ad 0 8)), (4, .int (jI x4))] := hl
      refine lv_aload_n hx hb dX10_matches_46 rfl (lv_at hl 2 rfl) ?_
      refine yg_10_49 X hw dX10_matches_47 ?_
      refine lv_iload_n hx hb dX10_matches_50 rfl (lv_at hl 1 rfl) ?_
      refine yl_42 X hw r1 dX10_matches_51 h (fun v3 rv3 h => ?_)
      refine lv_istore hx hb dX10_matches_52 hl (by decide) rfl (fun ls hl => ?_)
      have hl : lv_has ls 9 [(6, .int (jI v3)), (5, .int (jI v2)), (3, .int (jI (x3 + (-1)))), (0, .ref (ad 0 8)), (4, .int (jI x4))] := hl
      refine lv_aload_n hx hb dX10_matches_54 rfl (lv_at hl 3 rfl) ?_
      refine yg_10_55 X hw dX10_matches_55 ?_
      refine lv_iload hx hb dX10_matches_58 (lv_at hl 1 rfl) ?_
      refine ycI (n := 1) (e_7_isVariable rv2 h) 7 6 (r := (RX7, TX7, 9)) rfl yG_10_106 yD_7_isVariable X hw rfl yGo_7 (Nat.le_trans (Nat.le_of_ble_eq_true rfl) hRf) (Nat.le_trans (Nat.le_of_ble_eq_true rfl) hRl) rfl hl.1 (Nat.le_of_ble_eq_true rfl) rfl dX10_matches_60 (fun v4 u H locs rv4 h hw => ?_)
      refine k_if_eq hx hb rv4 dX10_matches_63 (tgt := 103) rfl h (fun h => ?_) (fun h => ?_)
      · refine lv_aload_n hx hb dX10_matches_103 rfl (lv_at hl 3 rfl) ?_
        refine yg_10_55 X hw dX10_matches_104 ?_
        refine lv_iload hx hb dX10_matches_107 (lv_at hl 1 rfl) ?_
        refine ycI (n := 1) (e_7_isCall rv2 h) 7 6 (r := (RX7, TX7, 9)) rfl yG_10_103 yD_7_isCall X hw rfl yGo_7 (Nat.le_trans (Nat.le_of_ble_eq_true rfl) hRf) (Nat.le_trans (Nat.le_of_ble_eq_true rfl) hRl) rfl hl.1 (Nat.le_of_ble_eq_true rfl) rfl dX10_matches_109 (fun v5 u H locs rv5 h hw => ?_)
        refine k_if_ne hx hb rv5 dX10_matches_112 (tgt := 124) rfl h (fun h => ?_) (fun h => ?_)
        · refine lv_aload_n hx hb dX10_matches_124 rfl (lv_at hl 3 rfl) ?_
          refine yg_10_55 X hw dX10_matches_125 ?_
          refine lv_iload hx hb dX10_matches_128 (lv_at hl 0 rfl) ?_
          refine lv_aload_n hx hb dX10_matches_130 rfl (lv_at hl 3 rfl) ?_
          refine yg_10_55 X hw dX10_matches_131 ?_
          refine lv_iload hx hb dX10_matches_134 (lv_at hl 1 rfl) ?_
          refine ycI (n := 1) (e_7_left rv2 h) 7 6 (r := (RX7, TX7, 9)) rfl yG_10_72 yD_7_left X hw rfl yGo_7 (Nat.le_trans (Nat.le_of_ble_eq_true rfl) hRf) (Nat.le_trans (Nat.le_of_ble_eq_true rfl) hRl) rfl hl.1 (Nat.le_of_ble_eq_true rfl) rfl dX10_matches_136 (fun v6 u H locs rv6 h hw => ?_)
          refine ycI (n := 2) (e_7_isCallOf rv3 rv6 h) 7 6 (r := (RX7, TX7, 9)) rfl yG_10_139 yD_7_isCallOf X hw rfl yGo_7 (Nat.le_trans (Nat.le_of_ble_eq_true rfl) hRf) (Nat.le_trans (Nat.le_of_ble_eq_true rfl) hRl) rfl hl.1 (Nat.le_of_ble_eq_true rfl) rfl dX10_matches_139 (fun v7 u H locs rv7 h hw => ?_)
          refine k_if_ne hx hb rv7 dX10_matches_142 (tgt := 147) rfl h (fun h => ?_) (fun h => ?_)
          · refine lv_aload_n hx hb dX10_matches_147 rfl (lv_at hl 3 rfl) ?_
            refine yg_10_55 X hw dX10_matches_148 ?_
            refine lv_iload hx hb dX10_matches_151 (lv_at hl 0 rfl) ?_
            refine ycI (n := 1) (e_7_right rv3 h) 7 6 (r := (RX7, TX7, 9)) rfl yG_10_77 yD_7_right X hw rfl yGo_7 (Nat.le_trans (Nat.le_of_ble_eq_true rfl) hRf) (Nat.le_trans (Nat.le_of_ble_eq_true rfl) hRl) rfl hl.1 (Nat.le_of_ble_eq_true rfl) rfl dX10_matches_153 (fun v8 u H locs rv8 h hw => ?_)
            refine lv_istore hx hb dX10_matches_156 hl (by decide) rfl (fun ls hl => ?_)
            have hl : lv_has ls 9 [(7, .int (jI v8)), (6, .int (jI v3)), (5, .int (jI v2)), (3, .int (jI (x3 + (-1)))), (0, .ref (ad 0 8)), (4, .int (jI x4))] := hl
            refine lv_aload_n hx hb dX10_matches_158 rfl (lv_at hl 4 rfl) ?_
            refine yg_10_55 X hw dX10_matches_159 ?_
            refine lv_iload hx hb dX10_matches_162 (lv_at hl 2 rfl) ?_
            refine ycI (n := 1) (e_7_right rv2 h) 7 6 (r := (RX7, TX7, 9)) rfl yG_10_77 yD_7_right X hw rfl yGo_7 (Nat.le_trans (Nat.le_of_ble_eq_true rfl) hRf) (Nat.le_trans (Nat.le_of_ble_eq_true rfl) hRl) rfl hl.1 (Nat.le_of_ble_eq_true rfl) rfl dX10_matches_164 (fun v9 u H locs rv9 h hw => ?_)
            refine lv_istore hx hb dX10_matches_167 hl (by decide) rfl (fun ls hl => ?_)
            have hl : lv_has ls 9 [(8, .int (jI v9)), (7, .int (jI v8)), (6, .int (jI v3)), (5, .int (jI v2)), (3, .int (jI (x3 + (-1)))), (0, .ref (ad 0 8)), (4, .int (jI x4))] := hl
            exact f_10_matches_169 X hRf hRl hret hR24 r1 rx4 rv8 rv9 hw (lv_sub hl [5, 4, 6, 1, 0] rfl) h
          · refine lv_iconst hx hb dX10_matches_145 (v := jI 0) rfl ?_
            exact hret _ _ _ _ _ _ h.1 h.2 hw dX10_matches_146
        · refine lv_iload hx hb dX10_matches_115 (lv_at hl 1 rfl) ?_
          refine lv_iload hx hb dX10_matches_117 (lv_at hl 0 rfl) ?_
          refine k_icmp_eq hx hb rv2 rv3 dX10_matches_119 (tgt := 246) rfl h (fun h => ?_) (fun h => ?_)
          · refine k_iinc (k := 4) hx hb dX10_matches_246 hl rfl (by decide) rfl h (fun ls r18 h hl => ?_)
            have hl : lv_has ls 9 [(4, .int (jI (x4 + 1))), (6, .int (jI v3)), (5, .int (jI v2)), (3, .int (jI (x3 + (-1)))), (0, .ref (ad 0 8))] := hl
            refine lv_goto hx hb dX10_matches_249 (tgt := 24) rfl ?_
            exact hR24 _ _ _ H locs ls r1 r18 hw (lv_sub hl [4, 3, 0] rfl) h
          · refine lv_iconst hx hb dX10_matches_122 (v := jI 0) rfl ?_
            exact hret _ _ _ _ _ _ h.1 h.2 hw dX10_matches_123
      · refine lv_aload_n hx hb dX10_matches_66 rfl (lv_at hl 3 rfl) ?_
        refine lv_iload hx hb dX10_matches_67 (lv_at hl 1 rfl) ?_
        refine ycI (n := 1) (e_10_standsFor rv2 h) 10 8 (r := (RX10, TX10, 16)) rfl yG_10_109 yD_10_standsFor X hw rfl yGo_10 (Nat.le_trans (Nat.le_of_ble_eq_true rfl) hRf) (Nat.le_trans (Nat.le_of_ble_eq_true rfl) hRl) rfl hl.1 (Nat.le_of_ble_eq_true rfl) rfl dX10_matches_69 (fun v19 u H locs rv19 h hw => ?_)
        refine lv_istore hx hb dX10_matches_72 hl (by decide) rfl (fun ls hl => ?_)
        have hl : lv_has ls 9 [(7, .int (jI v19)), (6, .int (jI v3)), (5, .int (jI v2)), (3, .int (jI (x3 + (-1)))), (0, .ref (ad 0 8)), (4, .int (jI x4))] := hl
        refine lv_iload hx hb dX10_matches_74 (lv_at hl 0 rfl) ?_
        refine lv_iconst hx hb dX10_matches_76 (v := jI (-1)) rfl ?_
        refine k_icmp_ne hx hb rv19 (by decide) dX10_matches_77 (tgt := 91) rfl h (fun h => ?_) (fun h => ?_)
        · refine lv_iload hx hb dX10_matches_91 (lv_at hl 0 rfl) ?_
          refine lv_iload hx hb dX10_matches_93 (lv_at hl 1 rfl) ?_
          refine k_icmp_eq hx hb rv19 rv3 dX10_matches_95 (tgt := 100) rfl h (fun h => ?_) (fun h => ?_)
          · refine lv_goto hx hb dX10_matches_100 (tgt := 246) rfl ?_
            refine k_iinc (k := 5) hx hb dX10_matches_246 hl rfl (by decide) rfl h (fun ls r20 h hl => ?_)
            have hl : lv_has ls 9 [(4, .int (jI (x4 + 1))), (7, .int (jI v19)), (6, .int (jI v3)), (5, .int (jI v2)), (3, .int (jI (x3 + (-1)))), (0, .ref (ad 0 8))] := hl
            refine lv_goto hx hb dX10_matches_249 (tgt := 24) rfl ?_
            exact hR24 _ _ _ H locs ls r1 r20 hw (lv_sub hl [5, 4, 0] rfl) h
          · refine lv_iconst hx hb dX10_matches_98 (v := jI 0) rfl ?_
            exact hret _ _ _ _ _ _ h.1 h.2 hw dX10_matches_99
        · refine lv_aload_n hx hb dX10_matches_80 rfl (lv_at hl 4 rfl) ?_
          refine lv_iload hx hb dX10_matches_81 (lv_at hl 2 rfl) ?_
          refine lv_iload hx hb dX10_matches_83 (lv_at hl 1 rfl) ?_
          refine ycV (n := 2) (e_10_bind rv2 rv3 h) 10 8 (r := (RX10, TX10, 16)) rfl yG_10_129 yD_10_bind X hw rfl yGo_10 (Nat.le_trans (Nat.le_of_ble_eq_true rfl) hRf) (Nat.le_trans (Nat.le_of_ble_eq_true rfl) hRl) rfl hl.1 (Nat.le_of_ble_eq_true rfl) rfl dX10_matches_85 (fun u H locs h hw => ?_)
          refine lv_goto hx hb dX10_matches_88 (tgt := 100) rfl ?_
          refine lv_goto hx hb dX10_matches_100 (tgt := 246) rfl ?_
          refine k_iinc (k := 5) hx hb dX10_matches_246 hl rfl (by decide) rfl h (fun ls r22 h hl => ?_)
          have hl : lv_has ls 9 [(4, .int (jI (x4 + 1))), (7, .int (jI v19)), (6, .int (jI v3)), (5, .int (jI v2)), (3, .int (jI (x3 + (-1)))), (0, .ref (ad 0 8))] := hl
          refine lv_goto hx hb dX10_matches_249 (tgt := 24) rfl ?_
          exact hR24 _ _ _ H locs ls r1 r22 hw (lv_sub hl [5, 4, 0] rfl) h

def v_10_matches (a0 : Int) (a1 : Int) (Q : Int → iST → Prop) (u : iST) : Prop :=
  sw (iI u 39 0) (fun u => 
  bd 0 128 (sw (iA u 41 0 a0) (fun u => 
  bd 0 128 (sw (iA u 42 0 a1) (fun u => 
  v_10_matches_24 Q 1 0 u)))))
set_option maxRecDepth 20000 in
set_option maxHeartbeats 4000000 in
theorem f_10_matches_s (X : yX RX10 p m c cX10_matches 9 s args D ca ad A) (hRf : 1 ≤ R.frames) (hRl : 22 ≤ R.locals) {Q : Int → iST → Prop} (hret : ∀ (v : Int) (u : iST) (H : Heap) (locs : List Loc) (ls : Array Slot) (pc : Nat), bz v → Q v u → yW D ca A ad s H locs u → decode cX10_matches pc = .ok (.ireturn, 1) → W p l e R s m args below meth c H locs 0 0 Qf (F0 m pc ls [.int (jI v)])) {a0 a1 : Int} (ra0 : inR a0) (ra1 : inR a1) (hw : yW D ca A ad s H locs u) (hl : lv_has ls 9 [(0, .ref (ad 0 8)), (1, .int (jI a0)), (2, .int (jI a1))]) (h : v_10_matches a0 a1 Q u) : W p l e R s m args below meth c H locs 0 0 Qf (F0 m 0 ls []) := by
  have hx := X.1.1
  have hb := X.1.2.1
  unfold v_10_matches at h
  refine lv_aload_n hx hb dX10_matches_0 rfl (lv_at hl 0 rfl) ?_
  refine lv_iconst hx hb dX10_matches_1 (v := jI 0) rfl ?_
  refine yp_10_25 X hw (by decide) dX10_matches_2 h (fun H locs u hw h => ?_)
  refine lv_aload_n hx hb dX10_matches_5 rfl (lv_at hl 0 rfl) ?_
  refine yg_10_46 X hw dX10_matches_6 ?_
  refine lv_iconst hx hb dX10_matches_9 (v := jI 0) rfl ?_
  refine lv_iload_n hx hb dX10_matches_10 rfl (lv_at hl 1 rfl) ?_
  refine yt_41 X hw (by decide) ra0 dX10_matches_11 h (fun H locs u hw h => ?_)
  refine lv_aload_n hx hb dX10_matches_12 rfl (lv_at hl 0 rfl) ?_
  refine yg_10_49 X hw dX10_matches_13 ?_
  refine lv_iconst hx hb dX10_matches_16 (v := jI 0) rfl ?_
  refine lv_iload_n hx hb dX10_matches_17 rfl (lv_at hl 2 rfl) ?_
  refine yt_42 X hw (by decide) ra1 dX10_matches_18 h (fun H locs u hw h => ?_)
  refine lv_iconst hx hb dX10_matches_19 (v := jI 1) rfl ?_
  refine lv_istore_n hx hb dX10_matches_20 rfl hl (by decide) rfl (fun ls hl => ?_)
  have hl : lv_has ls 9 [(3, .int (jI 1)), (0, .ref (ad 0 8)), (1, .int (jI a0)), (2, .int (jI a1))] := hl
  refine lv_iconst hx hb dX10_matches_21 (v := jI 0) rfl ?_
  refine lv_istore hx hb dX10_matches_22 hl (by decide) rfl (fun ls hl => ?_)
  have hl : lv_has ls 9 [(4, .int (jI 0)), (3, .int (jI 1)), (0, .ref (ad 0 8)), (1, .int (jI a0)), (2, .int (jI a1))] := hl
  exact f_10_matches_24 X hRf hRl hret (by decide) (by decide) hw (lv_sub hl [2, 1, 0] rfl) h

end
theorem e_10_matches {l : Launch} {a0 : Int} {a1 : Int} (ra0 : inR a0) (ra1 : inR a1) {Q : Int → iST → Prop} {u : iST} (h : v_10_matches a0 a1 Q u) : yMI l yX10_matches (.code yX10_matches cX10_matches 9 (some .boolean) :: wsN) { frames := 1, cells := 0, slots := 0, locals := 22 } (fun ad => [.ref (ad 0 8), .int (jI a0), .int (jI a1)]) Q u := yMZ_of (own := RX10) rfl (by decide +kernel) (fun _ => Nat.le_of_ble_eq_true rfl) (fun X hRf hRl hret hw hl => f_10_matches_s X hRf hRl hret ra0 ra1 hw hl h)
