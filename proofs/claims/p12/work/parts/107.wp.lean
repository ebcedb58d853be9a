/-! fallen -/
theorem dX12_fallen_0 : decode cX12_fallen 0 = .ok (.aload_n 0, 1) := by decide +kernel
theorem dX12_fallen_1 : decode cX12_fallen 1 = .ok (.iload_n 1, 1) := by decide +kernel
theorem dX12_fallen_2 : decode cX12_fallen 2 = .ok (.bipush 16, 2) := by decide +kernel
theorem dX12_fallen_4 : decode cX12_fallen 4 = .ok (.invokevirtual 542, 3) := by decide +kernel
theorem dX12_fallen_7 : decode cX12_fallen 7 = .ok (.ifCond .eq 70, 3) := by decide +kernel
theorem dX12_fallen_10 : decode cX12_fallen 10 = .ok (.aload_n 0, 1) := by decide +kernel
theorem dX12_fallen_11 : decode cX12_fallen 11 = .ok (.iload_n 2, 1) := by decide +kernel
theorem dX12_fallen_12 : decode cX12_fallen 12 = .ok (.bipush 16, 2) := by decide +kernel
theorem dX12_fallen_14 : decode cX12_fallen 14 = .ok (.invokevirtual 542, 3) := by decide +kernel
theorem dX12_fallen_17 : decode cX12_fallen 17 = .ok (.ifCond .eq 60, 3) := by decide +kernel
theorem dX12_fallen_20 : decode cX12_fallen 20 = .ok (.aload_n 0, 1) := by decide +kernel
theorem dX12_fallen_21 : decode cX12_fallen 21 = .ok (.iload_n 1, 1) := by decide +kernel
theorem dX12_fallen_22 : decode cX12_fallen 22 = .ok (.iconst 1, 1) := by decide +kernel
theorem dX12_fallen_23 : decode cX12_fallen 23 = .ok (.invokevirtual 592, 3) := by decide +kernel
theorem dX12_fallen_26 : decode cX12_fallen 26 = .ok (.istore_n 3, 1) := by decide +kernel
theorem dX12_fallen_27 : decode cX12_fallen 27 = .ok (.aload_n 0, 1) := by decide +kernel
theorem dX12_fallen_28 : decode cX12_fallen 28 = .ok (.iload_n 2, 1) := by decide +kernel
theorem dX12_fallen_29 : decode cX12_fallen 29 = .ok (.iconst 1, 1) := by decide +kernel
theorem dX12_fallen_30 : decode cX12_fallen 30 = .ok (.invokevirtual 592, 3) := by decide +kernel
theorem dX12_fallen_33 : decode cX12_fallen 33 = .ok (.istore 4, 2) := by decide +kernel
theorem dX12_fallen_35 : decode cX12_fallen 35 = .ok (.aload_n 0, 1) := by decide +kernel
theorem dX12_fallen_36 : decode cX12_fallen 36 = .ok (.iload_n 3, 1) := by decide +kernel
theorem dX12_fallen_37 : decode cX12_fallen 37 = .ok (.bipush 11, 2) := by decide +kernel
theorem dX12_fallen_39 : decode cX12_fallen 39 = .ok (.invokevirtual 542, 3) := by decide +kernel
theorem dX12_fallen_42 : decode cX12_fallen 42 = .ok (.ifCond .ne 13, 3) := by decide +kernel
theorem dX12_fallen_45 : decode cX12_fallen 45 = .ok (.aload_n 0, 1) := by decide +kernel
theorem dX12_fallen_46 : decode cX12_fallen 46 = .ok (.iload_n 3, 1) := by decide +kernel
theorem dX12_fallen_47 : decode cX12_fallen 47 = .ok (.bipush 12, 2) := by decide +kernel
theorem dX12_fallen_49 : decode cX12_fallen 49 = .ok (.invokevirtual 542, 3) := by decide +kernel
theorem dX12_fallen_52 : decode cX12_fallen 52 = .ok (.ifCond .eq 25, 3) := by decide +kernel
theorem dX12_fallen_55 : decode cX12_fallen 55 = .ok (.aload_n 0, 1) := by decide +kernel
theorem dX12_fallen_56 : decode cX12_fallen 56 = .ok (.iload_n 3, 1) := by decide +kernel
theorem dX12_fallen_57 : decode cX12_fallen 57 = .ok (.iconst 1, 1) := by decide +kernel
theorem dX12_fallen_58 : decode cX12_fallen 58 = .ok (.invokevirtual 592, 3) := by decide +kernel
theorem dX12_fallen_61 : decode cX12_fallen 61 = .ok (.iload 4, 2) := by decide +kernel
theorem dX12_fallen_63 : decode cX12_fallen 63 = .ok (.if_icmp .ne 14, 3) := by decide +kernel
theorem dX12_fallen_66 : decode cX12_fallen 66 = .ok (.aload_n 0, 1) := by decide +kernel
theorem dX12_fallen_67 : decode cX12_fallen 67 = .ok (.bipush 10, 2) := by decide +kernel
theorem dX12_fallen_69 : decode cX12_fallen 69 = .ok (.iload 4, 2) := by decide +kernel
theorem dX12_fallen_71 : decode cX12_fallen 71 = .ok (.iconst (-1), 1) := by decide +kernel
theorem dX12_fallen_72 : decode cX12_fallen 72 = .ok (.iconst (-1), 1) := by decide +kernel
theorem dX12_fallen_73 : decode cX12_fallen 73 = .ok (.invokevirtual 538, 3) := by decide +kernel
theorem dX12_fallen_76 : decode cX12_fallen 76 = .ok (.ireturn, 1) := by decide +kernel
theorem dX12_fallen_77 : decode cX12_fallen 77 = .ok (.aload_n 0, 1) := by decide +kernel
theorem dX12_fallen_78 : decode cX12_fallen 78 = .ok (.iload_n 1, 1) := by decide +kernel
theorem dX12_fallen_79 : decode cX12_fallen 79 = .ok (.bipush 8, 2) := by decide +kernel
theorem dX12_fallen_81 : decode cX12_fallen 81 = .ok (.invokevirtual 542, 3) := by decide +kernel
theorem dX12_fallen_84 : decode cX12_fallen 84 = .ok (.ifCond .eq 13, 3) := by decide +kernel
theorem dX12_fallen_87 : decode cX12_fallen 87 = .ok (.aload_n 0, 1) := by decide +kernel
theorem dX12_fallen_88 : decode cX12_fallen 88 = .ok (.iload_n 1, 1) := by decide +kernel
theorem dX12_fallen_89 : decode cX12_fallen 89 = .ok (.iconst 1, 1) := by decide +kernel
theorem dX12_fallen_90 : decode cX12_fallen 90 = .ok (.invokevirtual 592, 3) := by decide +kernel
theorem dX12_fallen_93 : decode cX12_fallen 93 = .ok (.iload_n 2, 1) := by decide +kernel
theorem dX12_fallen_94 : decode cX12_fallen 94 = .ok (.if_icmp .eq 5, 3) := by decide +kernel
theorem dX12_fallen_97 : decode cX12_fallen 97 = .ok (.iconst (-1), 1) := by decide +kernel
theorem dX12_fallen_98 : decode cX12_fallen 98 = .ok (.ireturn, 1) := by decide +kernel
theorem dX12_fallen_99 : decode cX12_fallen 99 = .ok (.aload_n 0, 1) := by decide +kernel
theorem dX12_fallen_100 : decode cX12_fallen 100 = .ok (.iload_n 1, 1) := by decide +kernel
theorem dX12_fallen_101 : decode cX12_fallen 101 = .ok (.iconst 2, 1) := by decide +kernel
theorem dX12_fallen_102 : decode cX12_fallen 102 = .ok (.invokevirtual 592, 3) := by decide +kernel
theorem dX12_fallen_105 : decode cX12_fallen 105 = .ok (.istore_n 3, 1) := by decide +kernel
theorem dX12_fallen_106 : decode cX12_fallen 106 = .ok (.aload_n 0, 1) := by decide +kernel
theorem dX12_fallen_107 : decode cX12_fallen 107 = .ok (.iload_n 3, 1) := by decide +kernel
theorem dX12_fallen_108 : decode cX12_fallen 108 = .ok (.invokevirtual 468, 3) := by decide +kernel
theorem dX12_fallen_111 : decode cX12_fallen 111 = .ok (.ifCond .eq 28, 3) := by decide +kernel
theorem dX12_fallen_114 : decode cX12_fallen 114 = .ok (.aload_n 0, 1) := by decide +kernel
theorem dX12_fallen_115 : decode cX12_fallen 115 = .ok (.iload_n 3, 1) := by decide +kernel
theorem dX12_fallen_116 : decode cX12_fallen 116 = .ok (.invokevirtual 321, 3) := by decide +kernel
theorem dX12_fallen_119 : decode cX12_fallen 119 = .ok (.lconst 0, 1) := by decide +kernel
theorem dX12_fallen_120 : decode cX12_fallen 120 = .ok (.lcmp, 1) := by decide +kernel
theorem dX12_fallen_121 : decode cX12_fallen 121 = .ok (.ifCond .le 18, 3) := by decide +kernel
theorem dX12_fallen_124 : decode cX12_fallen 124 = .ok (.aload_n 0, 1) := by decide +kernel
theorem dX12_fallen_125 : decode cX12_fallen 125 = .ok (.bipush 9, 2) := by decide +kernel
theorem dX12_fallen_127 : decode cX12_fallen 127 = .ok (.aload_n 0, 1) := by decide +kernel
theorem dX12_fallen_128 : decode cX12_fallen 128 = .ok (.lconst 0, 1) := by decide +kernel
theorem dX12_fallen_129 : decode cX12_fallen 129 = .ok (.invokevirtual 402, 3) := by decide +kernel
theorem dX12_fallen_132 : decode cX12_fallen 132 = .ok (.iload_n 2, 1) := by decide +kernel
theorem dX12_fallen_133 : decode cX12_fallen 133 = .ok (.invokevirtual 693, 3) := by decide +kernel
theorem dX12_fallen_136 : decode cX12_fallen 136 = .ok (.goto 4, 3) := by decide +kernel
theorem dX12_fallen_139 : decode cX12_fallen 139 = .ok (.iconst (-1), 1) := by decide +kernel
theorem dX12_fallen_140 : decode cX12_fallen 140 = .ok (.ireturn, 1) := by decide +kernel

section
variable {p : Program} {l : Launch} {e : Env} {R : Room} {s : State} {m : MethodId} {args : Array Value} {below : List Frame} {meth : Method} {c : Code} {H : Heap} {locs : List Loc} {Qf : State → Prop}
variable {ls : Array Slot} {D : va_G} {ca : Nat → ClassId} {A : Nat → Prop} {h0 : Nat} {ad : Nat → Nat} {H0 : Heap} {u : iST}
def w_fallen_77 (Q : Int → iST → Prop) (x1 : Int) (x2 : Int) (u : iST) : Prop :=
  w_isCallOf x1 8 (fun v2 u => 
  br (v2 = 0) (
    Q (-1) u) (
    w_term x1 1 (fun v3 u => 
    br (v3 = x2) (
      w_term x1 2 (fun v4 u => 
      w_isNatural v4 (fun v5 u => 
      br (v5 = 0) (
        Q (-1) u) (
        w_value v4 (fun v6 u => 
        br (v6 ≤ 0) (
          Q (-1) u) (
          w_natural 0 (fun v7 u => 
          w_made2 9 v7 x2 (fun v8 u => 
          Q v8 u) u) u)) u)) u) u) (
      Q (-1) u)) u)) u
set_option maxRecDepth 20000 in
set_option maxHeartbeats 4000000 in
theorem b_fallen_77 (X : kX p m c cX12_fallen 5 s args D ca) (hRf : 6 ≤ R.frames) (hRl : 137 ≤ R.locals) {Q : Int → iST → Prop} (hret : ∀ (v : Int) (u : iST) (H : Heap) (locs : List Loc) (ls : Array Slot) (pc : Nat), inR v → Q v u → kW D ca A h0 ad H0 H locs u → decode cX12_fallen pc = .ok (.ireturn, 1) → W p l e R s m args below meth c H locs 0 0 Qf (F0 m pc ls [.int (jI v)])) {x1 x2 : Int} (rx1 : inR x1) (rx2 : inR x2) (hw : kW D ca A h0 ad H0 H locs u) (hl : lv_has ls 5 [(0, .ref h0), (1, .int (jI x1)), (2, .int (jI x2))]) (h : w_fallen_77 Q x1 x2 u) : W p l e R s m args below meth c H locs 0 0 Qf (F0 m 77 ls []) := by
  have hx := X.1.1
  have hb := X.1.2.1
  unfold w_fallen_77 at h
  refine lv_aload_n hx hb dX12_fallen_77 rfl (lv_at hl 0 rfl) ?_
  refine lv_iload_n hx hb dX12_fallen_78 rfl (lv_at hl 1 rfl) ?_
  refine lv_bipush hx hb dX12_fallen_79 (v := jI 8) rfl ?_
  refine kcI (n := 2) (c_isCallOf rx1 (by decide) h) G_isCallOf E_isCallOf X hw (Nat.le_trans (Nat.le_of_ble_eq_true rfl) hRf) (Nat.le_trans (Nat.le_of_ble_eq_true rfl) hRl) rfl hl.1 (Nat.le_of_ble_eq_true rfl) rfl dX12_fallen_81 (fun v2 u H locs rv2 h hw => ?_)
  refine k_if_eq hx hb rv2 dX12_fallen_84 (tgt := 97) rfl h (fun h => ?_) (fun h => ?_)
  · refine lv_iconst hx hb dX12_fallen_97 (v := jI (-1)) rfl ?_
    exact hret _ _ _ _ _ _ (by decide) h hw dX12_fallen_98
  · refine lv_aload_n hx hb dX12_fallen_87 rfl (lv_at hl 0 rfl) ?_
    refine lv_iload_n hx hb dX12_fallen_88 rfl (lv_at hl 1 rfl) ?_
    refine lv_iconst hx hb dX12_fallen_89 (v := jI 1) rfl ?_
    refine kcI (n := 2) (c_term rx1 (by decide) h) G_term E_term X hw (Nat.le_trans (Nat.le_of_ble_eq_true rfl) hRf) (Nat.le_trans (Nat.le_of_ble_eq_true rfl) hRl) rfl hl.1 (Nat.le_of_ble_eq_true rfl) rfl dX12_fallen_90 (fun v3 u H locs rv3 h hw => ?_)
    refine lv_iload_n hx hb dX12_fallen_93 rfl (lv_at hl 2 rfl) ?_
    refine k_icmp_eq hx hb rv3 rx2 dX12_fallen_94 (tgt := 99) rfl h (fun h => ?_) (fun h => ?_)
    · refine lv_aload_n hx hb dX12_fallen_99 rfl (lv_at hl 0 rfl) ?_
      refine lv_iload_n hx hb dX12_fallen_100 rfl (lv_at hl 1 rfl) ?_
      refine lv_iconst hx hb dX12_fallen_101 (v := jI 2) rfl ?_
      refine kcI (n := 2) (c_term rx1 (by decide) h) G_term E_term X hw (Nat.le_trans (Nat.le_of_ble_eq_true rfl) hRf) (Nat.le_trans (Nat.le_of_ble_eq_true rfl) hRl) rfl hl.1 (Nat.le_of_ble_eq_true rfl) rfl dX12_fallen_102 (fun v4 u H locs rv4 h hw => ?_)
      refine lv_istore_n hx hb dX12_fallen_105 rfl hl (by decide) rfl (fun ls hl => ?_)
      have hl : lv_has ls 5 [(3, .int (jI v4)), (0, .ref (h0)), (1, .int (jI x1)), (2, .int (jI x2))] := hl
      refine lv_aload_n hx hb dX12_fallen_106 rfl (lv_at hl 1 rfl) ?_
      refine lv_iload_n hx hb dX12_fallen_107 rfl (lv_at hl 0 rfl) ?_
      refine kcI (n := 1) (c_isNatural rv4 h) G_isNatural E_isNatural X hw (Nat.le_trans (Nat.le_of_ble_eq_true rfl) hRf) (Nat.le_trans (Nat.le_of_ble_eq_true rfl) hRl) rfl hl.1 (Nat.le_of_ble_eq_true rfl) rfl dX12_fallen_108 (fun v5 u H locs rv5 h hw => ?_)
      refine k_if_eq hx hb rv5 dX12_fallen_111 (tgt := 139) rfl h (fun h => ?_) (fun h => ?_)
      · refine lv_iconst hx hb dX12_fallen_139 (v := jI (-1)) rfl ?_
        exact hret _ _ _ _ _ _ (by decide) h hw dX12_fallen_140
      · refine lv_aload_n hx hb dX12_fallen_114 rfl (lv_at hl 1 rfl) ?_
        refine lv_iload_n hx hb dX12_fallen_115 rfl (lv_at hl 0 rfl) ?_
        refine kcL (n := 1) (c_value rv4 h) G_value E_value X hw (Nat.le_trans (Nat.le_of_ble_eq_true rfl) hRf) (Nat.le_trans (Nat.le_of_ble_eq_true rfl) hRl) rfl hl.1 (Nat.le_of_ble_eq_true rfl) rfl dX12_fallen_116 (fun v6 u H locs rv6 h hw => ?_)
        refine lv_lconst hx hb dX12_fallen_119 (v := jL 0) rfl ?_
        refine k_lcmp_le hx hb rv6 (by decide) dX12_fallen_120 dX12_fallen_121 (tgt := 139) rfl h (fun h => ?_) (fun h => ?_)
        · refine lv_iconst hx hb dX12_fallen_139 (v := jI (-1)) rfl ?_
          exact hret _ _ _ _ _ _ (by decide) h hw dX12_fallen_140
        · refine lv_aload_n hx hb dX12_fallen_124 rfl (lv_at hl 1 rfl) ?_
          refine lv_bipush hx hb dX12_fallen_125 (v := jI 9) rfl ?_
          refine lv_aload_n hx hb dX12_fallen_127 rfl (lv_at hl 1 rfl) ?_
          refine lv_lconst hx hb dX12_fallen_128 (v := jL 0) rfl ?_
          refine kcI (n := 1) (c_natural (by decide) h) G_natural E_natural X hw (Nat.le_trans (Nat.le_of_ble_eq_true rfl) hRf) (Nat.le_trans (Nat.le_of_ble_eq_true rfl) hRl) rfl hl.1 (Nat.le_of_ble_eq_true rfl) rfl dX12_fallen_129 (fun v7 u H locs rv7 h hw => ?_)
          refine lv_iload_n hx hb dX12_fallen_132 rfl (lv_at hl 3 rfl) ?_
          refine kcI (n := 3) (c_made2 (by decide) rv7 rx2 h) G_made2 E_made2 X hw (Nat.le_trans (Nat.le_of_ble_eq_true rfl) hRf) (Nat.le_trans (Nat.le_of_ble_eq_true rfl) hRl) rfl hl.1 (Nat.le_of_ble_eq_true rfl) rfl dX12_fallen_133 (fun v8 u H locs rv8 h hw => ?_)
          refine lv_goto hx hb dX12_fallen_136 (tgt := 140) rfl ?_
          exact hret _ _ _ _ _ _ rv8 h hw dX12_fallen_140
    · refine lv_iconst hx hb dX12_fallen_97 (v := jI (-1)) rfl ?_
      exact hret _ _ _ _ _ _ (by decide) h hw dX12_fallen_98

def w_fallen_55 (Q : Int → iST → Prop) (x1 : Int) (x2 : Int) (x3 : Int) (x4 : Int) (u : iST) : Prop :=
  w_term x3 1 (fun v13 u => 
  br (v13 ≠ x4) (
    w_fallen_77 Q x1 x2 u) (
    w_made 10 x4 (-1) (-1) (fun v14 u => 
    Q v14 u) u)) u
set_option maxRecDepth 20000 in
set_option maxHeartbeats 4000000 in
theorem b_fallen_55 (X : kX p m c cX12_fallen 5 s args D ca) (hRf : 6 ≤ R.frames) (hRl : 137 ≤ R.locals) {Q : Int → iST → Prop} (hret : ∀ (v : Int) (u : iST) (H : Heap) (locs : List Loc) (ls : Array Slot) (pc : Nat), inR v → Q v u → kW D ca A h0 ad H0 H locs u → decode cX12_fallen pc = .ok (.ireturn, 1) → W p l e R s m args below meth c H locs 0 0 Qf (F0 m pc ls [.int (jI v)])) {x1 x2 x3 x4 : Int} (rx1 : inR x1) (rx2 : inR x2) (rx3 : inR x3) (rx4 : inR x4) (hw : kW D ca A h0 ad H0 H locs u) (hl : lv_has ls 5 [(0, .ref h0), (1, .int (jI x1)), (2, .int (jI x2)), (3, .int (jI x3)), (4, .int (jI x4))]) (h : w_fallen_55 Q x1 x2 x3 x4 u) : W p l e R s m args below meth c H locs 0 0 Qf (F0 m 55 ls []) := by
  have hx := X.1.1
  have hb := X.1.2.1
  unfold w_fallen_55 at h
  refine lv_aload_n hx hb dX12_fallen_55 rfl (lv_at hl 0 rfl) ?_
  refine lv_iload_n hx hb dX12_fallen_56 rfl (lv_at hl 3 rfl) ?_
  refine lv_iconst hx hb dX12_fallen_57 (v := jI 1) rfl ?_
  refine kcI (n := 2) (c_term rx3 (by decide) h) G_term E_term X hw (Nat.le_trans (Nat.le_of_ble_eq_true rfl) hRf) (Nat.le_trans (Nat.le_of_ble_eq_true rfl) hRl) rfl hl.1 (Nat.le_of_ble_eq_true rfl) rfl dX12_fallen_58 (fun v13 u H locs rv13 h hw => ?_)
  refine lv_iload hx hb dX12_fallen_61 (lv_at hl 4 rfl) ?_
  refine k_icmp_ne hx hb rv13 rx4 dX12_fallen_63 (tgt := 77) rfl h (fun h => ?_) (fun h => ?_)
  · exact b_fallen_77 X hRf hRl hret rx1 rx2 hw (lv_sub hl [0, 1, 2] rfl) h
  · refine lv_aload_n hx hb dX12_fallen_66 rfl (lv_at hl 0 rfl) ?_
    refine lv_bipush hx hb dX12_fallen_67 (v := jI 10) rfl ?_
    refine lv_iload hx hb dX12_fallen_69 (lv_at hl 4 rfl) ?_
    refine lv_iconst hx hb dX12_fallen_71 (v := jI (-1)) rfl ?_
    refine lv_iconst hx hb dX12_fallen_72 (v := jI (-1)) rfl ?_
    refine kcI (n := 4) (c_made (by decide) rx4 (by decide) (by decide) h) G_made E_made X hw (Nat.le_trans (Nat.le_of_ble_eq_true rfl) hRf) (Nat.le_trans (Nat.le_of_ble_eq_true rfl) hRl) rfl hl.1 (Nat.le_of_ble_eq_true rfl) rfl dX12_fallen_73 (fun v14 u H locs rv14 h hw => ?_)
    exact hret _ _ _ _ _ _ rv14 h hw dX12_fallen_76

def w_fallen (a0 : Int) (a1 : Int) (Q : Int → iST → Prop) (u : iST) : Prop :=
  w_isCallOf a0 16 (fun v1 u => 
  br (v1 = 0) (
    w_fallen_77 Q a0 a1 u) (
    w_isCallOf a1 16 (fun v9 u => 
    br (v9 = 0) (
      w_fallen_77 Q a0 a1 u) (
      w_term a0 1 (fun v10 u => 
      w_term a1 1 (fun v11 u => 
      w_isCallOf v10 11 (fun v12 u => 
      br (v12 ≠ 0) (
        w_fallen_55 Q a0 a1 v10 v11 u) (
        w_isCallOf v10 12 (fun v15 u => 
        br (v15 = 0) (
          w_fallen_77 Q a0 a1 u) (
          w_fallen_55 Q a0 a1 v10 v11 u)) u)) u) u) u)) u)) u
set_option maxRecDepth 20000 in
set_option maxHeartbeats 4000000 in
theorem b_fallen_s (X : kX p m c cX12_fallen 5 s args D ca) (hRf : 6 ≤ R.frames) (hRl : 137 ≤ R.locals) {Q : Int → iST → Prop} (hret : ∀ (v : Int) (u : iST) (H : Heap) (locs : List Loc) (ls : Array Slot) (pc : Nat), inR v → Q v u → kW D ca A h0 ad H0 H locs u → decode cX12_fallen pc = .ok (.ireturn, 1) → W p l e R s m args below meth c H locs 0 0 Qf (F0 m pc ls [.int (jI v)])) {a0 a1 : Int} (ra0 : inR a0) (ra1 : inR a1) (hw : kW D ca A h0 ad H0 H locs u) (hl : lv_has ls 5 [(0, .ref h0), (1, .int (jI a0)), (2, .int (jI a1))]) (h : w_fallen a0 a1 Q u) : W p l e R s m args below meth c H locs 0 0 Qf (F0 m 0 ls []) := by
  have hx := X.1.1
  have hb := X.1.2.1
  unfold w_fallen at h
  refine lv_aload_n hx hb dX12_fallen_0 rfl (lv_at hl 0 rfl) ?_
  refine lv_iload_n hx hb dX12_fallen_1 rfl (lv_at hl 1 rfl) ?_
  refine lv_bipush hx hb dX12_fallen_2 (v := jI 16) rfl ?_
  refine kcI (n := 2) (c_isCallOf ra0 (by decide) h) G_isCallOf E_isCallOf X hw (Nat.le_trans (Nat.le_of_ble_eq_true rfl) hRf) (Nat.le_trans (Nat.le_of_ble_eq_true rfl) hRl) rfl hl.1 (Nat.le_of_ble_eq_true rfl) rfl dX12_fallen_4 (fun v1 u H locs rv1 h hw => ?_)
  refine k_if_eq hx hb rv1 dX12_fallen_7 (tgt := 77) rfl h (fun h => ?_) (fun h => ?_)
  · exact b_fallen_77 X hRf hRl hret ra0 ra1 hw hl h
  · refine lv_aload_n hx hb dX12_fallen_10 rfl (lv_at hl 0 rfl) ?_
    refine lv_iload_n hx hb dX12_fallen_11 rfl (lv_at hl 2 rfl) ?_
    refine lv_bipush hx hb dX12_fallen_12 (v := jI 16) rfl ?_
    refine kcI (n := 2) (c_isCallOf ra1 (by decide) h) G_isCallOf E_isCallOf X hw (Nat.le_trans (Nat.le_of_ble_eq_true rfl) hRf) (Nat.le_trans (Nat.le_of_ble_eq_true rfl) hRl) rfl hl.1 (Nat.le_of_ble_eq_true rfl) rfl dX12_fallen_14 (fun v9 u H locs rv9 h hw => ?_)
    refine k_if_eq hx hb rv9 dX12_fallen_17 (tgt := 77) rfl h (fun h => ?_) (fun h => ?_)
    · exact b_fallen_77 X hRf hRl hret ra0 ra1 hw hl h
    · refine lv_aload_n hx hb dX12_fallen_20 rfl (lv_at hl 0 rfl) ?_
      refine lv_iload_n hx hb dX12_fallen_21 rfl (lv_at hl 1 rfl) ?_
      refine lv_iconst hx hb dX12_fallen_22 (v := jI 1) rfl ?_
      refine kcI (n := 2) (c_term ra0 (by decide) h) G_term E_term X hw (Nat.le_trans (Nat.le_of_ble_eq_true rfl) hRf) (Nat.le_trans (Nat.le_of_ble_eq_true rfl) hRl) rfl hl.1 (Nat.le_of_ble_eq_true rfl) rfl dX12_fallen_23 (fun v10 u H locs rv10 h hw => ?_)
      refine lv_istore_n hx hb dX12_fallen_26 rfl hl (by decide) rfl (fun ls hl => ?_)
      have hl : lv_has ls 5 [(3, .int (jI v10)), (0, .ref (h0)), (1, .int (jI a0)), (2, .int (jI a1))] := hl
      refine lv_aload_n hx hb dX12_fallen_27 rfl (lv_at hl 1 rfl) ?_
      refine lv_iload_n hx hb dX12_fallen_28 rfl (lv_at hl 3 rfl) ?_
      refine lv_iconst hx hb dX12_fallen_29 (v := jI 1) rfl ?_
      refine kcI (n := 2) (c_term ra1 (by decide) h) G_term E_term X hw (Nat.le_trans (Nat.le_of_ble_eq_true rfl) hRf) (Nat.le_trans (Nat.le_of_ble_eq_true rfl) hRl) rfl hl.1 (Nat.le_of_ble_eq_true rfl) rfl dX12_fallen_30 (fun v11 u H locs rv11 h hw => ?_)
      refine lv_istore hx hb dX12_fallen_33 hl (by decide) rfl (fun ls hl => ?_)
      have hl : lv_has ls 5 [(4, .int (jI v11)), (3, .int (jI v10)), (0, .ref (h0)), (1, .int (jI a0)), (2, .int (jI a1))] := hl
      refine lv_aload_n hx hb dX12_fallen_35 rfl (lv_at hl 2 rfl) ?_
      refine lv_iload_n hx hb dX12_fallen_36 rfl (lv_at hl 1 rfl) ?_
      refine lv_bipush hx hb dX12_fallen_37 (v := jI 11) rfl ?_
      refine kcI (n := 2) (c_isCallOf rv10 (by decide) h) G_isCallOf E_isCallOf X hw (Nat.le_trans (Nat.le_of_ble_eq_true rfl) hRf) (Nat.le_trans (Nat.le_of_ble_eq_true rfl) hRl) rfl hl.1 (Nat.le_of_ble_eq_true rfl) rfl dX12_fallen_39 (fun v12 u H locs rv12 h hw => ?_)
      refine k_if_ne hx hb rv12 dX12_fallen_42 (tgt := 55) rfl h (fun h => ?_) (fun h => ?_)
      · exact b_fallen_55 X hRf hRl hret ra0 ra1 rv10 rv11 hw (lv_sub hl [2, 3, 4, 1, 0] rfl) h
      · refine lv_aload_n hx hb dX12_fallen_45 rfl (lv_at hl 2 rfl) ?_
        refine lv_iload_n hx hb dX12_fallen_46 rfl (lv_at hl 1 rfl) ?_
        refine lv_bipush hx hb dX12_fallen_47 (v := jI 12) rfl ?_
        refine kcI (n := 2) (c_isCallOf rv10 (by decide) h) G_isCallOf E_isCallOf X hw (Nat.le_trans (Nat.le_of_ble_eq_true rfl) hRf) (Nat.le_trans (Nat.le_of_ble_eq_true rfl) hRl) rfl hl.1 (Nat.le_of_ble_eq_true rfl) rfl dX12_fallen_49 (fun v15 u H locs rv15 h hw => ?_)
        refine k_if_eq hx hb rv15 dX12_fallen_52 (tgt := 77) rfl h (fun h => ?_) (fun h => ?_)
        · exact b_fallen_77 X hRf hRl hret ra0 ra1 hw (lv_sub hl [2, 3, 4] rfl) h
        · exact b_fallen_55 X hRf hRl hret ra0 ra1 rv10 rv11 hw (lv_sub hl [2, 3, 4, 1, 0] rfl) h

end
theorem c_fallen {l : Launch} {a0 : Int} {a1 : Int} (ra0 : inR a0) (ra1 : inR a1) {Q : Int → iST → Prop} {u : iST} (h : w_fallen a0 a1 Q u) : kMI l yX12_fallen (.code yX12_fallen cX12_fallen 5 (some .int) :: wsM) { frames := 6, cells := 0, slots := 0, locals := 137 } [.int (jI a0), .int (jI a1)] Q u := kMI_of rfl (fun _ => Nat.le_of_ble_eq_true rfl) (fun X hRf hRl hret hw hl => b_fallen_s X hRf hRl hret ra0 ra1 hw hl h)

/-! bound -/
theorem dX12_bound_0 : decode cX12_bound 0 = .ok (.sipush 130, 3) := by decide +kernel
theorem dX12_bound_3 : decode cX12_bound 3 = .ok (.iload_n 1, 1) := by decide +kernel
theorem dX12_bound_4 : decode cX12_bound 4 = .ok (.imul, 1) := by decide +kernel
theorem dX12_bound_5 : decode cX12_bound 5 = .ok (.istore 5, 2) := by decide +kernel
theorem dX12_bound_7 : decode cX12_bound 7 = .ok (.iload 5, 2) := by decide +kernel
theorem dX12_bound_9 : decode cX12_bound 9 = .ok (.sipush 130, 3) := by decide +kernel
theorem dX12_bound_12 : decode cX12_bound 12 = .ok (.iload_n 1, 1) := by decide +kernel
theorem dX12_bound_13 : decode cX12_bound 13 = .ok (.imul, 1) := by decide +kernel
theorem dX12_bound_14 : decode cX12_bound 14 = .ok (.aload_n 0, 1) := by decide +kernel
theorem dX12_bound_15 : decode cX12_bound 15 = .ok (.getfield 229, 3) := by decide +kernel
theorem dX12_bound_18 : decode cX12_bound 18 = .ok (.iload_n 1, 1) := by decide +kernel
theorem dX12_bound_19 : decode cX12_bound 19 = .ok (.iaload, 1) := by decide +kernel
theorem dX12_bound_20 : decode cX12_bound 20 = .ok (.iadd, 1) := by decide +kernel
theorem dX12_bound_21 : decode cX12_bound 21 = .ok (.if_icmp .ge 55, 3) := by decide +kernel
theorem dX12_bound_24 : decode cX12_bound 24 = .ok (.aload_n 0, 1) := by decide +kernel
theorem dX12_bound_25 : decode cX12_bound 25 = .ok (.getfield 223, 3) := by decide +kernel
theorem dX12_bound_28 : decode cX12_bound 28 = .ok (.iload 5, 2) := by decide +kernel
theorem dX12_bound_30 : decode cX12_bound 30 = .ok (.iaload, 1) := by decide +kernel
theorem dX12_bound_31 : decode cX12_bound 31 = .ok (.iload_n 2, 1) := by decide +kernel
theorem dX12_bound_32 : decode cX12_bound 32 = .ok (.if_icmp .ne 20, 3) := by decide +kernel
theorem dX12_bound_35 : decode cX12_bound 35 = .ok (.aload_n 0, 1) := by decide +kernel
theorem dX12_bound_36 : decode cX12_bound 36 = .ok (.getfield 226, 3) := by decide +kernel
theorem dX12_bound_39 : decode cX12_bound 39 = .ok (.iload 5, 2) := by decide +kernel
theorem dX12_bound_41 : decode cX12_bound 41 = .ok (.iaload, 1) := by decide +kernel
theorem dX12_bound_42 : decode cX12_bound 42 = .ok (.iload_n 3, 1) := by decide +kernel
theorem dX12_bound_43 : decode cX12_bound 43 = .ok (.if_icmp .ne 7, 3) := by decide +kernel
theorem dX12_bound_46 : decode cX12_bound 46 = .ok (.iconst 1, 1) := by decide +kernel
theorem dX12_bound_47 : decode cX12_bound 47 = .ok (.goto 4, 3) := by decide +kernel
theorem dX12_bound_50 : decode cX12_bound 50 = .ok (.iconst 0, 1) := by decide +kernel
theorem dX12_bound_51 : decode cX12_bound 51 = .ok (.ireturn, 1) := by decide +kernel
theorem dX12_bound_52 : decode cX12_bound 52 = .ok (.iload 4, 2) := by decide +kernel
theorem dX12_bound_54 : decode cX12_bound 54 = .ok (.ifCond .eq 16, 3) := by decide +kernel
theorem dX12_bound_57 : decode cX12_bound 57 = .ok (.aload_n 0, 1) := by decide +kernel
theorem dX12_bound_58 : decode cX12_bound 58 = .ok (.getfield 226, 3) := by decide +kernel
theorem dX12_bound_61 : decode cX12_bound 61 = .ok (.iload 5, 2) := by decide +kernel
theorem dX12_bound_63 : decode cX12_bound 63 = .ok (.iaload, 1) := by decide +kernel
theorem dX12_bound_64 : decode cX12_bound 64 = .ok (.iload_n 3, 1) := by decide +kernel
theorem dX12_bound_65 : decode cX12_bound 65 = .ok (.if_icmp .ne 5, 3) := by decide +kernel
theorem dX12_bound_68 : decode cX12_bound 68 = .ok (.iconst 0, 1) := by decide +kernel
theorem dX12_bound_69 : decode cX12_bound 69 = .ok (.ireturn, 1) := by decide +kernel
theorem dX12_bound_70 : decode cX12_bound 70 = .ok (.iinc 5 1, 3) := by decide +kernel
theorem dX12_bound_73 : decode cX12_bound 73 = .ok (.goto (-66), 3) := by decide +kernel
theorem dX12_bound_76 : decode cX12_bound 76 = .ok (.aload_n 0, 1) := by decide +kernel
theorem dX12_bound_77 : decode cX12_bound 77 = .ok (.getfield 223, 3) := by decide +kernel
theorem dX12_bound_80 : decode cX12_bound 80 = .ok (.sipush 130, 3) := by decide +kernel
theorem dX12_bound_83 : decode cX12_bound 83 = .ok (.iload_n 1, 1) := by decide +kernel
theorem dX12_bound_84 : decode cX12_bound 84 = .ok (.imul, 1) := by decide +kernel
theorem dX12_bound_85 : decode cX12_bound 85 = .ok (.aload_n 0, 1) := by decide +kernel
theorem dX12_bound_86 : decode cX12_bound 86 = .ok (.getfield 229, 3) := by decide +kernel
theorem dX12_bound_89 : decode cX12_bound 89 = .ok (.iload_n 1, 1) := by decide +kernel
theorem dX12_bound_90 : decode cX12_bound 90 = .ok (.iaload, 1) := by decide +kernel
theorem dX12_bound_91 : decode cX12_bound 91 = .ok (.iadd, 1) := by decide +kernel
theorem dX12_bound_92 : decode cX12_bound 92 = .ok (.iload_n 2, 1) := by decide +kernel
theorem dX12_bound_93 : decode cX12_bound 93 = .ok (.iastore, 1) := by decide +kernel
theorem dX12_bound_94 : decode cX12_bound 94 = .ok (.aload_n 0, 1) := by decide +kernel
theorem dX12_bound_95 : decode cX12_bound 95 = .ok (.getfield 226, 3) := by decide +kernel
theorem dX12_bound_98 : decode cX12_bound 98 = .ok (.sipush 130, 3) := by decide +kernel
theorem dX12_bound_101 : decode cX12_bound 101 = .ok (.iload_n 1, 1) := by decide +kernel
theorem dX12_bound_102 : decode cX12_bound 102 = .ok (.imul, 1) := by decide +kernel
theorem dX12_bound_103 : decode cX12_bound 103 = .ok (.aload_n 0, 1) := by decide +kernel
theorem dX12_bound_104 : decode cX12_bound 104 = .ok (.getfield 229, 3) := by decide +kernel
theorem dX12_bound_107 : decode cX12_bound 107 = .ok (.iload_n 1, 1) := by decide +kernel
theorem dX12_bound_108 : decode cX12_bound 108 = .ok (.iaload, 1) := by decide +kernel
theorem dX12_bound_109 : decode cX12_bound 109 = .ok (.iadd, 1) := by decide +kernel
theorem dX12_bound_110 : decode cX12_bound 110 = .ok (.iload_n 3, 1) := by decide +kernel
theorem dX12_bound_111 : decode cX12_bound 111 = .ok (.iastore, 1) := by decide +kernel
theorem dX12_bound_112 : decode cX12_bound 112 = .ok (.aload_n 0, 1) := by decide +kernel
theorem dX12_bound_113 : decode cX12_bound 113 = .ok (.getfield 229, 3) := by decide +kernel
theorem dX12_bound_116 : decode cX12_bound 116 = .ok (.iload_n 1, 1) := by decide +kernel
theorem dX12_bound_117 : decode cX12_bound 117 = .ok (.dup2, 1) := by decide +kernel
theorem dX12_bound_118 : decode cX12_bound 118 = .ok (.iaload, 1) := by decide +kernel
theorem dX12_bound_119 : decode cX12_bound 119 = .ok (.iconst 1, 1) := by decide +kernel
theorem dX12_bound_120 : decode cX12_bound 120 = .ok (.iadd, 1) := by decide +kernel
theorem dX12_bound_121 : decode cX12_bound 121 = .ok (.iastore, 1) := by decide +kernel
theorem dX12_bound_122 : decode cX12_bound 122 = .ok (.iconst 1, 1) := by decide +kernel
theorem dX12_bound_123 : decode cX12_bound 123 = .ok (.ireturn, 1) := by decide +kernel

section
variable {p : Program} {l : Launch} {e : Env} {R : Room} {s : State} {m : MethodId} {args : Array Value} {below : List Frame} {meth : Method} {c : Code} {H : Heap} {locs : List Loc} {Qf : State → Prop}
variable {ls : Array Slot} {D : va_G} {ca : Nat → ClassId} {A : Nat → Prop} {h0 : Nat} {ad : Nat → Nat} {H0 : Heap} {u : iST}
def w_bound_7b (R7 : Int → Int → Int → Int → Int → iST → Prop) (Q : Int → iST → Prop) (x1 : Int) (x2 : Int) (x3 : Int) (x4 : Int) (x5 : Int) (u : iST) : Prop :=
  ov (130 * x1) (
  bd x1 60 (rd (u.2.1 107 x1) (fun v3 => 
  ov ((130 * x1) + v3) (
  br (((130 * x1) + v3) ≤ x5) (
    ov (130 * x1) (
    bd x1 60 (rd (u.2.1 107 x1) (fun v6 => 
    ov ((130 * x1) + v6) (
    bd ((130 * x1) + v6) 7800 (sw (iA u 105 ((130 * x1) + v6) x2) (fun u => 
    ov (130 * x1) (
    bd x1 60 (rd (u.2.1 107 x1) (fun v9 => 
    ov ((130 * x1) + v9) (
    bd ((130 * x1) + v9) 7800 (sw (iA u 106 ((130 * x1) + v9) x3) (fun u => 
    bd x1 60 (rd (u.2.1 107 x1) (fun v11 => 
    ov (v11 + 1) (
    bd x1 60 (sw (iA u 107 x1 (v11 + 1)) (fun u => 
    zt 1 (Q 1 u))))))))))))))))))) (
    bd x5 7800 (rd (u.2.1 105 x5) (fun v13 => 
    br (v13 ≠ x2) (
      br (x4 = 0) (
        ov (x5 + 1) (
        R7 x1 x2 x3 x4 (x5 + 1) u)) (
        bd x5 7800 (rd (u.2.1 106 x5) (fun v15 => 
        br (v15 ≠ x3) (
          ov (x5 + 1) (
          R7 x1 x2 x3 x4 (x5 + 1) u)) (
          zt 0 (Q 0 u)))))) (
      bd x5 7800 (rd (u.2.1 106 x5) (fun v17 => 
      br (v17 ≠ x3) (
        zt 0 (Q 0 u)) (
        zt 1 (Q 1 u))))))))))))
def w_bound_7 (Q : Int → iST → Prop) (x1 : Int) (x2 : Int) (x3 : Int) (x4 : Int) (x5 : Int) (u : iST) : Prop := ∀ R7 : Int → Int → Int → Int → Int → iST → Prop, (∀ (x1 : Int) (x2 : Int) (x3 : Int) (x4 : Int) (x5 : Int) (u : iST), w_bound_7b R7 Q x1 x2 x3 x4 x5 u → R7 x1 x2 x3 x4 x5 u) → R7 x1 x2 x3 x4 x5 u
set_option maxRecDepth 20000 in
set_option maxHeartbeats 4000000 in
theorem b_bound_7 (X : kX p m c cX12_bound 6 s args D ca) (hRf : 0 ≤ R.frames) (hRl : 0 ≤ R.locals) {Q : Int → iST → Prop} (hret : ∀ (v : Int) (u : iST) (H : Heap) (locs : List Loc) (ls : Array Slot) (pc : Nat), bz v → Q v u → kW D ca A h0 ad H0 H locs u → decode cX12_bound pc = .ok (.ireturn, 1) → W p l e R s m args below meth c H locs 0 0 Qf (F0 m pc ls [.int (jI v)])) {x1 x2 x3 x4 x5 : Int} (rx1 : inR x1) (rx2 : inR x2) (rx3 : inR x3) (rx4 : inR x4) (rx5 : inR x5) (hw : kW D ca A h0 ad H0 H locs u) (hl : lv_has ls 6 [(0, .ref h0), (1, .int (jI x1)), (2, .int (jI x2)), (3, .int (jI x3)), (4, .int (jI x4)), (5, .int (jI x5))]) (h : w_bound_7 Q x1 x2 x3 x4 x5 u) : W p l e R s m args below meth c H locs 0 0 Qf (F0 m 7 ls []) := by
  refine h (fun x1 x2 x3 x4 x5 u => ∀ (H : Heap) (locs : List Loc) (ls : Array Slot), inR x1 → inR x2 → inR x3 → inR x4 → inR x5 → kW D ca A h0 ad H0 H locs u → lv_has ls 6 [(0, .ref h0), (1, .int (jI x1)), (2, .int (jI x2)), (3, .int (jI x3)), (4, .int (jI x4)), (5, .int (jI x5))] → W p l e R s m args below meth c H locs 0 0 Qf (F0 m 7 ls [])) ?_ H locs ls rx1 rx2 rx3 rx4 rx5 hw hl
  clear h hl hw rx1 rx2 rx3 rx4 rx5
  intro x1 x2 x3 x4 x5 u h H locs ls rx1 rx2 rx3 rx4 rx5 hw hl
  have hR7 : ∀ (x1 : Int) (x2 : Int) (x3 : Int) (x4 : Int) (x5 : Int) (u : iST) (H : Heap) (locs : List Loc) (ls : Array Slot), inR x1 → inR x2 → inR x3 → inR x4 → inR x5 → kW D ca A h0 ad H0 H locs u → lv_has ls 6 [(0, .ref h0), (1, .int (jI x1)), (2, .int (jI x2)), (3, .int (jI x3)), (4, .int (jI x4)), (5, .int (jI x5))] → (fun (x1 : Int) (x2 : Int) (x3 : Int) (x4 : Int) (x5 : Int) u => ∀ (H : Heap) (locs : List Loc) (ls : Array Slot), inR x1 → inR x2 → inR x3 → inR x4 → inR x5 → kW D ca A h0 ad H0 H locs u → lv_has ls 6 [(0, .ref h0), (1, .int (jI x1)), (2, .int (jI x2)), (3, .int (jI x3)), (4, .int (jI x4)), (5, .int (jI x5))] → W p l e R s m args below meth c H locs 0 0 Qf (F0 m 7 ls [])) x1 x2 x3 x4 x5 u → W p l e R s m args below meth c H locs 0 0 Qf (F0 m 7 ls []) := fun x1 x2 x3 x4 x5 u H locs ls rx1 rx2 rx3 rx4 rx5 hw hl h => h H locs ls rx1 rx2 rx3 rx4 rx5 hw hl
  have hx := X.1.1
  have hb := X.1.2.1
  unfold w_bound_7b at h
  refine lv_iload hx hb dX12_bound_7 (lv_at hl 5 rfl) ?_
  refine lv_sipush hx hb dX12_bound_9 (v := jI 130) rfl ?_
  refine lv_iload_n hx hb dX12_bound_12 rfl (lv_at hl 1 rfl) ?_
  refine k_imul hx hb dX12_bound_13 h (fun r2 h => ?_)
  refine lv_aload_n hx hb dX12_bound_14 rfl (lv_at hl 0 rfl) ?_
  refine gA 107 229 (by decide) L_107 (fun _ _ => mF_107) rfl X hw dX12_bound_15 ?_
  refine lv_iload_n hx hb dX12_bound_18 rfl (lv_at hl 1 rfl) ?_
  refine aL 107 69 68 60 (fun _ _ _ _ => mG_107) (fun _ => rfl) X hw rx1 dX12_bound_19 rfl h (fun v3 rv3 h => ?_)
  refine k_iadd hx hb dX12_bound_20 h (fun r4 h => ?_)
  refine k_icmp_ge hx hb rx5 r4 dX12_bound_21 (tgt := 76) rfl h (fun h => ?_) (fun h => ?_)
  · refine lv_aload_n hx hb dX12_bound_76 rfl (lv_at hl 0 rfl) ?_
    refine gA 105 223 (by decide) L_105 (fun _ _ => mF_105) rfl X hw dX12_bound_77 ?_
    refine lv_sipush hx hb dX12_bound_80 (v := jI 130) rfl ?_
    refine lv_iload_n hx hb dX12_bound_83 rfl (lv_at hl 1 rfl) ?_
    refine k_imul hx hb dX12_bound_84 h (fun r5 h => ?_)
    refine lv_aload_n hx hb dX12_bound_85 rfl (lv_at hl 0 rfl) ?_
    refine gA 107 229 (by decide) L_107 (fun _ _ => mF_107) rfl X hw dX12_bound_86 ?_
    refine lv_iload_n hx hb dX12_bound_89 rfl (lv_at hl 1 rfl) ?_
    refine aL 107 69 68 60 (fun _ _ _ _ => mG_107) (fun _ => rfl) X hw rx1 dX12_bound_90 rfl h (fun v6 rv6 h => ?_)
    refine k_iadd hx hb dX12_bound_91 h (fun r7 h => ?_)
    refine lv_iload_n hx hb dX12_bound_92 rfl (lv_at hl 2 rfl) ?_
    refine aS 105 67 66 7800 (fun _ _ _ _ => mG_105) (fun _ => rfl) (fun _ _ _ _ _ _ => mSA_105) (by decide) X hw r7 rx2 dX12_bound_93 rfl h (fun H locs u hw h => ?_)
    refine lv_aload_n hx hb dX12_bound_94 rfl (lv_at hl 0 rfl) ?_
    refine gA 106 226 (by decide) L_106 (fun _ _ => mF_106) rfl X hw dX12_bound_95 ?_
    refine lv_sipush hx hb dX12_bound_98 (v := jI 130) rfl ?_
    refine lv_iload_n hx hb dX12_bound_101 rfl (lv_at hl 1 rfl) ?_
    refine k_imul hx hb dX12_bound_102 h (fun r8 h => ?_)
    refine lv_aload_n hx hb dX12_bound_103 rfl (lv_at hl 0 rfl) ?_
    refine gA 107 229 (by decide) L_107 (fun _ _ => mF_107) rfl X hw dX12_bound_104 ?_
    refine lv_iload_n hx hb dX12_bound_107 rfl (lv_at hl 1 rfl) ?_
    refine aL 107 69 68 60 (fun _ _ _ _ => mG_107) (fun _ => rfl) X hw rx1 dX12_bound_108 rfl h (fun v9 rv9 h => ?_)
    refine k_iadd hx hb dX12_bound_109 h (fun r10 h => ?_)
    refine lv_iload_n hx hb dX12_bound_110 rfl (lv_at hl 3 rfl) ?_
    refine aS 106 68 67 7800 (fun _ _ _ _ => mG_106) (fun _ => rfl) (fun _ _ _ _ _ _ => mSA_106) (by decide) X hw r10 rx3 dX12_bound_111 rfl h (fun H locs u hw h => ?_)
    refine lv_aload_n hx hb dX12_bound_112 rfl (lv_at hl 0 rfl) ?_
    refine gA 107 229 (by decide) L_107 (fun _ _ => mF_107) rfl X hw dX12_bound_113 ?_
    refine lv_iload_n hx hb dX12_bound_116 rfl (lv_at hl 1 rfl) ?_
    refine lv_dup2_11 hx hb dX12_bound_117 rfl rfl ?_
    refine aL 107 69 68 60 (fun _ _ _ _ => mG_107) (fun _ => rfl) X hw rx1 dX12_bound_118 rfl h (fun v11 rv11 h => ?_)
    refine lv_iconst hx hb dX12_bound_119 (v := jI 1) rfl ?_
    refine k_iadd hx hb dX12_bound_120 h (fun r12 h => ?_)
    refine aS 107 69 68 60 (fun _ _ _ _ => mG_107) (fun _ => rfl) (fun _ _ _ _ _ _ => mSA_107) (by decide) X hw rx1 r12 dX12_bound_121 rfl h (fun H locs u hw h => ?_)
    refine lv_iconst hx hb dX12_bound_122 (v := jI 1) rfl ?_
    exact hret _ _ _ _ _ _ h.1 h.2 hw dX12_bound_123
  · refine lv_aload_n hx hb dX12_bound_24 rfl (lv_at hl 0 rfl) ?_
    refine gA 105 223 (by decide) L_105 (fun _ _ => mF_105) rfl X hw dX12_bound_25 ?_
    refine lv_iload hx hb dX12_bound_28 (lv_at hl 5 rfl) ?_
    refine aL 105 67 66 7800 (fun _ _ _ _ => mG_105) (fun _ => rfl) X hw rx5 dX12_bound_30 rfl h (fun v13 rv13 h => ?_)
    refine lv_iload_n hx hb dX12_bound_31 rfl (lv_at hl 2 rfl) ?_
    refine k_icmp_ne hx hb rv13 rx2 dX12_bound_32 (tgt := 52) rfl h (fun h => ?_) (fun h => ?_)
    · refine lv_iload hx hb dX12_bound_52 (lv_at hl 4 rfl) ?_
      refine k_if_eq hx hb rx4 dX12_bound_54 (tgt := 70) rfl h (fun h => ?_) (fun h => ?_)
      · refine k_iinc (k := 5) hx hb dX12_bound_70 hl rfl (by decide) rfl h (fun ls r14 h hl => ?_)
        have hl : lv_has ls 6 [(5, .int (jI (x5 + 1))), (0, .ref (h0)), (1, .int (jI x1)), (2, .int (jI x2)), (3, .int (jI x3)), (4, .int (jI x4))] := hl
        refine lv_goto hx hb dX12_bound_73 (tgt := 7) rfl ?_
        exact hR7 _ _ _ _ _ _ H locs ls rx1 rx2 rx3 rx4 r14 hw (lv_sub hl [1, 2, 3, 4, 5, 0] rfl) h
      · refine lv_aload_n hx hb dX12_bound_57 rfl (lv_at hl 0 rfl) ?_
        refine gA 106 226 (by decide) L_106 (fun _ _ => mF_106) rfl X hw dX12_bound_58 ?_
        refine lv_iload hx hb dX12_bound_61 (lv_at hl 5 rfl) ?_
        refine aL 106 68 67 7800 (fun _ _ _ _ => mG_106) (fun _ => rfl) X hw rx5 dX12_bound_63 rfl h (fun v15 rv15 h => ?_)
        refine lv_iload_n hx hb dX12_bound_64 rfl (lv_at hl 3 rfl) ?_
        refine k_icmp_ne hx hb rv15 rx3 dX12_bound_65 (tgt := 70) rfl h (fun h => ?_) (fun h => ?_)
        · refine k_iinc (k := 5) hx hb dX12_bound_70 hl rfl (by decide) rfl h (fun ls r16 h hl => ?_)
          have hl : lv_has ls 6 [(5, .int (jI (x5 + 1))), (0, .ref (h0)), (1, .int (jI x1)), (2, .int (jI x2)), (3, .int (jI x3)), (4, .int (jI x4))] := hl
          refine lv_goto hx hb dX12_bound_73 (tgt := 7) rfl ?_
          exact hR7 _ _ _ _ _ _ H locs ls rx1 rx2 rx3 rx4 r16 hw (lv_sub hl [1, 2, 3, 4, 5, 0] rfl) h
        · refine lv_iconst hx hb dX12_bound_68 (v := jI 0) rfl ?_
          exact hret _ _ _ _ _ _ h.1 h.2 hw dX12_bound_69
    · refine lv_aload_n hx hb dX12_bound_35 rfl (lv_at hl 0 rfl) ?_
      refine gA 106 226 (by decide) L_106 (fun _ _ => mF_106) rfl X hw dX12_bound_36 ?_
      refine lv_iload hx hb dX12_bound_39 (lv_at hl 5 rfl) ?_
      refine aL 106 68 67 7800 (fun _ _ _ _ => mG_106) (fun _ => rfl) X hw rx5 dX12_bound_41 rfl h (fun v17 rv17 h => ?_)
      refine lv_iload_n hx hb dX12_bound_42 rfl (lv_at hl 3 rfl) ?_
      refine k_icmp_ne hx hb rv17 rx3 dX12_bound_43 (tgt := 50) rfl h (fun h => ?_) (fun h => ?_)
      · refine lv_iconst hx hb dX12_bound_50 (v := jI 0) rfl ?_
        exact hret _ _ _ _ _ _ h.1 h.2 hw dX12_bound_51
      · refine lv_iconst hx hb dX12_bound_46 (v := jI 1) rfl ?_
        refine lv_goto hx hb dX12_bound_47 (tgt := 51) rfl ?_
        exact hret _ _ _ _ _ _ h.1 h.2 hw dX12_bound_51

def w_bound (a0 : Int) (a1 : Int) (a2 : Int) (a3 : Int) (Q : Int → iST → Prop) (u : iST) : Prop :=
  ov (130 * a0) (
  w_bound_7 Q a0 a1 a2 a3 (130 * a0) u)
set_option maxRecDepth 20000 in
set_option maxHeartbeats 4000000 in
theorem b_bound_s (X : kX p m c cX12_bound 6 s args D ca) (hRf : 0 ≤ R.frames) (hRl : 0 ≤ R.locals) {Q : Int → iST → Prop} (hret : ∀ (v : Int) (u : iST) (H : Heap) (locs : List Loc) (ls : Array Slot) (pc : Nat), bz v → Q v u → kW D ca A h0 ad H0 H locs u → decode cX12_bound pc = .ok (.ireturn, 1) → W p l e R s m args below meth c H locs 0 0 Qf (F0 m pc ls [.int (jI v)])) {a0 a1 a2 a3 : Int} (ra0 : inR a0) (ra1 : inR a1) (ra2 : inR a2) (ra3 : inR a3) (hw : kW D ca A h0 ad H0 H locs u) (hl : lv_has ls 6 [(0, .ref h0), (1, .int (jI a0)), (2, .int (jI a1)), (3, .int (jI a2)), (4, .int (jI a3))]) (h : w_bound a0 a1 a2 a3 Q u) : W p l e R s m args below meth c H locs 0 0 Qf (F0 m 0 ls []) := by
  have hx := X.1.1
  have hb := X.1.2.1
  unfold w_bound at h
  refine lv_sipush hx hb dX12_bound_0 (v := jI 130) rfl ?_
  refine lv_iload_n hx hb dX12_bound_3 rfl (lv_at hl 1 rfl) ?_
  refine k_imul hx hb dX12_bound_4 h (fun r1 h => ?_)
  refine lv_istore hx hb dX12_bound_5 hl (by decide) rfl (fun ls hl => ?_)
  have hl : lv_has ls 6 [(5, .int (jI (130 * a0))), (0, .ref (h0)), (1, .int (jI a0)), (2, .int (jI a1)), (3, .int (jI a2)), (4, .int (jI a3))] := hl
  exact b_bound_7 X hRf hRl hret ra0 ra1 ra2 ra3 r1 hw (lv_sub hl [1, 2, 3, 4, 5, 0] rfl) h

end
theorem c_bound {l : Launch} {a0 : Int} {a1 : Int} {a2 : Int} {a3 : Int} (ra0 : inR a0) (ra1 : inR a1) (ra2 : inR a2) (ra3 : inR a3) {Q : Int → iST → Prop} {u : iST} (h : w_bound a0 a1 a2 a3 Q u) : kMI l yX12_bound (.code yX12_bound cX12_bound 6 (some .boolean) :: wsM) { frames := 0, cells := 0, slots := 0, locals := 0 } [.int (jI a0), .int (jI a1), .int (jI a2), .int (jI a3)] Q u := kMZ_of rfl (fun _ => Nat.le_of_ble_eq_true rfl) (fun X hRf hRl hret hw hl => b_bound_s X hRf hRl hret ra0 ra1 ra2 ra3 hw hl h)

/-! matches -/
theorem dX12_matches_0 : decode cX12_matches 0 = .ok (.iconst 1, 1) := by decide +kernel
theorem dX12_matches_1 : decode cX12_matches 1 = .ok (.istore 5, 2) := by decide +kernel
theorem dX12_matches_3 : decode cX12_matches 3 = .ok (.aload_n 0, 1) := by decide +kernel
theorem dX12_matches_4 : decode cX12_matches 4 = .ok (.getfield 235, 3) := by decide +kernel
theorem dX12_matches_7 : decode cX12_matches 7 = .ok (.iconst 0, 1) := by decide +kernel
theorem dX12_matches_8 : decode cX12_matches 8 = .ok (.iload_n 1, 1) := by decide +kernel
theorem dX12_matches_9 : decode cX12_matches 9 = .ok (.iastore, 1) := by decide +kernel
theorem dX12_matches_10 : decode cX12_matches 10 = .ok (.aload_n 0, 1) := by decide +kernel
theorem dX12_matches_11 : decode cX12_matches 11 = .ok (.getfield 238, 3) := by decide +kernel
theorem dX12_matches_14 : decode cX12_matches 14 = .ok (.iconst 0, 1) := by decide +kernel
theorem dX12_matches_15 : decode cX12_matches 15 = .ok (.iload_n 2, 1) := by decide +kernel
theorem dX12_matches_16 : decode cX12_matches 16 = .ok (.iastore, 1) := by decide +kernel
theorem dX12_matches_17 : decode cX12_matches 17 = .ok (.aload_n 0, 1) := by decide +kernel
theorem dX12_matches_18 : decode cX12_matches 18 = .ok (.getfield 229, 3) := by decide +kernel
theorem dX12_matches_21 : decode cX12_matches 21 = .ok (.iload_n 3, 1) := by decide +kernel
theorem dX12_matches_22 : decode cX12_matches 22 = .ok (.iconst 0, 1) := by decide +kernel
theorem dX12_matches_23 : decode cX12_matches 23 = .ok (.iastore, 1) := by decide +kernel
theorem dX12_matches_24 : decode cX12_matches 24 = .ok (.iload 5, 2) := by decide +kernel
theorem dX12_matches_26 : decode cX12_matches 26 = .ok (.ifCond .le 187, 3) := by decide +kernel
theorem dX12_matches_29 : decode cX12_matches 29 = .ok (.iinc 5 (-1), 3) := by decide +kernel
theorem dX12_matches_32 : decode cX12_matches 32 = .ok (.aload_n 0, 1) := by decide +kernel
theorem dX12_matches_33 : decode cX12_matches 33 = .ok (.getfield 235, 3) := by decide +kernel
theorem dX12_matches_36 : decode cX12_matches 36 = .ok (.iload 5, 2) := by decide +kernel
theorem dX12_matches_38 : decode cX12_matches 38 = .ok (.iaload, 1) := by decide +kernel
theorem dX12_matches_39 : decode cX12_matches 39 = .ok (.istore 6, 2) := by decide +kernel
theorem dX12_matches_41 : decode cX12_matches 41 = .ok (.aload_n 0, 1) := by decide +kernel
theorem dX12_matches_42 : decode cX12_matches 42 = .ok (.getfield 238, 3) := by decide +kernel
theorem dX12_matches_45 : decode cX12_matches 45 = .ok (.iload 5, 2) := by decide +kernel
theorem dX12_matches_47 : decode cX12_matches 47 = .ok (.iaload, 1) := by decide +kernel
theorem dX12_matches_48 : decode cX12_matches 48 = .ok (.istore 7, 2) := by decide +kernel
theorem dX12_matches_50 : decode cX12_matches 50 = .ok (.aload_n 0, 1) := by decide +kernel
theorem dX12_matches_51 : decode cX12_matches 51 = .ok (.iload 6, 2) := by decide +kernel
theorem dX12_matches_53 : decode cX12_matches 53 = .ok (.invokevirtual 504, 3) := by decide +kernel
theorem dX12_matches_56 : decode cX12_matches 56 = .ok (.ifCond .eq 33, 3) := by decide +kernel
theorem dX12_matches_59 : decode cX12_matches 59 = .ok (.iload 4, 2) := by decide +kernel
theorem dX12_matches_61 : decode cX12_matches 61 = .ok (.ifCond .eq 12, 3) := by decide +kernel
theorem dX12_matches_64 : decode cX12_matches 64 = .ok (.aload_n 0, 1) := by decide +kernel
theorem dX12_matches_65 : decode cX12_matches 65 = .ok (.iload 7, 2) := by decide +kernel
theorem dX12_matches_67 : decode cX12_matches 67 = .ok (.invokevirtual 504, 3) := by decide +kernel
theorem dX12_matches_70 : decode cX12_matches 70 = .ok (.ifCond .eq 17, 3) := by decide +kernel
theorem dX12_matches_73 : decode cX12_matches 73 = .ok (.aload_n 0, 1) := by decide +kernel
theorem dX12_matches_74 : decode cX12_matches 74 = .ok (.iload_n 3, 1) := by decide +kernel
theorem dX12_matches_75 : decode cX12_matches 75 = .ok (.iload 6, 2) := by decide +kernel
theorem dX12_matches_77 : decode cX12_matches 77 = .ok (.iload 7, 2) := by decide +kernel
theorem dX12_matches_79 : decode cX12_matches 79 = .ok (.iload 4, 2) := by decide +kernel
theorem dX12_matches_81 : decode cX12_matches 81 = .ok (.invokevirtual 702, 3) := by decide +kernel
theorem dX12_matches_84 : decode cX12_matches 84 = .ok (.ifCond .ne 126, 3) := by decide +kernel
theorem dX12_matches_87 : decode cX12_matches 87 = .ok (.iconst 0, 1) := by decide +kernel
theorem dX12_matches_88 : decode cX12_matches 88 = .ok (.ireturn, 1) := by decide +kernel
theorem dX12_matches_89 : decode cX12_matches 89 = .ok (.aload_n 0, 1) := by decide +kernel
theorem dX12_matches_90 : decode cX12_matches 90 = .ok (.iload 6, 2) := by decide +kernel
theorem dX12_matches_92 : decode cX12_matches 92 = .ok (.invokevirtual 483, 3) := by decide +kernel
theorem dX12_matches_95 : decode cX12_matches 95 = .ok (.ifCond .ne 12, 3) := by decide +kernel
theorem dX12_matches_98 : decode cX12_matches 98 = .ok (.iload 6, 2) := by decide +kernel
theorem dX12_matches_100 : decode cX12_matches 100 = .ok (.iload 7, 2) := by decide +kernel
theorem dX12_matches_102 : decode cX12_matches 102 = .ok (.if_icmp .eq 108, 3) := by decide +kernel
theorem dX12_matches_105 : decode cX12_matches 105 = .ok (.iconst 0, 1) := by decide +kernel
theorem dX12_matches_106 : decode cX12_matches 106 = .ok (.ireturn, 1) := by decide +kernel
theorem dX12_matches_107 : decode cX12_matches 107 = .ok (.aload_n 0, 1) := by decide +kernel
theorem dX12_matches_108 : decode cX12_matches 108 = .ok (.iload 7, 2) := by decide +kernel
theorem dX12_matches_110 : decode cX12_matches 110 = .ok (.invokevirtual 483, 3) := by decide +kernel
theorem dX12_matches_113 : decode cX12_matches 113 = .ok (.ifCond .eq 20, 3) := by decide +kernel
theorem dX12_matches_116 : decode cX12_matches 116 = .ok (.aload_n 0, 1) := by decide +kernel
theorem dX12_matches_117 : decode cX12_matches 117 = .ok (.getfield 8, 3) := by decide +kernel
theorem dX12_matches_120 : decode cX12_matches 120 = .ok (.iload 6, 2) := by decide +kernel
theorem dX12_matches_122 : decode cX12_matches 122 = .ok (.iaload, 1) := by decide +kernel
theorem dX12_matches_123 : decode cX12_matches 123 = .ok (.aload_n 0, 1) := by decide +kernel
theorem dX12_matches_124 : decode cX12_matches 124 = .ok (.getfield 8, 3) := by decide +kernel
theorem dX12_matches_127 : decode cX12_matches 127 = .ok (.iload 7, 2) := by decide +kernel
theorem dX12_matches_129 : decode cX12_matches 129 = .ok (.iaload, 1) := by decide +kernel
theorem dX12_matches_130 : decode cX12_matches 130 = .ok (.if_icmp .eq 5, 3) := by decide +kernel
theorem dX12_matches_133 : decode cX12_matches 133 = .ok (.iconst 0, 1) := by decide +kernel
theorem dX12_matches_134 : decode cX12_matches 134 = .ok (.ireturn, 1) := by decide +kernel
theorem dX12_matches_135 : decode cX12_matches 135 = .ok (.aload_n 0, 1) := by decide +kernel
theorem dX12_matches_136 : decode cX12_matches 136 = .ok (.getfield 14, 3) := by decide +kernel
theorem dX12_matches_139 : decode cX12_matches 139 = .ok (.iload 6, 2) := by decide +kernel
theorem dX12_matches_141 : decode cX12_matches 141 = .ok (.iaload, 1) := by decide +kernel
theorem dX12_matches_142 : decode cX12_matches 142 = .ok (.istore 8, 2) := by decide +kernel
theorem dX12_matches_144 : decode cX12_matches 144 = .ok (.aload_n 0, 1) := by decide +kernel
theorem dX12_matches_145 : decode cX12_matches 145 = .ok (.getfield 14, 3) := by decide +kernel
theorem dX12_matches_148 : decode cX12_matches 148 = .ok (.iload 7, 2) := by decide +kernel
theorem dX12_matches_150 : decode cX12_matches 150 = .ok (.iaload, 1) := by decide +kernel
theorem dX12_matches_151 : decode cX12_matches 151 = .ok (.istore 9, 2) := by decide +kernel
theorem dX12_matches_153 : decode cX12_matches 153 = .ok (.iload 8, 2) := by decide +kernel
theorem dX12_matches_155 : decode cX12_matches 155 = .ok (.ifCond .eq 55, 3) := by decide +kernel
theorem dX12_matches_158 : decode cX12_matches 158 = .ok (.aload_n 0, 1) := by decide +kernel
theorem dX12_matches_159 : decode cX12_matches 159 = .ok (.getfield 235, 3) := by decide +kernel
theorem dX12_matches_162 : decode cX12_matches 162 = .ok (.iload 5, 2) := by decide +kernel
theorem dX12_matches_164 : decode cX12_matches 164 = .ok (.aload_n 0, 1) := by decide +kernel
theorem dX12_matches_165 : decode cX12_matches 165 = .ok (.getfield 8, 3) := by decide +kernel
theorem dX12_matches_168 : decode cX12_matches 168 = .ok (.iload 8, 2) := by decide +kernel
theorem dX12_matches_170 : decode cX12_matches 170 = .ok (.iaload, 1) := by decide +kernel
theorem dX12_matches_171 : decode cX12_matches 171 = .ok (.iastore, 1) := by decide +kernel
theorem dX12_matches_172 : decode cX12_matches 172 = .ok (.aload_n 0, 1) := by decide +kernel
theorem dX12_matches_173 : decode cX12_matches 173 = .ok (.getfield 238, 3) := by decide +kernel
theorem dX12_matches_176 : decode cX12_matches 176 = .ok (.iload 5, 2) := by decide +kernel
theorem dX12_matches_178 : decode cX12_matches 178 = .ok (.aload_n 0, 1) := by decide +kernel
theorem dX12_matches_179 : decode cX12_matches 179 = .ok (.getfield 8, 3) := by decide +kernel
theorem dX12_matches_182 : decode cX12_matches 182 = .ok (.iload 9, 2) := by decide +kernel
theorem dX12_matches_184 : decode cX12_matches 184 = .ok (.iaload, 1) := by decide +kernel
theorem dX12_matches_185 : decode cX12_matches 185 = .ok (.iastore, 1) := by decide +kernel
theorem dX12_matches_186 : decode cX12_matches 186 = .ok (.iinc 5 1, 3) := by decide +kernel
theorem dX12_matches_189 : decode cX12_matches 189 = .ok (.aload_n 0, 1) := by decide +kernel
theorem dX12_matches_190 : decode cX12_matches 190 = .ok (.getfield 14, 3) := by decide +kernel
theorem dX12_matches_193 : decode cX12_matches 193 = .ok (.iload 8, 2) := by decide +kernel
theorem dX12_matches_195 : decode cX12_matches 195 = .ok (.iaload, 1) := by decide +kernel
theorem dX12_matches_196 : decode cX12_matches 196 = .ok (.istore 8, 2) := by decide +kernel
theorem dX12_matches_198 : decode cX12_matches 198 = .ok (.aload_n 0, 1) := by decide +kernel
theorem dX12_matches_199 : decode cX12_matches 199 = .ok (.getfield 14, 3) := by decide +kernel
theorem dX12_matches_202 : decode cX12_matches 202 = .ok (.iload 9, 2) := by decide +kernel
theorem dX12_matches_204 : decode cX12_matches 204 = .ok (.iaload, 1) := by decide +kernel
theorem dX12_matches_205 : decode cX12_matches 205 = .ok (.istore 9, 2) := by decide +kernel
theorem dX12_matches_207 : decode cX12_matches 207 = .ok (.goto (-54), 3) := by decide +kernel
theorem dX12_matches_210 : decode cX12_matches 210 = .ok (.goto (-186), 3) := by decide +kernel
theorem dX12_matches_213 : decode cX12_matches 213 = .ok (.iconst 1, 1) := by decide +kernel
theorem dX12_matches_214 : decode cX12_matches 214 = .ok (.ireturn, 1) := by decide +kernel

section
variable {p : Program} {l : Launch} {e : Env} {R : Room} {s : State} {m : MethodId} {args : Array Value} {below : List Frame} {meth : Method} {c : Code} {H : Heap} {locs : List Loc} {Qf : State → Prop}
variable {ls : Array Slot} {D : va_G} {ca : Nat → ClassId} {A : Nat → Prop} {h0 : Nat} {ad : Nat → Nat} {H0 : Heap} {u : iST}
def w_matches_153b (R24 : Int → Int → Int → iST → Prop) (R153 : Int → Int → Int → Int → Int → iST → Prop) (Q : Int → iST → Prop) (x3 : Int) (x4 : Int) (x5 : Int) (x8 : Int) (x9 : Int) (u : iST) : Prop :=
  br (x8 = 0) (
    R24 x3 x4 x5 u) (
    bd x8 452000 (rd (u.2.1 0 x8) (fun v11 => 
    bd x5 800 (sw (iA u 112 x5 v11) (fun u => 
    bd x9 452000 (rd (u.2.1 0 x9) (fun v12 => 
    bd x5 800 (sw (iA u 113 x5 v12) (fun u => 
    ov (x5 + 1) (
    bd x8 452000 (rd (u.2.1 1 x8) (fun v14 => 
    bd x9 452000 (rd (u.2.1 1 x9) (fun v15 => 
    R153 x3 x4 (x5 + 1) v14 v15 u))))))))))))))
def w_matches_153 (R24 : Int → Int → Int → iST → Prop) (Q : Int → iST → Prop) (x3 : Int) (x4 : Int) (x5 : Int) (x8 : Int) (x9 : Int) (u : iST) : Prop := ∀ R153 : Int → Int → Int → Int → Int → iST → Prop, (∀ (x3 : Int) (x4 : Int) (x5 : Int) (x8 : Int) (x9 : Int) (u : iST), w_matches_153b R24 R153 Q x3 x4 x5 x8 x9 u → R153 x3 x4 x5 x8 x9 u) → R153 x3 x4 x5 x8 x9 u
set_option maxRecDepth 20000 in
set_option maxHeartbeats 4000000 in
theorem b_matches_153 (X : kX p m c cX12_matches 10 s args D ca) (hRf : 2 ≤ R.frames) (hRl : 42 ≤ R.locals) {Q : Int → iST → Prop} (hret : ∀ (v : Int) (u : iST) (H : Heap) (locs : List Loc) (ls : Array Slot) (pc : Nat), bz v → Q v u → kW D ca A h0 ad H0 H locs u → decode cX12_matches pc = .ok (.ireturn, 1) → W p l e R s m args below meth c H locs 0 0 Qf (F0 m pc ls [.int (jI v)])) {R24 : Int → Int → Int → iST → Prop} (hR24 : ∀ (x3 : Int) (x4 : Int) (x5 : Int) (u : iST) (H : Heap) (locs : List Loc) (ls : Array Slot), inR x3 → inR x4 → inR x5 → kW D ca A h0 ad H0 H locs u → lv_has ls 10 [(0, .ref h0), (3, .int (jI x3)), (4, .int (jI x4)), (5, .int (jI x5))] → R24 x3 x4 x5 u → W p l e R s m args below meth c H locs 0 0 Qf (F0 m 24 ls [])) {x3 x4 x5 x8 x9 : Int} (rx3 : inR x3) (rx4 : inR x4) (rx5 : inR x5) (rx8 : inR x8) (rx9 : inR x9) (hw : kW D ca A h0 ad H0 H locs u) (hl : lv_has ls 10 [(0, .ref h0), (3, .int (jI x3)), (4, .int (jI x4)), (5, .int (jI x5)), (8, .int (jI x8)), (9, .int (jI x9))]) (h : w_matches_153 R24 Q x3 x4 x5 x8 x9 u) : W p l e R s m args below meth c H locs 0 0 Qf (F0 m 153 ls []) := by
  refine h (fun x3 x4 x5 x8 x9 u => ∀ (H : Heap) (locs : List Loc) (ls : Array Slot), inR x3 → inR x4 → inR x5 → inR x8 → inR x9 → kW D ca A h0 ad H0 H locs u → lv_has ls 10 [(0, .ref h0), (3, .int (jI x3)), (4, .int (jI x4)), (5, .int (jI x5)), (8, .int (jI x8)), (9, .int (jI x9))] → W p l e R s m args below meth c H locs 0 0 Qf (F0 m 153 ls [])) ?_ H locs ls rx3 rx4 rx5 rx8 rx9 hw hl
  clear h hl hw rx3 rx4 rx5 rx8 rx9
  intro x3 x4 x5 x8 x9 u h H locs ls rx3 rx4 rx5 rx8 rx9 hw hl
  have hR153 : ∀ (x3 : Int) (x4 : Int) (x5 : Int) (x8 : Int) (x9 : Int) (u : iST) (H : Heap) (locs : List Loc) (ls : Array Slot), inR x3 → inR x4 → inR x5 → inR x8 → inR x9 → kW D ca A h0 ad H0 H locs u → lv_has ls 10 [(0, .ref h0), (3, .int (jI x3)), (4, .int (jI x4)), (5, .int (jI x5)), (8, .int (jI x8)), (9, .int (jI x9))] → (fun (x3 : Int) (x4 : Int) (x5 : Int) (x8 : Int) (x9 : Int) u => ∀ (H : Heap) (locs : List Loc) (ls : Array Slot), inR x3 → inR x4 → inR x5 → inR x8 → inR x9 → kW D ca A h0 ad H0 H locs u → lv_has ls 10 [(0, .ref h0), (3, .int (jI x3)), (4, .int (jI x4)), (5, .int (jI x5)), (8, .int (jI x8)), (9, .int (jI x9))] → W p l e R s m args below meth c H locs 0 0 Qf (F0 m 153 ls [])) x3 x4 x5 x8 x9 u → W p l e R s m args below meth c H locs 0 0 Qf (F0 m 153 ls []) := fun x3 x4 x5 x8 x9 u H locs ls rx3 rx4 rx5 rx8 rx9 hw hl h => h H locs ls rx3 rx4 rx5 rx8 rx9 hw hl
  have hx := X.1.1
  have hb := X.1.2.1
  unfold w_matches_153b at h
  refine lv_iload hx hb dX12_matches_153 (lv_at hl 4 rfl) ?_
  refine k_if_eq hx hb rx8 dX12_matches_155 (tgt := 210) rfl h (fun h => ?_) (fun h => ?_)
  · refine lv_goto hx hb dX12_matches_210 (tgt := 24) rfl ?_
    exact hR24 _ _ _ _ H locs ls rx3 rx4 rx5 hw (lv_sub hl [0, 1, 2, 3] rfl) h
  · refine lv_aload_n hx hb dX12_matches_158 rfl (lv_at hl 0 rfl) ?_
    refine gA 112 235 (by decide) L_112 (fun _ _ => mF_112) rfl X hw dX12_matches_159 ?_
    refine lv_iload hx hb dX12_matches_162 (lv_at hl 3 rfl) ?_
    refine lv_aload_n hx hb dX12_matches_164 rfl (lv_at hl 0 rfl) ?_
    refine gA 0 8 (by decide) L_0 (fun _ _ => mF_0) rfl X hw dX12_matches_165 ?_
    refine lv_iload hx hb dX12_matches_168 (lv_at hl 4 rfl) ?_
    refine aL 0 1 0 452000 (fun _ _ _ _ => mG_0) (fun _ => rfl) X hw rx8 dX12_matches_170 rfl h (fun v11 rv11 h => ?_)
    refine aS 112 71 70 800 (fun _ _ _ _ => mG_112) (fun _ => rfl) (fun _ _ _ _ _ _ => mSA_112) (by decide) X hw rx5 rv11 dX12_matches_171 rfl h (fun H locs u hw h => ?_)
    refine lv_aload_n hx hb dX12_matches_172 rfl (lv_at hl 0 rfl) ?_
    refine gA 113 238 (by decide) L_113 (fun _ _ => mF_113) rfl X hw dX12_matches_173 ?_
    refine lv_iload hx hb dX12_matches_176 (lv_at hl 3 rfl) ?_
    refine lv_aload_n hx hb dX12_matches_178 rfl (lv_at hl 0 rfl) ?_
    refine gA 0 8 (by decide) L_0 (fun _ _ => mF_0) rfl X hw dX12_matches_179 ?_
    refine lv_iload hx hb dX12_matches_182 (lv_at hl 5 rfl) ?_
    refine aL 0 1 0 452000 (fun _ _ _ _ => mG_0) (fun _ => rfl) X hw rx9 dX12_matches_184 rfl h (fun v12 rv12 h => ?_)
    refine aS 113 72 71 800 (fun _ _ _ _ => mG_113) (fun _ => rfl) (fun _ _ _ _ _ _ => mSA_113) (by decide) X hw rx5 rv12 dX12_matches_185 rfl h (fun H locs u hw h => ?_)
    refine k_iinc (k := 3) hx hb dX12_matches_186 hl rfl (by decide) rfl h (fun ls r13 h hl => ?_)
    have hl : lv_has ls 10 [(5, .int (jI (x5 + 1))), (0, .ref (h0)), (3, .int (jI x3)), (4, .int (jI x4)), (8, .int (jI x8)), (9, .int (jI x9))] := hl
    refine lv_aload_n hx hb dX12_matches_189 rfl (lv_at hl 1 rfl) ?_
    refine gA 1 14 (by decide) L_1 (fun _ _ => mF_1) rfl X hw dX12_matches_190 ?_
    refine lv_iload hx hb dX12_matches_193 (lv_at hl 4 rfl) ?_
    refine aL 1 2 1 452000 (fun _ _ _ _ => mG_1) (fun _ => rfl) X hw rx8 dX12_matches_195 rfl h (fun v14 rv14 h => ?_)
    refine lv_istore hx hb dX12_matches_196 hl (by decide) rfl (fun ls hl => ?_)
    have hl : lv_has ls 10 [(8, .int (jI v14)), (5, .int (jI (x5 + 1))), (0, .ref (h0)), (3, .int (jI x3)), (4, .int (jI x4)), (9, .int (jI x9))] := hl
    refine lv_aload_n hx hb dX12_matches_198 rfl (lv_at hl 2 rfl) ?_
    refine gA 1 14 (by decide) L_1 (fun _ _ => mF_1) rfl X hw dX12_matches_199 ?_
    refine lv_iload hx hb dX12_matches_202 (lv_at hl 5 rfl) ?_
    refine aL 1 2 1 452000 (fun _ _ _ _ => mG_1) (fun _ => rfl) X hw rx9 dX12_matches_204 rfl h (fun v15 rv15 h => ?_)
    refine lv_istore hx hb dX12_matches_205 hl (by decide) rfl (fun ls hl => ?_)
    have hl : lv_has ls 10 [(9, .int (jI v15)), (8, .int (jI v14)), (5, .int (jI (x5 + 1))), (0, .ref (h0)), (3, .int (jI x3)), (4, .int (jI x4))] := hl
    refine lv_goto hx hb dX12_matches_207 (tgt := 153) rfl ?_
    exact hR153 _ _ _ _ _ _ H locs ls rx3 rx4 r13 rv14 rv15 hw (lv_sub hl [3, 4, 5, 2, 1, 0] rfl) h

def w_matches_73 (R24 : Int → Int → Int → iST → Prop) (Q : Int → iST → Prop) (x3 : Int) (x4 : Int) (x5 : Int) (x6 : Int) (x7 : Int) (u : iST) : Prop :=
  w_bound x3 x6 x7 x4 (fun v16 u => 
  br (v16 ≠ 0) (
    R24 x3 x4 x5 u) (
    zt 0 (Q 0 u))) u
set_option maxRecDepth 20000 in
set_option maxHeartbeats 4000000 in
theorem b_matches_73 (X : kX p m c cX12_matches 10 s args D ca) (hRf : 2 ≤ R.frames) (hRl : 42 ≤ R.locals) {Q : Int → iST → Prop} (hret : ∀ (v : Int) (u : iST) (H : Heap) (locs : List Loc) (ls : Array Slot) (pc : Nat), bz v → Q v u → kW D ca A h0 ad H0 H locs u → decode cX12_matches pc = .ok (.ireturn, 1) → W p l e R s m args below meth c H locs 0 0 Qf (F0 m pc ls [.int (jI v)])) {R24 : Int → Int → Int → iST → Prop} (hR24 : ∀ (x3 : Int) (x4 : Int) (x5 : Int) (u : iST) (H : Heap) (locs : List Loc) (ls : Array Slot), inR x3 → inR x4 → inR x5 → kW D ca A h0 ad H0 H locs u → lv_has ls 10 [(0, .ref h0), (3, .int (jI x3)), (4, .int (jI x4)), (5, .int (jI x5))] → R24 x3 x4 x5 u → W p l e R s m args below meth c H locs 0 0 Qf (F0 m 24 ls [])) {x3 x4 x5 x6 x7 : Int} (rx3 : inR x3) (rx4 : inR x4) (rx5 : inR x5) (rx6 : inR x6) (rx7 : inR x7) (hw : kW D ca A h0 ad H0 H locs u) (hl : lv_has ls 10 [(0, .ref h0), (3, .int (jI x3)), (4, .int (jI x4)), (5, .int (jI x5)), (6, .int (jI x6)), (7, .int (jI x7))]) (h : w_matches_73 R24 Q x3 x4 x5 x6 x7 u) : W p l e R s m args below meth c H locs 0 0 Qf (F0 m 73 ls []) := by
  have hx := X.1.1
  have hb := X.1.2.1
  unfold w_matches_73 at h
  refine lv_aload_n hx hb dX12_matches_73 rfl (lv_at hl 0 rfl) ?_
  refine lv_iload_n hx hb dX12_matches_74 rfl (lv_at hl 1 rfl) ?_
  refine lv_iload hx hb dX12_matches_75 (lv_at hl 4 rfl) ?_
  refine lv_iload hx hb dX12_matches_77 (lv_at hl 5 rfl) ?_
  refine lv_iload hx hb dX12_matches_79 (lv_at hl 2 rfl) ?_
  refine kcI (n := 4) (c_bound rx3 rx6 rx7 rx4 h) G_bound E_bound X hw (Nat.le_trans (Nat.le_of_ble_eq_true rfl) hRf) (Nat.le_trans (Nat.le_of_ble_eq_true rfl) hRl) rfl hl.1 (Nat.le_of_ble_eq_true rfl) rfl dX12_matches_81 (fun v16 u H locs rv16 h hw => ?_)
  refine k_if_ne hx hb rv16 dX12_matches_84 (tgt := 210) rfl h (fun h => ?_) (fun h => ?_)
  · refine lv_goto hx hb dX12_matches_210 (tgt := 24) rfl ?_
    exact hR24 _ _ _ _ H locs ls rx3 rx4 rx5 hw (lv_sub hl [0, 1, 2, 3] rfl) h
  · refine lv_iconst hx hb dX12_matches_87 (v := jI 0) rfl ?_
    exact hret _ _ _ _ _ _ h.1 h.2 hw dX12_matches_88

def w_matches_24b (R24 : Int → Int → Int → iST → Prop) (Q : Int → iST → Prop) (x3 : Int) (x4 : Int) (x5 : Int) (u : iST) : Prop :=
  br (x5 ≤ 0) (
    zt 1 (Q 1 u)) (
    ov (x5 + (-1)) (
    bd (x5 + (-1)) 800 (rd (u.2.1 112 (x5 + (-1))) (fun v2 => 
    bd (x5 + (-1)) 800 (rd (u.2.1 113 (x5 + (-1))) (fun v3 => 
    w_isVariable v2 (fun v4 u => 
    br (v4 = 0) (
      w_isCall v2 (fun v5 u => 
      br (v5 ≠ 0) (
        w_isCall v3 (fun v6 u => 
        br (v6 = 0) (
          zt 0 (Q 0 u)) (
          bd v2 452000 (rd (u.2.1 0 v2) (fun v7 => 
          bd v3 452000 (rd (u.2.1 0 v3) (fun v8 => 
          br (v7 = v8) (
            bd v2 452000 (rd (u.2.1 1 v2) (fun v9 => 
            bd v3 452000 (rd (u.2.1 1 v3) (fun v10 => 
            w_matches_153 R24 Q x3 x4 (x5 + (-1)) v9 v10 u))))) (
            zt 0 (Q 0 u)))))))) u) (
        br (v2 = v3) (
          R24 x3 x4 (x5 + (-1)) u) (
          zt 0 (Q 0 u)))) u) (
      br (x4 = 0) (
        w_matches_73 R24 Q x3 x4 (x5 + (-1)) v2 v3 u) (
        w_isVariable v3 (fun v17 u => 
        br (v17 = 0) (
          zt 0 (Q 0 u)) (
          w_matches_73 R24 Q x3 x4 (x5 + (-1)) v2 v3 u)) u))) u))))))
def w_matches_24 (Q : Int → iST → Prop) (x3 : Int) (x4 : Int) (x5 : Int) (u : iST) : Prop := ∀ R24 : Int → Int → Int → iST → Prop, (∀ (x3 : Int) (x4 : Int) (x5 : Int) (u : iST), w_matches_24b R24 Q x3 x4 x5 u → R24 x3 x4 x5 u) → R24 x3 x4 x5 u
set_option maxRecDepth 20000 in
set_option maxHeartbeats 4000000 in
theorem b_matches_24 (X : kX p m c cX12_matches 10 s args D ca) (hRf : 2 ≤ R.frames) (hRl : 42 ≤ R.locals) {Q : Int → iST → Prop} (hret : ∀ (v : Int) (u : iST) (H : Heap) (locs : List Loc) (ls : Array Slot) (pc : Nat), bz v → Q v u → kW D ca A h0 ad H0 H locs u → decode cX12_matches pc = .ok (.ireturn, 1) → W p l e R s m args below meth c H locs 0 0 Qf (F0 m pc ls [.int (jI v)])) {x3 x4 x5 : Int} (rx3 : inR x3) (rx4 : inR x4) (rx5 : inR x5) (hw : kW D ca A h0 ad H0 H locs u) (hl : lv_has ls 10 [(0, .ref h0), (3, .int (jI x3)), (4, .int (jI x4)), (5, .int (jI x5))]) (h : w_matches_24 Q x3 x4 x5 u) : W p l e R s m args below meth c H locs 0 0 Qf (F0 m 24 ls []) := by
  refine h (fun x3 x4 x5 u => ∀ (H : Heap) (locs : List Loc) (ls : Array Slot), inR x3 → inR x4 → inR x5 → kW D ca A h0 ad H0 H locs u → lv_has ls 10 [(0, .ref h0), (3, .int (jI x3)), (4, .int (jI x4)), (5, .int (jI x5))] → W p l e R s m args below meth c H locs 0 0 Qf (F0 m 24 ls [])) ?_ H locs ls rx3 rx4 rx5 hw hl
  clear h hl hw rx3 rx4 rx5
  intro x3 x4 x5 u h H locs ls rx3 rx4 rx5 hw hl
  have hR24 : ∀ (x3 : Int) (x4 : Int) (x5 : Int) (u : iST) (H : Heap) (locs : List Loc) (ls : Array Slot), inR x3 → inR x4 → inR x5 → kW D ca A h0 ad H0 H locs u → lv_has ls 10 [(0, .ref h0), (3, .int (jI x3)), (4, .int (jI x4)), (5, .int (jI x5))] → (fun (x3 : Int) (x4 : Int) (x5 : Int) u => ∀ (H : Heap) (locs : List Loc) (ls : Array Slot), inR x3 → inR x4 → inR x5 → kW D ca A h0 ad H0 H locs u → lv_has ls 10 [(0, .ref h0), (3, .int (jI x3)), (4, .int (jI x4)), (5, .int (jI x5))] → W p l e R s m args below meth c H locs 0 0 Qf (F0 m 24 ls [])) x3 x4 x5 u → W p l e R s m args below meth c H locs 0 0 Qf (F0 m 24 ls []) := fun x3 x4 x5 u H locs ls rx3 rx4 rx5 hw hl h => h H locs ls rx3 rx4 rx5 hw hl
  have hx := X.1.1
  have hb := X.1.2.1
  unfold w_matches_24b at h
  refine lv_iload hx hb dX12_matches_24 (lv_at hl 3 rfl) ?_
  refine k_if_le hx hb rx5 dX12_matches_26 (tgt := 213) rfl h (fun h => ?_) (fun h => ?_)
  · refine lv_iconst hx hb dX12_matches_213 (v := jI 1) rfl ?_
    exact hret _ _ _ _ _ _ h.1 h.2 hw dX12_matches_214
  · refine k_iinc (k := 3) hx hb dX12_matches_29 hl rfl (by decide) rfl h (fun ls r1 h hl => ?_)
    have hl : lv_has ls 10 [(5, .int (jI (x5 + (-1)))), (0, .ref (h0)), (3, .int (jI x3)), (4, .int (jI x4))] := hl
    refine lv_aload_n hx hb dX12_matches_32 rfl (lv_at hl 1 rfl) ?_
    refine gA 112 235 (by decide) L_112 (fun _ _ => mF_112) rfl X hw dX12_matches_33 ?_
    refine lv_iload hx hb dX12_matches_36 (lv_at hl 0 rfl) ?_
    refine aL 112 71 70 800 (fun _ _ _ _ => mG_112) (fun _ => rfl) X hw r1 dX12_matches_38 rfl h (fun v2 rv2 h => ?_)
    refine lv_istore hx hb dX12_matches_39 hl (by decide) rfl (fun ls hl => ?_)
    have hl : lv_has ls 10 [(6, .int (jI v2)), (5, .int (jI (x5 + (-1)))), (0, .ref (h0)), (3, .int (jI x3)), (4, .int (jI x4))] := hl
    refine lv_aload_n hx hb dX12_matches_41 rfl (lv_at hl 2 rfl) ?_
    refine gA 113 238 (by decide) L_113 (fun _ _ => mF_113) rfl X hw dX12_matches_42 ?_
    refine lv_iload hx hb dX12_matches_45 (lv_at hl 1 rfl) ?_
    refine aL 113 72 71 800 (fun _ _ _ _ => mG_113) (fun _ => rfl) X hw r1 dX12_matches_47 rfl h (fun v3 rv3 h => ?_)
    refine lv_istore hx hb dX12_matches_48 hl (by decide) rfl (fun ls hl => ?_)
    have hl : lv_has ls 10 [(7, .int (jI v3)), (6, .int (jI v2)), (5, .int (jI (x5 + (-1)))), (0, .ref (h0)), (3, .int (jI x3)), (4, .int (jI x4))] := hl
    refine lv_aload_n hx hb dX12_matches_50 rfl (lv_at hl 3 rfl) ?_
    refine lv_iload hx hb dX12_matches_51 (lv_at hl 1 rfl) ?_
    refine kcI (n := 1) (c_isVariable rv2 h) G_isVariable E_isVariable X hw (Nat.le_trans (Nat.le_of_ble_eq_true rfl) hRf) (Nat.le_trans (Nat.le_of_ble_eq_true rfl) hRl) rfl hl.1 (Nat.le_of_ble_eq_true rfl) rfl dX12_matches_53 (fun v4 u H locs rv4 h hw => ?_)
    refine k_if_eq hx hb rv4 dX12_matches_56 (tgt := 89) rfl h (fun h => ?_) (fun h => ?_)
    · refine lv_aload_n hx hb dX12_matches_89 rfl (lv_at hl 3 rfl) ?_
      refine lv_iload hx hb dX12_matches_90 (lv_at hl 1 rfl) ?_
      refine kcI (n := 1) (c_isCall rv2 h) G_isCall E_isCall X hw (Nat.le_trans (Nat.le_of_ble_eq_true rfl) hRf) (Nat.le_trans (Nat.le_of_ble_eq_true rfl) hRl) rfl hl.1 (Nat.le_of_ble_eq_true rfl) rfl dX12_matches_92 (fun v5 u H locs rv5 h hw => ?_)
      refine k_if_ne hx hb rv5 dX12_matches_95 (tgt := 107) rfl h (fun h => ?_) (fun h => ?_)
      · refine lv_aload_n hx hb dX12_matches_107 rfl (lv_at hl 3 rfl) ?_
        refine lv_iload hx hb dX12_matches_108 (lv_at hl 0 rfl) ?_
        refine kcI (n := 1) (c_isCall rv3 h) G_isCall E_isCall X hw (Nat.le_trans (Nat.le_of_ble_eq_true rfl) hRf) (Nat.le_trans (Nat.le_of_ble_eq_true rfl) hRl) rfl hl.1 (Nat.le_of_ble_eq_true rfl) rfl dX12_matches_110 (fun v6 u H locs rv6 h hw => ?_)
        refine k_if_eq hx hb rv6 dX12_matches_113 (tgt := 133) rfl h (fun h => ?_) (fun h => ?_)
        · refine lv_iconst hx hb dX12_matches_133 (v := jI 0) rfl ?_
          exact hret _ _ _ _ _ _ h.1 h.2 hw dX12_matches_134
        · refine lv_aload_n hx hb dX12_matches_116 rfl (lv_at hl 3 rfl) ?_
          refine gA 0 8 (by decide) L_0 (fun _ _ => mF_0) rfl X hw dX12_matches_117 ?_
          refine lv_iload hx hb dX12_matches_120 (lv_at hl 1 rfl) ?_
          refine aL 0 1 0 452000 (fun _ _ _ _ => mG_0) (fun _ => rfl) X hw rv2 dX12_matches_122 rfl h (fun v7 rv7 h => ?_)
          refine lv_aload_n hx hb dX12_matches_123 rfl (lv_at hl 3 rfl) ?_
          refine gA 0 8 (by decide) L_0 (fun _ _ => mF_0) rfl X hw dX12_matches_124 ?_
          refine lv_iload hx hb dX12_matches_127 (lv_at hl 0 rfl) ?_
          refine aL 0 1 0 452000 (fun _ _ _ _ => mG_0) (fun _ => rfl) X hw rv3 dX12_matches_129 rfl h (fun v8 rv8 h => ?_)
          refine k_icmp_eq hx hb rv7 rv8 dX12_matches_130 (tgt := 135) rfl h (fun h => ?_) (fun h => ?_)
          · refine lv_aload_n hx hb dX12_matches_135 rfl (lv_at hl 3 rfl) ?_
            refine gA 1 14 (by decide) L_1 (fun _ _ => mF_1) rfl X hw dX12_matches_136 ?_
            refine lv_iload hx hb dX12_matches_139 (lv_at hl 1 rfl) ?_
            refine aL 1 2 1 452000 (fun _ _ _ _ => mG_1) (fun _ => rfl) X hw rv2 dX12_matches_141 rfl h (fun v9 rv9 h => ?_)
            refine lv_istore hx hb dX12_matches_142 hl (by decide) rfl (fun ls hl => ?_)
            have hl : lv_has ls 10 [(8, .int (jI v9)), (7, .int (jI v3)), (6, .int (jI v2)), (5, .int (jI (x5 + (-1)))), (0, .ref (h0)), (3, .int (jI x3)), (4, .int (jI x4))] := hl
            refine lv_aload_n hx hb dX12_matches_144 rfl (lv_at hl 4 rfl) ?_
            refine gA 1 14 (by decide) L_1 (fun _ _ => mF_1) rfl X hw dX12_matches_145 ?_
            refine lv_iload hx hb dX12_matches_148 (lv_at hl 1 rfl) ?_
            refine aL 1 2 1 452000 (fun _ _ _ _ => mG_1) (fun _ => rfl) X hw rv3 dX12_matches_150 rfl h (fun v10 rv10 h => ?_)
            refine lv_istore hx hb dX12_matches_151 hl (by decide) rfl (fun ls hl => ?_)
            have hl : lv_has ls 10 [(9, .int (jI v10)), (8, .int (jI v9)), (7, .int (jI v3)), (6, .int (jI v2)), (5, .int (jI (x5 + (-1)))), (0, .ref (h0)), (3, .int (jI x3)), (4, .int (jI x4))] := hl
            exact b_matches_153 X hRf hRl hret hR24 rx3 rx4 r1 rv9 rv10 hw (lv_sub hl [5, 6, 7, 4, 1, 0] rfl) h
          · refine lv_iconst hx hb dX12_matches_133 (v := jI 0) rfl ?_
            exact hret _ _ _ _ _ _ h.1 h.2 hw dX12_matches_134
      · refine lv_iload hx hb dX12_matches_98 (lv_at hl 1 rfl) ?_
        refine lv_iload hx hb dX12_matches_100 (lv_at hl 0 rfl) ?_
        refine k_icmp_eq hx hb rv2 rv3 dX12_matches_102 (tgt := 210) rfl h (fun h => ?_) (fun h => ?_)
        · refine lv_goto hx hb dX12_matches_210 (tgt := 24) rfl ?_
          exact hR24 _ _ _ _ H locs ls rx3 rx4 r1 hw (lv_sub hl [3, 4, 5, 2] rfl) h
        · refine lv_iconst hx hb dX12_matches_105 (v := jI 0) rfl ?_
          exact hret _ _ _ _ _ _ h.1 h.2 hw dX12_matches_106
    · refine lv_iload hx hb dX12_matches_59 (lv_at hl 5 rfl) ?_
      refine k_if_eq hx hb rx4 dX12_matches_61 (tgt := 73) rfl h (fun h => ?_) (fun h => ?_)
      · exact b_matches_73 X hRf hRl hret hR24 rx3 rx4 r1 rv2 rv3 hw (lv_sub hl [3, 4, 5, 2, 1, 0] rfl) h
      · refine lv_aload_n hx hb dX12_matches_64 rfl (lv_at hl 3 rfl) ?_
        refine lv_iload hx hb dX12_matches_65 (lv_at hl 0 rfl) ?_
        refine kcI (n := 1) (c_isVariable rv3 h) G_isVariable E_isVariable X hw (Nat.le_trans (Nat.le_of_ble_eq_true rfl) hRf) (Nat.le_trans (Nat.le_of_ble_eq_true rfl) hRl) rfl hl.1 (Nat.le_of_ble_eq_true rfl) rfl dX12_matches_67 (fun v17 u H locs rv17 h hw => ?_)
        refine k_if_eq hx hb rv17 dX12_matches_70 (tgt := 87) rfl h (fun h => ?_) (fun h => ?_)
        · refine lv_iconst hx hb dX12_matches_87 (v := jI 0) rfl ?_
          exact hret _ _ _ _ _ _ h.1 h.2 hw dX12_matches_88
        · exact b_matches_73 X hRf hRl hret hR24 rx3 rx4 r1 rv2 rv3 hw (lv_sub hl [3, 4, 5, 2, 1, 0] rfl) h

def w_matches (a0 : Int) (a1 : Int) (a2 : Int) (a3 : Int) (Q : Int → iST → Prop) (u : iST) : Prop :=
  bd 0 800 (sw (iA u 112 0 a0) (fun u => 
  bd 0 800 (sw (iA u 113 0 a1) (fun u => 
  bd a2 60 (sw (iA u 107 a2 0) (fun u => 
  w_matches_24 Q a2 a3 1 u))))))
set_option maxRecDepth 20000 in
set_option maxHeartbeats 4000000 in
theorem b_matches_s (X : kX p m c cX12_matches 10 s args D ca) (hRf : 2 ≤ R.frames) (hRl : 42 ≤ R.locals) {Q : Int → iST → Prop} (hret : ∀ (v : Int) (u : iST) (H : Heap) (locs : List Loc) (ls : Array Slot) (pc : Nat), bz v → Q v u → kW D ca A h0 ad H0 H locs u → decode cX12_matches pc = .ok (.ireturn, 1) → W p l e R s m args below meth c H locs 0 0 Qf (F0 m pc ls [.int (jI v)])) {a0 a1 a2 a3 : Int} (ra0 : inR a0) (ra1 : inR a1) (ra2 : inR a2) (ra3 : inR a3) (hw : kW D ca A h0 ad H0 H locs u) (hl : lv_has ls 10 [(0, .ref h0), (1, .int (jI a0)), (2, .int (jI a1)), (3, .int (jI a2)), (4, .int (jI a3))]) (h : w_matches a0 a1 a2 a3 Q u) : W p l e R s m args below meth c H locs 0 0 Qf (F0 m 0 ls []) := by
  have hx := X.1.1
  have hb := X.1.2.1
  unfold w_matches at h
  refine lv_iconst hx hb dX12_matches_0 (v := jI 1) rfl ?_
  refine lv_istore hx hb dX12_matches_1 hl (by decide) rfl (fun ls hl => ?_)
  have hl : lv_has ls 10 [(5, .int (jI 1)), (0, .ref (h0)), (1, .int (jI a0)), (2, .int (jI a1)), (3, .int (jI a2)), (4, .int (jI a3))] := hl
  refine lv_aload_n hx hb dX12_matches_3 rfl (lv_at hl 1 rfl) ?_
  refine gA 112 235 (by decide) L_112 (fun _ _ => mF_112) rfl X hw dX12_matches_4 ?_
  refine lv_iconst hx hb dX12_matches_7 (v := jI 0) rfl ?_
  refine lv_iload_n hx hb dX12_matches_8 rfl (lv_at hl 2 rfl) ?_
  refine aS 112 71 70 800 (fun _ _ _ _ => mG_112) (fun _ => rfl) (fun _ _ _ _ _ _ => mSA_112) (by decide) X hw (by decide) ra0 dX12_matches_9 rfl h (fun H locs u hw h => ?_)
  refine lv_aload_n hx hb dX12_matches_10 rfl (lv_at hl 1 rfl) ?_
  refine gA 113 238 (by decide) L_113 (fun _ _ => mF_113) rfl X hw dX12_matches_11 ?_
  refine lv_iconst hx hb dX12_matches_14 (v := jI 0) rfl ?_
  refine lv_iload_n hx hb dX12_matches_15 rfl (lv_at hl 3 rfl) ?_
  refine aS 113 72 71 800 (fun _ _ _ _ => mG_113) (fun _ => rfl) (fun _ _ _ _ _ _ => mSA_113) (by decide) X hw (by decide) ra1 dX12_matches_16 rfl h (fun H locs u hw h => ?_)
  refine lv_aload_n hx hb dX12_matches_17 rfl (lv_at hl 1 rfl) ?_
  refine gA 107 229 (by decide) L_107 (fun _ _ => mF_107) rfl X hw dX12_matches_18 ?_
  refine lv_iload_n hx hb dX12_matches_21 rfl (lv_at hl 4 rfl) ?_
  refine lv_iconst hx hb dX12_matches_22 (v := jI 0) rfl ?_
  refine aS 107 69 68 60 (fun _ _ _ _ => mG_107) (fun _ => rfl) (fun _ _ _ _ _ _ => mSA_107) (by decide) X hw ra2 (by decide) dX12_matches_23 rfl h (fun H locs u hw h => ?_)
  exact b_matches_24 X hRf hRl hret ra2 ra3 (by decide) hw (lv_sub hl [1, 4, 5, 0] rfl) h

end
theorem c_matches {l : Launch} {a0 : Int} {a1 : Int} {a2 : Int} {a3 : Int} (ra0 : inR a0) (ra1 : inR a1) (ra2 : inR a2) (ra3 : inR a3) {Q : Int → iST → Prop} {u : iST} (h : w_matches a0 a1 a2 a3 Q u) : kMI l yX12_matches (.code yX12_matches cX12_matches 10 (some .boolean) :: wsM) { frames := 2, cells := 0, slots := 0, locals := 42 } [.int (jI a0), .int (jI a1), .int (jI a2), .int (jI a3)] Q u := kMZ_of rfl (fun _ => Nat.le_of_ble_eq_true rfl) (fun X hRf hRl hret hw hl => b_matches_s X hRf hRl hret ra0 ra1 ra2 ra3 hw hl h)

/-! takePairs -/
theorem dX12_takePairs_0 : decode cX12_takePairs 0 = .ok (.aload_n 0, 1) := by decide +kernel
theorem dX12_takePairs_1 : decode cX12_takePairs 1 = .ok (.aload_n 0, 1) := by decide +kernel
theorem dX12_takePairs_2 : decode cX12_takePairs 2 = .ok (.getfield 229, 3) := by decide +kernel
theorem dX12_takePairs_5 : decode cX12_takePairs 5 = .ok (.iload_n 1, 1) := by decide +kernel
theorem dX12_takePairs_6 : decode cX12_takePairs 6 = .ok (.iaload, 1) := by decide +kernel
theorem dX12_takePairs_7 : decode cX12_takePairs 7 = .ok (.putfield 495, 3) := by decide +kernel
theorem dX12_takePairs_10 : decode cX12_takePairs 10 = .ok (.iconst 0, 1) := by decide +kernel
theorem dX12_takePairs_11 : decode cX12_takePairs 11 = .ok (.istore_n 2, 1) := by decide +kernel
theorem dX12_takePairs_12 : decode cX12_takePairs 12 = .ok (.iload_n 2, 1) := by decide +kernel
theorem dX12_takePairs_13 : decode cX12_takePairs 13 = .ok (.aload_n 0, 1) := by decide +kernel
theorem dX12_takePairs_14 : decode cX12_takePairs 14 = .ok (.getfield 495, 3) := by decide +kernel
theorem dX12_takePairs_17 : decode cX12_takePairs 17 = .ok (.if_icmp .ge 45, 3) := by decide +kernel
theorem dX12_takePairs_20 : decode cX12_takePairs 20 = .ok (.aload_n 0, 1) := by decide +kernel
theorem dX12_takePairs_21 : decode cX12_takePairs 21 = .ok (.getfield 157, 3) := by decide +kernel
theorem dX12_takePairs_24 : decode cX12_takePairs 24 = .ok (.iload_n 2, 1) := by decide +kernel
theorem dX12_takePairs_25 : decode cX12_takePairs 25 = .ok (.aload_n 0, 1) := by decide +kernel
theorem dX12_takePairs_26 : decode cX12_takePairs 26 = .ok (.getfield 223, 3) := by decide +kernel
theorem dX12_takePairs_29 : decode cX12_takePairs 29 = .ok (.sipush 130, 3) := by decide +kernel
theorem dX12_takePairs_32 : decode cX12_takePairs 32 = .ok (.iload_n 1, 1) := by decide +kernel
theorem dX12_takePairs_33 : decode cX12_takePairs 33 = .ok (.imul, 1) := by decide +kernel
theorem dX12_takePairs_34 : decode cX12_takePairs 34 = .ok (.iload_n 2, 1) := by decide +kernel
theorem dX12_takePairs_35 : decode cX12_takePairs 35 = .ok (.iadd, 1) := by decide +kernel
theorem dX12_takePairs_36 : decode cX12_takePairs 36 = .ok (.iaload, 1) := by decide +kernel
theorem dX12_takePairs_37 : decode cX12_takePairs 37 = .ok (.iastore, 1) := by decide +kernel
theorem dX12_takePairs_38 : decode cX12_takePairs 38 = .ok (.aload_n 0, 1) := by decide +kernel
theorem dX12_takePairs_39 : decode cX12_takePairs 39 = .ok (.getfield 160, 3) := by decide +kernel
theorem dX12_takePairs_42 : decode cX12_takePairs 42 = .ok (.iload_n 2, 1) := by decide +kernel
theorem dX12_takePairs_43 : decode cX12_takePairs 43 = .ok (.aload_n 0, 1) := by decide +kernel
theorem dX12_takePairs_44 : decode cX12_takePairs 44 = .ok (.getfield 226, 3) := by decide +kernel
theorem dX12_takePairs_47 : decode cX12_takePairs 47 = .ok (.sipush 130, 3) := by decide +kernel
theorem dX12_takePairs_50 : decode cX12_takePairs 50 = .ok (.iload_n 1, 1) := by decide +kernel
theorem dX12_takePairs_51 : decode cX12_takePairs 51 = .ok (.imul, 1) := by decide +kernel
theorem dX12_takePairs_52 : decode cX12_takePairs 52 = .ok (.iload_n 2, 1) := by decide +kernel
theorem dX12_takePairs_53 : decode cX12_takePairs 53 = .ok (.iadd, 1) := by decide +kernel
theorem dX12_takePairs_54 : decode cX12_takePairs 54 = .ok (.iaload, 1) := by decide +kernel
theorem dX12_takePairs_55 : decode cX12_takePairs 55 = .ok (.iastore, 1) := by decide +kernel
theorem dX12_takePairs_56 : decode cX12_takePairs 56 = .ok (.iinc 2 1, 3) := by decide +kernel
theorem dX12_takePairs_59 : decode cX12_takePairs 59 = .ok (.goto (-47), 3) := by decide +kernel
theorem dX12_takePairs_62 : decode cX12_takePairs 62 = .ok (.return_, 1) := by decide +kernel

section
variable {p : Program} {l : Launch} {e : Env} {R : Room} {s : State} {m : MethodId} {args : Array Value} {below : List Frame} {meth : Method} {c : Code} {H : Heap} {locs : List Loc} {Qf : State → Prop}
variable {ls : Array Slot} {D : va_G} {ca : Nat → ClassId} {A : Nat → Prop} {h0 : Nat} {ad : Nat → Nat} {H0 : Heap} {u : iST}
def w_takePairs_12b (R12 : Int → Int → iST → Prop) (Q : iST → Prop) (x1 : Int) (x2 : Int) (u : iST) : Prop :=
  rd (u.1 74) (fun v2 => 
  br (v2 ≤ x2) (
    Q u) (
    ov (130 * x1) (
    ov ((130 * x1) + x2) (
    bd ((130 * x1) + x2) 7800 (rd (u.2.1 105 ((130 * x1) + x2)) (fun v5 => 
    bd x2 400 (sw (iA u 72 x2 v5) (fun u => 
    ov (130 * x1) (
    ov ((130 * x1) + x2) (
    bd ((130 * x1) + x2) 7800 (rd (u.2.1 106 ((130 * x1) + x2)) (fun v8 => 
    bd x2 400 (sw (iA u 73 x2 v8) (fun u => 
    ov (x2 + 1) (
    R12 x1 (x2 + 1) u)))))))))))))))
def w_takePairs_12 (Q : iST → Prop) (x1 : Int) (x2 : Int) (u : iST) : Prop := ∀ R12 : Int → Int → iST → Prop, (∀ (x1 : Int) (x2 : Int) (u : iST), w_takePairs_12b R12 Q x1 x2 u → R12 x1 x2 u) → R12 x1 x2 u
set_option maxRecDepth 20000 in
set_option maxHeartbeats 4000000 in
theorem b_takePairs_12 (X : kX p m c cX12_takePairs 3 s args D ca) (hRf : 0 ≤ R.frames) (hRl : 0 ≤ R.locals) {Q : iST → Prop} (hret : ∀ (u : iST) (H : Heap) (locs : List Loc) (ls : Array Slot) (pc : Nat), Q u → kW D ca A h0 ad H0 H locs u → decode cX12_takePairs pc = .ok (.return_, 1) → W p l e R s m args below meth c H locs 0 0 Qf (F0 m pc ls [])) {x1 x2 : Int} (rx1 : inR x1) (rx2 : inR x2) (hw : kW D ca A h0 ad H0 H locs u) (hl : lv_has ls 3 [(0, .ref h0), (1, .int (jI x1)), (2, .int (jI x2))]) (h : w_takePairs_12 Q x1 x2 u) : W p l e R s m args below meth c H locs 0 0 Qf (F0 m 12 ls []) := by
  refine h (fun x1 x2 u => ∀ (H : Heap) (locs : List Loc) (ls : Array Slot), inR x1 → inR x2 → kW D ca A h0 ad H0 H locs u → lv_has ls 3 [(0, .ref h0), (1, .int (jI x1)), (2, .int (jI x2))] → W p l e R s m args below meth c H locs 0 0 Qf (F0 m 12 ls [])) ?_ H locs ls rx1 rx2 hw hl
  clear h hl hw rx1 rx2
  intro x1 x2 u h H locs ls rx1 rx2 hw hl
  have hR12 : ∀ (x1 : Int) (x2 : Int) (u : iST) (H : Heap) (locs : List Loc) (ls : Array Slot), inR x1 → inR x2 → kW D ca A h0 ad H0 H locs u → lv_has ls 3 [(0, .ref h0), (1, .int (jI x1)), (2, .int (jI x2))] → (fun (x1 : Int) (x2 : Int) u => ∀ (H : Heap) (locs : List Loc) (ls : Array Slot), inR x1 → inR x2 → kW D ca A h0 ad H0 H locs u → lv_has ls 3 [(0, .ref h0), (1, .int (jI x1)), (2, .int (jI x2))] → W p l e R s m args below meth c H locs 0 0 Qf (F0 m 12 ls [])) x1 x2 u → W p l e R s m args below meth c H locs 0 0 Qf (F0 m 12 ls []) := fun x1 x2 u H locs ls rx1 rx2 hw hl h => h H locs ls rx1 rx2 hw hl
  have hx := X.1.1
  have hb := X.1.2.1
  unfold w_takePairs_12b at h
  refine lv_iload_n hx hb dX12_takePairs_12 rfl (lv_at hl 2 rfl) ?_
  refine lv_aload_n hx hb dX12_takePairs_13 rfl (lv_at hl 0 rfl) ?_
  refine gS 74 495 (by decide) L_74 (fun _ _ => mF_74) rfl X hw dX12_takePairs_14 h (fun v2 rv2 h => ?_)
  refine k_icmp_ge hx hb rx2 rv2 dX12_takePairs_17 (tgt := 62) rfl h (fun h => ?_) (fun h => ?_)
  · exact hret _ _ _ _ _ h hw dX12_takePairs_62
  · refine lv_aload_n hx hb dX12_takePairs_20 rfl (lv_at hl 0 rfl) ?_
    refine gA 72 157 (by decide) L_72 (fun _ _ => mF_72) rfl X hw dX12_takePairs_21 ?_
    refine lv_iload_n hx hb dX12_takePairs_24 rfl (lv_at hl 2 rfl) ?_
    refine lv_aload_n hx hb dX12_takePairs_25 rfl (lv_at hl 0 rfl) ?_
    refine gA 105 223 (by decide) L_105 (fun _ _ => mF_105) rfl X hw dX12_takePairs_26 ?_
    refine lv_sipush hx hb dX12_takePairs_29 (v := jI 130) rfl ?_
    refine lv_iload_n hx hb dX12_takePairs_32 rfl (lv_at hl 1 rfl) ?_
    refine k_imul hx hb dX12_takePairs_33 h (fun r3 h => ?_)
    refine lv_iload_n hx hb dX12_takePairs_34 rfl (lv_at hl 2 rfl) ?_
    refine k_iadd hx hb dX12_takePairs_35 h (fun r4 h => ?_)
    refine aL 105 67 66 7800 (fun _ _ _ _ => mG_105) (fun _ => rfl) X hw r4 dX12_takePairs_36 rfl h (fun v5 rv5 h => ?_)
    refine aS 72 45 44 400 (fun _ _ _ _ => mG_72) (fun _ => rfl) (fun _ _ _ _ _ _ => mSA_72) (by decide) X hw rx2 rv5 dX12_takePairs_37 rfl h (fun H locs u hw h => ?_)
    refine lv_aload_n hx hb dX12_takePairs_38 rfl (lv_at hl 0 rfl) ?_
    refine gA 73 160 (by decide) L_73 (fun _ _ => mF_73) rfl X hw dX12_takePairs_39 ?_
    refine lv_iload_n hx hb dX12_takePairs_42 rfl (lv_at hl 2 rfl) ?_
    refine lv_aload_n hx hb dX12_takePairs_43 rfl (lv_at hl 0 rfl) ?_
    refine gA 106 226 (by decide) L_106 (fun _ _ => mF_106) rfl X hw dX12_takePairs_44 ?_
    refine lv_sipush hx hb dX12_takePairs_47 (v := jI 130) rfl ?_
    refine lv_iload_n hx hb dX12_takePairs_50 rfl (lv_at hl 1 rfl) ?_
    refine k_imul hx hb dX12_takePairs_51 h (fun r6 h => ?_)
    refine lv_iload_n hx hb dX12_takePairs_52 rfl (lv_at hl 2 rfl) ?_
    refine k_iadd hx hb dX12_takePairs_53 h (fun r7 h => ?_)
    refine aL 106 68 67 7800 (fun _ _ _ _ => mG_106) (fun _ => rfl) X hw r7 dX12_takePairs_54 rfl h (fun v8 rv8 h => ?_)
    refine aS 73 46 45 400 (fun _ _ _ _ => mG_73) (fun _ => rfl) (fun _ _ _ _ _ _ => mSA_73) (by decide) X hw rx2 rv8 dX12_takePairs_55 rfl h (fun H locs u hw h => ?_)
    refine k_iinc (k := 2) hx hb dX12_takePairs_56 hl rfl (by decide) rfl h (fun ls r9 h hl => ?_)
    have hl : lv_has ls 3 [(2, .int (jI (x2 + 1))), (0, .ref (h0)), (1, .int (jI x1))] := hl
    refine lv_goto hx hb dX12_takePairs_59 (tgt := 12) rfl ?_
    exact hR12 _ _ _ H locs ls rx1 r9 hw (lv_sub hl [1, 2, 0] rfl) h

def w_takePairs (a0 : Int) (Q : iST → Prop) (u : iST) : Prop :=
  bd a0 60 (rd (u.2.1 107 a0) (fun v1 => 
  sw (iI u 74 v1) (fun u => 
  w_takePairs_12 Q a0 0 u)))
set_option maxRecDepth 20000 in
set_option maxHeartbeats 4000000 in
theorem b_takePairs_s (X : kX p m c cX12_takePairs 3 s args D ca) (hRf : 0 ≤ R.frames) (hRl : 0 ≤ R.locals) {Q : iST → Prop} (hret : ∀ (u : iST) (H : Heap) (locs : List Loc) (ls : Array Slot) (pc : Nat), Q u → kW D ca A h0 ad H0 H locs u → decode cX12_takePairs pc = .ok (.return_, 1) → W p l e R s m args below meth c H locs 0 0 Qf (F0 m pc ls [])) {a0 : Int} (ra0 : inR a0) (hw : kW D ca A h0 ad H0 H locs u) (hl : lv_has ls 3 [(0, .ref h0), (1, .int (jI a0))]) (h : w_takePairs a0 Q u) : W p l e R s m args below meth c H locs 0 0 Qf (F0 m 0 ls []) := by
  have hx := X.1.1
  have hb := X.1.2.1
  unfold w_takePairs at h
  refine lv_aload_n hx hb dX12_takePairs_0 rfl (lv_at hl 0 rfl) ?_
  refine lv_aload_n hx hb dX12_takePairs_1 rfl (lv_at hl 0 rfl) ?_
  refine gA 107 229 (by decide) L_107 (fun _ _ => mF_107) rfl X hw dX12_takePairs_2 ?_
  refine lv_iload_n hx hb dX12_takePairs_5 rfl (lv_at hl 1 rfl) ?_
  refine aL 107 69 68 60 (fun _ _ _ _ => mG_107) (fun _ => rfl) X hw ra0 dX12_takePairs_6 rfl h (fun v1 rv1 h => ?_)
  refine pS 74 495 (by decide) L_74 rfl rfl rfl (fun _ _ _ _ _ => mSI_74) (by decide) X hw rv1 dX12_takePairs_7 h (fun H locs u hw h => ?_)
  refine lv_iconst hx hb dX12_takePairs_10 (v := jI 0) rfl ?_
  refine lv_istore_n hx hb dX12_takePairs_11 rfl hl (by decide) rfl (fun ls hl => ?_)
  have hl : lv_has ls 3 [(2, .int (jI 0)), (0, .ref (h0)), (1, .int (jI a0))] := hl
  exact b_takePairs_12 X hRf hRl hret ra0 (by decide) hw (lv_sub hl [1, 2, 0] rfl) h

end
theorem c_takePairs {l : Launch} {a0 : Int} (ra0 : inR a0) {Q : iST → Prop} {u : iST} (h : w_takePairs a0 Q u) : kMV l yX12_takePairs (.code yX12_takePairs cX12_takePairs 3 none :: wsM) { frames := 0, cells := 0, slots := 0, locals := 0 } [.int (jI a0)] Q u := kMV_of rfl (fun _ => Nat.le_of_ble_eq_true rfl) (fun X hRf hRl hret hw hl => b_takePairs_s X hRf hRl hret ra0 hw hl h)

/-! nextHypothesis -/
theorem dX12_nextHypothesis_0 : decode cX12_nextHypothesis 0 = .ok (.aload_n 0, 1) := by decide +kernel
theorem dX12_nextHypothesis_1 : decode cX12_nextHypothesis 1 = .ok (.getfield 214, 3) := by decide +kernel
theorem dX12_nextHypothesis_4 : decode cX12_nextHypothesis 4 = .ok (.iload_n 1, 1) := by decide +kernel
theorem dX12_nextHypothesis_5 : decode cX12_nextHypothesis 5 = .ok (.iaload, 1) := by decide +kernel
theorem dX12_nextHypothesis_6 : decode cX12_nextHypothesis 6 = .ok (.istore_n 2, 1) := by decide +kernel
theorem dX12_nextHypothesis_7 : decode cX12_nextHypothesis 7 = .ok (.aload_n 0, 1) := by decide +kernel
theorem dX12_nextHypothesis_8 : decode cX12_nextHypothesis 8 = .ok (.iload_n 1, 1) := by decide +kernel
theorem dX12_nextHypothesis_9 : decode cX12_nextHypothesis 9 = .ok (.invokevirtual 709, 3) := by decide +kernel
theorem dX12_nextHypothesis_12 : decode cX12_nextHypothesis 12 = .ok (.aload_n 0, 1) := by decide +kernel
theorem dX12_nextHypothesis_13 : decode cX12_nextHypothesis 13 = .ok (.getfield 217, 3) := by decide +kernel
theorem dX12_nextHypothesis_16 : decode cX12_nextHypothesis 16 = .ok (.iload_n 1, 1) := by decide +kernel
theorem dX12_nextHypothesis_17 : decode cX12_nextHypothesis 17 = .ok (.iaload, 1) := by decide +kernel
theorem dX12_nextHypothesis_18 : decode cX12_nextHypothesis 18 = .ok (.aload_n 0, 1) := by decide +kernel
theorem dX12_nextHypothesis_19 : decode cX12_nextHypothesis 19 = .ok (.getfield 112, 3) := by decide +kernel
theorem dX12_nextHypothesis_22 : decode cX12_nextHypothesis 22 = .ok (.iload_n 2, 1) := by decide +kernel
theorem dX12_nextHypothesis_23 : decode cX12_nextHypothesis 23 = .ok (.iaload, 1) := by decide +kernel
theorem dX12_nextHypothesis_24 : decode cX12_nextHypothesis 24 = .ok (.if_icmp .ne 20, 3) := by decide +kernel
theorem dX12_nextHypothesis_27 : decode cX12_nextHypothesis 27 = .ok (.aload_n 0, 1) := by decide +kernel
theorem dX12_nextHypothesis_28 : decode cX12_nextHypothesis 28 = .ok (.aload_n 0, 1) := by decide +kernel
theorem dX12_nextHypothesis_29 : decode cX12_nextHypothesis 29 = .ok (.getfield 109, 3) := by decide +kernel
theorem dX12_nextHypothesis_32 : decode cX12_nextHypothesis 32 = .ok (.iload_n 2, 1) := by decide +kernel
theorem dX12_nextHypothesis_33 : decode cX12_nextHypothesis 33 = .ok (.iaload, 1) := by decide +kernel
theorem dX12_nextHypothesis_34 : decode cX12_nextHypothesis 34 = .ok (.invokevirtual 712, 3) := by decide +kernel
theorem dX12_nextHypothesis_37 : decode cX12_nextHypothesis 37 = .ok (.istore_n 3, 1) := by decide +kernel
theorem dX12_nextHypothesis_38 : decode cX12_nextHypothesis 38 = .ok (.aload_n 0, 1) := by decide +kernel
theorem dX12_nextHypothesis_39 : decode cX12_nextHypothesis 39 = .ok (.iload_n 3, 1) := by decide +kernel
theorem dX12_nextHypothesis_40 : decode cX12_nextHypothesis 40 = .ok (.invokevirtual 644, 3) := by decide +kernel
theorem dX12_nextHypothesis_43 : decode cX12_nextHypothesis 43 = .ok (.return_, 1) := by decide +kernel
theorem dX12_nextHypothesis_44 : decode cX12_nextHypothesis 44 = .ok (.aload_n 0, 1) := by decide +kernel
theorem dX12_nextHypothesis_45 : decode cX12_nextHypothesis 45 = .ok (.aload_n 0, 1) := by decide +kernel
theorem dX12_nextHypothesis_46 : decode cX12_nextHypothesis 46 = .ok (.getfield 115, 3) := by decide +kernel
theorem dX12_nextHypothesis_49 : decode cX12_nextHypothesis 49 = .ok (.bipush 120, 2) := by decide +kernel
theorem dX12_nextHypothesis_51 : decode cX12_nextHypothesis 51 = .ok (.iload_n 2, 1) := by decide +kernel
theorem dX12_nextHypothesis_52 : decode cX12_nextHypothesis 52 = .ok (.imul, 1) := by decide +kernel
theorem dX12_nextHypothesis_53 : decode cX12_nextHypothesis 53 = .ok (.aload_n 0, 1) := by decide +kernel
theorem dX12_nextHypothesis_54 : decode cX12_nextHypothesis 54 = .ok (.getfield 217, 3) := by decide +kernel
theorem dX12_nextHypothesis_57 : decode cX12_nextHypothesis 57 = .ok (.iload_n 1, 1) := by decide +kernel
theorem dX12_nextHypothesis_58 : decode cX12_nextHypothesis 58 = .ok (.iaload, 1) := by decide +kernel
theorem dX12_nextHypothesis_59 : decode cX12_nextHypothesis 59 = .ok (.iadd, 1) := by decide +kernel
theorem dX12_nextHypothesis_60 : decode cX12_nextHypothesis 60 = .ok (.iaload, 1) := by decide +kernel
theorem dX12_nextHypothesis_61 : decode cX12_nextHypothesis 61 = .ok (.invokevirtual 712, 3) := by decide +kernel
theorem dX12_nextHypothesis_64 : decode cX12_nextHypothesis 64 = .ok (.istore_n 3, 1) := by decide +kernel
theorem dX12_nextHypothesis_65 : decode cX12_nextHypothesis 65 = .ok (.aload_n 0, 1) := by decide +kernel
theorem dX12_nextHypothesis_66 : decode cX12_nextHypothesis 66 = .ok (.getfield 196, 3) := by decide +kernel
theorem dX12_nextHypothesis_69 : decode cX12_nextHypothesis 69 = .ok (.iload_n 1, 1) := by decide +kernel
theorem dX12_nextHypothesis_70 : decode cX12_nextHypothesis 70 = .ok (.bipush 31, 2) := by decide +kernel
theorem dX12_nextHypothesis_72 : decode cX12_nextHypothesis 72 = .ok (.iastore, 1) := by decide +kernel
theorem dX12_nextHypothesis_73 : decode cX12_nextHypothesis 73 = .ok (.aload_n 0, 1) := by decide +kernel
theorem dX12_nextHypothesis_74 : decode cX12_nextHypothesis 74 = .ok (.iload_n 3, 1) := by decide +kernel
theorem dX12_nextHypothesis_75 : decode cX12_nextHypothesis 75 = .ok (.iconst 1, 1) := by decide +kernel
theorem dX12_nextHypothesis_76 : decode cX12_nextHypothesis 76 = .ok (.invokevirtual 621, 3) := by decide +kernel
theorem dX12_nextHypothesis_79 : decode cX12_nextHypothesis 79 = .ok (.return_, 1) := by decide +kernel

section
variable {p : Program} {l : Launch} {e : Env} {R : Room} {s : State} {m : MethodId} {args : Array Value} {below : List Frame} {meth : Method} {c : Code} {H : Heap} {locs : List Loc} {Qf : State → Prop}
variable {ls : Array Slot} {D : va_G} {ca : Nat → ClassId} {A : Nat → Prop} {h0 : Nat} {ad : Nat → Nat} {H0 : Heap} {u : iST}
def w_nextHypothesis (a0 : Int) (Q : iST → Prop) (u : iST) : Prop :=
  bd a0 60 (rd (u.2.1 100 a0) (fun v1 => 
  w_takePairs a0 (fun u => 
  bd a0 60 (rd (u.2.1 101 a0) (fun v3 => 
  bd v1 60 (rd (u.2.1 48 v1) (fun v4 => 
  br (v3 ≠ v4) (
    ov (120 * v1) (
    bd a0 60 (rd (u.2.1 101 a0) (fun v6 => 
    ov ((120 * v1) + v6) (
    bd ((120 * v1) + v6) 7200 (rd (u.2.1 49 ((120 * v1) + v6)) (fun v8 => 
    w_instance v8 (fun v9 u => 
    bd a0 60 (sw (iA u 94 a0 31) (fun u => 
    w_beginJob v9 1 (fun u => 
    Q u) u))) u))))))) (
    bd v1 60 (rd (u.2.1 47 v1) (fun v11 => 
    w_instance v11 (fun v12 u => 
    w_passOn v12 (fun u => 
    Q u) u) u)))))))) u))
set_option maxRecDepth 20000 in
set_option maxHeartbeats 4000000 in
theorem b_nextHypothesis_s (X : kX p m c cX12_nextHypothesis 4 s args D ca) (hRf : 6 ≤ R.frames) (hRl : 136 ≤ R.locals) {Q : iST → Prop} (hret : ∀ (u : iST) (H : Heap) (locs : List Loc) (ls : Array Slot) (pc : Nat), Q u → kW D ca A h0 ad H0 H locs u → decode cX12_nextHypothesis pc = .ok (.return_, 1) → W p l e R s m args below meth c H locs 0 0 Qf (F0 m pc ls [])) {a0 : Int} (ra0 : inR a0) (hw : kW D ca A h0 ad H0 H locs u) (hl : lv_has ls 4 [(0, .ref h0), (1, .int (jI a0))]) (h : w_nextHypothesis a0 Q u) : W p l e R s m args below meth c H locs 0 0 Qf (F0 m 0 ls []) := by
  have hx := X.1.1
  have hb := X.1.2.1
  unfold w_nextHypothesis at h
  refine lv_aload_n hx hb dX12_nextHypothesis_0 rfl (lv_at hl 0 rfl) ?_
  refine gA 100 214 (by decide) L_100 (fun _ _ => mF_100) rfl X hw dX12_nextHypothesis_1 ?_
  refine lv_iload_n hx hb dX12_nextHypothesis_4 rfl (lv_at hl 1 rfl) ?_
  refine aL 100 64 63 60 (fun _ _ _ _ => mG_100) (fun _ => rfl) X hw ra0 dX12_nextHypothesis_5 rfl h (fun v1 rv1 h => ?_)
  refine lv_istore_n hx hb dX12_nextHypothesis_6 rfl hl (by decide) rfl (fun ls hl => ?_)
  have hl : lv_has ls 4 [(2, .int (jI v1)), (0, .ref (h0)), (1, .int (jI a0))] := hl
  refine lv_aload_n hx hb dX12_nextHypothesis_7 rfl (lv_at hl 1 rfl) ?_
  refine lv_iload_n hx hb dX12_nextHypothesis_8 rfl (lv_at hl 2 rfl) ?_
  refine kcV (n := 1) (c_takePairs ra0 h) G_takePairs E_takePairs X hw (Nat.le_trans (Nat.le_of_ble_eq_true rfl) hRf) (Nat.le_trans (Nat.le_of_ble_eq_true rfl) hRl) rfl hl.1 (Nat.le_of_ble_eq_true rfl) rfl dX12_nextHypothesis_9 (fun u H locs h hw => ?_)
  refine lv_aload_n hx hb dX12_nextHypothesis_12 rfl (lv_at hl 1 rfl) ?_
  refine gA 101 217 (by decide) L_101 (fun _ _ => mF_101) rfl X hw dX12_nextHypothesis_13 ?_
  refine lv_iload_n hx hb dX12_nextHypothesis_16 rfl (lv_at hl 2 rfl) ?_
  refine aL 101 65 64 60 (fun _ _ _ _ => mG_101) (fun _ => rfl) X hw ra0 dX12_nextHypothesis_17 rfl h (fun v3 rv3 h => ?_)
  refine lv_aload_n hx hb dX12_nextHypothesis_18 rfl (lv_at hl 1 rfl) ?_
  refine gA 48 112 (by decide) L_48 (fun _ _ => mF_48) rfl X hw dX12_nextHypothesis_19 ?_
  refine lv_iload_n hx hb dX12_nextHypothesis_22 rfl (lv_at hl 0 rfl) ?_
  refine aL 48 32 31 60 (fun _ _ _ _ => mG_48) (fun _ => rfl) X hw rv1 dX12_nextHypothesis_23 rfl h (fun v4 rv4 h => ?_)
  refine k_icmp_ne hx hb rv3 rv4 dX12_nextHypothesis_24 (tgt := 44) rfl h (fun h => ?_) (fun h => ?_)
  · refine lv_aload_n hx hb dX12_nextHypothesis_44 rfl (lv_at hl 1 rfl) ?_
    refine lv_aload_n hx hb dX12_nextHypothesis_45 rfl (lv_at hl 1 rfl) ?_
    refine gA 49 115 (by decide) L_49 (fun _ _ => mF_49) rfl X hw dX12_nextHypothesis_46 ?_
    refine lv_bipush hx hb dX12_nextHypothesis_49 (v := jI 120) rfl ?_
    refine lv_iload_n hx hb dX12_nextHypothesis_51 rfl (lv_at hl 0 rfl) ?_
    refine k_imul hx hb dX12_nextHypothesis_52 h (fun r5 h => ?_)
    refine lv_aload_n hx hb dX12_nextHypothesis_53 rfl (lv_at hl 1 rfl) ?_
    refine gA 101 217 (by decide) L_101 (fun _ _ => mF_101) rfl X hw dX12_nextHypothesis_54 ?_
    refine lv_iload_n hx hb dX12_nextHypothesis_57 rfl (lv_at hl 2 rfl) ?_
    refine aL 101 65 64 60 (fun _ _ _ _ => mG_101) (fun _ => rfl) X hw ra0 dX12_nextHypothesis_58 rfl h (fun v6 rv6 h => ?_)
    refine k_iadd hx hb dX12_nextHypothesis_59 h (fun r7 h => ?_)
    refine aL 49 33 32 7200 (fun _ _ _ _ => mG_49) (fun _ => rfl) X hw r7 dX12_nextHypothesis_60 rfl h (fun v8 rv8 h => ?_)
    refine kcI (n := 1) (c_instance rv8 h) G_instance E_instance X hw (Nat.le_trans (Nat.le_of_ble_eq_true rfl) hRf) (Nat.le_trans (Nat.le_of_ble_eq_true rfl) hRl) rfl hl.1 (Nat.le_of_ble_eq_true rfl) rfl dX12_nextHypothesis_61 (fun v9 u H locs rv9 h hw => ?_)
    refine lv_istore_n hx hb dX12_nextHypothesis_64 rfl hl (by decide) rfl (fun ls hl => ?_)
    have hl : lv_has ls 4 [(3, .int (jI v9)), (2, .int (jI v1)), (0, .ref (h0)), (1, .int (jI a0))] := hl
    refine lv_aload_n hx hb dX12_nextHypothesis_65 rfl (lv_at hl 2 rfl) ?_
    refine gA 94 196 (by decide) L_94 (fun _ _ => mF_94) rfl X hw dX12_nextHypothesis_66 ?_
    refine lv_iload_n hx hb dX12_nextHypothesis_69 rfl (lv_at hl 3 rfl) ?_
    refine lv_bipush hx hb dX12_nextHypothesis_70 (v := jI 31) rfl ?_
    refine aS 94 58 57 60 (fun _ _ _ _ => mG_94) (fun _ => rfl) (fun _ _ _ _ _ _ => mSA_94) (by decide) X hw ra0 (by decide) dX12_nextHypothesis_72 rfl h (fun H locs u hw h => ?_)
    refine lv_aload_n hx hb dX12_nextHypothesis_73 rfl (lv_at hl 2 rfl) ?_
    refine lv_iload_n hx hb dX12_nextHypothesis_74 rfl (lv_at hl 0 rfl) ?_
    refine lv_iconst hx hb dX12_nextHypothesis_75 (v := jI 1) rfl ?_
    refine kcV (n := 2) (c_beginJob rv9 (by decide) h) G_beginJob E_beginJob X hw (Nat.le_trans (Nat.le_of_ble_eq_true rfl) hRf) (Nat.le_trans (Nat.le_of_ble_eq_true rfl) hRl) rfl hl.1 (Nat.le_of_ble_eq_true rfl) rfl dX12_nextHypothesis_76 (fun u H locs h hw => ?_)
    exact hret _ _ _ _ _ h hw dX12_nextHypothesis_79
  · refine lv_aload_n hx hb dX12_nextHypothesis_27 rfl (lv_at hl 1 rfl) ?_
    refine lv_aload_n hx hb dX12_nextHypothesis_28 rfl (lv_at hl 1 rfl) ?_
    refine gA 47 109 (by decide) L_47 (fun _ _ => mF_47) rfl X hw dX12_nextHypothesis_29 ?_
    refine lv_iload_n hx hb dX12_nextHypothesis_32 rfl (lv_at hl 0 rfl) ?_
    refine aL 47 31 30 60 (fun _ _ _ _ => mG_47) (fun _ => rfl) X hw rv1 dX12_nextHypothesis_33 rfl h (fun v11 rv11 h => ?_)
    refine kcI (n := 1) (c_instance rv11 h) G_instance E_instance X hw (Nat.le_trans (Nat.le_of_ble_eq_true rfl) hRf) (Nat.le_trans (Nat.le_of_ble_eq_true rfl) hRl) rfl hl.1 (Nat.le_of_ble_eq_true rfl) rfl dX12_nextHypothesis_34 (fun v12 u H locs rv12 h hw => ?_)
    refine lv_istore_n hx hb dX12_nextHypothesis_37 rfl hl (by decide) rfl (fun ls hl => ?_)
    have hl : lv_has ls 4 [(3, .int (jI v12)), (2, .int (jI v1)), (0, .ref (h0)), (1, .int (jI a0))] := hl
    refine lv_aload_n hx hb dX12_nextHypothesis_38 rfl (lv_at hl 2 rfl) ?_
    refine lv_iload_n hx hb dX12_nextHypothesis_39 rfl (lv_at hl 0 rfl) ?_
    refine kcV (n := 1) (c_passOn rv12 h) G_passOn E_passOn X hw (Nat.le_trans (Nat.le_of_ble_eq_true rfl) hRf) (Nat.le_trans (Nat.le_of_ble_eq_true rfl) hRl) rfl hl.1 (Nat.le_of_ble_eq_true rfl) rfl dX12_nextHypothesis_40 (fun u H locs h hw => ?_)
    exact hret _ _ _ _ _ h hw dX12_nextHypothesis_43

end
theorem c_nextHypothesis {l : Launch} {a0 : Int} (ra0 : inR a0) {Q : iST → Prop} {u : iST} (h : w_nextHypothesis a0 Q u) : kMV l yX12_nextHypothesis (.code yX12_nextHypothesis cX12_nextHypothesis 4 none :: wsM) { frames := 6, cells := 0, slots := 0, locals := 136 } [.int (jI a0)] Q u := kMV_of rfl (fun _ => Nat.le_of_ble_eq_true rfl) (fun X hRf hRl hret hw hl => b_nextHypothesis_s X hRf hRl hret ra0 hw hl h)

/-! bodyOf -/
theorem dX12_bodyOf_0 : decode cX12_bodyOf 0 = .ok (.aload_n 0, 1) := by decide +kernel
theorem dX12_bodyOf_1 : decode cX12_bodyOf 1 = .ok (.aload_n 0, 1) := by decide +kernel
theorem dX12_bodyOf_2 : decode cX12_bodyOf 2 = .ok (.getfield 8, 3) := by decide +kernel
theorem dX12_bodyOf_5 : decode cX12_bodyOf 5 = .ok (.iload_n 1, 1) := by decide +kernel
theorem dX12_bodyOf_6 : decode cX12_bodyOf 6 = .ok (.iaload, 1) := by decide +kernel
theorem dX12_bodyOf_7 : decode cX12_bodyOf 7 = .ok (.invokevirtual 526, 3) := by decide +kernel
theorem dX12_bodyOf_10 : decode cX12_bodyOf 10 = .ok (.bipush 100, 2) := by decide +kernel
theorem dX12_bodyOf_12 : decode cX12_bodyOf 12 = .ok (.isub, 1) := by decide +kernel
theorem dX12_bodyOf_13 : decode cX12_bodyOf 13 = .ok (.istore_n 3, 1) := by decide +kernel
theorem dX12_bodyOf_14 : decode cX12_bodyOf 14 = .ok (.aload_n 0, 1) := by decide +kernel
theorem dX12_bodyOf_15 : decode cX12_bodyOf 15 = .ok (.aload_n 0, 1) := by decide +kernel
theorem dX12_bodyOf_16 : decode cX12_bodyOf 16 = .ok (.getfield 81, 3) := by decide +kernel
theorem dX12_bodyOf_19 : decode cX12_bodyOf 19 = .ok (.iload_n 3, 1) := by decide +kernel
theorem dX12_bodyOf_20 : decode cX12_bodyOf 20 = .ok (.iaload, 1) := by decide +kernel
theorem dX12_bodyOf_21 : decode cX12_bodyOf 21 = .ok (.putfield 495, 3) := by decide +kernel
theorem dX12_bodyOf_24 : decode cX12_bodyOf 24 = .ok (.iconst 0, 1) := by decide +kernel
theorem dX12_bodyOf_25 : decode cX12_bodyOf 25 = .ok (.istore 4, 2) := by decide +kernel
theorem dX12_bodyOf_27 : decode cX12_bodyOf 27 = .ok (.iload 4, 2) := by decide +kernel
theorem dX12_bodyOf_29 : decode cX12_bodyOf 29 = .ok (.aload_n 0, 1) := by decide +kernel
theorem dX12_bodyOf_30 : decode cX12_bodyOf 30 = .ok (.getfield 495, 3) := by decide +kernel
theorem dX12_bodyOf_33 : decode cX12_bodyOf 33 = .ok (.if_icmp .ge 44, 3) := by decide +kernel
theorem dX12_bodyOf_36 : decode cX12_bodyOf 36 = .ok (.aload_n 0, 1) := by decide +kernel
theorem dX12_bodyOf_37 : decode cX12_bodyOf 37 = .ok (.getfield 157, 3) := by decide +kernel
theorem dX12_bodyOf_40 : decode cX12_bodyOf 40 = .ok (.iload 4, 2) := by decide +kernel
theorem dX12_bodyOf_42 : decode cX12_bodyOf 42 = .ok (.aload_n 0, 1) := by decide +kernel
theorem dX12_bodyOf_43 : decode cX12_bodyOf 43 = .ok (.getfield 84, 3) := by decide +kernel
theorem dX12_bodyOf_46 : decode cX12_bodyOf 46 = .ok (.bipush 6, 2) := by decide +kernel
theorem dX12_bodyOf_48 : decode cX12_bodyOf 48 = .ok (.iload_n 3, 1) := by decide +kernel
theorem dX12_bodyOf_49 : decode cX12_bodyOf 49 = .ok (.imul, 1) := by decide +kernel
theorem dX12_bodyOf_50 : decode cX12_bodyOf 50 = .ok (.iload 4, 2) := by decide +kernel
theorem dX12_bodyOf_52 : decode cX12_bodyOf 52 = .ok (.iadd, 1) := by decide +kernel
theorem dX12_bodyOf_53 : decode cX12_bodyOf 53 = .ok (.iaload, 1) := by decide +kernel
theorem dX12_bodyOf_54 : decode cX12_bodyOf 54 = .ok (.iastore, 1) := by decide +kernel
theorem dX12_bodyOf_55 : decode cX12_bodyOf 55 = .ok (.aload_n 0, 1) := by decide +kernel
theorem dX12_bodyOf_56 : decode cX12_bodyOf 56 = .ok (.getfield 160, 3) := by decide +kernel
theorem dX12_bodyOf_59 : decode cX12_bodyOf 59 = .ok (.iload 4, 2) := by decide +kernel
theorem dX12_bodyOf_61 : decode cX12_bodyOf 61 = .ok (.aload_n 0, 1) := by decide +kernel
theorem dX12_bodyOf_62 : decode cX12_bodyOf 62 = .ok (.iload_n 1, 1) := by decide +kernel
theorem dX12_bodyOf_63 : decode cX12_bodyOf 63 = .ok (.iload 4, 2) := by decide +kernel
theorem dX12_bodyOf_65 : decode cX12_bodyOf 65 = .ok (.iconst 1, 1) := by decide +kernel
theorem dX12_bodyOf_66 : decode cX12_bodyOf 66 = .ok (.iadd, 1) := by decide +kernel
theorem dX12_bodyOf_67 : decode cX12_bodyOf 67 = .ok (.invokevirtual 592, 3) := by decide +kernel
theorem dX12_bodyOf_70 : decode cX12_bodyOf 70 = .ok (.iastore, 1) := by decide +kernel
theorem dX12_bodyOf_71 : decode cX12_bodyOf 71 = .ok (.iinc 4 1, 3) := by decide +kernel
theorem dX12_bodyOf_74 : decode cX12_bodyOf 74 = .ok (.goto (-47), 3) := by decide +kernel
theorem dX12_bodyOf_77 : decode cX12_bodyOf 77 = .ok (.aload_n 0, 1) := by decide +kernel
theorem dX12_bodyOf_78 : decode cX12_bodyOf 78 = .ok (.iload_n 2, 1) := by decide +kernel
theorem dX12_bodyOf_79 : decode cX12_bodyOf 79 = .ok (.ifCond .ne 12, 3) := by decide +kernel
theorem dX12_bodyOf_82 : decode cX12_bodyOf 82 = .ok (.aload_n 0, 1) := by decide +kernel
theorem dX12_bodyOf_83 : decode cX12_bodyOf 83 = .ok (.getfield 87, 3) := by decide +kernel
theorem dX12_bodyOf_86 : decode cX12_bodyOf 86 = .ok (.iload_n 3, 1) := by decide +kernel
theorem dX12_bodyOf_87 : decode cX12_bodyOf 87 = .ok (.iaload, 1) := by decide +kernel
theorem dX12_bodyOf_88 : decode cX12_bodyOf 88 = .ok (.goto 14, 3) := by decide +kernel
theorem dX12_bodyOf_91 : decode cX12_bodyOf 91 = .ok (.aload_n 0, 1) := by decide +kernel
theorem dX12_bodyOf_92 : decode cX12_bodyOf 92 = .ok (.aload_n 0, 1) := by decide +kernel
theorem dX12_bodyOf_93 : decode cX12_bodyOf 93 = .ok (.getfield 87, 3) := by decide +kernel
theorem dX12_bodyOf_96 : decode cX12_bodyOf 96 = .ok (.iload_n 3, 1) := by decide +kernel
theorem dX12_bodyOf_97 : decode cX12_bodyOf 97 = .ok (.iaload, 1) := by decide +kernel
theorem dX12_bodyOf_98 : decode cX12_bodyOf 98 = .ok (.iload_n 2, 1) := by decide +kernel
theorem dX12_bodyOf_99 : decode cX12_bodyOf 99 = .ok (.invokevirtual 592, 3) := by decide +kernel
theorem dX12_bodyOf_102 : decode cX12_bodyOf 102 = .ok (.invokevirtual 712, 3) := by decide +kernel
theorem dX12_bodyOf_105 : decode cX12_bodyOf 105 = .ok (.ireturn, 1) := by decide +kernel

section
variable {p : Program} {l : Launch} {e : Env} {R : Room} {s : State} {m : MethodId} {args : Array Value} {below : List Frame} {meth : Method} {c : Code} {H : Heap} {locs : List Loc} {Qf : State → Prop}
variable {ls : Array Slot} {D : va_G} {ca : Nat → ClassId} {A : Nat → Prop} {h0 : Nat} {ad : Nat → Nat} {H0 : Heap} {u : iST}
def w_bodyOf_102 (Q : Int → iST → Prop) (y1 : Int) (u : iST) : Prop :=
  w_instance y1 (fun v8 u => 
  Q v8 u) u
set_option maxRecDepth 20000 in
set_option maxHeartbeats 4000000 in
theorem b_bodyOf_102 (X : kX p m c cX12_bodyOf 5 s args D ca) (hRf : 6 ≤ R.frames) (hRl : 136 ≤ R.locals) {Q : Int → iST → Prop} (hret : ∀ (v : Int) (u : iST) (H : Heap) (locs : List Loc) (ls : Array Slot) (pc : Nat), inR v → Q v u → kW D ca A h0 ad H0 H locs u → decode cX12_bodyOf pc = .ok (.ireturn, 1) → W p l e R s m args below meth c H locs 0 0 Qf (F0 m pc ls [.int (jI v)])) {y1 : Int} (ry1 : inR y1) (hw : kW D ca A h0 ad H0 H locs u) (hl : lv_has ls 5 [(0, .ref h0)]) (h : w_bodyOf_102 Q y1 u) : W p l e R s m args below meth c H locs 0 0 Qf (F0 m 102 ls [.int (jI y1), .ref (h0)]) := by
  have hx := X.1.1
  have hb := X.1.2.1
  unfold w_bodyOf_102 at h
  refine kcI (n := 1) (c_instance ry1 h) G_instance E_instance X hw (Nat.le_trans (Nat.le_of_ble_eq_true rfl) hRf) (Nat.le_trans (Nat.le_of_ble_eq_true rfl) hRl) rfl hl.1 (Nat.le_of_ble_eq_true rfl) rfl dX12_bodyOf_102 (fun v8 u H locs rv8 h hw => ?_)
  exact hret _ _ _ _ _ _ rv8 h hw dX12_bodyOf_105

def w_bodyOf_27b (R27 : Int → Int → Int → Int → iST → Prop) (Q : Int → iST → Prop) (x1 : Int) (x2 : Int) (x3 : Int) (x4 : Int) (u : iST) : Prop :=
  rd (u.1 74) (fun v5 => 
  br (v5 ≤ x4) (
    br (x2 ≠ 0) (
      bd x3 40 (rd (u.2.1 39 x3) (fun v6 => 
      w_term v6 x2 (fun v7 u => 
      w_bodyOf_102 Q v7 u) u))) (
      bd x3 40 (rd (u.2.1 39 x3) (fun v9 => 
      w_bodyOf_102 Q v9 u)))) (
    ov (6 * x3) (
    ov ((6 * x3) + x4) (
    bd ((6 * x3) + x4) 240 (rd (u.2.1 38 ((6 * x3) + x4)) (fun v12 => 
    bd x4 400 (sw (iA u 72 x4 v12) (fun u => 
    ov (x4 + 1) (
    w_term x1 (x4 + 1) (fun v14 u => 
    bd x4 400 (sw (iA u 73 x4 v14) (fun u => 
    ov (x4 + 1) (
    R27 x1 x2 x3 (x4 + 1) u)))) u)))))))))
def w_bodyOf_27 (Q : Int → iST → Prop) (x1 : Int) (x2 : Int) (x3 : Int) (x4 : Int) (u : iST) : Prop := ∀ R27 : Int → Int → Int → Int → iST → Prop, (∀ (x1 : Int) (x2 : Int) (x3 : Int) (x4 : Int) (u : iST), w_bodyOf_27b R27 Q x1 x2 x3 x4 u → R27 x1 x2 x3 x4 u) → R27 x1 x2 x3 x4 u
set_option maxRecDepth 20000 in
set_option maxHeartbeats 4000000 in
theorem b_bodyOf_27 (X : kX p m c cX12_bodyOf 5 s args D ca) (hRf : 6 ≤ R.frames) (hRl : 136 ≤ R.locals) {Q : Int → iST → Prop} (hret : ∀ (v : Int) (u : iST) (H : Heap) (locs : List Loc) (ls : Array Slot) (pc : Nat), inR v → Q v u → kW D ca A h0 ad H0 H locs u → decode cX12_bodyOf pc = .ok (.ireturn, 1) → W p l e R s m args below meth c H locs 0 0 Qf (F0 m pc ls [.int (jI v)])) {x1 x2 x3 x4 : Int} (rx1 : inR x1) (rx2 : inR x2) (rx3 : inR x3) (rx4 : inR x4) (hw : kW D ca A h0 ad H0 H locs u) (hl : lv_has ls 5 [(0, .ref h0), (1, .int (jI x1)), (2, .int (jI x2)), (3, .int (jI x3)), (4, .int (jI x4))]) (h : w_bodyOf_27 Q x1 x2 x3 x4 u) : W p l e R s m args below meth c H locs 0 0 Qf (F0 m 27 ls []) := by
  refine h (fun x1 x2 x3 x4 u => ∀ (H : Heap) (locs : List Loc) (ls : Array Slot), inR x1 → inR x2 → inR x3 → inR x4 → kW D ca A h0 ad H0 H locs u → lv_has ls 5 [(0, .ref h0), (1, .int (jI x1)), (2, .int (jI x2)), (3, .int (jI x3)), (4, .int (jI x4))] → W p l e R s m args below meth c H locs 0 0 Qf (F0 m 27 ls [])) ?_ H locs ls rx1 rx2 rx3 rx4 hw hl
  clear h hl hw rx1 rx2 rx3 rx4
  intro x1 x2 x3 x4 u h H locs ls rx1 rx2 rx3 rx4 hw hl
  have hR27 : ∀ (x1 : Int) (x2 : Int) (x3 : Int) (x4 : Int) (u : iST) (H : Heap) (locs : List Loc) (ls : Array Slot), inR x1 → inR x2 → inR x3 → inR x4 → kW D ca A h0 ad H0 H locs u → lv_has ls 5 [(0, .ref h0), (1, .int (jI x1)), (2, .int (jI x2)), (3, .int (jI x3)), (4, .int (jI x4))] → (fun (x1 : Int) (x2 : Int) (x3 : Int) (x4 : Int) u => ∀ (H : Heap) (locs : List Loc) (ls : Array Slot), inR x1 → inR x2 → inR x3 → inR x4 → kW D ca A h0 ad H0 H locs u → lv_has ls 5 [(0, .ref h0), (1, .int (jI x1)), (2, .int (jI x2)), (3, .int (jI x3)), (4, .int (jI x4))] → W p l e R s m args below meth c H locs 0 0 Qf (F0 m 27 ls [])) x1 x2 x3 x4 u → W p l e R s m args below meth c H locs 0 0 Qf (F0 m 27 ls []) := fun x1 x2 x3 x4 u H locs ls rx1 rx2 rx3 rx4 hw hl h => h H locs ls rx1 rx2 rx3 rx4 hw hl
  have hx := X.1.1
  have hb := X.1.2.1
  unfold w_bodyOf_27b at h
  refine lv_iload hx hb dX12_bodyOf_27 (lv_at hl 4 rfl) ?_
  refine lv_aload_n hx hb dX12_bodyOf_29 rfl (lv_at hl 0 rfl) ?_
  refine gS 74 495 (by decide) L_74 (fun _ _ => mF_74) rfl X hw dX12_bodyOf_30 h (fun v5 rv5 h => ?_)
  refine k_icmp_ge hx hb rx4 rv5 dX12_bodyOf_33 (tgt := 77) rfl h (fun h => ?_) (fun h => ?_)
  · refine lv_aload_n hx hb dX12_bodyOf_77 rfl (lv_at hl 0 rfl) ?_
    refine lv_iload_n hx hb dX12_bodyOf_78 rfl (lv_at hl 2 rfl) ?_
    refine k_if_ne hx hb rx2 dX12_bodyOf_79 (tgt := 91) rfl h (fun h => ?_) (fun h => ?_)
    · refine lv_aload_n hx hb dX12_bodyOf_91 rfl (lv_at hl 0 rfl) ?_
      refine lv_aload_n hx hb dX12_bodyOf_92 rfl (lv_at hl 0 rfl) ?_
      refine gA 39 87 (by decide) L_39 (fun _ _ => mF_39) rfl X hw dX12_bodyOf_93 ?_
      refine lv_iload_n hx hb dX12_bodyOf_96 rfl (lv_at hl 3 rfl) ?_
      refine aL 39 24 23 40 (fun _ _ _ _ => mG_39) (fun _ => rfl) X hw rx3 dX12_bodyOf_97 rfl h (fun v6 rv6 h => ?_)
      refine lv_iload_n hx hb dX12_bodyOf_98 rfl (lv_at hl 2 rfl) ?_
      refine kcI (n := 2) (c_term rv6 rx2 h) G_term E_term X hw (Nat.le_trans (Nat.le_of_ble_eq_true rfl) hRf) (Nat.le_trans (Nat.le_of_ble_eq_true rfl) hRl) rfl hl.1 (Nat.le_of_ble_eq_true rfl) rfl dX12_bodyOf_99 (fun v7 u H locs rv7 h hw => ?_)
      exact b_bodyOf_102 X hRf hRl hret rv7 hw (lv_sub hl [0] rfl) h
    · refine lv_aload_n hx hb dX12_bodyOf_82 rfl (lv_at hl 0 rfl) ?_
      refine gA 39 87 (by decide) L_39 (fun _ _ => mF_39) rfl X hw dX12_bodyOf_83 ?_
      refine lv_iload_n hx hb dX12_bodyOf_86 rfl (lv_at hl 3 rfl) ?_
      refine aL 39 24 23 40 (fun _ _ _ _ => mG_39) (fun _ => rfl) X hw rx3 dX12_bodyOf_87 rfl h (fun v9 rv9 h => ?_)
      refine lv_goto hx hb dX12_bodyOf_88 (tgt := 102) rfl ?_
      exact b_bodyOf_102 X hRf hRl hret rv9 hw (lv_sub hl [0] rfl) h
  · refine lv_aload_n hx hb dX12_bodyOf_36 rfl (lv_at hl 0 rfl) ?_
    refine gA 72 157 (by decide) L_72 (fun _ _ => mF_72) rfl X hw dX12_bodyOf_37 ?_
    refine lv_iload hx hb dX12_bodyOf_40 (lv_at hl 4 rfl) ?_
    refine lv_aload_n hx hb dX12_bodyOf_42 rfl (lv_at hl 0 rfl) ?_
    refine gA 38 84 (by decide) L_38 (fun _ _ => mF_38) rfl X hw dX12_bodyOf_43 ?_
    refine lv_bipush hx hb dX12_bodyOf_46 (v := jI 6) rfl ?_
    refine lv_iload_n hx hb dX12_bodyOf_48 rfl (lv_at hl 3 rfl) ?_
    refine k_imul hx hb dX12_bodyOf_49 h (fun r10 h => ?_)
    refine lv_iload hx hb dX12_bodyOf_50 (lv_at hl 4 rfl) ?_
    refine k_iadd hx hb dX12_bodyOf_52 h (fun r11 h => ?_)
    refine aL 38 23 22 240 (fun _ _ _ _ => mG_38) (fun _ => rfl) X hw r11 dX12_bodyOf_53 rfl h (fun v12 rv12 h => ?_)
    refine aS 72 45 44 400 (fun _ _ _ _ => mG_72) (fun _ => rfl) (fun _ _ _ _ _ _ => mSA_72) (by decide) X hw rx4 rv12 dX12_bodyOf_54 rfl h (fun H locs u hw h => ?_)
    refine lv_aload_n hx hb dX12_bodyOf_55 rfl (lv_at hl 0 rfl) ?_
    refine gA 73 160 (by decide) L_73 (fun _ _ => mF_73) rfl X hw dX12_bodyOf_56 ?_
    refine lv_iload hx hb dX12_bodyOf_59 (lv_at hl 4 rfl) ?_
    refine lv_aload_n hx hb dX12_bodyOf_61 rfl (lv_at hl 0 rfl) ?_
    refine lv_iload_n hx hb dX12_bodyOf_62 rfl (lv_at hl 1 rfl) ?_
    refine lv_iload hx hb dX12_bodyOf_63 (lv_at hl 4 rfl) ?_
    refine lv_iconst hx hb dX12_bodyOf_65 (v := jI 1) rfl ?_
    refine k_iadd hx hb dX12_bodyOf_66 h (fun r13 h => ?_)
    refine kcI (n := 2) (c_term rx1 r13 h) G_term E_term X hw (Nat.le_trans (Nat.le_of_ble_eq_true rfl) hRf) (Nat.le_trans (Nat.le_of_ble_eq_true rfl) hRl) rfl hl.1 (Nat.le_of_ble_eq_true rfl) rfl dX12_bodyOf_67 (fun v14 u H locs rv14 h hw => ?_)
    refine aS 73 46 45 400 (fun _ _ _ _ => mG_73) (fun _ => rfl) (fun _ _ _ _ _ _ => mSA_73) (by decide) X hw rx4 rv14 dX12_bodyOf_70 rfl h (fun H locs u hw h => ?_)
    refine k_iinc (k := 4) hx hb dX12_bodyOf_71 hl rfl (by decide) rfl h (fun ls r15 h hl => ?_)
    have hl : lv_has ls 5 [(4, .int (jI (x4 + 1))), (0, .ref (h0)), (1, .int (jI x1)), (2, .int (jI x2)), (3, .int (jI x3))] := hl
    refine lv_goto hx hb dX12_bodyOf_74 (tgt := 27) rfl ?_
    exact hR27 _ _ _ _ _ H locs ls rx1 rx2 rx3 r15 hw (lv_sub hl [1, 2, 3, 4, 0] rfl) h

def w_bodyOf (a0 : Int) (a1 : Int) (Q : Int → iST → Prop) (u : iST) : Prop :=
  bd a0 452000 (rd (u.2.1 0 a0) (fun v1 => 
  w_functionOf v1 (fun v2 u => 
  ov (v2 - 100) (
  bd (v2 - 100) 40 (rd (u.2.1 37 (v2 - 100)) (fun v4 => 
  sw (iI u 74 v4) (fun u => 
  w_bodyOf_27 Q a0 a1 (v2 - 100) 0 u))))) u))
set_option maxRecDepth 20000 in
set_option maxHeartbeats 4000000 in
theorem b_bodyOf_s (X : kX p m c cX12_bodyOf 5 s args D ca) (hRf : 6 ≤ R.frames) (hRl : 136 ≤ R.locals) {Q : Int → iST → Prop} (hret : ∀ (v : Int) (u : iST) (H : Heap) (locs : List Loc) (ls : Array Slot) (pc : Nat), inR v → Q v u → kW D ca A h0 ad H0 H locs u → decode cX12_bodyOf pc = .ok (.ireturn, 1) → W p l e R s m args below meth c H locs 0 0 Qf (F0 m pc ls [.int (jI v)])) {a0 a1 : Int} (ra0 : inR a0) (ra1 : inR a1) (hw : kW D ca A h0 ad H0 H locs u) (hl : lv_has ls 5 [(0, .ref h0), (1, .int (jI a0)), (2, .int (jI a1))]) (h : w_bodyOf a0 a1 Q u) : W p l e R s m args below meth c H locs 0 0 Qf (F0 m 0 ls []) := by
  have hx := X.1.1
  have hb := X.1.2.1
  unfold w_bodyOf at h
  refine lv_aload_n hx hb dX12_bodyOf_0 rfl (lv_at hl 0 rfl) ?_
  refine lv_aload_n hx hb dX12_bodyOf_1 rfl (lv_at hl 0 rfl) ?_
  refine gA 0 8 (by decide) L_0 (fun _ _ => mF_0) rfl X hw dX12_bodyOf_2 ?_
  refine lv_iload_n hx hb dX12_bodyOf_5 rfl (lv_at hl 1 rfl) ?_
  refine aL 0 1 0 452000 (fun _ _ _ _ => mG_0) (fun _ => rfl) X hw ra0 dX12_bodyOf_6 rfl h (fun v1 rv1 h => ?_)
  refine kcI (n := 1) (c_functionOf rv1 h) G_functionOf E_functionOf X hw (Nat.le_trans (Nat.le_of_ble_eq_true rfl) hRf) (Nat.le_trans (Nat.le_of_ble_eq_true rfl) hRl) rfl hl.1 (Nat.le_of_ble_eq_true rfl) rfl dX12_bodyOf_7 (fun v2 u H locs rv2 h hw => ?_)
  refine lv_bipush hx hb dX12_bodyOf_10 (v := jI 100) rfl ?_
  refine k_isub hx hb dX12_bodyOf_12 h (fun r3 h => ?_)
  refine lv_istore_n hx hb dX12_bodyOf_13 rfl hl (by decide) rfl (fun ls hl => ?_)
  have hl : lv_has ls 5 [(3, .int (jI (v2 - 100))), (0, .ref (h0)), (1, .int (jI a0)), (2, .int (jI a1))] := hl
  refine lv_aload_n hx hb dX12_bodyOf_14 rfl (lv_at hl 1 rfl) ?_
  refine lv_aload_n hx hb dX12_bodyOf_15 rfl (lv_at hl 1 rfl) ?_
  refine gA 37 81 (by decide) L_37 (fun _ _ => mF_37) rfl X hw dX12_bodyOf_16 ?_
  refine lv_iload_n hx hb dX12_bodyOf_19 rfl (lv_at hl 0 rfl) ?_
  refine aL 37 22 21 40 (fun _ _ _ _ => mG_37) (fun _ => rfl) X hw r3 dX12_bodyOf_20 rfl h (fun v4 rv4 h => ?_)
  refine pS 74 495 (by decide) L_74 rfl rfl rfl (fun _ _ _ _ _ => mSI_74) (by decide) X hw rv4 dX12_bodyOf_21 h (fun H locs u hw h => ?_)
  refine lv_iconst hx hb dX12_bodyOf_24 (v := jI 0) rfl ?_
  refine lv_istore hx hb dX12_bodyOf_25 hl (by decide) rfl (fun ls hl => ?_)
  have hl : lv_has ls 5 [(4, .int (jI 0)), (3, .int (jI (v2 - 100))), (0, .ref (h0)), (1, .int (jI a0)), (2, .int (jI a1))] := hl
  exact b_bodyOf_27 X hRf hRl hret ra0 ra1 r3 (by decide) hw (lv_sub hl [2, 3, 4, 1, 0] rfl) h

end
theorem c_bodyOf {l : Launch} {a0 : Int} {a1 : Int} (ra0 : inR a0) (ra1 : inR a1) {Q : Int → iST → Prop} {u : iST} (h : w_bodyOf a0 a1 Q u) : kMI l yX12_bodyOf (.code yX12_bodyOf cX12_bodyOf 5 (some .int) :: wsM) { frames := 6, cells := 0, slots := 0, locals := 136 } [.int (jI a0), .int (jI a1)] Q u := kMI_of rfl (fun _ => Nat.le_of_ble_eq_true rfl) (fun X hRf hRl hret hw hl => b_bodyOf_s X hRf hRl hret ra0 ra1 hw hl h)

/-! define -/
theorem dX12_define_0 : decode cX12_define 0 = .ok (.aload_n 0, 1) := by decide +kernel
theorem dX12_define_1 : decode cX12_define 1 = .ok (.getfield 190, 3) := by decide +kernel
theorem dX12_define_4 : decode cX12_define 4 = .ok (.iload_n 1, 1) := by decide +kernel
theorem dX12_define_5 : decode cX12_define 5 = .ok (.iaload, 1) := by decide +kernel
theorem dX12_define_6 : decode cX12_define 6 = .ok (.istore_n 2, 1) := by decide +kernel
theorem dX12_define_7 : decode cX12_define 7 = .ok (.aload_n 0, 1) := by decide +kernel
theorem dX12_define_8 : decode cX12_define 8 = .ok (.aload_n 0, 1) := by decide +kernel
theorem dX12_define_9 : decode cX12_define 9 = .ok (.getfield 8, 3) := by decide +kernel
theorem dX12_define_12 : decode cX12_define 12 = .ok (.iload_n 2, 1) := by decide +kernel
theorem dX12_define_13 : decode cX12_define 13 = .ok (.iaload, 1) := by decide +kernel
theorem dX12_define_14 : decode cX12_define 14 = .ok (.invokevirtual 526, 3) := by decide +kernel
theorem dX12_define_17 : decode cX12_define 17 = .ok (.istore_n 3, 1) := by decide +kernel
theorem dX12_define_18 : decode cX12_define 18 = .ok (.iload_n 3, 1) := by decide +kernel
theorem dX12_define_19 : decode cX12_define 19 = .ok (.bipush 100, 2) := by decide +kernel
theorem dX12_define_21 : decode cX12_define 21 = .ok (.if_icmp .ge 11, 3) := by decide +kernel
theorem dX12_define_24 : decode cX12_define 24 = .ok (.aload_n 0, 1) := by decide +kernel
theorem dX12_define_25 : decode cX12_define 25 = .ok (.iload_n 2, 1) := by decide +kernel
theorem dX12_define_26 : decode cX12_define 26 = .ok (.invokevirtual 637, 3) := by decide +kernel
theorem dX12_define_29 : decode cX12_define 29 = .ok (.goto 72, 3) := by decide +kernel
theorem dX12_define_32 : decode cX12_define 32 = .ok (.aload_n 0, 1) := by decide +kernel
theorem dX12_define_33 : decode cX12_define 33 = .ok (.getfield 93, 3) := by decide +kernel
theorem dX12_define_36 : decode cX12_define 36 = .ok (.iload_n 3, 1) := by decide +kernel
theorem dX12_define_37 : decode cX12_define 37 = .ok (.bipush 100, 2) := by decide +kernel
theorem dX12_define_39 : decode cX12_define 39 = .ok (.isub, 1) := by decide +kernel
theorem dX12_define_40 : decode cX12_define 40 = .ok (.baload, 1) := by decide +kernel
theorem dX12_define_41 : decode cX12_define 41 = .ok (.ifCond .ne 16, 3) := by decide +kernel
theorem dX12_define_44 : decode cX12_define 44 = .ok (.aload_n 0, 1) := by decide +kernel
theorem dX12_define_45 : decode cX12_define 45 = .ok (.aload_n 0, 1) := by decide +kernel
theorem dX12_define_46 : decode cX12_define 46 = .ok (.iload_n 2, 1) := by decide +kernel
theorem dX12_define_47 : decode cX12_define 47 = .ok (.iconst 0, 1) := by decide +kernel
theorem dX12_define_48 : decode cX12_define 48 = .ok (.invokevirtual 675, 3) := by decide +kernel
theorem dX12_define_51 : decode cX12_define 51 = .ok (.invokevirtual 644, 3) := by decide +kernel
theorem dX12_define_54 : decode cX12_define 54 = .ok (.goto 47, 3) := by decide +kernel
theorem dX12_define_57 : decode cX12_define 57 = .ok (.aload_n 0, 1) := by decide +kernel
theorem dX12_define_58 : decode cX12_define 58 = .ok (.aload_n 0, 1) := by decide +kernel
theorem dX12_define_59 : decode cX12_define 59 = .ok (.getfield 87, 3) := by decide +kernel
theorem dX12_define_62 : decode cX12_define 62 = .ok (.iload_n 3, 1) := by decide +kernel
theorem dX12_define_63 : decode cX12_define 63 = .ok (.bipush 100, 2) := by decide +kernel
theorem dX12_define_65 : decode cX12_define 65 = .ok (.isub, 1) := by decide +kernel
theorem dX12_define_66 : decode cX12_define 66 = .ok (.iaload, 1) := by decide +kernel
theorem dX12_define_67 : decode cX12_define 67 = .ok (.iconst 3, 1) := by decide +kernel
theorem dX12_define_68 : decode cX12_define 68 = .ok (.invokevirtual 542, 3) := by decide +kernel
theorem dX12_define_71 : decode cX12_define 71 = .ok (.ifCond .eq 25, 3) := by decide +kernel
theorem dX12_define_74 : decode cX12_define 74 = .ok (.aload_n 0, 1) := by decide +kernel
theorem dX12_define_75 : decode cX12_define 75 = .ok (.getfield 196, 3) := by decide +kernel
theorem dX12_define_78 : decode cX12_define 78 = .ok (.iload_n 1, 1) := by decide +kernel
theorem dX12_define_79 : decode cX12_define 79 = .ok (.bipush 40, 2) := by decide +kernel
theorem dX12_define_81 : decode cX12_define 81 = .ok (.iastore, 1) := by decide +kernel
theorem dX12_define_82 : decode cX12_define 82 = .ok (.aload_n 0, 1) := by decide +kernel
theorem dX12_define_83 : decode cX12_define 83 = .ok (.aload_n 0, 1) := by decide +kernel
theorem dX12_define_84 : decode cX12_define 84 = .ok (.iload_n 2, 1) := by decide +kernel
theorem dX12_define_85 : decode cX12_define 85 = .ok (.iconst 1, 1) := by decide +kernel
theorem dX12_define_86 : decode cX12_define 86 = .ok (.invokevirtual 675, 3) := by decide +kernel
theorem dX12_define_89 : decode cX12_define 89 = .ok (.iconst 1, 1) := by decide +kernel
theorem dX12_define_90 : decode cX12_define 90 = .ok (.invokevirtual 621, 3) := by decide +kernel
theorem dX12_define_93 : decode cX12_define 93 = .ok (.goto 8, 3) := by decide +kernel
theorem dX12_define_96 : decode cX12_define 96 = .ok (.aload_n 0, 1) := by decide +kernel
theorem dX12_define_97 : decode cX12_define 97 = .ok (.iload_n 2, 1) := by decide +kernel
theorem dX12_define_98 : decode cX12_define 98 = .ok (.invokevirtual 637, 3) := by decide +kernel
theorem dX12_define_101 : decode cX12_define 101 = .ok (.return_, 1) := by decide +kernel

section
variable {p : Program} {l : Launch} {e : Env} {R : Room} {s : State} {m : MethodId} {args : Array Value} {below : List Frame} {meth : Method} {c : Code} {H : Heap} {locs : List Loc} {Qf : State → Prop}
variable {ls : Array Slot} {D : va_G} {ca : Nat → ClassId} {A : Nat → Prop} {h0 : Nat} {ad : Nat → Nat} {H0 : Heap} {u : iST}
def w_define (a0 : Int) (Q : iST → Prop) (u : iST) : Prop :=
  bd a0 60 (rd (u.2.1 92 a0) (fun v1 => 
  bd v1 452000 (rd (u.2.1 0 v1) (fun v2 => 
  w_functionOf v2 (fun v3 u => 
  br (100 ≤ v3) (
    ov (v3 - 100) (
    bd (v3 - 100) 40 (rz (u.2.1 41 (v3 - 100)) (fun v5 => 
    br (v5 ≠ 0) (
      ov (v3 - 100) (
      bd (v3 - 100) 40 (rd (u.2.1 39 (v3 - 100)) (fun v7 => 
      w_isCallOf v7 3 (fun v8 u => 
      br (v8 = 0) (
        w_end0 v1 (fun u => 
        Q u) u) (
        bd a0 60 (sw (iA u 94 a0 40) (fun u => 
        w_bodyOf v1 1 (fun v10 u => 
        w_beginJob v10 1 (fun u => 
        Q u) u) u)))) u)))) (
      w_bodyOf v1 0 (fun v12 u => 
      w_passOn v12 (fun u => 
      Q u) u) u))))) (
    w_end0 v1 (fun u => 
    Q u) u)) u))))
set_option maxRecDepth 20000 in
set_option maxHeartbeats 4000000 in
theorem b_define_s (X : kX p m c cX12_define 4 s args D ca) (hRf : 7 ≤ R.frames) (hRl : 160 ≤ R.locals) {Q : iST → Prop} (hret : ∀ (u : iST) (H : Heap) (locs : List Loc) (ls : Array Slot) (pc : Nat), Q u → kW D ca A h0 ad H0 H locs u → decode cX12_define pc = .ok (.return_, 1) → W p l e R s m args below meth c H locs 0 0 Qf (F0 m pc ls [])) {a0 : Int} (ra0 : inR a0) (hw : kW D ca A h0 ad H0 H locs u) (hl : lv_has ls 4 [(0, .ref h0), (1, .int (jI a0))]) (h : w_define a0 Q u) : W p l e R s m args below meth c H locs 0 0 Qf (F0 m 0 ls []) := by
  have hx := X.1.1
  have hb := X.1.2.1
  unfold w_define at h
  refine lv_aload_n hx hb dX12_define_0 rfl (lv_at hl 0 rfl) ?_
  refine gA 92 190 (by decide) L_92 (fun _ _ => mF_92) rfl X hw dX12_define_1 ?_
  refine lv_iload_n hx hb dX12_define_4 rfl (lv_at hl 1 rfl) ?_
  refine aL 92 56 55 60 (fun _ _ _ _ => mG_92) (fun _ => rfl) X hw ra0 dX12_define_5 rfl h (fun v1 rv1 h => ?_)
  refine lv_istore_n hx hb dX12_define_6 rfl hl (by decide) rfl (fun ls hl => ?_)
  have hl : lv_has ls 4 [(2, .int (jI v1)), (0, .ref (h0)), (1, .int (jI a0))] := hl
  refine lv_aload_n hx hb dX12_define_7 rfl (lv_at hl 1 rfl) ?_
  refine lv_aload_n hx hb dX12_define_8 rfl (lv_at hl 1 rfl) ?_
  refine gA 0 8 (by decide) L_0 (fun _ _ => mF_0) rfl X hw dX12_define_9 ?_
  refine lv_iload_n hx hb dX12_define_12 rfl (lv_at hl 0 rfl) ?_
  refine aL 0 1 0 452000 (fun _ _ _ _ => mG_0) (fun _ => rfl) X hw rv1 dX12_define_13 rfl h (fun v2 rv2 h => ?_)
  refine kcI (n := 1) (c_functionOf rv2 h) G_functionOf E_functionOf X hw (Nat.le_trans (Nat.le_of_ble_eq_true rfl) hRf) (Nat.le_trans (Nat.le_of_ble_eq_true rfl) hRl) rfl hl.1 (Nat.le_of_ble_eq_true rfl) rfl dX12_define_14 (fun v3 u H locs rv3 h hw => ?_)
  refine lv_istore_n hx hb dX12_define_17 rfl hl (by decide) rfl (fun ls hl => ?_)
  have hl : lv_has ls 4 [(3, .int (jI v3)), (2, .int (jI v1)), (0, .ref (h0)), (1, .int (jI a0))] := hl
  refine lv_iload_n hx hb dX12_define_18 rfl (lv_at hl 0 rfl) ?_
  refine lv_bipush hx hb dX12_define_19 (v := jI 100) rfl ?_
  refine k_icmp_ge hx hb rv3 (by decide) dX12_define_21 (tgt := 32) rfl h (fun h => ?_) (fun h => ?_)
  · refine lv_aload_n hx hb dX12_define_32 rfl (lv_at hl 2 rfl) ?_
    refine gA 41 93 (by decide) L_41 (fun _ _ => mF_41) rfl X hw dX12_define_33 ?_
    refine lv_iload_n hx hb dX12_define_36 rfl (lv_at hl 0 rfl) ?_
    refine lv_bipush hx hb dX12_define_37 (v := jI 100) rfl ?_
    refine k_isub hx hb dX12_define_39 h (fun r4 h => ?_)
    refine aZ 41 26 25 40 (fun _ _ _ _ => mG_41) (fun _ => rfl) (by decide) X hw r4 dX12_define_40 rfl h (fun v5 rv5 h => ?_)
    refine k_if_ne hx hb (bz_in rv5) dX12_define_41 (tgt := 57) rfl h (fun h => ?_) (fun h => ?_)
    · refine lv_aload_n hx hb dX12_define_57 rfl (lv_at hl 2 rfl) ?_
      refine lv_aload_n hx hb dX12_define_58 rfl (lv_at hl 2 rfl) ?_
      refine gA 39 87 (by decide) L_39 (fun _ _ => mF_39) rfl X hw dX12_define_59 ?_
      refine lv_iload_n hx hb dX12_define_62 rfl (lv_at hl 0 rfl) ?_
      refine lv_bipush hx hb dX12_define_63 (v := jI 100) rfl ?_
      refine k_isub hx hb dX12_define_65 h (fun r6 h => ?_)
      refine aL 39 24 23 40 (fun _ _ _ _ => mG_39) (fun _ => rfl) X hw r6 dX12_define_66 rfl h (fun v7 rv7 h => ?_)
      refine lv_iconst hx hb dX12_define_67 (v := jI 3) rfl ?_
      refine kcI (n := 2) (c_isCallOf rv7 (by decide) h) G_isCallOf E_isCallOf X hw (Nat.le_trans (Nat.le_of_ble_eq_true rfl) hRf) (Nat.le_trans (Nat.le_of_ble_eq_true rfl) hRl) rfl hl.1 (Nat.le_of_ble_eq_true rfl) rfl dX12_define_68 (fun v8 u H locs rv8 h hw => ?_)
      refine k_if_eq hx hb rv8 dX12_define_71 (tgt := 96) rfl h (fun h => ?_) (fun h => ?_)
      · refine lv_aload_n hx hb dX12_define_96 rfl (lv_at hl 2 rfl) ?_
        refine lv_iload_n hx hb dX12_define_97 rfl (lv_at hl 1 rfl) ?_
        refine kcV (n := 1) (c_end0 rv1 h) G_end0 E_end0 X hw (Nat.le_trans (Nat.le_of_ble_eq_true rfl) hRf) (Nat.le_trans (Nat.le_of_ble_eq_true rfl) hRl) rfl hl.1 (Nat.le_of_ble_eq_true rfl) rfl dX12_define_98 (fun u H locs h hw => ?_)
        exact hret _ _ _ _ _ h hw dX12_define_101
      · refine lv_aload_n hx hb dX12_define_74 rfl (lv_at hl 2 rfl) ?_
        refine gA 94 196 (by decide) L_94 (fun _ _ => mF_94) rfl X hw dX12_define_75 ?_
        refine lv_iload_n hx hb dX12_define_78 rfl (lv_at hl 3 rfl) ?_
        refine lv_bipush hx hb dX12_define_79 (v := jI 40) rfl ?_
        refine aS 94 58 57 60 (fun _ _ _ _ => mG_94) (fun _ => rfl) (fun _ _ _ _ _ _ => mSA_94) (by decide) X hw ra0 (by decide) dX12_define_81 rfl h (fun H locs u hw h => ?_)
        refine lv_aload_n hx hb dX12_define_82 rfl (lv_at hl 2 rfl) ?_
        refine lv_aload_n hx hb dX12_define_83 rfl (lv_at hl 2 rfl) ?_
        refine lv_iload_n hx hb dX12_define_84 rfl (lv_at hl 1 rfl) ?_
        refine lv_iconst hx hb dX12_define_85 (v := jI 1) rfl ?_
        refine kcI (n := 2) (c_bodyOf rv1 (by decide) h) G_bodyOf E_bodyOf X hw (Nat.le_trans (Nat.le_of_ble_eq_true rfl) hRf) (Nat.le_trans (Nat.le_of_ble_eq_true rfl) hRl) rfl hl.1 (Nat.le_of_ble_eq_true rfl) rfl dX12_define_86 (fun v10 u H locs rv10 h hw => ?_)
        refine lv_iconst hx hb dX12_define_89 (v := jI 1) rfl ?_
        refine kcV (n := 2) (c_beginJob rv10 (by decide) h) G_beginJob E_beginJob X hw (Nat.le_trans (Nat.le_of_ble_eq_true rfl) hRf) (Nat.le_trans (Nat.le_of_ble_eq_true rfl) hRl) rfl hl.1 (Nat.le_of_ble_eq_true rfl) rfl dX12_define_90 (fun u H locs h hw => ?_)
        refine lv_goto hx hb dX12_define_93 (tgt := 101) rfl ?_
        exact hret _ _ _ _ _ h hw dX12_define_101
    · refine lv_aload_n hx hb dX12_define_44 rfl (lv_at hl 2 rfl) ?_
      refine lv_aload_n hx hb dX12_define_45 rfl (lv_at hl 2 rfl) ?_
      refine lv_iload_n hx hb dX12_define_46 rfl (lv_at hl 1 rfl) ?_
      refine lv_iconst hx hb dX12_define_47 (v := jI 0) rfl ?_
      refine kcI (n := 2) (c_bodyOf rv1 (by decide) h) G_bodyOf E_bodyOf X hw (Nat.le_trans (Nat.le_of_ble_eq_true rfl) hRf) (Nat.le_trans (Nat.le_of_ble_eq_true rfl) hRl) rfl hl.1 (Nat.le_of_ble_eq_true rfl) rfl dX12_define_48 (fun v12 u H locs rv12 h hw => ?_)
      refine kcV (n := 1) (c_passOn rv12 h) G_passOn E_passOn X hw (Nat.le_trans (Nat.le_of_ble_eq_true rfl) hRf) (Nat.le_trans (Nat.le_of_ble_eq_true rfl) hRl) rfl hl.1 (Nat.le_of_ble_eq_true rfl) rfl dX12_define_51 (fun u H locs h hw => ?_)
      refine lv_goto hx hb dX12_define_54 (tgt := 101) rfl ?_
      exact hret _ _ _ _ _ h hw dX12_define_101
  · refine lv_aload_n hx hb dX12_define_24 rfl (lv_at hl 2 rfl) ?_
    refine lv_iload_n hx hb dX12_define_25 rfl (lv_at hl 1 rfl) ?_
    refine kcV (n := 1) (c_end0 rv1 h) G_end0 E_end0 X hw (Nat.le_trans (Nat.le_of_ble_eq_true rfl) hRf) (Nat.le_trans (Nat.le_of_ble_eq_true rfl) hRl) rfl hl.1 (Nat.le_of_ble_eq_true rfl) rfl dX12_define_26 (fun u H locs h hw => ?_)
    refine lv_goto hx hb dX12_define_29 (tgt := 101) rfl ?_
    exact hret _ _ _ _ _ h hw dX12_define_101

end
theorem c_define {l : Launch} {a0 : Int} (ra0 : inR a0) {Q : iST → Prop} {u : iST} (h : w_define a0 Q u) : kMV l yX12_define (.code yX12_define cX12_define 4 none :: wsM) { frames := 7, cells := 0, slots := 0, locals := 160 } [.int (jI a0)] Q u := kMV_of rfl (fun _ => Nat.le_of_ble_eq_true rfl) (fun X hRf hRl hret hw hl => b_define_s X hRf hRl hret ra0 hw hl h)
