/-! ProofHouse.run -/
theorem dX11_run_0 : decode cX11_run 0 = .ok (.aload_n 0, 1) := by decide +kernel
theorem dX11_run_1 : decode cX11_run 1 = .ok (.getfield 105, 3) := by decide +kernel
theorem dX11_run_4 : decode cX11_run 4 = .ok (.istore_n 1, 1) := by decide +kernel
theorem dX11_run_5 : decode cX11_run 5 = .ok (.aload_n 0, 1) := by decide +kernel
theorem dX11_run_6 : decode cX11_run 6 = .ok (.iconst 0, 1) := by decide +kernel
theorem dX11_run_7 : decode cX11_run 7 = .ok (.putfield 105, 3) := by decide +kernel
theorem dX11_run_10 : decode cX11_run 10 = .ok (.aload_n 0, 1) := by decide +kernel
theorem dX11_run_11 : decode cX11_run 11 = .ok (.invokevirtual 143, 3) := by decide +kernel
theorem dX11_run_14 : decode cX11_run 14 = .ok (.aload_n 0, 1) := by decide +kernel
theorem dX11_run_15 : decode cX11_run 15 = .ok (.getfield 36, 3) := by decide +kernel
theorem dX11_run_18 : decode cX11_run 18 = .ok (.aload_n 0, 1) := by decide +kernel
theorem dX11_run_19 : decode cX11_run 19 = .ok (.getfield 101, 3) := by decide +kernel
theorem dX11_run_22 : decode cX11_run 22 = .ok (.iload_n 1, 1) := by decide +kernel
theorem dX11_run_23 : decode cX11_run 23 = .ok (.invokevirtual 146, 3) := by decide +kernel
theorem dX11_run_26 : decode cX11_run 26 = .ok (.istore_n 2, 1) := by decide +kernel
theorem dX11_run_27 : decode cX11_run 27 = .ok (.aload_n 0, 1) := by decide +kernel
theorem dX11_run_28 : decode cX11_run 28 = .ok (.getfield 36, 3) := by decide +kernel
theorem dX11_run_31 : decode cX11_run 31 = .ok (.getfield 150, 3) := by decide +kernel
theorem dX11_run_34 : decode cX11_run 34 = .ok (.ifCond .eq 5, 3) := by decide +kernel
theorem dX11_run_37 : decode cX11_run 37 = .ok (.iconst 1, 1) := by decide +kernel
theorem dX11_run_38 : decode cX11_run 38 = .ok (.ireturn, 1) := by decide +kernel
theorem dX11_run_39 : decode cX11_run 39 = .ok (.aload_n 0, 1) := by decide +kernel
theorem dX11_run_40 : decode cX11_run 40 = .ok (.iload_n 2, 1) := by decide +kernel
theorem dX11_run_41 : decode cX11_run 41 = .ok (.invokevirtual 153, 3) := by decide +kernel
theorem dX11_run_44 : decode cX11_run 44 = .ok (.istore_n 3, 1) := by decide +kernel
theorem dX11_run_45 : decode cX11_run 45 = .ok (.iload_n 3, 1) := by decide +kernel
theorem dX11_run_46 : decode cX11_run 46 = .ok (.ifCond .ne 16, 3) := by decide +kernel
theorem dX11_run_49 : decode cX11_run 49 = .ok (.aload_n 0, 1) := by decide +kernel
theorem dX11_run_50 : decode cX11_run 50 = .ok (.getfield 14, 3) := by decide +kernel
theorem dX11_run_53 : decode cX11_run 53 = .ok (.getfield 157, 3) := by decide +kernel
theorem dX11_run_56 : decode cX11_run 56 = .ok (.ifCond .eq 6, 3) := by decide +kernel
theorem dX11_run_59 : decode cX11_run 59 = .ok (.bipush 8, 2) := by decide +kernel
theorem dX11_run_61 : decode cX11_run 61 = .ok (.istore_n 3, 1) := by decide +kernel
theorem dX11_run_62 : decode cX11_run 62 = .ok (.iload_n 3, 1) := by decide +kernel
theorem dX11_run_63 : decode cX11_run 63 = .ok (.ifCond .eq 5, 3) := by decide +kernel
theorem dX11_run_66 : decode cX11_run 66 = .ok (.iload_n 3, 1) := by decide +kernel
theorem dX11_run_67 : decode cX11_run 67 = .ok (.ireturn, 1) := by decide +kernel
theorem dX11_run_68 : decode cX11_run 68 = .ok (.aload_n 0, 1) := by decide +kernel
theorem dX11_run_69 : decode cX11_run 69 = .ok (.getfield 14, 3) := by decide +kernel
theorem dX11_run_72 : decode cX11_run 72 = .ok (.getfield 20, 3) := by decide +kernel
theorem dX11_run_75 : decode cX11_run 75 = .ok (.istore 4, 2) := by decide +kernel
theorem dX11_run_77 : decode cX11_run 77 = .ok (.aload_n 0, 1) := by decide +kernel
theorem dX11_run_78 : decode cX11_run 78 = .ok (.getfield 14, 3) := by decide +kernel
theorem dX11_run_81 : decode cX11_run 81 = .ok (.aload_n 0, 1) := by decide +kernel
theorem dX11_run_82 : decode cX11_run 82 = .ok (.getfield 112, 3) := by decide +kernel
theorem dX11_run_85 : decode cX11_run 85 = .ok (.invokevirtual 160, 3) := by decide +kernel
theorem dX11_run_88 : decode cX11_run 88 = .ok (.aload_n 0, 1) := by decide +kernel
theorem dX11_run_89 : decode cX11_run 89 = .ok (.iload_n 2, 1) := by decide +kernel
theorem dX11_run_90 : decode cX11_run 90 = .ok (.invokevirtual 163, 3) := by decide +kernel
theorem dX11_run_93 : decode cX11_run 93 = .ok (.aload_n 0, 1) := by decide +kernel
theorem dX11_run_94 : decode cX11_run 94 = .ok (.getfield 14, 3) := by decide +kernel
theorem dX11_run_97 : decode cX11_run 97 = .ok (.getfield 157, 3) := by decide +kernel
theorem dX11_run_100 : decode cX11_run 100 = .ok (.ifCond .ne 11, 3) := by decide +kernel
theorem dX11_run_103 : decode cX11_run 103 = .ok (.aload_n 0, 1) := by decide +kernel
theorem dX11_run_104 : decode cX11_run 104 = .ok (.getfield 88, 3) := by decide +kernel
theorem dX11_run_107 : decode cX11_run 107 = .ok (.iconst 0, 1) := by decide +kernel
theorem dX11_run_108 : decode cX11_run 108 = .ok (.invokevirtual 166, 3) := by decide +kernel
theorem dX11_run_111 : decode cX11_run 111 = .ok (.aload_n 0, 1) := by decide +kernel
theorem dX11_run_112 : decode cX11_run 112 = .ok (.getfield 14, 3) := by decide +kernel
theorem dX11_run_115 : decode cX11_run 115 = .ok (.iload_n 2, 1) := by decide +kernel
theorem dX11_run_116 : decode cX11_run 116 = .ok (.invokevirtual 170, 3) := by decide +kernel
theorem dX11_run_119 : decode cX11_run 119 = .ok (.bipush 22, 2) := by decide +kernel
theorem dX11_run_121 : decode cX11_run 121 = .ok (.if_icmp .ne 19, 3) := by decide +kernel
theorem dX11_run_124 : decode cX11_run 124 = .ok (.aload_n 0, 1) := by decide +kernel
theorem dX11_run_125 : decode cX11_run 125 = .ok (.getfield 97, 3) := by decide +kernel
theorem dX11_run_128 : decode cX11_run 128 = .ok (.aload_n 0, 1) := by decide +kernel
theorem dX11_run_129 : decode cX11_run 129 = .ok (.getfield 14, 3) := by decide +kernel
theorem dX11_run_132 : decode cX11_run 132 = .ok (.iload_n 2, 1) := by decide +kernel
theorem dX11_run_133 : decode cX11_run 133 = .ok (.iconst 3, 1) := by decide +kernel
theorem dX11_run_134 : decode cX11_run 134 = .ok (.invokevirtual 173, 3) := by decide +kernel
theorem dX11_run_137 : decode cX11_run 137 = .ok (.invokevirtual 177, 3) := by decide +kernel
theorem dX11_run_140 : decode cX11_run 140 = .ok (.aload_n 0, 1) := by decide +kernel
theorem dX11_run_141 : decode cX11_run 141 = .ok (.aload_n 0, 1) := by decide +kernel
theorem dX11_run_142 : decode cX11_run 142 = .ok (.getfield 14, 3) := by decide +kernel
theorem dX11_run_145 : decode cX11_run 145 = .ok (.getfield 180, 3) := by decide +kernel
theorem dX11_run_148 : decode cX11_run 148 = .ok (.putfield 127, 3) := by decide +kernel
theorem dX11_run_151 : decode cX11_run 151 = .ok (.aload_n 0, 1) := by decide +kernel
theorem dX11_run_152 : decode cX11_run 152 = .ok (.aload_n 0, 1) := by decide +kernel
theorem dX11_run_153 : decode cX11_run 153 = .ok (.getfield 14, 3) := by decide +kernel
theorem dX11_run_156 : decode cX11_run 156 = .ok (.getfield 157, 3) := by decide +kernel
theorem dX11_run_159 : decode cX11_run 159 = .ok (.putfield 130, 3) := by decide +kernel
theorem dX11_run_162 : decode cX11_run 162 = .ok (.aload_n 0, 1) := by decide +kernel
theorem dX11_run_163 : decode cX11_run 163 = .ok (.iload_n 2, 1) := by decide +kernel
theorem dX11_run_164 : decode cX11_run 164 = .ok (.iload 4, 2) := by decide +kernel
theorem dX11_run_166 : decode cX11_run 166 = .ok (.invokevirtual 183, 3) := by decide +kernel
theorem dX11_run_169 : decode cX11_run 169 = .ok (.ireturn, 1) := by decide +kernel

section
variable {p : Program} {l : Launch} {e : Env} {R : Room} {s : State} {m : MethodId} {args : Array Value} {below : List Frame} {meth : Method} {c : Code} {H : Heap} {locs : List Loc} {Qf : State → Prop}
variable {ls : Array Slot} {D : va_G} {ca : Nat → ClassId} {A : Nat → Prop} {ad : Nat → Nat → Nat} {u : iST}
def v_11_run_140 (Q : Int → iST → Prop) (x2 : Int) (x4 : Int) (u : iST) : Prop :=
  rd (u.1 31) (fun v12 => 
  sw (iI u 48 v12) (fun u => 
  rd (u.1 32) (fun v13 => 
  sw (iI u 49 v13) (fun u => 
  v_11_conclude x2 x4 (fun v14 u => 
  Q v14 u) u))))
set_option maxRecDepth 20000 in
set_option maxHeartbeats 4000000 in
theorem f_11_run_140 (X : yX RX11 p m c cX11_run 5 s args D ca ad A) (hRf : 12 ≤ R.frames) (hRl : 355 ≤ R.locals) {Q : Int → iST → Prop} (hret : ∀ (v : Int) (u : iST) (H : Heap) (locs : List Loc) (ls : Array Slot) (pc : Nat), inR v → Q v u → yW D ca A ad s H locs u → decode cX11_run pc = .ok (.ireturn, 1) → W p l e R s m args below meth c H locs 0 0 Qf (F0 m pc ls [.int (jI v)])) {x2 x4 : Int} (rx2 : inR x2) (rx4 : inR x4) (hw : yW D ca A ad s H locs u) (hl : lv_has ls 5 [(0, .ref (ad 0 9)), (2, .int (jI x2)), (4, .int (jI x4))]) (h : v_11_run_140 Q x2 x4 u) : W p l e R s m args below meth c H locs 0 0 Qf (F0 m 140 ls []) := by
  have hx := X.1.1
  have hb := X.1.2.1
  unfold v_11_run_140 at h
  refine lv_aload_n hx hb dX11_run_140 rfl (lv_at hl 0 rfl) ?_
  refine lv_aload_n hx hb dX11_run_141 rfl (lv_at hl 0 rfl) ?_
  refine yg_11_14 X hw dX11_run_142 ?_
  refine yg_11_180 X hw dX11_run_145 h (fun v12 rv12 h => ?_)
  refine yp_11_127 X hw rv12 dX11_run_148 h (fun H locs u hw h => ?_)
  refine lv_aload_n hx hb dX11_run_151 rfl (lv_at hl 0 rfl) ?_
  refine lv_aload_n hx hb dX11_run_152 rfl (lv_at hl 0 rfl) ?_
  refine yg_11_14 X hw dX11_run_153 ?_
  refine yg_11_157 X hw dX11_run_156 h (fun v13 rv13 h => ?_)
  refine yp_11_130 X hw rv13 dX11_run_159 h (fun H locs u hw h => ?_)
  refine lv_aload_n hx hb dX11_run_162 rfl (lv_at hl 0 rfl) ?_
  refine lv_iload_n hx hb dX11_run_163 rfl (lv_at hl 1 rfl) ?_
  refine lv_iload hx hb dX11_run_164 (lv_at hl 2 rfl) ?_
  refine ycI (n := 2) (e_11_conclude rx2 rx4 h) 11 9 (r := (RX11, TX11, 21)) rfl yG_11_183 yD_11_conclude X hw rfl yGo_11 (Nat.le_trans (Nat.le_of_ble_eq_true rfl) hRf) (Nat.le_trans (Nat.le_of_ble_eq_true rfl) hRl) rfl hl.1 (Nat.le_of_ble_eq_true rfl) rfl dX11_run_166 (fun v14 u H locs rv14 h hw => ?_)
  exact hret _ _ _ _ _ _ rv14 h hw dX11_run_169

def v_11_run_111 (Q : Int → iST → Prop) (x2 : Int) (x4 : Int) (u : iST) : Prop :=
  v_7_left x2 (fun v11 u => 
  br (v11 ≠ 22) (
    v_11_run_140 Q x2 x4 u) (
    v_7_item x2 3 (fun v15 u => 
    v_3_goThrough v15 (fun u => 
    v_11_run_140 Q x2 x4 u) u) u)) u
set_option maxRecDepth 20000 in
set_option maxHeartbeats 4000000 in
theorem f_11_run_111 (X : yX RX11 p m c cX11_run 5 s args D ca ad A) (hRf : 12 ≤ R.frames) (hRl : 355 ≤ R.locals) {Q : Int → iST → Prop} (hret : ∀ (v : Int) (u : iST) (H : Heap) (locs : List Loc) (ls : Array Slot) (pc : Nat), inR v → Q v u → yW D ca A ad s H locs u → decode cX11_run pc = .ok (.ireturn, 1) → W p l e R s m args below meth c H locs 0 0 Qf (F0 m pc ls [.int (jI v)])) {x2 x4 : Int} (rx2 : inR x2) (rx4 : inR x4) (hw : yW D ca A ad s H locs u) (hl : lv_has ls 5 [(0, .ref (ad 0 9)), (2, .int (jI x2)), (4, .int (jI x4))]) (h : v_11_run_111 Q x2 x4 u) : W p l e R s m args below meth c H locs 0 0 Qf (F0 m 111 ls []) := by
  have hx := X.1.1
  have hb := X.1.2.1
  unfold v_11_run_111 at h
  refine lv_aload_n hx hb dX11_run_111 rfl (lv_at hl 0 rfl) ?_
  refine yg_11_14 X hw dX11_run_112 ?_
  refine lv_iload_n hx hb dX11_run_115 rfl (lv_at hl 1 rfl) ?_
  refine ycI (n := 1) (e_7_left rx2 h) 7 6 (r := (RX7, TX7, 9)) rfl yG_11_170 yD_7_left X hw rfl yGo_7 (Nat.le_trans (Nat.le_of_ble_eq_true rfl) hRf) (Nat.le_trans (Nat.le_of_ble_eq_true rfl) hRl) rfl hl.1 (Nat.le_of_ble_eq_true rfl) rfl dX11_run_116 (fun v11 u H locs rv11 h hw => ?_)
  refine lv_bipush hx hb dX11_run_119 (v := jI 22) rfl ?_
  refine k_icmp_ne hx hb rv11 (by decide) dX11_run_121 (tgt := 140) rfl h (fun h => ?_) (fun h => ?_)
  · exact f_11_run_140 X hRf hRl hret rx2 rx4 hw hl h
  · refine lv_aload_n hx hb dX11_run_124 rfl (lv_at hl 0 rfl) ?_
    refine yg_11_97 X hw dX11_run_125 ?_
    refine lv_aload_n hx hb dX11_run_128 rfl (lv_at hl 0 rfl) ?_
    refine yg_11_14 X hw dX11_run_129 ?_
    refine lv_iload_n hx hb dX11_run_132 rfl (lv_at hl 1 rfl) ?_
    refine lv_iconst hx hb dX11_run_133 (v := jI 3) rfl ?_
    refine ycI (n := 2) (e_7_item rx2 (by decide) h) 7 6 (r := (RX7, TX7, 9)) rfl yG_11_173 yD_7_item X hw rfl yGo_7 (Nat.le_trans (Nat.le_of_ble_eq_true rfl) hRf) (Nat.le_trans (Nat.le_of_ble_eq_true rfl) hRl) rfl hl.1 (Nat.le_of_ble_eq_true rfl) rfl dX11_run_134 (fun v15 u H locs rv15 h hw => ?_)
    refine ycV (n := 1) (e_3_goThrough rv15 h) 3 2 (r := (RX3, TX3, 11)) rfl yG_11_177 yD_3_goThrough X hw rfl yGo_3 (Nat.le_trans (Nat.le_of_ble_eq_true rfl) hRf) (Nat.le_trans (Nat.le_of_ble_eq_true rfl) hRl) rfl hl.1 (Nat.le_of_ble_eq_true rfl) rfl dX11_run_137 (fun u H locs h hw => ?_)
    exact f_11_run_140 X hRf hRl hret rx2 rx4 hw hl h

def v_11_run_62 (Q : Int → iST → Prop) (x2 : Int) (x3 : Int) (u : iST) : Prop :=
  br (x3 = 0) (
    rd (u.1 29) (fun v6 => 
    rd (u.1 43) (fun v7 => 
    v_7_begin v7 (fun u => 
    v_11_prepare x2 (fun u => 
    rd (u.1 32) (fun v10 => 
    br (v10 ≠ 0) (
      v_11_run_111 Q x2 v6 u) (
      v_4_prove 0 (fun u => 
      v_11_run_111 Q x2 v6 u) u))) u) u))) (
    Q x3 u)
set_option maxRecDepth 20000 in
set_option maxHeartbeats 4000000 in
theorem f_11_run_62 (X : yX RX11 p m c cX11_run 5 s args D ca ad A) (hRf : 12 ≤ R.frames) (hRl : 355 ≤ R.locals) {Q : Int → iST → Prop} (hret : ∀ (v : Int) (u : iST) (H : Heap) (locs : List Loc) (ls : Array Slot) (pc : Nat), inR v → Q v u → yW D ca A ad s H locs u → decode cX11_run pc = .ok (.ireturn, 1) → W p l e R s m args below meth c H locs 0 0 Qf (F0 m pc ls [.int (jI v)])) {x2 x3 : Int} (rx2 : inR x2) (rx3 : inR x3) (hw : yW D ca A ad s H locs u) (hl : lv_has ls 5 [(0, .ref (ad 0 9)), (2, .int (jI x2)), (3, .int (jI x3))]) (h : v_11_run_62 Q x2 x3 u) : W p l e R s m args below meth c H locs 0 0 Qf (F0 m 62 ls []) := by
  have hx := X.1.1
  have hb := X.1.2.1
  unfold v_11_run_62 at h
  refine lv_iload_n hx hb dX11_run_62 rfl (lv_at hl 2 rfl) ?_
  refine k_if_eq hx hb rx3 dX11_run_63 (tgt := 68) rfl h (fun h => ?_) (fun h => ?_)
  · refine lv_aload_n hx hb dX11_run_68 rfl (lv_at hl 0 rfl) ?_
    refine yg_11_14 X hw dX11_run_69 ?_
    refine yg_11_20 X hw dX11_run_72 h (fun v6 rv6 h => ?_)
    refine lv_istore hx hb dX11_run_75 hl (by decide) rfl (fun ls hl => ?_)
    have hl : lv_has ls 5 [(4, .int (jI v6)), (0, .ref (ad 0 9)), (2, .int (jI x2)), (3, .int (jI x3))] := hl
    refine lv_aload_n hx hb dX11_run_77 rfl (lv_at hl 1 rfl) ?_
    refine yg_11_14 X hw dX11_run_78 ?_
    refine lv_aload_n hx hb dX11_run_81 rfl (lv_at hl 1 rfl) ?_
    refine yg_11_112 X hw dX11_run_82 h (fun v7 rv7 h => ?_)
    refine ycV (n := 1) (e_7_begin rv7 h) 7 6 (r := (RX7, TX7, 9)) rfl yG_11_160 yD_7_begin X hw rfl yGo_7 (Nat.le_trans (Nat.le_of_ble_eq_true rfl) hRf) (Nat.le_trans (Nat.le_of_ble_eq_true rfl) hRl) rfl hl.1 (Nat.le_of_ble_eq_true rfl) rfl dX11_run_85 (fun u H locs h hw => ?_)
    refine lv_aload_n hx hb dX11_run_88 rfl (lv_at hl 1 rfl) ?_
    refine lv_iload_n hx hb dX11_run_89 rfl (lv_at hl 2 rfl) ?_
    refine ycV (n := 1) (e_11_prepare rx2 h) 11 9 (r := (RX11, TX11, 21)) rfl yG_11_163 yD_11_prepare X hw rfl yGo_11 (Nat.le_trans (Nat.le_of_ble_eq_true rfl) hRf) (Nat.le_trans (Nat.le_of_ble_eq_true rfl) hRl) rfl hl.1 (Nat.le_of_ble_eq_true rfl) rfl dX11_run_90 (fun u H locs h hw => ?_)
    refine lv_aload_n hx hb dX11_run_93 rfl (lv_at hl 1 rfl) ?_
    refine yg_11_14 X hw dX11_run_94 ?_
    refine yg_11_157 X hw dX11_run_97 h (fun v10 rv10 h => ?_)
    refine k_if_ne hx hb rv10 dX11_run_100 (tgt := 111) rfl h (fun h => ?_) (fun h => ?_)
    · exact f_11_run_111 X hRf hRl hret rx2 rv6 hw (lv_sub hl [1, 2, 0] rfl) h
    · refine lv_aload_n hx hb dX11_run_103 rfl (lv_at hl 1 rfl) ?_
      refine yg_11_88 X hw dX11_run_104 ?_
      refine lv_iconst hx hb dX11_run_107 (v := jI 0) rfl ?_
      refine ycV (n := 1) (e_4_prove (by decide) h) 4 3 (r := (RX4, TX4, 11)) rfl yG_11_166 yD_4_prove X hw rfl yGo_4 (Nat.le_trans (Nat.le_of_ble_eq_true rfl) hRf) (Nat.le_trans (Nat.le_of_ble_eq_true rfl) hRl) rfl hl.1 (Nat.le_of_ble_eq_true rfl) rfl dX11_run_108 (fun u H locs h hw => ?_)
      exact f_11_run_111 X hRf hRl hret rx2 rv6 hw (lv_sub hl [1, 2, 0] rfl) h
  · refine lv_iload_n hx hb dX11_run_66 rfl (lv_at hl 2 rfl) ?_
    exact hret _ _ _ _ _ _ rx3 h hw dX11_run_67

def v_11_run (Q : Int → iST → Prop) (u : iST) : Prop :=
  rd (u.1 42) (fun v1 => 
  sw (iI u 42 0) (fun u => 
  v_11_forgetLatest (fun u => 
  v_5_read v1 (fun v3 u => 
  rd (u.1 21) (fun v4 => 
  br (v4 = 0) (
    v_11_asked v3 (fun v5 u => 
    br (v5 ≠ 0) (
      v_11_run_62 Q v3 v5 u) (
      rd (u.1 32) (fun v18 => 
      br (v18 = 0) (
        v_11_run_62 Q v3 v5 u) (
        v_11_run_62 Q v3 8 u)))) u) (
    Q 1 u))) u) u))
set_option maxRecDepth 20000 in
set_option maxHeartbeats 4000000 in
theorem f_11_run_s (X : yX RX11 p m c cX11_run 5 s args D ca ad A) (hRf : 12 ≤ R.frames) (hRl : 355 ≤ R.locals) {Q : Int → iST → Prop} (hret : ∀ (v : Int) (u : iST) (H : Heap) (locs : List Loc) (ls : Array Slot) (pc : Nat), inR v → Q v u → yW D ca A ad s H locs u → decode cX11_run pc = .ok (.ireturn, 1) → W p l e R s m args below meth c H locs 0 0 Qf (F0 m pc ls [.int (jI v)])) (hw : yW D ca A ad s H locs u) (hl : lv_has ls 5 [(0, .ref (ad 0 9))]) (h : v_11_run Q u) : W p l e R s m args below meth c H locs 0 0 Qf (F0 m 0 ls []) := by
  have hx := X.1.1
  have hb := X.1.2.1
  unfold v_11_run at h
  refine lv_aload_n hx hb dX11_run_0 rfl (lv_at hl 0 rfl) ?_
  refine yg_11_105 X hw dX11_run_1 h (fun v1 rv1 h => ?_)
  refine lv_istore_n hx hb dX11_run_4 rfl hl (by decide) rfl (fun ls hl => ?_)
  have hl : lv_has ls 5 [(1, .int (jI v1)), (0, .ref (ad 0 9))] := hl
  refine lv_aload_n hx hb dX11_run_5 rfl (lv_at hl 1 rfl) ?_
  refine lv_iconst hx hb dX11_run_6 (v := jI 0) rfl ?_
  refine yp_11_105 X hw (by decide) dX11_run_7 h (fun H locs u hw h => ?_)
  refine lv_aload_n hx hb dX11_run_10 rfl (lv_at hl 1 rfl) ?_
  refine ycV (n := 0) (e_11_forgetLatest h) 11 9 (r := (RX11, TX11, 21)) rfl yG_11_143 yD_11_forgetLatest X hw rfl yGo_11 (Nat.le_trans (Nat.le_of_ble_eq_true rfl) hRf) (Nat.le_trans (Nat.le_of_ble_eq_true rfl) hRl) rfl hl.1 (Nat.le_of_ble_eq_true rfl) rfl dX11_run_11 (fun u H locs h hw => ?_)
  refine lv_aload_n hx hb dX11_run_14 rfl (lv_at hl 1 rfl) ?_
  refine yg_11_36 X hw dX11_run_15 ?_
  refine lv_aload_n hx hb dX11_run_18 rfl (lv_at hl 1 rfl) ?_
  refine yg_11_101 X hw dX11_run_19 ?_
  refine lv_iload_n hx hb dX11_run_22 rfl (lv_at hl 0 rfl) ?_
  refine ycI (n := 2) (e_5_read rv1 h) 5 4 (r := (RX5, TX5, 11)) rfl yG_11_146 yD_5_read X hw rfl yGo_5 (Nat.le_trans (Nat.le_of_ble_eq_true rfl) hRf) (Nat.le_trans (Nat.le_of_ble_eq_true rfl) hRl) rfl hl.1 (Nat.le_of_ble_eq_true rfl) rfl dX11_run_23 (fun v3 u H locs rv3 h hw => ?_)
  refine lv_istore_n hx hb dX11_run_26 rfl hl (by decide) rfl (fun ls hl => ?_)
  have hl : lv_has ls 5 [(2, .int (jI v3)), (1, .int (jI v1)), (0, .ref (ad 0 9))] := hl
  refine lv_aload_n hx hb dX11_run_27 rfl (lv_at hl 2 rfl) ?_
  refine yg_11_36 X hw dX11_run_28 ?_
  refine yg_11_150 X hw dX11_run_31 h (fun v4 rv4 h => ?_)
  refine k_if_eq hx hb rv4 dX11_run_34 (tgt := 39) rfl h (fun h => ?_) (fun h => ?_)
  · refine lv_aload_n hx hb dX11_run_39 rfl (lv_at hl 2 rfl) ?_
    refine lv_iload_n hx hb dX11_run_40 rfl (lv_at hl 0 rfl) ?_
    refine ycI (n := 1) (e_11_asked rv3 h) 11 9 (r := (RX11, TX11, 21)) rfl yG_11_153 yD_11_asked X hw rfl yGo_11 (Nat.le_trans (Nat.le_of_ble_eq_true rfl) hRf) (Nat.le_trans (Nat.le_of_ble_eq_true rfl) hRl) rfl hl.1 (Nat.le_of_ble_eq_true rfl) rfl dX11_run_41 (fun v5 u H locs rv5 h hw => ?_)
    refine lv_istore_n hx hb dX11_run_44 rfl hl (by decide) rfl (fun ls hl => ?_)
    have hl : lv_has ls 5 [(3, .int (jI v5)), (2, .int (jI v3)), (1, .int (jI v1)), (0, .ref (ad 0 9))] := hl
    refine lv_iload_n hx hb dX11_run_45 rfl (lv_at hl 0 rfl) ?_
    refine k_if_ne hx hb rv5 dX11_run_46 (tgt := 62) rfl h (fun h => ?_) (fun h => ?_)
    · exact f_11_run_62 X hRf hRl hret rv3 rv5 hw (lv_sub hl [3, 1, 0] rfl) h
    · refine lv_aload_n hx hb dX11_run_49 rfl (lv_at hl 3 rfl) ?_
      refine yg_11_14 X hw dX11_run_50 ?_
      refine yg_11_157 X hw dX11_run_53 h (fun v18 rv18 h => ?_)
      refine k_if_eq hx hb rv18 dX11_run_56 (tgt := 62) rfl h (fun h => ?_) (fun h => ?_)
      · exact f_11_run_62 X hRf hRl hret rv3 rv5 hw (lv_sub hl [3, 1, 0] rfl) h
      · refine lv_bipush hx hb dX11_run_59 (v := jI 8) rfl ?_
        refine lv_istore_n hx hb dX11_run_61 rfl hl (by decide) rfl (fun ls hl => ?_)
        have hl : lv_has ls 5 [(3, .int (jI 8)), (2, .int (jI v3)), (1, .int (jI v1)), (0, .ref (ad 0 9))] := hl
        exact f_11_run_62 X hRf hRl hret rv3 (by decide) hw (lv_sub hl [3, 1, 0] rfl) h
  · refine lv_iconst hx hb dX11_run_37 (v := jI 1) rfl ?_
    exact hret _ _ _ _ _ _ (by decide) h hw dX11_run_38

end
theorem e_11_run {l : Launch} {Q : Int → iST → Prop} {u : iST} (h : v_11_run Q u) : yMI l yX11_run (.code yX11_run cX11_run 5 (some .int) :: wsN) { frames := 12, cells := 0, slots := 0, locals := 355 } (fun ad => [.ref (ad 0 9)]) Q u := yMI_of (own := RX11) rfl (by decide +kernel) (fun _ => Nat.le_of_ble_eq_true rfl) (fun X hRf hRl hret hw hl => f_11_run_s X hRf hRl hret hw hl h)

/-! ProofHouse.fault -/
theorem dX11_fault_0 : decode cX11_fault 0 = .ok (.iload_n 1, 1) := by decide +kernel
theorem dX11_fault_1 : decode cX11_fault 1 = .ok (.tableswitch 48 0 2 #[27, 35, 43], 27) := by decide +kernel
theorem dX11_fault_28 : decode cX11_fault 28 = .ok (.aload_n 0, 1) := by decide +kernel
theorem dX11_fault_29 : decode cX11_fault 29 = .ok (.getfield 36, 3) := by decide +kernel
theorem dX11_fault_32 : decode cX11_fault 32 = .ok (.getfield 150, 3) := by decide +kernel
theorem dX11_fault_35 : decode cX11_fault 35 = .ok (.ireturn, 1) := by decide +kernel
theorem dX11_fault_36 : decode cX11_fault 36 = .ok (.aload_n 0, 1) := by decide +kernel
theorem dX11_fault_37 : decode cX11_fault 37 = .ok (.getfield 36, 3) := by decide +kernel
theorem dX11_fault_40 : decode cX11_fault 40 = .ok (.getfield 186, 3) := by decide +kernel
theorem dX11_fault_43 : decode cX11_fault 43 = .ok (.ireturn, 1) := by decide +kernel
theorem dX11_fault_44 : decode cX11_fault 44 = .ok (.aload_n 0, 1) := by decide +kernel
theorem dX11_fault_45 : decode cX11_fault 45 = .ok (.getfield 130, 3) := by decide +kernel
theorem dX11_fault_48 : decode cX11_fault 48 = .ok (.ireturn, 1) := by decide +kernel
theorem dX11_fault_49 : decode cX11_fault 49 = .ok (.iconst (-1), 1) := by decide +kernel
theorem dX11_fault_50 : decode cX11_fault 50 = .ok (.ireturn, 1) := by decide +kernel

section
variable {p : Program} {l : Launch} {e : Env} {R : Room} {s : State} {m : MethodId} {args : Array Value} {below : List Frame} {meth : Method} {c : Code} {H : Heap} {locs : List Loc} {Qf : State → Prop}
variable {ls : Array Slot} {D : va_G} {ca : Nat → ClassId} {A : Nat → Prop} {ad : Nat → Nat → Nat} {u : iST}
def v_11_fault (a0 : Int) (Q : Int → iST → Prop) (u : iST) : Prop :=
  br (a0 = 0) (
    rd (u.1 21) (fun v1 => 
    Q v1 u)) (
  br (a0 = 1) (
    rd (u.1 22) (fun v3 => 
    Q v3 u)) (
  br (a0 = 2) (
    rd (u.1 49) (fun v5 => 
    Q v5 u)) (
  Q (-1) u)))
set_option maxRecDepth 20000 in
set_option maxHeartbeats 4000000 in
theorem f_11_fault_s (X : yX RX11 p m c cX11_fault 2 s args D ca ad A) (hRf : 0 ≤ R.frames) (hRl : 0 ≤ R.locals) {Q : Int → iST → Prop} (hret : ∀ (v : Int) (u : iST) (H : Heap) (locs : List Loc) (ls : Array Slot) (pc : Nat), inR v → Q v u → yW D ca A ad s H locs u → decode cX11_fault pc = .ok (.ireturn, 1) → W p l e R s m args below meth c H locs 0 0 Qf (F0 m pc ls [.int (jI v)])) {a0 : Int} (ra0 : inR a0) (hw : yW D ca A ad s H locs u) (hl : lv_has ls 2 [(0, .ref (ad 0 9)), (1, .int (jI a0))]) (h : v_11_fault a0 Q u) : W p l e R s m args below meth c H locs 0 0 Qf (F0 m 0 ls []) := by
  have hx := X.1.1
  have hb := X.1.2.1
  unfold v_11_fault at h
  refine lv_iload_n hx hb dX11_fault_0 rfl (lv_at hl 1 rfl) ?_
  refine br_sp h (fun ek h => ?_) (fun n2 h => ?_)
  · refine k_tabIn (tgt := 28) (off := 27) hx hb dX11_fault_1 ek (by decide) (by decide) rfl rfl ?_
    refine lv_aload_n hx hb dX11_fault_28 rfl (lv_at hl 0 rfl) ?_
    refine yg_11_36 X hw dX11_fault_29 ?_
    refine yg_11_150 X hw dX11_fault_32 h (fun v1 rv1 h => ?_)
    exact hret _ _ _ _ _ _ rv1 h hw dX11_fault_35
  refine br_sp h (fun ek h => ?_) (fun n4 h => ?_)
  · refine k_tabIn (tgt := 36) (off := 35) hx hb dX11_fault_1 ek (by decide) (by decide) rfl rfl ?_
    refine lv_aload_n hx hb dX11_fault_36 rfl (lv_at hl 0 rfl) ?_
    refine yg_11_36 X hw dX11_fault_37 ?_
    refine yg_11_186 X hw dX11_fault_40 h (fun v3 rv3 h => ?_)
    exact hret _ _ _ _ _ _ rv3 h hw dX11_fault_43
  refine br_sp h (fun ek h => ?_) (fun n6 h => ?_)
  · refine k_tabIn (tgt := 44) (off := 43) hx hb dX11_fault_1 ek (by decide) (by decide) rfl rfl ?_
    refine lv_aload_n hx hb dX11_fault_44 rfl (lv_at hl 0 rfl) ?_
    refine yg_11_130 X hw dX11_fault_45 h (fun v5 rv5 h => ?_)
    exact hret _ _ _ _ _ _ rv5 h hw dX11_fault_48
  refine k_tabOut (tgt := 49) hx hb ra0 dX11_fault_1 (by omega) rfl ?_
  refine lv_iconst hx hb dX11_fault_49 (v := jI (-1)) rfl ?_
  exact hret _ _ _ _ _ _ (by decide) h hw dX11_fault_50

end
theorem e_11_fault {l : Launch} {a0 : Int} (ra0 : inR a0) {Q : Int → iST → Prop} {u : iST} (h : v_11_fault a0 Q u) : yMI l yX11_fault (.code yX11_fault cX11_fault 2 (some .int) :: wsN) { frames := 0, cells := 0, slots := 0, locals := 0 } (fun ad => [.ref (ad 0 9), .int (jI a0)]) Q u := yMI_of (own := RX11) rfl (by decide +kernel) (fun _ => Nat.le_of_ble_eq_true rfl) (fun X hRf hRl hret hw hl => f_11_fault_s X hRf hRl hret ra0 hw hl h)

/-! ProofHouse.steps -/
theorem dX11_steps_0 : decode cX11_steps 0 = .ok (.aload_n 0, 1) := by decide +kernel
theorem dX11_steps_1 : decode cX11_steps 1 = .ok (.getfield 127, 3) := by decide +kernel
theorem dX11_steps_4 : decode cX11_steps 4 = .ok (.ireturn, 1) := by decide +kernel

section
variable {p : Program} {l : Launch} {e : Env} {R : Room} {s : State} {m : MethodId} {args : Array Value} {below : List Frame} {meth : Method} {c : Code} {H : Heap} {locs : List Loc} {Qf : State → Prop}
variable {ls : Array Slot} {D : va_G} {ca : Nat → ClassId} {A : Nat → Prop} {ad : Nat → Nat → Nat} {u : iST}
def v_11_steps (Q : Int → iST → Prop) (u : iST) : Prop :=
  rd (u.1 48) (fun v1 => 
  Q v1 u)
set_option maxRecDepth 20000 in
set_option maxHeartbeats 4000000 in
theorem f_11_steps_s (X : yX RX11 p m c cX11_steps 1 s args D ca ad A) (hRf : 0 ≤ R.frames) (hRl : 0 ≤ R.locals) {Q : Int → iST → Prop} (hret : ∀ (v : Int) (u : iST) (H : Heap) (locs : List Loc) (ls : Array Slot) (pc : Nat), inR v → Q v u → yW D ca A ad s H locs u → decode cX11_steps pc = .ok (.ireturn, 1) → W p l e R s m args below meth c H locs 0 0 Qf (F0 m pc ls [.int (jI v)])) (hw : yW D ca A ad s H locs u) (hl : lv_has ls 1 [(0, .ref (ad 0 9))]) (h : v_11_steps Q u) : W p l e R s m args below meth c H locs 0 0 Qf (F0 m 0 ls []) := by
  have hx := X.1.1
  have hb := X.1.2.1
  unfold v_11_steps at h
  refine lv_aload_n hx hb dX11_steps_0 rfl (lv_at hl 0 rfl) ?_
  refine yg_11_127 X hw dX11_steps_1 h (fun v1 rv1 h => ?_)
  exact hret _ _ _ _ _ _ rv1 h hw dX11_steps_4

end
theorem e_11_steps {l : Launch} {Q : Int → iST → Prop} {u : iST} (h : v_11_steps Q u) : yMI l yX11_steps (.code yX11_steps cX11_steps 1 (some .int) :: wsN) { frames := 0, cells := 0, slots := 0, locals := 0 } (fun ad => [.ref (ad 0 9)]) Q u := yMI_of (own := RX11) rfl (by decide +kernel) (fun _ => Nat.le_of_ble_eq_true rfl) (fun X hRf hRl hret hw hl => f_11_steps_s X hRf hRl hret hw hl h)

/-! ProofHouse.count -/
theorem dX11_count_0 : decode cX11_count 0 = .ok (.iload_n 1, 1) := by decide +kernel
theorem dX11_count_1 : decode cX11_count 1 = .ok (.tableswitch 77 0 4 #[35, 43, 51, 60, 69], 35) := by decide +kernel
theorem dX11_count_36 : decode cX11_count 36 = .ok (.aload_n 0, 1) := by decide +kernel
theorem dX11_count_37 : decode cX11_count 37 = .ok (.getfield 27, 3) := by decide +kernel
theorem dX11_count_40 : decode cX11_count 40 = .ok (.getfield 189, 3) := by decide +kernel
theorem dX11_count_43 : decode cX11_count 43 = .ok (.ireturn, 1) := by decide +kernel
theorem dX11_count_44 : decode cX11_count 44 = .ok (.aload_n 0, 1) := by decide +kernel
theorem dX11_count_45 : decode cX11_count 45 = .ok (.getfield 27, 3) := by decide +kernel
theorem dX11_count_48 : decode cX11_count 48 = .ok (.getfield 192, 3) := by decide +kernel
theorem dX11_count_51 : decode cX11_count 51 = .ok (.ireturn, 1) := by decide +kernel
theorem dX11_count_52 : decode cX11_count 52 = .ok (.aload_n 0, 1) := by decide +kernel
theorem dX11_count_53 : decode cX11_count 53 = .ok (.getfield 27, 3) := by decide +kernel
theorem dX11_count_56 : decode cX11_count 56 = .ok (.iconst 0, 1) := by decide +kernel
theorem dX11_count_57 : decode cX11_count 57 = .ok (.invokevirtual 195, 3) := by decide +kernel
theorem dX11_count_60 : decode cX11_count 60 = .ok (.ireturn, 1) := by decide +kernel
theorem dX11_count_61 : decode cX11_count 61 = .ok (.aload_n 0, 1) := by decide +kernel
theorem dX11_count_62 : decode cX11_count 62 = .ok (.getfield 27, 3) := by decide +kernel
theorem dX11_count_65 : decode cX11_count 65 = .ok (.iconst 1, 1) := by decide +kernel
theorem dX11_count_66 : decode cX11_count 66 = .ok (.invokevirtual 195, 3) := by decide +kernel
theorem dX11_count_69 : decode cX11_count 69 = .ok (.ireturn, 1) := by decide +kernel
theorem dX11_count_70 : decode cX11_count 70 = .ok (.aload_n 0, 1) := by decide +kernel
theorem dX11_count_71 : decode cX11_count 71 = .ok (.getfield 88, 3) := by decide +kernel
theorem dX11_count_74 : decode cX11_count 74 = .ok (.getfield 199, 3) := by decide +kernel
theorem dX11_count_77 : decode cX11_count 77 = .ok (.ireturn, 1) := by decide +kernel
theorem dX11_count_78 : decode cX11_count 78 = .ok (.iconst (-1), 1) := by decide +kernel
theorem dX11_count_79 : decode cX11_count 79 = .ok (.ireturn, 1) := by decide +kernel

section
variable {p : Program} {l : Launch} {e : Env} {R : Room} {s : State} {m : MethodId} {args : Array Value} {below : List Frame} {meth : Method} {c : Code} {H : Heap} {locs : List Loc} {Qf : State → Prop}
variable {ls : Array Slot} {D : va_G} {ca : Nat → ClassId} {A : Nat → Prop} {ad : Nat → Nat → Nat} {u : iST}
def v_11_count (a0 : Int) (Q : Int → iST → Prop) (u : iST) : Prop :=
  br (a0 = 0) (
    rd (u.1 0) (fun v1 => 
    Q v1 u)) (
  br (a0 = 1) (
    rd (u.1 1) (fun v3 => 
    Q v3 u)) (
  br (a0 = 2) (
    v_0_rules 0 (fun v5 u => 
    Q v5 u) u) (
  br (a0 = 3) (
    v_0_rules 1 (fun v7 u => 
    Q v7 u) u) (
  br (a0 = 4) (
    rd (u.1 15) (fun v9 => 
    Q v9 u)) (
  Q (-1) u)))))
set_option maxRecDepth 20000 in
set_option maxHeartbeats 4000000 in
theorem f_11_count_s (X : yX RX11 p m c cX11_count 2 s args D ca ad A) (hRf : 1 ≤ R.frames) (hRl : 23 ≤ R.locals) {Q : Int → iST → Prop} (hret : ∀ (v : Int) (u : iST) (H : Heap) (locs : List Loc) (ls : Array Slot) (pc : Nat), inR v → Q v u → yW D ca A ad s H locs u → decode cX11_count pc = .ok (.ireturn, 1) → W p l e R s m args below meth c H locs 0 0 Qf (F0 m pc ls [.int (jI v)])) {a0 : Int} (ra0 : inR a0) (hw : yW D ca A ad s H locs u) (hl : lv_has ls 2 [(0, .ref (ad 0 9)), (1, .int (jI a0))]) (h : v_11_count a0 Q u) : W p l e R s m args below meth c H locs 0 0 Qf (F0 m 0 ls []) := by
  have hx := X.1.1
  have hb := X.1.2.1
  unfold v_11_count at h
  refine lv_iload_n hx hb dX11_count_0 rfl (lv_at hl 1 rfl) ?_
  refine br_sp h (fun ek h => ?_) (fun n2 h => ?_)
  · refine k_tabIn (tgt := 36) (off := 35) hx hb dX11_count_1 ek (by decide) (by decide) rfl rfl ?_
    refine lv_aload_n hx hb dX11_count_36 rfl (lv_at hl 0 rfl) ?_
    refine yg_11_27 X hw dX11_count_37 ?_
    refine yg_11_189 X hw dX11_count_40 h (fun v1 rv1 h => ?_)
    exact hret _ _ _ _ _ _ rv1 h hw dX11_count_43
  refine br_sp h (fun ek h => ?_) (fun n4 h => ?_)
  · refine k_tabIn (tgt := 44) (off := 43) hx hb dX11_count_1 ek (by decide) (by decide) rfl rfl ?_
    refine lv_aload_n hx hb dX11_count_44 rfl (lv_at hl 0 rfl) ?_
    refine yg_11_27 X hw dX11_count_45 ?_
    refine yg_11_192 X hw dX11_count_48 h (fun v3 rv3 h => ?_)
    exact hret _ _ _ _ _ _ rv3 h hw dX11_count_51
  refine br_sp h (fun ek h => ?_) (fun n6 h => ?_)
  · refine k_tabIn (tgt := 52) (off := 51) hx hb dX11_count_1 ek (by decide) (by decide) rfl rfl ?_
    refine lv_aload_n hx hb dX11_count_52 rfl (lv_at hl 0 rfl) ?_
    refine yg_11_27 X hw dX11_count_53 ?_
    refine lv_iconst hx hb dX11_count_56 (v := jI 0) rfl ?_
    refine ycI (n := 1) (e_0_rules (by decide) h) 0 0 (r := (RX0, TX0, 21)) rfl yG_11_195 yD_0_rules X hw rfl yGo_0 (Nat.le_trans (Nat.le_of_ble_eq_true rfl) hRf) (Nat.le_trans (Nat.le_of_ble_eq_true rfl) hRl) rfl hl.1 (Nat.le_of_ble_eq_true rfl) rfl dX11_count_57 (fun v5 u H locs rv5 h hw => ?_)
    exact hret _ _ _ _ _ _ rv5 h hw dX11_count_60
  refine br_sp h (fun ek h => ?_) (fun n8 h => ?_)
  · refine k_tabIn (tgt := 61) (off := 60) hx hb dX11_count_1 ek (by decide) (by decide) rfl rfl ?_
    refine lv_aload_n hx hb dX11_count_61 rfl (lv_at hl 0 rfl) ?_
    refine yg_11_27 X hw dX11_count_62 ?_
    refine lv_iconst hx hb dX11_count_65 (v := jI 1) rfl ?_
    refine ycI (n := 1) (e_0_rules (by decide) h) 0 0 (r := (RX0, TX0, 21)) rfl yG_11_195 yD_0_rules X hw rfl yGo_0 (Nat.le_trans (Nat.le_of_ble_eq_true rfl) hRf) (Nat.le_trans (Nat.le_of_ble_eq_true rfl) hRl) rfl hl.1 (Nat.le_of_ble_eq_true rfl) rfl dX11_count_66 (fun v7 u H locs rv7 h hw => ?_)
    exact hret _ _ _ _ _ _ rv7 h hw dX11_count_69
  refine br_sp h (fun ek h => ?_) (fun n10 h => ?_)
  · refine k_tabIn (tgt := 70) (off := 69) hx hb dX11_count_1 ek (by decide) (by decide) rfl rfl ?_
    refine lv_aload_n hx hb dX11_count_70 rfl (lv_at hl 0 rfl) ?_
    refine yg_11_88 X hw dX11_count_71 ?_
    refine yg_11_199 X hw dX11_count_74 h (fun v9 rv9 h => ?_)
    exact hret _ _ _ _ _ _ rv9 h hw dX11_count_77
  refine k_tabOut (tgt := 78) hx hb ra0 dX11_count_1 (by omega) rfl ?_
  refine lv_iconst hx hb dX11_count_78 (v := jI (-1)) rfl ?_
  exact hret _ _ _ _ _ _ (by decide) h hw dX11_count_79

end
theorem e_11_count {l : Launch} {a0 : Int} (ra0 : inR a0) {Q : Int → iST → Prop} {u : iST} (h : v_11_count a0 Q u) : yMI l yX11_count (.code yX11_count cX11_count 2 (some .int) :: wsN) { frames := 1, cells := 0, slots := 0, locals := 23 } (fun ad => [.ref (ad 0 9), .int (jI a0)]) Q u := yMI_of (own := RX11) rfl (by decide +kernel) (fun _ => Nat.le_of_ble_eq_true rfl) (fun X hRf hRl hret hw hl => f_11_count_s X hRf hRl hret ra0 hw hl h)

/-! ProofHouse.size -/
theorem dX11_size_0 : decode cX11_size 0 = .ok (.aload_n 0, 1) := by decide +kernel
theorem dX11_size_1 : decode cX11_size 1 = .ok (.getfield 45, 3) := by decide +kernel
theorem dX11_size_4 : decode cX11_size 4 = .ok (.getfield 202, 3) := by decide +kernel
theorem dX11_size_7 : decode cX11_size 7 = .ok (.ireturn, 1) := by decide +kernel

section
variable {p : Program} {l : Launch} {e : Env} {R : Room} {s : State} {m : MethodId} {args : Array Value} {below : List Frame} {meth : Method} {c : Code} {H : Heap} {locs : List Loc} {Qf : State → Prop}
variable {ls : Array Slot} {D : va_G} {ca : Nat → ClassId} {A : Nat → Prop} {ad : Nat → Nat → Nat} {u : iST}
def v_11_size (Q : Int → iST → Prop) (u : iST) : Prop :=
  rd (u.2.1 54 0) (fun v1 => 
  Q v1 u)
set_option maxRecDepth 20000 in
set_option maxHeartbeats 4000000 in
theorem f_11_size_s (X : yX RX11 p m c cX11_size 1 s args D ca ad A) (hRf : 0 ≤ R.frames) (hRl : 0 ≤ R.locals) {Q : Int → iST → Prop} (hret : ∀ (v : Int) (u : iST) (H : Heap) (locs : List Loc) (ls : Array Slot) (pc : Nat), inR v → Q v u → yW D ca A ad s H locs u → decode cX11_size pc = .ok (.ireturn, 1) → W p l e R s m args below meth c H locs 0 0 Qf (F0 m pc ls [.int (jI v)])) (hw : yW D ca A ad s H locs u) (hl : lv_has ls 1 [(0, .ref (ad 0 9))]) (h : v_11_size Q u) : W p l e R s m args below meth c H locs 0 0 Qf (F0 m 0 ls []) := by
  have hx := X.1.1
  have hb := X.1.2.1
  unfold v_11_size at h
  refine lv_aload_n hx hb dX11_size_0 rfl (lv_at hl 0 rfl) ?_
  refine yg_11_45 X hw dX11_size_1 ?_
  refine yg_11_202 (i := 0) X hw dX11_size_4 (by decide) h (fun v1 rv1 h => ?_)
  exact hret _ _ _ _ _ _ rv1 h hw dX11_size_7

end
theorem e_11_size {l : Launch} {Q : Int → iST → Prop} {u : iST} (h : v_11_size Q u) : yMI l yX11_size (.code yX11_size cX11_size 1 (some .int) :: wsN) { frames := 0, cells := 0, slots := 0, locals := 0 } (fun ad => [.ref (ad 0 9)]) Q u := yMI_of (own := RX11) rfl (by decide +kernel) (fun _ => Nat.le_of_ble_eq_true rfl) (fun X hRf hRl hret hw hl => f_11_size_s X hRf hRl hret hw hl h)

/-! ProofHouse.letter -/
theorem dX11_letter_0 : decode cX11_letter 0 = .ok (.iload_n 1, 1) := by decide +kernel
theorem dX11_letter_1 : decode cX11_letter 1 = .ok (.ifCond .lt 26, 3) := by decide +kernel
theorem dX11_letter_4 : decode cX11_letter 4 = .ok (.iload_n 1, 1) := by decide +kernel
theorem dX11_letter_5 : decode cX11_letter 5 = .ok (.aload_n 0, 1) := by decide +kernel
theorem dX11_letter_6 : decode cX11_letter 6 = .ok (.getfield 45, 3) := by decide +kernel
theorem dX11_letter_9 : decode cX11_letter 9 = .ok (.getfield 202, 3) := by decide +kernel
theorem dX11_letter_12 : decode cX11_letter 12 = .ok (.if_icmp .ge 15, 3) := by decide +kernel
theorem dX11_letter_15 : decode cX11_letter 15 = .ok (.aload_n 0, 1) := by decide +kernel
theorem dX11_letter_16 : decode cX11_letter 16 = .ok (.getfield 45, 3) := by decide +kernel
theorem dX11_letter_19 : decode cX11_letter 19 = .ok (.getfield 205, 3) := by decide +kernel
theorem dX11_letter_22 : decode cX11_letter 22 = .ok (.iload_n 1, 1) := by decide +kernel
theorem dX11_letter_23 : decode cX11_letter 23 = .ok (.caload, 1) := by decide +kernel
theorem dX11_letter_24 : decode cX11_letter 24 = .ok (.goto 4, 3) := by decide +kernel
theorem dX11_letter_27 : decode cX11_letter 27 = .ok (.iconst (-1), 1) := by decide +kernel
theorem dX11_letter_28 : decode cX11_letter 28 = .ok (.ireturn, 1) := by decide +kernel

section
variable {p : Program} {l : Launch} {e : Env} {R : Room} {s : State} {m : MethodId} {args : Array Value} {below : List Frame} {meth : Method} {c : Code} {H : Heap} {locs : List Loc} {Qf : State → Prop}
variable {ls : Array Slot} {D : va_G} {ca : Nat → ClassId} {A : Nat → Prop} {ad : Nat → Nat → Nat} {u : iST}
def v_11_letter (a0 : Int) (Q : Int → iST → Prop) (u : iST) : Prop :=
  br (a0 < 0) (
    Q (-1) u) (
    rd (u.2.1 54 0) (fun v1 => 
    br (v1 ≤ a0) (
      Q (-1) u) (
      bd a0 (slenI 0) (rh (u.2.1 55 (2000 * 0 + a0)) (fun v2 => 
      Q v2 u)))))
set_option maxRecDepth 20000 in
set_option maxHeartbeats 4000000 in
theorem f_11_letter_s (X : yX RX11 p m c cX11_letter 2 s args D ca ad A) (hRf : 0 ≤ R.frames) (hRl : 0 ≤ R.locals) {Q : Int → iST → Prop} (hret : ∀ (v : Int) (u : iST) (H : Heap) (locs : List Loc) (ls : Array Slot) (pc : Nat), inR v → Q v u → yW D ca A ad s H locs u → decode cX11_letter pc = .ok (.ireturn, 1) → W p l e R s m args below meth c H locs 0 0 Qf (F0 m pc ls [.int (jI v)])) {a0 : Int} (ra0 : inR a0) (hw : yW D ca A ad s H locs u) (hl : lv_has ls 2 [(0, .ref (ad 0 9)), (1, .int (jI a0))]) (h : v_11_letter a0 Q u) : W p l e R s m args below meth c H locs 0 0 Qf (F0 m 0 ls []) := by
  have hx := X.1.1
  have hb := X.1.2.1
  unfold v_11_letter at h
  refine lv_iload_n hx hb dX11_letter_0 rfl (lv_at hl 1 rfl) ?_
  refine k_if_lt hx hb ra0 dX11_letter_1 (tgt := 27) rfl h (fun h => ?_) (fun h => ?_)
  · refine lv_iconst hx hb dX11_letter_27 (v := jI (-1)) rfl ?_
    exact hret _ _ _ _ _ _ (by decide) h hw dX11_letter_28
  · refine lv_iload_n hx hb dX11_letter_4 rfl (lv_at hl 1 rfl) ?_
    refine lv_aload_n hx hb dX11_letter_5 rfl (lv_at hl 0 rfl) ?_
    refine yg_11_45 X hw dX11_letter_6 ?_
    refine yg_11_202 (i := 0) X hw dX11_letter_9 (by decide) h (fun v1 rv1 h => ?_)
    refine k_icmp_ge hx hb ra0 rv1 dX11_letter_12 (tgt := 27) rfl h (fun h => ?_) (fun h => ?_)
    · refine lv_iconst hx hb dX11_letter_27 (v := jI (-1)) rfl ?_
      exact hret _ _ _ _ _ _ (by decide) h hw dX11_letter_28
    · refine lv_aload_n hx hb dX11_letter_15 rfl (lv_at hl 0 rfl) ?_
      refine yg_11_45 X hw dX11_letter_16 ?_
      refine yg_11_205 (i := 0) X hw dX11_letter_19 (by decide) ?_
      refine lv_iload_n hx hb dX11_letter_22 rfl (lv_at hl 1 rfl) ?_
      refine yfl_letters X hw (by decide) ra0 dX11_letter_23 h (fun v2 rv2 h => ?_)
      refine lv_goto hx hb dX11_letter_24 (tgt := 28) rfl ?_
      exact hret _ _ _ _ _ _ (inC_in rv2) h hw dX11_letter_28

end
theorem e_11_letter {l : Launch} {a0 : Int} (ra0 : inR a0) {Q : Int → iST → Prop} {u : iST} (h : v_11_letter a0 Q u) : yMI l yX11_letter (.code yX11_letter cX11_letter 2 (some .int) :: wsN) { frames := 0, cells := 0, slots := 0, locals := 0 } (fun ad => [.ref (ad 0 9), .int (jI a0)]) Q u := yMI_of (own := RX11) rfl (by decide +kernel) (fun _ => Nat.le_of_ble_eq_true rfl) (fun X hRf hRl hret hw hl => f_11_letter_s X hRf hRl hret ra0 hw hl h)

/-! ProofHouse.taken -/
theorem dX11_taken_0 : decode cX11_taken 0 = .ok (.iload_n 1, 1) := by decide +kernel
theorem dX11_taken_1 : decode cX11_taken 1 = .ok (.ifCond .lt 26, 3) := by decide +kernel
theorem dX11_taken_4 : decode cX11_taken 4 = .ok (.iload_n 1, 1) := by decide +kernel
theorem dX11_taken_5 : decode cX11_taken 5 = .ok (.aload_n 0, 1) := by decide +kernel
theorem dX11_taken_6 : decode cX11_taken 6 = .ok (.getfield 27, 3) := by decide +kernel
theorem dX11_taken_9 : decode cX11_taken 9 = .ok (.getfield 208, 3) := by decide +kernel
theorem dX11_taken_12 : decode cX11_taken 12 = .ok (.if_icmp .ge 15, 3) := by decide +kernel
theorem dX11_taken_15 : decode cX11_taken 15 = .ok (.aload_n 0, 1) := by decide +kernel
theorem dX11_taken_16 : decode cX11_taken 16 = .ok (.getfield 27, 3) := by decide +kernel
theorem dX11_taken_19 : decode cX11_taken 19 = .ok (.getfield 211, 3) := by decide +kernel
theorem dX11_taken_22 : decode cX11_taken 22 = .ok (.iload_n 1, 1) := by decide +kernel
theorem dX11_taken_23 : decode cX11_taken 23 = .ok (.iaload, 1) := by decide +kernel
theorem dX11_taken_24 : decode cX11_taken 24 = .ok (.goto 4, 3) := by decide +kernel
theorem dX11_taken_27 : decode cX11_taken 27 = .ok (.iconst 0, 1) := by decide +kernel
theorem dX11_taken_28 : decode cX11_taken 28 = .ok (.ireturn, 1) := by decide +kernel

section
variable {p : Program} {l : Launch} {e : Env} {R : Room} {s : State} {m : MethodId} {args : Array Value} {below : List Frame} {meth : Method} {c : Code} {H : Heap} {locs : List Loc} {Qf : State → Prop}
variable {ls : Array Slot} {D : va_G} {ca : Nat → ClassId} {A : Nat → Prop} {ad : Nat → Nat → Nat} {u : iST}
def v_11_taken (a0 : Int) (Q : Int → iST → Prop) (u : iST) : Prop :=
  br (a0 < 0) (
    Q 0 u) (
    rd (u.1 2) (fun v1 => 
    br (v1 ≤ a0) (
      Q 0 u) (
      bd a0 100 (rd (u.2.1 14 a0) (fun v2 => 
      Q v2 u)))))
set_option maxRecDepth 20000 in
set_option maxHeartbeats 4000000 in
theorem f_11_taken_s (X : yX RX11 p m c cX11_taken 2 s args D ca ad A) (hRf : 0 ≤ R.frames) (hRl : 0 ≤ R.locals) {Q : Int → iST → Prop} (hret : ∀ (v : Int) (u : iST) (H : Heap) (locs : List Loc) (ls : Array Slot) (pc : Nat), inR v → Q v u → yW D ca A ad s H locs u → decode cX11_taken pc = .ok (.ireturn, 1) → W p l e R s m args below meth c H locs 0 0 Qf (F0 m pc ls [.int (jI v)])) {a0 : Int} (ra0 : inR a0) (hw : yW D ca A ad s H locs u) (hl : lv_has ls 2 [(0, .ref (ad 0 9)), (1, .int (jI a0))]) (h : v_11_taken a0 Q u) : W p l e R s m args below meth c H locs 0 0 Qf (F0 m 0 ls []) := by
  have hx := X.1.1
  have hb := X.1.2.1
  unfold v_11_taken at h
  refine lv_iload_n hx hb dX11_taken_0 rfl (lv_at hl 1 rfl) ?_
  refine k_if_lt hx hb ra0 dX11_taken_1 (tgt := 27) rfl h (fun h => ?_) (fun h => ?_)
  · refine lv_iconst hx hb dX11_taken_27 (v := jI 0) rfl ?_
    exact hret _ _ _ _ _ _ (by decide) h hw dX11_taken_28
  · refine lv_iload_n hx hb dX11_taken_4 rfl (lv_at hl 1 rfl) ?_
    refine lv_aload_n hx hb dX11_taken_5 rfl (lv_at hl 0 rfl) ?_
    refine yg_11_27 X hw dX11_taken_6 ?_
    refine yg_11_208 X hw dX11_taken_9 h (fun v1 rv1 h => ?_)
    refine k_icmp_ge hx hb ra0 rv1 dX11_taken_12 (tgt := 27) rfl h (fun h => ?_) (fun h => ?_)
    · refine lv_iconst hx hb dX11_taken_27 (v := jI 0) rfl ?_
      exact hret _ _ _ _ _ _ (by decide) h hw dX11_taken_28
    · refine lv_aload_n hx hb dX11_taken_15 rfl (lv_at hl 0 rfl) ?_
      refine yg_11_27 X hw dX11_taken_16 ?_
      refine yg_11_211 X hw dX11_taken_19 ?_
      refine lv_iload_n hx hb dX11_taken_22 rfl (lv_at hl 1 rfl) ?_
      refine yl_14 X hw ra0 dX11_taken_23 h (fun v2 rv2 h => ?_)
      refine lv_goto hx hb dX11_taken_24 (tgt := 28) rfl ?_
      exact hret _ _ _ _ _ _ rv2 h hw dX11_taken_28

end
theorem e_11_taken {l : Launch} {a0 : Int} (ra0 : inR a0) {Q : Int → iST → Prop} {u : iST} (h : v_11_taken a0 Q u) : yMI l yX11_taken (.code yX11_taken cX11_taken 2 (some .int) :: wsN) { frames := 0, cells := 0, slots := 0, locals := 0 } (fun ad => [.ref (ad 0 9), .int (jI a0)]) Q u := yMI_of (own := RX11) rfl (by decide +kernel) (fun _ => Nat.le_of_ble_eq_true rfl) (fun X hRf hRl hret hw hl => f_11_taken_s X hRf hRl hret ra0 hw hl h)

/-! ProofHouse.tell -/
theorem dX11_tell_0 : decode cX11_tell 0 = .ok (.iload_n 1, 1) := by decide +kernel
theorem dX11_tell_1 : decode cX11_tell 1 = .ok (.ifCond .lt 14, 3) := by decide +kernel
theorem dX11_tell_4 : decode cX11_tell 4 = .ok (.iload_n 1, 1) := by decide +kernel
theorem dX11_tell_5 : decode cX11_tell 5 = .ok (.aload_n 0, 1) := by decide +kernel
theorem dX11_tell_6 : decode cX11_tell 6 = .ok (.getfield 27, 3) := by decide +kernel
theorem dX11_tell_9 : decode cX11_tell 9 = .ok (.getfield 208, 3) := by decide +kernel
theorem dX11_tell_12 : decode cX11_tell 12 = .ok (.if_icmp .lt 5, 3) := by decide +kernel
theorem dX11_tell_15 : decode cX11_tell 15 = .ok (.iconst (-1), 1) := by decide +kernel
theorem dX11_tell_16 : decode cX11_tell 16 = .ok (.ireturn, 1) := by decide +kernel
theorem dX11_tell_17 : decode cX11_tell 17 = .ok (.aload_n 0, 1) := by decide +kernel
theorem dX11_tell_18 : decode cX11_tell 18 = .ok (.getfield 27, 3) := by decide +kernel
theorem dX11_tell_21 : decode cX11_tell 21 = .ok (.iload_n 1, 1) := by decide +kernel
theorem dX11_tell_22 : decode cX11_tell 22 = .ok (.invokevirtual 214, 3) := by decide +kernel
theorem dX11_tell_25 : decode cX11_tell 25 = .ok (.istore_n 2, 1) := by decide +kernel
theorem dX11_tell_26 : decode cX11_tell 26 = .ok (.aload_n 0, 1) := by decide +kernel
theorem dX11_tell_27 : decode cX11_tell 27 = .ok (.getfield 27, 3) := by decide +kernel
theorem dX11_tell_30 : decode cX11_tell 30 = .ok (.getfield 211, 3) := by decide +kernel
theorem dX11_tell_33 : decode cX11_tell 33 = .ok (.iload_n 1, 1) := by decide +kernel
theorem dX11_tell_34 : decode cX11_tell 34 = .ok (.iaload, 1) := by decide +kernel
theorem dX11_tell_35 : decode cX11_tell 35 = .ok (.iconst 1, 1) := by decide +kernel
theorem dX11_tell_36 : decode cX11_tell 36 = .ok (.if_icmp .ne 114, 3) := by decide +kernel
theorem dX11_tell_39 : decode cX11_tell 39 = .ok (.aload_n 0, 1) := by decide +kernel
theorem dX11_tell_40 : decode cX11_tell 40 = .ok (.getfield 27, 3) := by decide +kernel
theorem dX11_tell_43 : decode cX11_tell 43 = .ok (.getfield 217, 3) := by decide +kernel
theorem dX11_tell_46 : decode cX11_tell 46 = .ok (.iload_n 2, 1) := by decide +kernel
theorem dX11_tell_47 : decode cX11_tell 47 = .ok (.iaload, 1) := by decide +kernel
theorem dX11_tell_48 : decode cX11_tell 48 = .ok (.istore 4, 2) := by decide +kernel
theorem dX11_tell_50 : decode cX11_tell 50 = .ok (.iload 4, 2) := by decide +kernel
theorem dX11_tell_52 : decode cX11_tell 52 = .ok (.iconst (-1), 1) := by decide +kernel
theorem dX11_tell_53 : decode cX11_tell 53 = .ok (.if_icmp .ne 7, 3) := by decide +kernel
theorem dX11_tell_56 : decode cX11_tell 56 = .ok (.iconst 0, 1) := by decide +kernel
theorem dX11_tell_57 : decode cX11_tell 57 = .ok (.goto 16, 3) := by decide +kernel
theorem dX11_tell_60 : decode cX11_tell 60 = .ok (.aload_n 0, 1) := by decide +kernel
theorem dX11_tell_61 : decode cX11_tell 61 = .ok (.getfield 14, 3) := by decide +kernel
theorem dX11_tell_64 : decode cX11_tell 64 = .ok (.iload 4, 2) := by decide +kernel
theorem dX11_tell_66 : decode cX11_tell 66 = .ok (.iconst 0, 1) := by decide +kernel
theorem dX11_tell_67 : decode cX11_tell 67 = .ok (.invokestatic 220, 3) := by decide +kernel
theorem dX11_tell_70 : decode cX11_tell 70 = .ok (.invokevirtual 224, 3) := by decide +kernel
theorem dX11_tell_73 : decode cX11_tell 73 = .ok (.istore_n 3, 1) := by decide +kernel
theorem dX11_tell_74 : decode cX11_tell 74 = .ok (.aload_n 0, 1) := by decide +kernel
theorem dX11_tell_75 : decode cX11_tell 75 = .ok (.getfield 14, 3) := by decide +kernel
theorem dX11_tell_78 : decode cX11_tell 78 = .ok (.aload_n 0, 1) := by decide +kernel
theorem dX11_tell_79 : decode cX11_tell 79 = .ok (.getfield 27, 3) := by decide +kernel
theorem dX11_tell_82 : decode cX11_tell 82 = .ok (.getfield 228, 3) := by decide +kernel
theorem dX11_tell_85 : decode cX11_tell 85 = .ok (.iload_n 2, 1) := by decide +kernel
theorem dX11_tell_86 : decode cX11_tell 86 = .ok (.iaload, 1) := by decide +kernel
theorem dX11_tell_87 : decode cX11_tell 87 = .ok (.aload_n 0, 1) := by decide +kernel
theorem dX11_tell_88 : decode cX11_tell 88 = .ok (.getfield 14, 3) := by decide +kernel
theorem dX11_tell_91 : decode cX11_tell 91 = .ok (.aload_n 0, 1) := by decide +kernel
theorem dX11_tell_92 : decode cX11_tell 92 = .ok (.getfield 27, 3) := by decide +kernel
theorem dX11_tell_95 : decode cX11_tell 95 = .ok (.getfield 231, 3) := by decide +kernel
theorem dX11_tell_98 : decode cX11_tell 98 = .ok (.iload_n 2, 1) := by decide +kernel
theorem dX11_tell_99 : decode cX11_tell 99 = .ok (.iaload, 1) := by decide +kernel
theorem dX11_tell_100 : decode cX11_tell 100 = .ok (.iload_n 3, 1) := by decide +kernel
theorem dX11_tell_101 : decode cX11_tell 101 = .ok (.invokestatic 220, 3) := by decide +kernel
theorem dX11_tell_104 : decode cX11_tell 104 = .ok (.invokevirtual 224, 3) := by decide +kernel
theorem dX11_tell_107 : decode cX11_tell 107 = .ok (.invokestatic 220, 3) := by decide +kernel
theorem dX11_tell_110 : decode cX11_tell 110 = .ok (.invokevirtual 224, 3) := by decide +kernel
theorem dX11_tell_113 : decode cX11_tell 113 = .ok (.istore_n 3, 1) := by decide +kernel
theorem dX11_tell_114 : decode cX11_tell 114 = .ok (.aload_n 0, 1) := by decide +kernel
theorem dX11_tell_115 : decode cX11_tell 115 = .ok (.getfield 14, 3) := by decide +kernel
theorem dX11_tell_118 : decode cX11_tell 118 = .ok (.bipush 20, 2) := by decide +kernel
theorem dX11_tell_120 : decode cX11_tell 120 = .ok (.aload_n 0, 1) := by decide +kernel
theorem dX11_tell_121 : decode cX11_tell 121 = .ok (.getfield 14, 3) := by decide +kernel
theorem dX11_tell_124 : decode cX11_tell 124 = .ok (.aload_n 0, 1) := by decide +kernel
theorem dX11_tell_125 : decode cX11_tell 125 = .ok (.getfield 27, 3) := by decide +kernel
theorem dX11_tell_128 : decode cX11_tell 128 = .ok (.getfield 234, 3) := by decide +kernel
theorem dX11_tell_131 : decode cX11_tell 131 = .ok (.iload_n 2, 1) := by decide +kernel
theorem dX11_tell_132 : decode cX11_tell 132 = .ok (.iaload, 1) := by decide +kernel
theorem dX11_tell_133 : decode cX11_tell 133 = .ok (.iload_n 3, 1) := by decide +kernel
theorem dX11_tell_134 : decode cX11_tell 134 = .ok (.invokestatic 220, 3) := by decide +kernel
theorem dX11_tell_137 : decode cX11_tell 137 = .ok (.invokevirtual 224, 3) := by decide +kernel
theorem dX11_tell_140 : decode cX11_tell 140 = .ok (.invokestatic 220, 3) := by decide +kernel
theorem dX11_tell_143 : decode cX11_tell 143 = .ok (.invokevirtual 224, 3) := by decide +kernel
theorem dX11_tell_146 : decode cX11_tell 146 = .ok (.istore_n 3, 1) := by decide +kernel
theorem dX11_tell_147 : decode cX11_tell 147 = .ok (.goto 57, 3) := by decide +kernel
theorem dX11_tell_150 : decode cX11_tell 150 = .ok (.aload_n 0, 1) := by decide +kernel
theorem dX11_tell_151 : decode cX11_tell 151 = .ok (.getfield 14, 3) := by decide +kernel
theorem dX11_tell_154 : decode cX11_tell 154 = .ok (.aload_n 0, 1) := by decide +kernel
theorem dX11_tell_155 : decode cX11_tell 155 = .ok (.getfield 27, 3) := by decide +kernel
theorem dX11_tell_158 : decode cX11_tell 158 = .ok (.getfield 237, 3) := by decide +kernel
theorem dX11_tell_161 : decode cX11_tell 161 = .ok (.iload_n 2, 1) := by decide +kernel
theorem dX11_tell_162 : decode cX11_tell 162 = .ok (.iaload, 1) := by decide +kernel
theorem dX11_tell_163 : decode cX11_tell 163 = .ok (.iconst 0, 1) := by decide +kernel
theorem dX11_tell_164 : decode cX11_tell 164 = .ok (.invokestatic 220, 3) := by decide +kernel
theorem dX11_tell_167 : decode cX11_tell 167 = .ok (.invokevirtual 224, 3) := by decide +kernel
theorem dX11_tell_170 : decode cX11_tell 170 = .ok (.istore_n 3, 1) := by decide +kernel
theorem dX11_tell_171 : decode cX11_tell 171 = .ok (.aload_n 0, 1) := by decide +kernel
theorem dX11_tell_172 : decode cX11_tell 172 = .ok (.getfield 14, 3) := by decide +kernel
theorem dX11_tell_175 : decode cX11_tell 175 = .ok (.bipush 27, 2) := by decide +kernel
theorem dX11_tell_177 : decode cX11_tell 177 = .ok (.aload_n 0, 1) := by decide +kernel
theorem dX11_tell_178 : decode cX11_tell 178 = .ok (.getfield 14, 3) := by decide +kernel
theorem dX11_tell_181 : decode cX11_tell 181 = .ok (.aload_n 0, 1) := by decide +kernel
theorem dX11_tell_182 : decode cX11_tell 182 = .ok (.getfield 27, 3) := by decide +kernel
theorem dX11_tell_185 : decode cX11_tell 185 = .ok (.getfield 240, 3) := by decide +kernel
theorem dX11_tell_188 : decode cX11_tell 188 = .ok (.iload_n 2, 1) := by decide +kernel
theorem dX11_tell_189 : decode cX11_tell 189 = .ok (.iaload, 1) := by decide +kernel
theorem dX11_tell_190 : decode cX11_tell 190 = .ok (.iload_n 3, 1) := by decide +kernel
theorem dX11_tell_191 : decode cX11_tell 191 = .ok (.invokestatic 220, 3) := by decide +kernel
theorem dX11_tell_194 : decode cX11_tell 194 = .ok (.invokevirtual 224, 3) := by decide +kernel
theorem dX11_tell_197 : decode cX11_tell 197 = .ok (.invokestatic 220, 3) := by decide +kernel
theorem dX11_tell_200 : decode cX11_tell 200 = .ok (.invokevirtual 224, 3) := by decide +kernel
theorem dX11_tell_203 : decode cX11_tell 203 = .ok (.istore_n 3, 1) := by decide +kernel
theorem dX11_tell_204 : decode cX11_tell 204 = .ok (.aload_n 0, 1) := by decide +kernel
theorem dX11_tell_205 : decode cX11_tell 205 = .ok (.getfield 45, 3) := by decide +kernel
theorem dX11_tell_208 : decode cX11_tell 208 = .ok (.invokevirtual 243, 3) := by decide +kernel
theorem dX11_tell_211 : decode cX11_tell 211 = .ok (.aload_n 0, 1) := by decide +kernel
theorem dX11_tell_212 : decode cX11_tell 212 = .ok (.getfield 45, 3) := by decide +kernel
theorem dX11_tell_215 : decode cX11_tell 215 = .ok (.iload_n 3, 1) := by decide +kernel
theorem dX11_tell_216 : decode cX11_tell 216 = .ok (.invokevirtual 246, 3) := by decide +kernel
theorem dX11_tell_219 : decode cX11_tell 219 = .ok (.aload_n 0, 1) := by decide +kernel
theorem dX11_tell_220 : decode cX11_tell 220 = .ok (.getfield 45, 3) := by decide +kernel
theorem dX11_tell_223 : decode cX11_tell 223 = .ok (.getfield 202, 3) := by decide +kernel
theorem dX11_tell_226 : decode cX11_tell 226 = .ok (.ireturn, 1) := by decide +kernel

section
variable {p : Program} {l : Launch} {e : Env} {R : Room} {s : State} {m : MethodId} {args : Array Value} {below : List Frame} {meth : Method} {c : Code} {H : Heap} {locs : List Loc} {Qf : State → Prop}
variable {ls : Array Slot} {D : va_G} {ca : Nat → ClassId} {A : Nat → Prop} {ad : Nat → Nat → Nat} {u : iST}
def v_11_tell_204 (Q : Int → iST → Prop) (x3 : Int) (u : iST) : Prop :=
  v_9_clear 0 (fun u => 
  v_9_write 0 x3 (fun u => 
  rd (u.2.1 54 0) (fun v14 => 
  Q v14 u)) u) u
set_option maxRecDepth 20000 in
set_option maxHeartbeats 4000000 in
theorem f_11_tell_204 (X : yX RX11 p m c cX11_tell 5 s args D ca ad A) (hRf : 8 ≤ R.frames) (hRl : 254 ≤ R.locals) {Q : Int → iST → Prop} (hret : ∀ (v : Int) (u : iST) (H : Heap) (locs : List Loc) (ls : Array Slot) (pc : Nat), inR v → Q v u → yW D ca A ad s H locs u → decode cX11_tell pc = .ok (.ireturn, 1) → W p l e R s m args below meth c H locs 0 0 Qf (F0 m pc ls [.int (jI v)])) {x3 : Int} (rx3 : inR x3) (hw : yW D ca A ad s H locs u) (hl : lv_has ls 5 [(0, .ref (ad 0 9)), (3, .int (jI x3))]) (h : v_11_tell_204 Q x3 u) : W p l e R s m args below meth c H locs 0 0 Qf (F0 m 204 ls []) := by
  have hx := X.1.1
  have hb := X.1.2.1
  unfold v_11_tell_204 at h
  refine lv_aload_n hx hb dX11_tell_204 rfl (lv_at hl 0 rfl) ?_
  refine yg_11_45 X hw dX11_tell_205 ?_
  refine ycV (n := 0) (e_9_clear (by decide) h) 9 (2041 + (0 : Int).toNat) (r := (RX9, TX9, 4)) rfl yG_11_243 yD_9_clear X hw rfl (yGf_scribe (toNat_lt (by decide))) (Nat.le_trans (Nat.le_of_ble_eq_true rfl) hRf) (Nat.le_trans (Nat.le_of_ble_eq_true rfl) hRl) rfl hl.1 (Nat.le_of_ble_eq_true rfl) rfl dX11_tell_208 (fun u H locs h hw => ?_)
  refine lv_aload_n hx hb dX11_tell_211 rfl (lv_at hl 0 rfl) ?_
  refine yg_11_45 X hw dX11_tell_212 ?_
  refine lv_iload_n hx hb dX11_tell_215 rfl (lv_at hl 1 rfl) ?_
  refine ycV (n := 1) (e_9_write (by decide) rx3 h) 9 (2041 + (0 : Int).toNat) (r := (RX9, TX9, 4)) rfl yG_11_246 yD_9_write X hw rfl (yGf_scribe (toNat_lt (by decide))) (Nat.le_trans (Nat.le_of_ble_eq_true rfl) hRf) (Nat.le_trans (Nat.le_of_ble_eq_true rfl) hRl) rfl hl.1 (Nat.le_of_ble_eq_true rfl) rfl dX11_tell_216 (fun u H locs h hw => ?_)
  refine lv_aload_n hx hb dX11_tell_219 rfl (lv_at hl 0 rfl) ?_
  refine yg_11_45 X hw dX11_tell_220 ?_
  refine yg_11_202 (i := 0) X hw dX11_tell_223 (by decide) h (fun v14 rv14 h => ?_)
  exact hret _ _ _ _ _ _ rv14 h hw dX11_tell_226

def v_11_tell_73 (Q : Int → iST → Prop) (x2 : Int) (y0 : Int) (u : iST) : Prop :=
  bd x2 40 (rd (u.2.1 1 x2) (fun v18 => 
  bd x2 40 (rd (u.2.1 3 x2) (fun v19 => 
  v_11_pairCell v19 y0 (fun v20 u => 
  v_7_made v20 (fun v21 u => 
  v_11_pairCell v18 v21 (fun v22 u => 
  v_7_made v22 (fun v23 u => 
  bd x2 40 (rd (u.2.1 0 x2) (fun v24 => 
  v_11_pairCell v24 v23 (fun v25 u => 
  v_7_made v25 (fun v26 u => 
  v_11_pairCell 20 v26 (fun v27 u => 
  v_7_made v27 (fun v28 u => 
  v_11_tell_204 Q v28 u) u) u) u) u))) u) u) u) u))))
set_option maxRecDepth 20000 in
set_option maxHeartbeats 4000000 in
theorem f_11_tell_73 (X : yX RX11 p m c cX11_tell 5 s args D ca ad A) (hRf : 8 ≤ R.frames) (hRl : 254 ≤ R.locals) {Q : Int → iST → Prop} (hret : ∀ (v : Int) (u : iST) (H : Heap) (locs : List Loc) (ls : Array Slot) (pc : Nat), inR v → Q v u → yW D ca A ad s H locs u → decode cX11_tell pc = .ok (.ireturn, 1) → W p l e R s m args below meth c H locs 0 0 Qf (F0 m pc ls [.int (jI v)])) {x2 y0 : Int} (rx2 : inR x2) (ry0 : inR y0) (hw : yW D ca A ad s H locs u) (hl : lv_has ls 5 [(0, .ref (ad 0 9)), (2, .int (jI x2))]) (h : v_11_tell_73 Q x2 y0 u) : W p l e R s m args below meth c H locs 0 0 Qf (F0 m 73 ls [.int (jI y0)]) := by
  have hx := X.1.1
  have hb := X.1.2.1
  unfold v_11_tell_73 at h
  refine lv_istore_n hx hb dX11_tell_73 rfl hl (by decide) rfl (fun ls hl => ?_)
  have hl : lv_has ls 5 [(3, .int (jI y0)), (0, .ref (ad 0 9)), (2, .int (jI x2))] := hl
  refine lv_aload_n hx hb dX11_tell_74 rfl (lv_at hl 1 rfl) ?_
  refine yg_11_14 X hw dX11_tell_75 ?_
  refine lv_aload_n hx hb dX11_tell_78 rfl (lv_at hl 1 rfl) ?_
  refine yg_11_27 X hw dX11_tell_79 ?_
  refine yg_11_228 X hw dX11_tell_82 ?_
  refine lv_iload_n hx hb dX11_tell_85 rfl (lv_at hl 2 rfl) ?_
  refine yl_1 X hw rx2 dX11_tell_86 h (fun v18 rv18 h => ?_)
  refine lv_aload_n hx hb dX11_tell_87 rfl (lv_at hl 1 rfl) ?_
  refine yg_11_14 X hw dX11_tell_88 ?_
  refine lv_aload_n hx hb dX11_tell_91 rfl (lv_at hl 1 rfl) ?_
  refine yg_11_27 X hw dX11_tell_92 ?_
  refine yg_11_231 X hw dX11_tell_95 ?_
  refine lv_iload_n hx hb dX11_tell_98 rfl (lv_at hl 2 rfl) ?_
  refine yl_3 X hw rx2 dX11_tell_99 h (fun v19 rv19 h => ?_)
  refine lv_iload_n hx hb dX11_tell_100 rfl (lv_at hl 0 rfl) ?_
  refine ycS (n := 2) (e_11_pairCell rv19 ry0 h) rfl goodPairS yD_11_pairCell.2 X hw (Nat.le_trans (Nat.le_of_ble_eq_true rfl) hRf) (Nat.le_trans (Nat.le_of_ble_eq_true rfl) hRl) rfl hl.1 (Nat.le_of_ble_eq_true rfl) rfl dX11_tell_101 (fun v20 u H locs rv20 h hw => ?_)
  refine ycI (n := 1) (e_7_made rv20 h) 7 6 (r := (RX7, TX7, 9)) rfl yG_11_224 yD_7_made X hw rfl yGo_7 (Nat.le_trans (Nat.le_of_ble_eq_true rfl) hRf) (Nat.le_trans (Nat.le_of_ble_eq_true rfl) hRl) rfl hl.1 (Nat.le_of_ble_eq_true rfl) rfl dX11_tell_104 (fun v21 u H locs rv21 h hw => ?_)
  refine ycS (n := 2) (e_11_pairCell rv18 rv21 h) rfl goodPairS yD_11_pairCell.2 X hw (Nat.le_trans (Nat.le_of_ble_eq_true rfl) hRf) (Nat.le_trans (Nat.le_of_ble_eq_true rfl) hRl) rfl hl.1 (Nat.le_of_ble_eq_true rfl) rfl dX11_tell_107 (fun v22 u H locs rv22 h hw => ?_)
  refine ycI (n := 1) (e_7_made rv22 h) 7 6 (r := (RX7, TX7, 9)) rfl yG_11_224 yD_7_made X hw rfl yGo_7 (Nat.le_trans (Nat.le_of_ble_eq_true rfl) hRf) (Nat.le_trans (Nat.le_of_ble_eq_true rfl) hRl) rfl hl.1 (Nat.le_of_ble_eq_true rfl) rfl dX11_tell_110 (fun v23 u H locs rv23 h hw => ?_)
  refine lv_istore_n hx hb dX11_tell_113 rfl hl (by decide) rfl (fun ls hl => ?_)
  have hl : lv_has ls 5 [(3, .int (jI v23)), (0, .ref (ad 0 9)), (2, .int (jI x2))] := hl
  refine lv_aload_n hx hb dX11_tell_114 rfl (lv_at hl 1 rfl) ?_
  refine yg_11_14 X hw dX11_tell_115 ?_
  refine lv_bipush hx hb dX11_tell_118 (v := jI 20) rfl ?_
  refine lv_aload_n hx hb dX11_tell_120 rfl (lv_at hl 1 rfl) ?_
  refine yg_11_14 X hw dX11_tell_121 ?_
  refine lv_aload_n hx hb dX11_tell_124 rfl (lv_at hl 1 rfl) ?_
  refine yg_11_27 X hw dX11_tell_125 ?_
  refine yg_11_234 X hw dX11_tell_128 ?_
  refine lv_iload_n hx hb dX11_tell_131 rfl (lv_at hl 2 rfl) ?_
  refine yl_0 X hw rx2 dX11_tell_132 h (fun v24 rv24 h => ?_)
  refine lv_iload_n hx hb dX11_tell_133 rfl (lv_at hl 0 rfl) ?_
  refine ycS (n := 2) (e_11_pairCell rv24 rv23 h) rfl goodPairS yD_11_pairCell.2 X hw (Nat.le_trans (Nat.le_of_ble_eq_true rfl) hRf) (Nat.le_trans (Nat.le_of_ble_eq_true rfl) hRl) rfl hl.1 (Nat.le_of_ble_eq_true rfl) rfl dX11_tell_134 (fun v25 u H locs rv25 h hw => ?_)
  refine ycI (n := 1) (e_7_made rv25 h) 7 6 (r := (RX7, TX7, 9)) rfl yG_11_224 yD_7_made X hw rfl yGo_7 (Nat.le_trans (Nat.le_of_ble_eq_true rfl) hRf) (Nat.le_trans (Nat.le_of_ble_eq_true rfl) hRl) rfl hl.1 (Nat.le_of_ble_eq_true rfl) rfl dX11_tell_137 (fun v26 u H locs rv26 h hw => ?_)
  refine ycS (n := 2) (e_11_pairCell (by decide) rv26 h) rfl goodPairS yD_11_pairCell.2 X hw (Nat.le_trans (Nat.le_of_ble_eq_true rfl) hRf) (Nat.le_trans (Nat.le_of_ble_eq_true rfl) hRl) rfl hl.1 (Nat.le_of_ble_eq_true rfl) rfl dX11_tell_140 (fun v27 u H locs rv27 h hw => ?_)
  refine ycI (n := 1) (e_7_made rv27 h) 7 6 (r := (RX7, TX7, 9)) rfl yG_11_224 yD_7_made X hw rfl yGo_7 (Nat.le_trans (Nat.le_of_ble_eq_true rfl) hRf) (Nat.le_trans (Nat.le_of_ble_eq_true rfl) hRl) rfl hl.1 (Nat.le_of_ble_eq_true rfl) rfl dX11_tell_143 (fun v28 u H locs rv28 h hw => ?_)
  refine lv_istore_n hx hb dX11_tell_146 rfl hl (by decide) rfl (fun ls hl => ?_)
  have hl : lv_has ls 5 [(3, .int (jI v28)), (0, .ref (ad 0 9)), (2, .int (jI x2))] := hl
  refine lv_goto hx hb dX11_tell_147 (tgt := 204) rfl ?_
  exact f_11_tell_204 X hRf hRl hret rv28 hw (lv_sub hl [1, 0] rfl) h

def v_11_tell (a0 : Int) (Q : Int → iST → Prop) (u : iST) : Prop :=
  br (a0 < 0) (
    Q (-1) u) (
    rd (u.1 2) (fun v1 => 
    br (a0 < v1) (
      v_0_placeOf a0 (fun v2 u => 
      bd a0 100 (rd (u.2.1 14 a0) (fun v3 => 
      br (v3 ≠ 1) (
        bd v2 60 (rd (u.2.1 6 v2) (fun v4 => 
        v_11_pairCell v4 0 (fun v5 u => 
        v_7_made v5 (fun v6 u => 
        bd v2 60 (rd (u.2.1 5 v2) (fun v7 => 
        v_11_pairCell v7 v6 (fun v8 u => 
        v_7_made v8 (fun v9 u => 
        v_11_pairCell 27 v9 (fun v10 u => 
        v_7_made v10 (fun v11 u => 
        v_11_tell_204 Q v11 u) u) u) u) u))) u) u))) (
        bd v2 40 (rd (u.2.1 4 v2) (fun v15 => 
        br (v15 ≠ (-1)) (
          v_11_pairCell v15 0 (fun v16 u => 
          v_7_made v16 (fun v17 u => 
          v_11_tell_73 Q v2 v17 u) u) u) (
          v_11_tell_73 Q v2 0 u))))))) u) (
      Q (-1) u)))
set_option maxRecDepth 20000 in
set_option maxHeartbeats 4000000 in
theorem f_11_tell_s (X : yX RX11 p m c cX11_tell 5 s args D ca ad A) (hRf : 8 ≤ R.frames) (hRl : 254 ≤ R.locals) {Q : Int → iST → Prop} (hret : ∀ (v : Int) (u : iST) (H : Heap) (locs : List Loc) (ls : Array Slot) (pc : Nat), inR v → Q v u → yW D ca A ad s H locs u → decode cX11_tell pc = .ok (.ireturn, 1) → W p l e R s m args below meth c H locs 0 0 Qf (F0 m pc ls [.int (jI v)])) {a0 : Int} (ra0 : inR a0) (hw : yW D ca A ad s H locs u) (hl : lv_has ls 5 [(0, .ref (ad 0 9)), (1, .int (jI a0))]) (h : v_11_tell a0 Q u) : W p l e R s m args below meth c H locs 0 0 Qf (F0 m 0 ls []) := by
  have hx := X.1.1
  have hb := X.1.2.1
  unfold v_11_tell at h
  refine lv_iload_n hx hb dX11_tell_0 rfl (lv_at hl 1 rfl) ?_
  refine k_if_lt hx hb ra0 dX11_tell_1 (tgt := 15) rfl h (fun h => ?_) (fun h => ?_)
  · refine lv_iconst hx hb dX11_tell_15 (v := jI (-1)) rfl ?_
    exact hret _ _ _ _ _ _ (by decide) h hw dX11_tell_16
  · refine lv_iload_n hx hb dX11_tell_4 rfl (lv_at hl 1 rfl) ?_
    refine lv_aload_n hx hb dX11_tell_5 rfl (lv_at hl 0 rfl) ?_
    refine yg_11_27 X hw dX11_tell_6 ?_
    refine yg_11_208 X hw dX11_tell_9 h (fun v1 rv1 h => ?_)
    refine k_icmp_lt hx hb ra0 rv1 dX11_tell_12 (tgt := 17) rfl h (fun h => ?_) (fun h => ?_)
    · refine lv_aload_n hx hb dX11_tell_17 rfl (lv_at hl 0 rfl) ?_
      refine yg_11_27 X hw dX11_tell_18 ?_
      refine lv_iload_n hx hb dX11_tell_21 rfl (lv_at hl 1 rfl) ?_
      refine ycI (n := 1) (e_0_placeOf ra0 h) 0 0 (r := (RX0, TX0, 21)) rfl yG_11_214 yD_0_placeOf X hw rfl yGo_0 (Nat.le_trans (Nat.le_of_ble_eq_true rfl) hRf) (Nat.le_trans (Nat.le_of_ble_eq_true rfl) hRl) rfl hl.1 (Nat.le_of_ble_eq_true rfl) rfl dX11_tell_22 (fun v2 u H locs rv2 h hw => ?_)
      refine lv_istore_n hx hb dX11_tell_25 rfl hl (by decide) rfl (fun ls hl => ?_)
      have hl : lv_has ls 5 [(2, .int (jI v2)), (0, .ref (ad 0 9)), (1, .int (jI a0))] := hl
      refine lv_aload_n hx hb dX11_tell_26 rfl (lv_at hl 1 rfl) ?_
      refine yg_11_27 X hw dX11_tell_27 ?_
      refine yg_11_211 X hw dX11_tell_30 ?_
      refine lv_iload_n hx hb dX11_tell_33 rfl (lv_at hl 2 rfl) ?_
      refine yl_14 X hw ra0 dX11_tell_34 h (fun v3 rv3 h => ?_)
      refine lv_iconst hx hb dX11_tell_35 (v := jI 1) rfl ?_
      refine k_icmp_ne hx hb rv3 (by decide) dX11_tell_36 (tgt := 150) rfl h (fun h => ?_) (fun h => ?_)
      · refine lv_aload_n hx hb dX11_tell_150 rfl (lv_at hl 1 rfl) ?_
        refine yg_11_14 X hw dX11_tell_151 ?_
        refine lv_aload_n hx hb dX11_tell_154 rfl (lv_at hl 1 rfl) ?_
        refine yg_11_27 X hw dX11_tell_155 ?_
        refine yg_11_237 X hw dX11_tell_158 ?_
        refine lv_iload_n hx hb dX11_tell_161 rfl (lv_at hl 0 rfl) ?_
        refine yl_6 X hw rv2 dX11_tell_162 h (fun v4 rv4 h => ?_)
        refine lv_iconst hx hb dX11_tell_163 (v := jI 0) rfl ?_
        refine ycS (n := 2) (e_11_pairCell rv4 (by decide) h) rfl goodPairS yD_11_pairCell.2 X hw (Nat.le_trans (Nat.le_of_ble_eq_true rfl) hRf) (Nat.le_trans (Nat.le_of_ble_eq_true rfl) hRl) rfl hl.1 (Nat.le_of_ble_eq_true rfl) rfl dX11_tell_164 (fun v5 u H locs rv5 h hw => ?_)
        refine ycI (n := 1) (e_7_made rv5 h) 7 6 (r := (RX7, TX7, 9)) rfl yG_11_224 yD_7_made X hw rfl yGo_7 (Nat.le_trans (Nat.le_of_ble_eq_true rfl) hRf) (Nat.le_trans (Nat.le_of_ble_eq_true rfl) hRl) rfl hl.1 (Nat.le_of_ble_eq_true rfl) rfl dX11_tell_167 (fun v6 u H locs rv6 h hw => ?_)
        refine lv_istore_n hx hb dX11_tell_170 rfl hl (by decide) rfl (fun ls hl => ?_)
        have hl : lv_has ls 5 [(3, .int (jI v6)), (2, .int (jI v2)), (0, .ref (ad 0 9)), (1, .int (jI a0))] := hl
        refine lv_aload_n hx hb dX11_tell_171 rfl (lv_at hl 2 rfl) ?_
        refine yg_11_14 X hw dX11_tell_172 ?_
        refine lv_bipush hx hb dX11_tell_175 (v := jI 27) rfl ?_
        refine lv_aload_n hx hb dX11_tell_177 rfl (lv_at hl 2 rfl) ?_
        refine yg_11_14 X hw dX11_tell_178 ?_
        refine lv_aload_n hx hb dX11_tell_181 rfl (lv_at hl 2 rfl) ?_
        refine yg_11_27 X hw dX11_tell_182 ?_
        refine yg_11_240 X hw dX11_tell_185 ?_
        refine lv_iload_n hx hb dX11_tell_188 rfl (lv_at hl 1 rfl) ?_
        refine yl_5 X hw rv2 dX11_tell_189 h (fun v7 rv7 h => ?_)
        refine lv_iload_n hx hb dX11_tell_190 rfl (lv_at hl 0 rfl) ?_
        refine ycS (n := 2) (e_11_pairCell rv7 rv6 h) rfl goodPairS yD_11_pairCell.2 X hw (Nat.le_trans (Nat.le_of_ble_eq_true rfl) hRf) (Nat.le_trans (Nat.le_of_ble_eq_true rfl) hRl) rfl hl.1 (Nat.le_of_ble_eq_true rfl) rfl dX11_tell_191 (fun v8 u H locs rv8 h hw => ?_)
        refine ycI (n := 1) (e_7_made rv8 h) 7 6 (r := (RX7, TX7, 9)) rfl yG_11_224 yD_7_made X hw rfl yGo_7 (Nat.le_trans (Nat.le_of_ble_eq_true rfl) hRf) (Nat.le_trans (Nat.le_of_ble_eq_true rfl) hRl) rfl hl.1 (Nat.le_of_ble_eq_true rfl) rfl dX11_tell_194 (fun v9 u H locs rv9 h hw => ?_)
        refine ycS (n := 2) (e_11_pairCell (by decide) rv9 h) rfl goodPairS yD_11_pairCell.2 X hw (Nat.le_trans (Nat.le_of_ble_eq_true rfl) hRf) (Nat.le_trans (Nat.le_of_ble_eq_true rfl) hRl) rfl hl.1 (Nat.le_of_ble_eq_true rfl) rfl dX11_tell_197 (fun v10 u H locs rv10 h hw => ?_)
        refine ycI (n := 1) (e_7_made rv10 h) 7 6 (r := (RX7, TX7, 9)) rfl yG_11_224 yD_7_made X hw rfl yGo_7 (Nat.le_trans (Nat.le_of_ble_eq_true rfl) hRf) (Nat.le_trans (Nat.le_of_ble_eq_true rfl) hRl) rfl hl.1 (Nat.le_of_ble_eq_true rfl) rfl dX11_tell_200 (fun v11 u H locs rv11 h hw => ?_)
        refine lv_istore_n hx hb dX11_tell_203 rfl hl (by decide) rfl (fun ls hl => ?_)
        have hl : lv_has ls 5 [(3, .int (jI v11)), (2, .int (jI v2)), (0, .ref (ad 0 9)), (1, .int (jI a0))] := hl
        exact f_11_tell_204 X hRf hRl hret rv11 hw (lv_sub hl [2, 0] rfl) h
      · refine lv_aload_n hx hb dX11_tell_39 rfl (lv_at hl 1 rfl) ?_
        refine yg_11_27 X hw dX11_tell_40 ?_
        refine yg_11_217 X hw dX11_tell_43 ?_
        refine lv_iload_n hx hb dX11_tell_46 rfl (lv_at hl 0 rfl) ?_
        refine yl_4 X hw rv2 dX11_tell_47 h (fun v15 rv15 h => ?_)
        refine lv_istore hx hb dX11_tell_48 hl (by decide) rfl (fun ls hl => ?_)
        have hl : lv_has ls 5 [(4, .int (jI v15)), (2, .int (jI v2)), (0, .ref (ad 0 9)), (1, .int (jI a0))] := hl
        refine lv_iload hx hb dX11_tell_50 (lv_at hl 0 rfl) ?_
        refine lv_iconst hx hb dX11_tell_52 (v := jI (-1)) rfl ?_
        refine k_icmp_ne hx hb rv15 (by decide) dX11_tell_53 (tgt := 60) rfl h (fun h => ?_) (fun h => ?_)
        · refine lv_aload_n hx hb dX11_tell_60 rfl (lv_at hl 2 rfl) ?_
          refine yg_11_14 X hw dX11_tell_61 ?_
          refine lv_iload hx hb dX11_tell_64 (lv_at hl 0 rfl) ?_
          refine lv_iconst hx hb dX11_tell_66 (v := jI 0) rfl ?_
          refine ycS (n := 2) (e_11_pairCell rv15 (by decide) h) rfl goodPairS yD_11_pairCell.2 X hw (Nat.le_trans (Nat.le_of_ble_eq_true rfl) hRf) (Nat.le_trans (Nat.le_of_ble_eq_true rfl) hRl) rfl hl.1 (Nat.le_of_ble_eq_true rfl) rfl dX11_tell_67 (fun v16 u H locs rv16 h hw => ?_)
          refine ycI (n := 1) (e_7_made rv16 h) 7 6 (r := (RX7, TX7, 9)) rfl yG_11_224 yD_7_made X hw rfl yGo_7 (Nat.le_trans (Nat.le_of_ble_eq_true rfl) hRf) (Nat.le_trans (Nat.le_of_ble_eq_true rfl) hRl) rfl hl.1 (Nat.le_of_ble_eq_true rfl) rfl dX11_tell_70 (fun v17 u H locs rv17 h hw => ?_)
          exact f_11_tell_73 X hRf hRl hret rv2 rv17 hw (lv_sub hl [2, 1] rfl) h
        · refine lv_iconst hx hb dX11_tell_56 (v := jI 0) rfl ?_
          refine lv_goto hx hb dX11_tell_57 (tgt := 73) rfl ?_
          exact f_11_tell_73 X hRf hRl hret rv2 (by decide) hw (lv_sub hl [2, 1] rfl) h
    · refine lv_iconst hx hb dX11_tell_15 (v := jI (-1)) rfl ?_
      exact hret _ _ _ _ _ _ (by decide) h hw dX11_tell_16

end
theorem e_11_tell {l : Launch} {a0 : Int} (ra0 : inR a0) {Q : Int → iST → Prop} {u : iST} (h : v_11_tell a0 Q u) : yMI l yX11_tell (.code yX11_tell cX11_tell 5 (some .int) :: wsN) { frames := 8, cells := 0, slots := 0, locals := 254 } (fun ad => [.ref (ad 0 9), .int (jI a0)]) Q u := yMI_of (own := RX11) rfl (by decide +kernel) (fun _ => Nat.le_of_ble_eq_true rfl) (fun X hRf hRl hret hw hl => f_11_tell_s X hRf hRl hret ra0 hw hl h)

/-! ProofHouse.recheck -/
theorem dX11_recheck_0 : decode cX11_recheck 0 = .ok (.aload_n 0, 1) := by decide +kernel
theorem dX11_recheck_1 : decode cX11_recheck 1 = .ok (.getfield 133, 3) := by decide +kernel
theorem dX11_recheck_4 : decode cX11_recheck 4 = .ok (.ifCond .ne 5, 3) := by decide +kernel
theorem dX11_recheck_7 : decode cX11_recheck 7 = .ok (.iconst 0, 1) := by decide +kernel
theorem dX11_recheck_8 : decode cX11_recheck 8 = .ok (.ireturn, 1) := by decide +kernel
theorem dX11_recheck_9 : decode cX11_recheck 9 = .ok (.aload_n 0, 1) := by decide +kernel
theorem dX11_recheck_10 : decode cX11_recheck 10 = .ok (.getfield 14, 3) := by decide +kernel
theorem dX11_recheck_13 : decode cX11_recheck 13 = .ok (.ldc 249, 2) := by decide +kernel
theorem dX11_recheck_15 : decode cX11_recheck 15 = .ok (.invokevirtual 160, 3) := by decide +kernel
theorem dX11_recheck_18 : decode cX11_recheck 18 = .ok (.aload_n 0, 1) := by decide +kernel
theorem dX11_recheck_19 : decode cX11_recheck 19 = .ok (.getfield 70, 3) := by decide +kernel
theorem dX11_recheck_22 : decode cX11_recheck 22 = .ok (.invokevirtual 250, 3) := by decide +kernel
theorem dX11_recheck_25 : decode cX11_recheck 25 = .ok (.istore_n 1, 1) := by decide +kernel
theorem dX11_recheck_26 : decode cX11_recheck 26 = .ok (.aload_n 0, 1) := by decide +kernel
theorem dX11_recheck_27 : decode cX11_recheck 27 = .ok (.getfield 88, 3) := by decide +kernel
theorem dX11_recheck_30 : decode cX11_recheck 30 = .ok (.iconst 1, 1) := by decide +kernel
theorem dX11_recheck_31 : decode cX11_recheck 31 = .ok (.invokevirtual 166, 3) := by decide +kernel
theorem dX11_recheck_34 : decode cX11_recheck 34 = .ok (.iload_n 1, 1) := by decide +kernel
theorem dX11_recheck_35 : decode cX11_recheck 35 = .ok (.ifCond .eq 17, 3) := by decide +kernel
theorem dX11_recheck_38 : decode cX11_recheck 38 = .ok (.aload_n 0, 1) := by decide +kernel
theorem dX11_recheck_39 : decode cX11_recheck 39 = .ok (.getfield 88, 3) := by decide +kernel
theorem dX11_recheck_42 : decode cX11_recheck 42 = .ok (.invokevirtual 254, 3) := by decide +kernel
theorem dX11_recheck_45 : decode cX11_recheck 45 = .ok (.ifCond .eq 7, 3) := by decide +kernel
theorem dX11_recheck_48 : decode cX11_recheck 48 = .ok (.iconst 1, 1) := by decide +kernel
theorem dX11_recheck_49 : decode cX11_recheck 49 = .ok (.goto 4, 3) := by decide +kernel
theorem dX11_recheck_52 : decode cX11_recheck 52 = .ok (.iconst 0, 1) := by decide +kernel
theorem dX11_recheck_53 : decode cX11_recheck 53 = .ok (.ireturn, 1) := by decide +kernel

section
variable {p : Program} {l : Launch} {e : Env} {R : Room} {s : State} {m : MethodId} {args : Array Value} {below : List Frame} {meth : Method} {c : Code} {H : Heap} {locs : List Loc} {Qf : State → Prop}
variable {ls : Array Slot} {D : va_G} {ca : Nat → ClassId} {A : Nat → Prop} {ad : Nat → Nat → Nat} {u : iST}
def v_11_recheck (Q : Int → iST → Prop) (u : iST) : Prop :=
  rz (u.1 50) (fun v1 => 
  br (v1 ≠ 0) (
    v_7_begin 1000000 (fun u => 
    v_6_doNotesHold (fun v3 u => 
    v_4_prove 1 (fun u => 
    br (v3 = 0) (
      zt 0 (Q 0 u)) (
      v_4_isAllProved (fun v5 u => 
      br (v5 = 0) (
        zt 0 (Q 0 u)) (
        zt 1 (Q 1 u))) u)) u) u) u) (
    zt 0 (Q 0 u)))
set_option maxRecDepth 20000 in
set_option maxHeartbeats 4000000 in
theorem f_11_recheck_s (X : yX RX11 p m c cX11_recheck 2 s args D ca ad A) (hRf : 12 ≤ R.frames) (hRl : 355 ≤ R.locals) {Q : Int → iST → Prop} (hret : ∀ (v : Int) (u : iST) (H : Heap) (locs : List Loc) (ls : Array Slot) (pc : Nat), bz v → Q v u → yW D ca A ad s H locs u → decode cX11_recheck pc = .ok (.ireturn, 1) → W p l e R s m args below meth c H locs 0 0 Qf (F0 m pc ls [.int (jI v)])) (hw : yW D ca A ad s H locs u) (hl : lv_has ls 2 [(0, .ref (ad 0 9))]) (h : v_11_recheck Q u) : W p l e R s m args below meth c H locs 0 0 Qf (F0 m 0 ls []) := by
  have hx := X.1.1
  have hb := X.1.2.1
  unfold v_11_recheck at h
  refine lv_aload_n hx hb dX11_recheck_0 rfl (lv_at hl 0 rfl) ?_
  refine yg_11_133 X hw dX11_recheck_1 h (fun v1 rv1 h => ?_)
  refine k_if_ne hx hb (bz_in rv1) dX11_recheck_4 (tgt := 9) rfl h (fun h => ?_) (fun h => ?_)
  · refine lv_aload_n hx hb dX11_recheck_9 rfl (lv_at hl 0 rfl) ?_
    refine yg_11_14 X hw dX11_recheck_10 ?_
    refine yld 249 yK_11_249 X dX11_recheck_13 ?_
    refine ycV (n := 1) (e_7_begin (by decide) h) 7 6 (r := (RX7, TX7, 9)) rfl yG_11_160 yD_7_begin X hw rfl yGo_7 (Nat.le_trans (Nat.le_of_ble_eq_true rfl) hRf) (Nat.le_trans (Nat.le_of_ble_eq_true rfl) hRl) rfl hl.1 (Nat.le_of_ble_eq_true rfl) rfl dX11_recheck_15 (fun u H locs h hw => ?_)
    refine lv_aload_n hx hb dX11_recheck_18 rfl (lv_at hl 0 rfl) ?_
    refine yg_11_70 X hw dX11_recheck_19 ?_
    refine ycI (n := 0) (e_6_doNotesHold h) 6 5 (r := (RX6, TX6, 14)) rfl yG_11_250 yD_6_doNotesHold X hw rfl yGo_6 (Nat.le_trans (Nat.le_of_ble_eq_true rfl) hRf) (Nat.le_trans (Nat.le_of_ble_eq_true rfl) hRl) rfl hl.1 (Nat.le_of_ble_eq_true rfl) rfl dX11_recheck_22 (fun v3 u H locs rv3 h hw => ?_)
    refine lv_istore_n hx hb dX11_recheck_25 rfl hl (by decide) rfl (fun ls hl => ?_)
    have hl : lv_has ls 2 [(1, .int (jI v3)), (0, .ref (ad 0 9))] := hl
    refine lv_aload_n hx hb dX11_recheck_26 rfl (lv_at hl 1 rfl) ?_
    refine yg_11_88 X hw dX11_recheck_27 ?_
    refine lv_iconst hx hb dX11_recheck_30 (v := jI 1) rfl ?_
    refine ycV (n := 1) (e_4_prove (by decide) h) 4 3 (r := (RX4, TX4, 11)) rfl yG_11_166 yD_4_prove X hw rfl yGo_4 (Nat.le_trans (Nat.le_of_ble_eq_true rfl) hRf) (Nat.le_trans (Nat.le_of_ble_eq_true rfl) hRl) rfl hl.1 (Nat.le_of_ble_eq_true rfl) rfl dX11_recheck_31 (fun u H locs h hw => ?_)
    refine lv_iload_n hx hb dX11_recheck_34 rfl (lv_at hl 0 rfl) ?_
    refine k_if_eq hx hb rv3 dX11_recheck_35 (tgt := 52) rfl h (fun h => ?_) (fun h => ?_)
    · refine lv_iconst hx hb dX11_recheck_52 (v := jI 0) rfl ?_
      exact hret _ _ _ _ _ _ h.1 h.2 hw dX11_recheck_53
    · refine lv_aload_n hx hb dX11_recheck_38 rfl (lv_at hl 1 rfl) ?_
      refine yg_11_88 X hw dX11_recheck_39 ?_
      refine ycI (n := 0) (e_4_isAllProved h) 4 3 (r := (RX4, TX4, 11)) rfl yG_11_254 yD_4_isAllProved X hw rfl yGo_4 (Nat.le_trans (Nat.le_of_ble_eq_true rfl) hRf) (Nat.le_trans (Nat.le_of_ble_eq_true rfl) hRl) rfl hl.1 (Nat.le_of_ble_eq_true rfl) rfl dX11_recheck_42 (fun v5 u H locs rv5 h hw => ?_)
      refine k_if_eq hx hb rv5 dX11_recheck_45 (tgt := 52) rfl h (fun h => ?_) (fun h => ?_)
      · refine lv_iconst hx hb dX11_recheck_52 (v := jI 0) rfl ?_
        exact hret _ _ _ _ _ _ h.1 h.2 hw dX11_recheck_53
      · refine lv_iconst hx hb dX11_recheck_48 (v := jI 1) rfl ?_
        refine lv_goto hx hb dX11_recheck_49 (tgt := 53) rfl ?_
        exact hret _ _ _ _ _ _ h.1 h.2 hw dX11_recheck_53
  · refine lv_iconst hx hb dX11_recheck_7 (v := jI 0) rfl ?_
    exact hret _ _ _ _ _ _ h.1 h.2 hw dX11_recheck_8

end
theorem e_11_recheck {l : Launch} {Q : Int → iST → Prop} {u : iST} (h : v_11_recheck Q u) : yMI l yX11_recheck (.code yX11_recheck cX11_recheck 2 (some .boolean) :: wsN) { frames := 12, cells := 0, slots := 0, locals := 355 } (fun ad => [.ref (ad 0 9)]) Q u := yMZ_of (own := RX11) rfl (by decide +kernel) (fun _ => Nat.le_of_ble_eq_true rfl) (fun X hRf hRl hret hw hl => f_11_recheck_s X hRf hRl hret hw hl h)
