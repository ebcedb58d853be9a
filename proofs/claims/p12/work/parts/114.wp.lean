/-! using -/
theorem dX12_using_0 : decode cX12_using 0 = .ok (.aload_n 0, 1) := by decide +kernel
theorem dX12_using_1 : decode cX12_using 1 = .ok (.iload_n 1, 1) := by decide +kernel
theorem dX12_using_2 : decode cX12_using 2 = .ok (.invokevirtual 529, 3) := by decide +kernel
theorem dX12_using_5 : decode cX12_using 5 = .ok (.istore_n 2, 1) := by decide +kernel
theorem dX12_using_6 : decode cX12_using 6 = .ok (.iload_n 2, 1) := by decide +kernel
theorem dX12_using_7 : decode cX12_using 7 = .ok (.iconst 2, 1) := by decide +kernel
theorem dX12_using_8 : decode cX12_using 8 = .ok (.if_icmp .lt 34, 3) := by decide +kernel
theorem dX12_using_11 : decode cX12_using 11 = .ok (.aload_n 0, 1) := by decide +kernel
theorem dX12_using_12 : decode cX12_using 12 = .ok (.aload_n 0, 1) := by decide +kernel
theorem dX12_using_13 : decode cX12_using 13 = .ok (.iload_n 1, 1) := by decide +kernel
theorem dX12_using_14 : decode cX12_using 14 = .ok (.iconst 1, 1) := by decide +kernel
theorem dX12_using_15 : decode cX12_using 15 = .ok (.invokevirtual 471, 3) := by decide +kernel
theorem dX12_using_18 : decode cX12_using 18 = .ok (.invokevirtual 809, 3) := by decide +kernel
theorem dX12_using_21 : decode cX12_using 21 = .ok (.ifCond .eq 21, 3) := by decide +kernel
theorem dX12_using_24 : decode cX12_using 24 = .ok (.aload_n 0, 1) := by decide +kernel
theorem dX12_using_25 : decode cX12_using 25 = .ok (.aload_n 0, 1) := by decide +kernel
theorem dX12_using_26 : decode cX12_using 26 = .ok (.getfield 14, 3) := by decide +kernel
theorem dX12_using_29 : decode cX12_using 29 = .ok (.aload_n 0, 1) := by decide +kernel
theorem dX12_using_30 : decode cX12_using 30 = .ok (.getfield 14, 3) := by decide +kernel
theorem dX12_using_33 : decode cX12_using 33 = .ok (.iload_n 1, 1) := by decide +kernel
theorem dX12_using_34 : decode cX12_using 34 = .ok (.iaload, 1) := by decide +kernel
theorem dX12_using_35 : decode cX12_using 35 = .ok (.iaload, 1) := by decide +kernel
theorem dX12_using_36 : decode cX12_using 36 = .ok (.invokevirtual 872, 3) := by decide +kernel
theorem dX12_using_39 : decode cX12_using 39 = .ok (.ifCond .ne 9, 3) := by decide +kernel
theorem dX12_using_42 : decode cX12_using 42 = .ok (.aload_n 0, 1) := by decide +kernel
theorem dX12_using_43 : decode cX12_using 43 = .ok (.iconst 2, 1) := by decide +kernel
theorem dX12_using_44 : decode cX12_using 44 = .ok (.invokevirtual 866, 3) := by decide +kernel
theorem dX12_using_47 : decode cX12_using 47 = .ok (.return_, 1) := by decide +kernel
theorem dX12_using_48 : decode cX12_using 48 = .ok (.aload_n 0, 1) := by decide +kernel
theorem dX12_using_49 : decode cX12_using 49 = .ok (.aload_n 0, 1) := by decide +kernel
theorem dX12_using_50 : decode cX12_using 50 = .ok (.iload_n 1, 1) := by decide +kernel
theorem dX12_using_51 : decode cX12_using 51 = .ok (.iconst 1, 1) := by decide +kernel
theorem dX12_using_52 : decode cX12_using 52 = .ok (.invokevirtual 471, 3) := by decide +kernel
theorem dX12_using_55 : decode cX12_using 55 = .ok (.invokevirtual 875, 3) := by decide +kernel
theorem dX12_using_58 : decode cX12_using 58 = .ok (.istore_n 3, 1) := by decide +kernel
theorem dX12_using_59 : decode cX12_using 59 = .ok (.iload_n 3, 1) := by decide +kernel
theorem dX12_using_60 : decode cX12_using 60 = .ok (.iconst (-1), 1) := by decide +kernel
theorem dX12_using_61 : decode cX12_using 61 = .ok (.if_icmp .ne 9, 3) := by decide +kernel
theorem dX12_using_64 : decode cX12_using 64 = .ok (.aload_n 0, 1) := by decide +kernel
theorem dX12_using_65 : decode cX12_using 65 = .ok (.iconst 3, 1) := by decide +kernel
theorem dX12_using_66 : decode cX12_using 66 = .ok (.invokevirtual 866, 3) := by decide +kernel
theorem dX12_using_69 : decode cX12_using 69 = .ok (.return_, 1) := by decide +kernel
theorem dX12_using_70 : decode cX12_using 70 = .ok (.aload_n 0, 1) := by decide +kernel
theorem dX12_using_71 : decode cX12_using 71 = .ok (.getfield 14, 3) := by decide +kernel
theorem dX12_using_74 : decode cX12_using 74 = .ok (.aload_n 0, 1) := by decide +kernel
theorem dX12_using_75 : decode cX12_using 75 = .ok (.getfield 14, 3) := by decide +kernel
theorem dX12_using_78 : decode cX12_using 78 = .ok (.iload_n 1, 1) := by decide +kernel
theorem dX12_using_79 : decode cX12_using 79 = .ok (.iaload, 1) := by decide +kernel
theorem dX12_using_80 : decode cX12_using 80 = .ok (.iaload, 1) := by decide +kernel
theorem dX12_using_81 : decode cX12_using 81 = .ok (.istore 4, 2) := by decide +kernel
theorem dX12_using_83 : decode cX12_using 83 = .ok (.iload 4, 2) := by decide +kernel
theorem dX12_using_85 : decode cX12_using 85 = .ok (.ifCond .eq 45, 3) := by decide +kernel
theorem dX12_using_88 : decode cX12_using 88 = .ok (.aload_n 0, 1) := by decide +kernel
theorem dX12_using_89 : decode cX12_using 89 = .ok (.aload_n 0, 1) := by decide +kernel
theorem dX12_using_90 : decode cX12_using 90 = .ok (.getfield 100, 3) := by decide +kernel
theorem dX12_using_93 : decode cX12_using 93 = .ok (.iload_n 3, 1) := by decide +kernel
theorem dX12_using_94 : decode cX12_using 94 = .ok (.iaload, 1) := by decide +kernel
theorem dX12_using_95 : decode cX12_using 95 = .ok (.aload_n 0, 1) := by decide +kernel
theorem dX12_using_96 : decode cX12_using 96 = .ok (.getfield 8, 3) := by decide +kernel
theorem dX12_using_99 : decode cX12_using 99 = .ok (.aload_n 0, 1) := by decide +kernel
theorem dX12_using_100 : decode cX12_using 100 = .ok (.getfield 8, 3) := by decide +kernel
theorem dX12_using_103 : decode cX12_using 103 = .ok (.iload 4, 2) := by decide +kernel
theorem dX12_using_105 : decode cX12_using 105 = .ok (.iaload, 1) := by decide +kernel
theorem dX12_using_106 : decode cX12_using 106 = .ok (.iaload, 1) := by decide +kernel
theorem dX12_using_107 : decode cX12_using 107 = .ok (.invokevirtual 857, 3) := by decide +kernel
theorem dX12_using_110 : decode cX12_using 110 = .ok (.ifCond .ne 8, 3) := by decide +kernel
theorem dX12_using_113 : decode cX12_using 113 = .ok (.aload_n 0, 1) := by decide +kernel
theorem dX12_using_114 : decode cX12_using 114 = .ok (.iconst 2, 1) := by decide +kernel
theorem dX12_using_115 : decode cX12_using 115 = .ok (.invokevirtual 866, 3) := by decide +kernel
theorem dX12_using_118 : decode cX12_using 118 = .ok (.aload_n 0, 1) := by decide +kernel
theorem dX12_using_119 : decode cX12_using 119 = .ok (.getfield 14, 3) := by decide +kernel
theorem dX12_using_122 : decode cX12_using 122 = .ok (.iload 4, 2) := by decide +kernel
theorem dX12_using_124 : decode cX12_using 124 = .ok (.iaload, 1) := by decide +kernel
theorem dX12_using_125 : decode cX12_using 125 = .ok (.istore 4, 2) := by decide +kernel
theorem dX12_using_127 : decode cX12_using 127 = .ok (.goto (-44), 3) := by decide +kernel
theorem dX12_using_130 : decode cX12_using 130 = .ok (.aload_n 0, 1) := by decide +kernel
theorem dX12_using_131 : decode cX12_using 131 = .ok (.getfield 281, 3) := by decide +kernel
theorem dX12_using_134 : decode cX12_using 134 = .ok (.aload_n 0, 1) := by decide +kernel
theorem dX12_using_135 : decode cX12_using 135 = .ok (.getfield 878, 3) := by decide +kernel
theorem dX12_using_138 : decode cX12_using 138 = .ok (.iload_n 3, 1) := by decide +kernel
theorem dX12_using_139 : decode cX12_using 139 = .ok (.iastore, 1) := by decide +kernel
theorem dX12_using_140 : decode cX12_using 140 = .ok (.aload_n 0, 1) := by decide +kernel
theorem dX12_using_141 : decode cX12_using 141 = .ok (.getfield 284, 3) := by decide +kernel
theorem dX12_using_144 : decode cX12_using 144 = .ok (.aload_n 0, 1) := by decide +kernel
theorem dX12_using_145 : decode cX12_using 145 = .ok (.getfield 878, 3) := by decide +kernel
theorem dX12_using_148 : decode cX12_using 148 = .ok (.aload_n 0, 1) := by decide +kernel
theorem dX12_using_149 : decode cX12_using 149 = .ok (.getfield 14, 3) := by decide +kernel
theorem dX12_using_152 : decode cX12_using 152 = .ok (.aload_n 0, 1) := by decide +kernel
theorem dX12_using_153 : decode cX12_using 153 = .ok (.getfield 14, 3) := by decide +kernel
theorem dX12_using_156 : decode cX12_using 156 = .ok (.iload_n 1, 1) := by decide +kernel
theorem dX12_using_157 : decode cX12_using 157 = .ok (.iaload, 1) := by decide +kernel
theorem dX12_using_158 : decode cX12_using 158 = .ok (.iaload, 1) := by decide +kernel
theorem dX12_using_159 : decode cX12_using 159 = .ok (.iastore, 1) := by decide +kernel
theorem dX12_using_160 : decode cX12_using 160 = .ok (.aload_n 0, 1) := by decide +kernel
theorem dX12_using_161 : decode cX12_using 161 = .ok (.dup, 1) := by decide +kernel
theorem dX12_using_162 : decode cX12_using 162 = .ok (.getfield 878, 3) := by decide +kernel
theorem dX12_using_165 : decode cX12_using 165 = .ok (.iconst 1, 1) := by decide +kernel
theorem dX12_using_166 : decode cX12_using 166 = .ok (.iadd, 1) := by decide +kernel
theorem dX12_using_167 : decode cX12_using 167 = .ok (.putfield 878, 3) := by decide +kernel
theorem dX12_using_170 : decode cX12_using 170 = .ok (.return_, 1) := by decide +kernel

section
variable {p : Program} {l : Launch} {e : Env} {R : Room} {s : State} {m : MethodId} {args : Array Value} {below : List Frame} {meth : Method} {c : Code} {H : Heap} {locs : List Loc} {Qf : State → Prop}
variable {ls : Array Slot} {D : va_G} {ca : Nat → ClassId} {A : Nat → Prop} {h0 : Nat} {ad : Nat → Nat} {H0 : Heap} {u : iST}
def w_using_42 (Q : iST → Prop) (u : iST) : Prop :=
  w_wrong 2 (fun u => 
  Q u) u
set_option maxRecDepth 20000 in
set_option maxHeartbeats 4000000 in
theorem b_using_42 (X : kX p m c cX12_using 5 s args D ca) (hRf : 8 ≤ R.frames) (hRl : 183 ≤ R.locals) {Q : iST → Prop} (hret : ∀ (u : iST) (H : Heap) (locs : List Loc) (ls : Array Slot) (pc : Nat), Q u → kW D ca A h0 ad H0 H locs u → decode cX12_using pc = .ok (.return_, 1) → W p l e R s m args below meth c H locs 0 0 Qf (F0 m pc ls [])) (hw : kW D ca A h0 ad H0 H locs u) (hl : lv_has ls 5 [(0, .ref h0)]) (h : w_using_42 Q u) : W p l e R s m args below meth c H locs 0 0 Qf (F0 m 42 ls []) := by
  have hx := X.1.1
  have hb := X.1.2.1
  unfold w_using_42 at h
  refine lv_aload_n hx hb dX12_using_42 rfl (lv_at hl 0 rfl) ?_
  refine lv_iconst hx hb dX12_using_43 (v := jI 2) rfl ?_
  refine kcV (n := 1) (c_wrong (by decide) h) G_wrong E_wrong X hw (Nat.le_trans (Nat.le_of_ble_eq_true rfl) hRf) (Nat.le_trans (Nat.le_of_ble_eq_true rfl) hRl) rfl hl.1 (Nat.le_of_ble_eq_true rfl) rfl dX12_using_44 (fun u H locs h hw => ?_)
  exact hret _ _ _ _ _ h hw dX12_using_47

def w_using_118 (R83 : Int → Int → Int → iST → Prop) (Q : iST → Prop) (x1 : Int) (x3 : Int) (x4 : Int) (u : iST) : Prop :=
  bd x4 452000 (rd (u.2.1 1 x4) (fun v22 => 
  R83 x1 x3 v22 u))
set_option maxRecDepth 20000 in
set_option maxHeartbeats 4000000 in
theorem b_using_118 (X : kX p m c cX12_using 5 s args D ca) (hRf : 8 ≤ R.frames) (hRl : 183 ≤ R.locals) {Q : iST → Prop} (hret : ∀ (u : iST) (H : Heap) (locs : List Loc) (ls : Array Slot) (pc : Nat), Q u → kW D ca A h0 ad H0 H locs u → decode cX12_using pc = .ok (.return_, 1) → W p l e R s m args below meth c H locs 0 0 Qf (F0 m pc ls [])) {R83 : Int → Int → Int → iST → Prop} (hR83 : ∀ (x1 : Int) (x3 : Int) (x4 : Int) (u : iST) (H : Heap) (locs : List Loc) (ls : Array Slot), inR x1 → inR x3 → inR x4 → kW D ca A h0 ad H0 H locs u → lv_has ls 5 [(0, .ref h0), (1, .int (jI x1)), (3, .int (jI x3)), (4, .int (jI x4))] → R83 x1 x3 x4 u → W p l e R s m args below meth c H locs 0 0 Qf (F0 m 83 ls [])) {x1 x3 x4 : Int} (rx1 : inR x1) (rx3 : inR x3) (rx4 : inR x4) (hw : kW D ca A h0 ad H0 H locs u) (hl : lv_has ls 5 [(0, .ref h0), (1, .int (jI x1)), (3, .int (jI x3)), (4, .int (jI x4))]) (h : w_using_118 R83 Q x1 x3 x4 u) : W p l e R s m args below meth c H locs 0 0 Qf (F0 m 118 ls []) := by
  have hx := X.1.1
  have hb := X.1.2.1
  unfold w_using_118 at h
  refine lv_aload_n hx hb dX12_using_118 rfl (lv_at hl 0 rfl) ?_
  refine gA 1 14 (by decide) L_1 (fun _ _ => mF_1) rfl X hw dX12_using_119 ?_
  refine lv_iload hx hb dX12_using_122 (lv_at hl 3 rfl) ?_
  refine aL 1 2 1 452000 (fun _ _ _ _ => mG_1) (fun _ => rfl) X hw rx4 dX12_using_124 rfl h (fun v22 rv22 h => ?_)
  refine lv_istore hx hb dX12_using_125 hl (by decide) rfl (fun ls hl => ?_)
  have hl : lv_has ls 5 [(4, .int (jI v22)), (0, .ref (h0)), (1, .int (jI x1)), (3, .int (jI x3))] := hl
  refine lv_goto hx hb dX12_using_127 (tgt := 83) rfl ?_
  exact hR83 _ _ _ _ H locs ls rx1 rx3 rv22 hw (lv_sub hl [1, 2, 3, 0] rfl) h

def w_using_83b (R83 : Int → Int → Int → iST → Prop) (Q : iST → Prop) (x1 : Int) (x3 : Int) (x4 : Int) (u : iST) : Prop :=
  br (x4 = 0) (
    rd (u.1 139) (fun v12 => 
    bd v12 400 (sw (iA u 137 v12 x3) (fun u => 
    rd (u.1 139) (fun v13 => 
    bd x1 452000 (rd (u.2.1 1 x1) (fun v14 => 
    bd v14 452000 (rd (u.2.1 1 v14) (fun v15 => 
    bd v13 400 (sw (iA u 138 v13 v15) (fun u => 
    rd (u.1 139) (fun v16 => 
    ov (v16 + 1) (
    sw (iI u 139 (v16 + 1)) (fun u => 
    Q u)))))))))))))) (
    bd x3 60 (rd (u.2.1 44 x3) (fun v18 => 
    bd x4 452000 (rd (u.2.1 0 x4) (fun v19 => 
    bd v19 452000 (rd (u.2.1 0 v19) (fun v20 => 
    w_hasVariable v18 v20 (fun v21 u => 
    br (v21 ≠ 0) (
      w_using_118 R83 Q x1 x3 x4 u) (
      w_wrong 2 (fun u => 
      w_using_118 R83 Q x1 x3 x4 u) u)) u)))))))
def w_using_83 (Q : iST → Prop) (x1 : Int) (x3 : Int) (x4 : Int) (u : iST) : Prop := ∀ R83 : Int → Int → Int → iST → Prop, (∀ (x1 : Int) (x3 : Int) (x4 : Int) (u : iST), w_using_83b R83 Q x1 x3 x4 u → R83 x1 x3 x4 u) → R83 x1 x3 x4 u
set_option maxRecDepth 20000 in
set_option maxHeartbeats 4000000 in
theorem b_using_83 (X : kX p m c cX12_using 5 s args D ca) (hRf : 8 ≤ R.frames) (hRl : 183 ≤ R.locals) {Q : iST → Prop} (hret : ∀ (u : iST) (H : Heap) (locs : List Loc) (ls : Array Slot) (pc : Nat), Q u → kW D ca A h0 ad H0 H locs u → decode cX12_using pc = .ok (.return_, 1) → W p l e R s m args below meth c H locs 0 0 Qf (F0 m pc ls [])) {x1 x3 x4 : Int} (rx1 : inR x1) (rx3 : inR x3) (rx4 : inR x4) (hw : kW D ca A h0 ad H0 H locs u) (hl : lv_has ls 5 [(0, .ref h0), (1, .int (jI x1)), (3, .int (jI x3)), (4, .int (jI x4))]) (h : w_using_83 Q x1 x3 x4 u) : W p l e R s m args below meth c H locs 0 0 Qf (F0 m 83 ls []) := by
  refine h (fun x1 x3 x4 u => ∀ (H : Heap) (locs : List Loc) (ls : Array Slot), inR x1 → inR x3 → inR x4 → kW D ca A h0 ad H0 H locs u → lv_has ls 5 [(0, .ref h0), (1, .int (jI x1)), (3, .int (jI x3)), (4, .int (jI x4))] → W p l e R s m args below meth c H locs 0 0 Qf (F0 m 83 ls [])) ?_ H locs ls rx1 rx3 rx4 hw hl
  clear h hl hw rx1 rx3 rx4
  intro x1 x3 x4 u h H locs ls rx1 rx3 rx4 hw hl
  have hR83 : ∀ (x1 : Int) (x3 : Int) (x4 : Int) (u : iST) (H : Heap) (locs : List Loc) (ls : Array Slot), inR x1 → inR x3 → inR x4 → kW D ca A h0 ad H0 H locs u → lv_has ls 5 [(0, .ref h0), (1, .int (jI x1)), (3, .int (jI x3)), (4, .int (jI x4))] → (fun (x1 : Int) (x3 : Int) (x4 : Int) u => ∀ (H : Heap) (locs : List Loc) (ls : Array Slot), inR x1 → inR x3 → inR x4 → kW D ca A h0 ad H0 H locs u → lv_has ls 5 [(0, .ref h0), (1, .int (jI x1)), (3, .int (jI x3)), (4, .int (jI x4))] → W p l e R s m args below meth c H locs 0 0 Qf (F0 m 83 ls [])) x1 x3 x4 u → W p l e R s m args below meth c H locs 0 0 Qf (F0 m 83 ls []) := fun x1 x3 x4 u H locs ls rx1 rx3 rx4 hw hl h => h H locs ls rx1 rx3 rx4 hw hl
  have hx := X.1.1
  have hb := X.1.2.1
  unfold w_using_83b at h
  refine lv_iload hx hb dX12_using_83 (lv_at hl 3 rfl) ?_
  refine k_if_eq hx hb rx4 dX12_using_85 (tgt := 130) rfl h (fun h => ?_) (fun h => ?_)
  · refine lv_aload_n hx hb dX12_using_130 rfl (lv_at hl 0 rfl) ?_
    refine gA 137 281 (by decide) L_137 (fun _ _ => mF_137) rfl X hw dX12_using_131 ?_
    refine lv_aload_n hx hb dX12_using_134 rfl (lv_at hl 0 rfl) ?_
    refine gS 139 878 (by decide) L_139 (fun _ _ => mF_139) rfl X hw dX12_using_135 h (fun v12 rv12 h => ?_)
    refine lv_iload_n hx hb dX12_using_138 rfl (lv_at hl 2 rfl) ?_
    refine aS 137 86 85 400 (fun _ _ _ _ => mG_137) (fun _ => rfl) (fun _ _ _ _ _ _ => mSA_137) (by decide) X hw rv12 rx3 dX12_using_139 rfl h (fun H locs u hw h => ?_)
    refine lv_aload_n hx hb dX12_using_140 rfl (lv_at hl 0 rfl) ?_
    refine gA 138 284 (by decide) L_138 (fun _ _ => mF_138) rfl X hw dX12_using_141 ?_
    refine lv_aload_n hx hb dX12_using_144 rfl (lv_at hl 0 rfl) ?_
    refine gS 139 878 (by decide) L_139 (fun _ _ => mF_139) rfl X hw dX12_using_145 h (fun v13 rv13 h => ?_)
    refine lv_aload_n hx hb dX12_using_148 rfl (lv_at hl 0 rfl) ?_
    refine gA 1 14 (by decide) L_1 (fun _ _ => mF_1) rfl X hw dX12_using_149 ?_
    refine lv_aload_n hx hb dX12_using_152 rfl (lv_at hl 0 rfl) ?_
    refine gA 1 14 (by decide) L_1 (fun _ _ => mF_1) rfl X hw dX12_using_153 ?_
    refine lv_iload_n hx hb dX12_using_156 rfl (lv_at hl 1 rfl) ?_
    refine aL 1 2 1 452000 (fun _ _ _ _ => mG_1) (fun _ => rfl) X hw rx1 dX12_using_157 rfl h (fun v14 rv14 h => ?_)
    refine aL 1 2 1 452000 (fun _ _ _ _ => mG_1) (fun _ => rfl) X hw rv14 dX12_using_158 rfl h (fun v15 rv15 h => ?_)
    refine aS 138 87 86 400 (fun _ _ _ _ => mG_138) (fun _ => rfl) (fun _ _ _ _ _ _ => mSA_138) (by decide) X hw rv13 rv15 dX12_using_159 rfl h (fun H locs u hw h => ?_)
    refine lv_aload_n hx hb dX12_using_160 rfl (lv_at hl 0 rfl) ?_
    refine lv_dup hx hb dX12_using_161 rfl ?_
    refine gS 139 878 (by decide) L_139 (fun _ _ => mF_139) rfl X hw dX12_using_162 h (fun v16 rv16 h => ?_)
    refine lv_iconst hx hb dX12_using_165 (v := jI 1) rfl ?_
    refine k_iadd hx hb dX12_using_166 h (fun r17 h => ?_)
    refine pS 139 878 (by decide) L_139 rfl rfl rfl (fun _ _ _ _ _ => mSI_139) (by decide) X hw r17 dX12_using_167 h (fun H locs u hw h => ?_)
    exact hret _ _ _ _ _ h hw dX12_using_170
  · refine lv_aload_n hx hb dX12_using_88 rfl (lv_at hl 0 rfl) ?_
    refine lv_aload_n hx hb dX12_using_89 rfl (lv_at hl 0 rfl) ?_
    refine gA 44 100 (by decide) L_44 (fun _ _ => mF_44) rfl X hw dX12_using_90 ?_
    refine lv_iload_n hx hb dX12_using_93 rfl (lv_at hl 2 rfl) ?_
    refine aL 44 28 27 60 (fun _ _ _ _ => mG_44) (fun _ => rfl) X hw rx3 dX12_using_94 rfl h (fun v18 rv18 h => ?_)
    refine lv_aload_n hx hb dX12_using_95 rfl (lv_at hl 0 rfl) ?_
    refine gA 0 8 (by decide) L_0 (fun _ _ => mF_0) rfl X hw dX12_using_96 ?_
    refine lv_aload_n hx hb dX12_using_99 rfl (lv_at hl 0 rfl) ?_
    refine gA 0 8 (by decide) L_0 (fun _ _ => mF_0) rfl X hw dX12_using_100 ?_
    refine lv_iload hx hb dX12_using_103 (lv_at hl 3 rfl) ?_
    refine aL 0 1 0 452000 (fun _ _ _ _ => mG_0) (fun _ => rfl) X hw rx4 dX12_using_105 rfl h (fun v19 rv19 h => ?_)
    refine aL 0 1 0 452000 (fun _ _ _ _ => mG_0) (fun _ => rfl) X hw rv19 dX12_using_106 rfl h (fun v20 rv20 h => ?_)
    refine kcI (n := 2) (c_hasVariable rv18 rv20 h) G_hasVariable E_hasVariable X hw (Nat.le_trans (Nat.le_of_ble_eq_true rfl) hRf) (Nat.le_trans (Nat.le_of_ble_eq_true rfl) hRl) rfl hl.1 (Nat.le_of_ble_eq_true rfl) rfl dX12_using_107 (fun v21 u H locs rv21 h hw => ?_)
    refine k_if_ne hx hb rv21 dX12_using_110 (tgt := 118) rfl h (fun h => ?_) (fun h => ?_)
    · exact b_using_118 X hRf hRl hret hR83 rx1 rx3 rx4 hw hl h
    · refine lv_aload_n hx hb dX12_using_113 rfl (lv_at hl 0 rfl) ?_
      refine lv_iconst hx hb dX12_using_114 (v := jI 2) rfl ?_
      refine kcV (n := 1) (c_wrong (by decide) h) G_wrong E_wrong X hw (Nat.le_trans (Nat.le_of_ble_eq_true rfl) hRf) (Nat.le_trans (Nat.le_of_ble_eq_true rfl) hRl) rfl hl.1 (Nat.le_of_ble_eq_true rfl) rfl dX12_using_115 (fun u H locs h hw => ?_)
      exact b_using_118 X hRf hRl hret hR83 rx1 rx3 rx4 hw hl h

def w_using (a0 : Int) (Q : iST → Prop) (u : iST) : Prop :=
  w_lengthOf a0 (fun v1 u => 
  br (v1 < 2) (
    w_using_42 Q u) (
    w_nth a0 1 (fun v3 u => 
    w_isNewName v3 (fun v4 u => 
    br (v4 = 0) (
      w_using_42 Q u) (
      bd a0 452000 (rd (u.2.1 1 a0) (fun v5 => 
      bd v5 452000 (rd (u.2.1 1 v5) (fun v6 => 
      w_arePairs v6 (fun v7 u => 
      br (v7 ≠ 0) (
        w_nth a0 1 (fun v8 u => 
        w_theoremOf v8 (fun v9 u => 
        br (v9 ≠ (-1)) (
          bd a0 452000 (rd (u.2.1 1 a0) (fun v10 => 
          bd v10 452000 (rd (u.2.1 1 v10) (fun v11 => 
          w_using_83 Q a0 v9 v11 u))))) (
          w_wrong 3 (fun u => 
          Q u) u)) u) u) (
        w_using_42 Q u)) u)))))) u) u)) u
set_option maxRecDepth 20000 in
set_option maxHeartbeats 4000000 in
theorem b_using_s (X : kX p m c cX12_using 5 s args D ca) (hRf : 8 ≤ R.frames) (hRl : 183 ≤ R.locals) {Q : iST → Prop} (hret : ∀ (u : iST) (H : Heap) (locs : List Loc) (ls : Array Slot) (pc : Nat), Q u → kW D ca A h0 ad H0 H locs u → decode cX12_using pc = .ok (.return_, 1) → W p l e R s m args below meth c H locs 0 0 Qf (F0 m pc ls [])) {a0 : Int} (ra0 : inR a0) (hw : kW D ca A h0 ad H0 H locs u) (hl : lv_has ls 5 [(0, .ref h0), (1, .int (jI a0))]) (h : w_using a0 Q u) : W p l e R s m args below meth c H locs 0 0 Qf (F0 m 0 ls []) := by
  have hx := X.1.1
  have hb := X.1.2.1
  unfold w_using at h
  refine lv_aload_n hx hb dX12_using_0 rfl (lv_at hl 0 rfl) ?_
  refine lv_iload_n hx hb dX12_using_1 rfl (lv_at hl 1 rfl) ?_
  refine kcI (n := 1) (c_lengthOf ra0 h) G_lengthOf E_lengthOf X hw (Nat.le_trans (Nat.le_of_ble_eq_true rfl) hRf) (Nat.le_trans (Nat.le_of_ble_eq_true rfl) hRl) rfl hl.1 (Nat.le_of_ble_eq_true rfl) rfl dX12_using_2 (fun v1 u H locs rv1 h hw => ?_)
  refine lv_istore_n hx hb dX12_using_5 rfl hl (by decide) rfl (fun ls hl => ?_)
  have hl : lv_has ls 5 [(2, .int (jI v1)), (0, .ref (h0)), (1, .int (jI a0))] := hl
  refine lv_iload_n hx hb dX12_using_6 rfl (lv_at hl 0 rfl) ?_
  refine lv_iconst hx hb dX12_using_7 (v := jI 2) rfl ?_
  refine k_icmp_lt hx hb rv1 (by decide) dX12_using_8 (tgt := 42) rfl h (fun h => ?_) (fun h => ?_)
  · exact b_using_42 X hRf hRl hret hw (lv_sub hl [1] rfl) h
  · refine lv_aload_n hx hb dX12_using_11 rfl (lv_at hl 1 rfl) ?_
    refine lv_aload_n hx hb dX12_using_12 rfl (lv_at hl 1 rfl) ?_
    refine lv_iload_n hx hb dX12_using_13 rfl (lv_at hl 2 rfl) ?_
    refine lv_iconst hx hb dX12_using_14 (v := jI 1) rfl ?_
    refine kcI (n := 2) (c_nth ra0 (by decide) h) G_nth E_nth X hw (Nat.le_trans (Nat.le_of_ble_eq_true rfl) hRf) (Nat.le_trans (Nat.le_of_ble_eq_true rfl) hRl) rfl hl.1 (Nat.le_of_ble_eq_true rfl) rfl dX12_using_15 (fun v3 u H locs rv3 h hw => ?_)
    refine kcI (n := 1) (c_isNewName rv3 h) G_isNewName E_isNewName X hw (Nat.le_trans (Nat.le_of_ble_eq_true rfl) hRf) (Nat.le_trans (Nat.le_of_ble_eq_true rfl) hRl) rfl hl.1 (Nat.le_of_ble_eq_true rfl) rfl dX12_using_18 (fun v4 u H locs rv4 h hw => ?_)
    refine k_if_eq hx hb rv4 dX12_using_21 (tgt := 42) rfl h (fun h => ?_) (fun h => ?_)
    · exact b_using_42 X hRf hRl hret hw (lv_sub hl [1] rfl) h
    · refine lv_aload_n hx hb dX12_using_24 rfl (lv_at hl 1 rfl) ?_
      refine lv_aload_n hx hb dX12_using_25 rfl (lv_at hl 1 rfl) ?_
      refine gA 1 14 (by decide) L_1 (fun _ _ => mF_1) rfl X hw dX12_using_26 ?_
      refine lv_aload_n hx hb dX12_using_29 rfl (lv_at hl 1 rfl) ?_
      refine gA 1 14 (by decide) L_1 (fun _ _ => mF_1) rfl X hw dX12_using_30 ?_
      refine lv_iload_n hx hb dX12_using_33 rfl (lv_at hl 2 rfl) ?_
      refine aL 1 2 1 452000 (fun _ _ _ _ => mG_1) (fun _ => rfl) X hw ra0 dX12_using_34 rfl h (fun v5 rv5 h => ?_)
      refine aL 1 2 1 452000 (fun _ _ _ _ => mG_1) (fun _ => rfl) X hw rv5 dX12_using_35 rfl h (fun v6 rv6 h => ?_)
      refine kcI (n := 1) (c_arePairs rv6 h) G_arePairs E_arePairs X hw (Nat.le_trans (Nat.le_of_ble_eq_true rfl) hRf) (Nat.le_trans (Nat.le_of_ble_eq_true rfl) hRl) rfl hl.1 (Nat.le_of_ble_eq_true rfl) rfl dX12_using_36 (fun v7 u H locs rv7 h hw => ?_)
      refine k_if_ne hx hb rv7 dX12_using_39 (tgt := 48) rfl h (fun h => ?_) (fun h => ?_)
      · refine lv_aload_n hx hb dX12_using_48 rfl (lv_at hl 1 rfl) ?_
        refine lv_aload_n hx hb dX12_using_49 rfl (lv_at hl 1 rfl) ?_
        refine lv_iload_n hx hb dX12_using_50 rfl (lv_at hl 2 rfl) ?_
        refine lv_iconst hx hb dX12_using_51 (v := jI 1) rfl ?_
        refine kcI (n := 2) (c_nth ra0 (by decide) h) G_nth E_nth X hw (Nat.le_trans (Nat.le_of_ble_eq_true rfl) hRf) (Nat.le_trans (Nat.le_of_ble_eq_true rfl) hRl) rfl hl.1 (Nat.le_of_ble_eq_true rfl) rfl dX12_using_52 (fun v8 u H locs rv8 h hw => ?_)
        refine kcI (n := 1) (c_theoremOf rv8 h) G_theoremOf E_theoremOf X hw (Nat.le_trans (Nat.le_of_ble_eq_true rfl) hRf) (Nat.le_trans (Nat.le_of_ble_eq_true rfl) hRl) rfl hl.1 (Nat.le_of_ble_eq_true rfl) rfl dX12_using_55 (fun v9 u H locs rv9 h hw => ?_)
        refine lv_istore_n hx hb dX12_using_58 rfl hl (by decide) rfl (fun ls hl => ?_)
        have hl : lv_has ls 5 [(3, .int (jI v9)), (2, .int (jI v1)), (0, .ref (h0)), (1, .int (jI a0))] := hl
        refine lv_iload_n hx hb dX12_using_59 rfl (lv_at hl 0 rfl) ?_
        refine lv_iconst hx hb dX12_using_60 (v := jI (-1)) rfl ?_
        refine k_icmp_ne hx hb rv9 (by decide) dX12_using_61 (tgt := 70) rfl h (fun h => ?_) (fun h => ?_)
        · refine lv_aload_n hx hb dX12_using_70 rfl (lv_at hl 2 rfl) ?_
          refine gA 1 14 (by decide) L_1 (fun _ _ => mF_1) rfl X hw dX12_using_71 ?_
          refine lv_aload_n hx hb dX12_using_74 rfl (lv_at hl 2 rfl) ?_
          refine gA 1 14 (by decide) L_1 (fun _ _ => mF_1) rfl X hw dX12_using_75 ?_
          refine lv_iload_n hx hb dX12_using_78 rfl (lv_at hl 3 rfl) ?_
          refine aL 1 2 1 452000 (fun _ _ _ _ => mG_1) (fun _ => rfl) X hw ra0 dX12_using_79 rfl h (fun v10 rv10 h => ?_)
          refine aL 1 2 1 452000 (fun _ _ _ _ => mG_1) (fun _ => rfl) X hw rv10 dX12_using_80 rfl h (fun v11 rv11 h => ?_)
          refine lv_istore hx hb dX12_using_81 hl (by decide) rfl (fun ls hl => ?_)
          have hl : lv_has ls 5 [(4, .int (jI v11)), (3, .int (jI v9)), (2, .int (jI v1)), (0, .ref (h0)), (1, .int (jI a0))] := hl
          exact b_using_83 X hRf hRl hret ra0 rv9 rv11 hw (lv_sub hl [3, 4, 1, 0] rfl) h
        · refine lv_aload_n hx hb dX12_using_64 rfl (lv_at hl 2 rfl) ?_
          refine lv_iconst hx hb dX12_using_65 (v := jI 3) rfl ?_
          refine kcV (n := 1) (c_wrong (by decide) h) G_wrong E_wrong X hw (Nat.le_trans (Nat.le_of_ble_eq_true rfl) hRf) (Nat.le_trans (Nat.le_of_ble_eq_true rfl) hRl) rfl hl.1 (Nat.le_of_ble_eq_true rfl) rfl dX12_using_66 (fun u H locs h hw => ?_)
          exact hret _ _ _ _ _ h hw dX12_using_69
      · exact b_using_42 X hRf hRl hret hw (lv_sub hl [1] rfl) h

end
theorem c_using {l : Launch} {a0 : Int} (ra0 : inR a0) {Q : iST → Prop} {u : iST} (h : w_using a0 Q u) : kMV l yX12_using (.code yX12_using cX12_using 5 none :: wsM) { frames := 8, cells := 0, slots := 0, locals := 183 } [.int (jI a0)] Q u := kMV_of rfl (fun _ => Nat.le_of_ble_eq_true rfl) (fun X hRf hRl hret hw hl => b_using_s X hRf hRl hret ra0 hw hl h)

/-! turningOff -/
theorem dX12_turningOff_0 : decode cX12_turningOff 0 = .ok (.aload_n 0, 1) := by decide +kernel
theorem dX12_turningOff_1 : decode cX12_turningOff 1 = .ok (.iload_n 1, 1) := by decide +kernel
theorem dX12_turningOff_2 : decode cX12_turningOff 2 = .ok (.invokevirtual 529, 3) := by decide +kernel
theorem dX12_turningOff_5 : decode cX12_turningOff 5 = .ok (.istore_n 2, 1) := by decide +kernel
theorem dX12_turningOff_6 : decode cX12_turningOff 6 = .ok (.iload_n 2, 1) := by decide +kernel
theorem dX12_turningOff_7 : decode cX12_turningOff 7 = .ok (.iconst 2, 1) := by decide +kernel
theorem dX12_turningOff_8 : decode cX12_turningOff 8 = .ok (.if_icmp .lt 10, 3) := by decide +kernel
theorem dX12_turningOff_11 : decode cX12_turningOff 11 = .ok (.aload_n 0, 1) := by decide +kernel
theorem dX12_turningOff_12 : decode cX12_turningOff 12 = .ok (.getfield 881, 3) := by decide +kernel
theorem dX12_turningOff_15 : decode cX12_turningOff 15 = .ok (.ifCond .eq 9, 3) := by decide +kernel
theorem dX12_turningOff_18 : decode cX12_turningOff 18 = .ok (.aload_n 0, 1) := by decide +kernel
theorem dX12_turningOff_19 : decode cX12_turningOff 19 = .ok (.iconst 2, 1) := by decide +kernel
theorem dX12_turningOff_20 : decode cX12_turningOff 20 = .ok (.invokevirtual 866, 3) := by decide +kernel
theorem dX12_turningOff_23 : decode cX12_turningOff 23 = .ok (.return_, 1) := by decide +kernel
theorem dX12_turningOff_24 : decode cX12_turningOff 24 = .ok (.aload_n 0, 1) := by decide +kernel
theorem dX12_turningOff_25 : decode cX12_turningOff 25 = .ok (.iconst 1, 1) := by decide +kernel
theorem dX12_turningOff_26 : decode cX12_turningOff 26 = .ok (.putfield 881, 3) := by decide +kernel
theorem dX12_turningOff_29 : decode cX12_turningOff 29 = .ok (.iconst 1, 1) := by decide +kernel
theorem dX12_turningOff_30 : decode cX12_turningOff 30 = .ok (.istore_n 3, 1) := by decide +kernel
theorem dX12_turningOff_31 : decode cX12_turningOff 31 = .ok (.iload_n 3, 1) := by decide +kernel
theorem dX12_turningOff_32 : decode cX12_turningOff 32 = .ok (.iload_n 2, 1) := by decide +kernel
theorem dX12_turningOff_33 : decode cX12_turningOff 33 = .ok (.if_icmp .ge 64, 3) := by decide +kernel
theorem dX12_turningOff_36 : decode cX12_turningOff 36 = .ok (.aload_n 0, 1) := by decide +kernel
theorem dX12_turningOff_37 : decode cX12_turningOff 37 = .ok (.iload_n 1, 1) := by decide +kernel
theorem dX12_turningOff_38 : decode cX12_turningOff 38 = .ok (.iload_n 3, 1) := by decide +kernel
theorem dX12_turningOff_39 : decode cX12_turningOff 39 = .ok (.invokevirtual 471, 3) := by decide +kernel
theorem dX12_turningOff_42 : decode cX12_turningOff 42 = .ok (.istore 4, 2) := by decide +kernel
theorem dX12_turningOff_44 : decode cX12_turningOff 44 = .ok (.aload_n 0, 1) := by decide +kernel
theorem dX12_turningOff_45 : decode cX12_turningOff 45 = .ok (.iload 4, 2) := by decide +kernel
theorem dX12_turningOff_47 : decode cX12_turningOff 47 = .ok (.invokevirtual 809, 3) := by decide +kernel
theorem dX12_turningOff_50 : decode cX12_turningOff 50 = .ok (.ifCond .ne 11, 3) := by decide +kernel
theorem dX12_turningOff_53 : decode cX12_turningOff 53 = .ok (.aload_n 0, 1) := by decide +kernel
theorem dX12_turningOff_54 : decode cX12_turningOff 54 = .ok (.iconst 2, 1) := by decide +kernel
theorem dX12_turningOff_55 : decode cX12_turningOff 55 = .ok (.invokevirtual 866, 3) := by decide +kernel
theorem dX12_turningOff_58 : decode cX12_turningOff 58 = .ok (.goto 33, 3) := by decide +kernel
theorem dX12_turningOff_61 : decode cX12_turningOff 61 = .ok (.aload_n 0, 1) := by decide +kernel
theorem dX12_turningOff_62 : decode cX12_turningOff 62 = .ok (.iload 4, 2) := by decide +kernel
theorem dX12_turningOff_64 : decode cX12_turningOff 64 = .ok (.invokevirtual 875, 3) := by decide +kernel
theorem dX12_turningOff_67 : decode cX12_turningOff 67 = .ok (.iconst (-1), 1) := by decide +kernel
theorem dX12_turningOff_68 : decode cX12_turningOff 68 = .ok (.if_icmp .ne 11, 3) := by decide +kernel
theorem dX12_turningOff_71 : decode cX12_turningOff 71 = .ok (.aload_n 0, 1) := by decide +kernel
theorem dX12_turningOff_72 : decode cX12_turningOff 72 = .ok (.iconst 3, 1) := by decide +kernel
theorem dX12_turningOff_73 : decode cX12_turningOff 73 = .ok (.invokevirtual 866, 3) := by decide +kernel
theorem dX12_turningOff_76 : decode cX12_turningOff 76 = .ok (.goto 15, 3) := by decide +kernel
theorem dX12_turningOff_79 : decode cX12_turningOff 79 = .ok (.aload_n 0, 1) := by decide +kernel
theorem dX12_turningOff_80 : decode cX12_turningOff 80 = .ok (.getfield 127, 3) := by decide +kernel
theorem dX12_turningOff_83 : decode cX12_turningOff 83 = .ok (.aload_n 0, 1) := by decide +kernel
theorem dX12_turningOff_84 : decode cX12_turningOff 84 = .ok (.iload 4, 2) := by decide +kernel
theorem dX12_turningOff_86 : decode cX12_turningOff 86 = .ok (.invokevirtual 875, 3) := by decide +kernel
theorem dX12_turningOff_89 : decode cX12_turningOff 89 = .ok (.iconst 1, 1) := by decide +kernel
theorem dX12_turningOff_90 : decode cX12_turningOff 90 = .ok (.bastore, 1) := by decide +kernel
theorem dX12_turningOff_91 : decode cX12_turningOff 91 = .ok (.iinc 3 1, 3) := by decide +kernel
theorem dX12_turningOff_94 : decode cX12_turningOff 94 = .ok (.goto (-63), 3) := by decide +kernel
theorem dX12_turningOff_97 : decode cX12_turningOff 97 = .ok (.return_, 1) := by decide +kernel

section
variable {p : Program} {l : Launch} {e : Env} {R : Room} {s : State} {m : MethodId} {args : Array Value} {below : List Frame} {meth : Method} {c : Code} {H : Heap} {locs : List Loc} {Qf : State → Prop}
variable {ls : Array Slot} {D : va_G} {ca : Nat → ClassId} {A : Nat → Prop} {h0 : Nat} {ad : Nat → Nat} {H0 : Heap} {u : iST}
def w_turningOff_18 (Q : iST → Prop) (u : iST) : Prop :=
  w_wrong 2 (fun u => 
  Q u) u
set_option maxRecDepth 20000 in
set_option maxHeartbeats 4000000 in
theorem b_turningOff_18 (X : kX p m c cX12_turningOff 5 s args D ca) (hRf : 2 ≤ R.frames) (hRl : 44 ≤ R.locals) {Q : iST → Prop} (hret : ∀ (u : iST) (H : Heap) (locs : List Loc) (ls : Array Slot) (pc : Nat), Q u → kW D ca A h0 ad H0 H locs u → decode cX12_turningOff pc = .ok (.return_, 1) → W p l e R s m args below meth c H locs 0 0 Qf (F0 m pc ls [])) (hw : kW D ca A h0 ad H0 H locs u) (hl : lv_has ls 5 [(0, .ref h0)]) (h : w_turningOff_18 Q u) : W p l e R s m args below meth c H locs 0 0 Qf (F0 m 18 ls []) := by
  have hx := X.1.1
  have hb := X.1.2.1
  unfold w_turningOff_18 at h
  refine lv_aload_n hx hb dX12_turningOff_18 rfl (lv_at hl 0 rfl) ?_
  refine lv_iconst hx hb dX12_turningOff_19 (v := jI 2) rfl ?_
  refine kcV (n := 1) (c_wrong (by decide) h) G_wrong E_wrong X hw (Nat.le_trans (Nat.le_of_ble_eq_true rfl) hRf) (Nat.le_trans (Nat.le_of_ble_eq_true rfl) hRl) rfl hl.1 (Nat.le_of_ble_eq_true rfl) rfl dX12_turningOff_20 (fun u H locs h hw => ?_)
  exact hret _ _ _ _ _ h hw dX12_turningOff_23

def w_turningOff_31b (R31 : Int → Int → Int → iST → Prop) (Q : iST → Prop) (x1 : Int) (x2 : Int) (x3 : Int) (u : iST) : Prop :=
  br (x2 ≤ x3) (
    Q u) (
    w_nth x1 x3 (fun v4 u => 
    w_isNewName v4 (fun v5 u => 
    br (v5 ≠ 0) (
      w_theoremOf v4 (fun v6 u => 
      br (v6 ≠ (-1)) (
        w_theoremOf v4 (fun v7 u => 
        zt 1 (bd v7 60 (sw (iA u 53 v7 1) (fun u => 
        ov (x3 + 1) (
        R31 x1 x2 (x3 + 1) u))))) u) (
        w_wrong 3 (fun u => 
        ov (x3 + 1) (
        R31 x1 x2 (x3 + 1) u)) u)) u) (
      w_wrong 2 (fun u => 
      ov (x3 + 1) (
      R31 x1 x2 (x3 + 1) u)) u)) u) u)
def w_turningOff_31 (Q : iST → Prop) (x1 : Int) (x2 : Int) (x3 : Int) (u : iST) : Prop := ∀ R31 : Int → Int → Int → iST → Prop, (∀ (x1 : Int) (x2 : Int) (x3 : Int) (u : iST), w_turningOff_31b R31 Q x1 x2 x3 u → R31 x1 x2 x3 u) → R31 x1 x2 x3 u
set_option maxRecDepth 20000 in
set_option maxHeartbeats 4000000 in
theorem b_turningOff_31 (X : kX p m c cX12_turningOff 5 s args D ca) (hRf : 2 ≤ R.frames) (hRl : 44 ≤ R.locals) {Q : iST → Prop} (hret : ∀ (u : iST) (H : Heap) (locs : List Loc) (ls : Array Slot) (pc : Nat), Q u → kW D ca A h0 ad H0 H locs u → decode cX12_turningOff pc = .ok (.return_, 1) → W p l e R s m args below meth c H locs 0 0 Qf (F0 m pc ls [])) {x1 x2 x3 : Int} (rx1 : inR x1) (rx2 : inR x2) (rx3 : inR x3) (hw : kW D ca A h0 ad H0 H locs u) (hl : lv_has ls 5 [(0, .ref h0), (1, .int (jI x1)), (2, .int (jI x2)), (3, .int (jI x3))]) (h : w_turningOff_31 Q x1 x2 x3 u) : W p l e R s m args below meth c H locs 0 0 Qf (F0 m 31 ls []) := by
  refine h (fun x1 x2 x3 u => ∀ (H : Heap) (locs : List Loc) (ls : Array Slot), inR x1 → inR x2 → inR x3 → kW D ca A h0 ad H0 H locs u → lv_has ls 5 [(0, .ref h0), (1, .int (jI x1)), (2, .int (jI x2)), (3, .int (jI x3))] → W p l e R s m args below meth c H locs 0 0 Qf (F0 m 31 ls [])) ?_ H locs ls rx1 rx2 rx3 hw hl
  clear h hl hw rx1 rx2 rx3
  intro x1 x2 x3 u h H locs ls rx1 rx2 rx3 hw hl
  have hR31 : ∀ (x1 : Int) (x2 : Int) (x3 : Int) (u : iST) (H : Heap) (locs : List Loc) (ls : Array Slot), inR x1 → inR x2 → inR x3 → kW D ca A h0 ad H0 H locs u → lv_has ls 5 [(0, .ref h0), (1, .int (jI x1)), (2, .int (jI x2)), (3, .int (jI x3))] → (fun (x1 : Int) (x2 : Int) (x3 : Int) u => ∀ (H : Heap) (locs : List Loc) (ls : Array Slot), inR x1 → inR x2 → inR x3 → kW D ca A h0 ad H0 H locs u → lv_has ls 5 [(0, .ref h0), (1, .int (jI x1)), (2, .int (jI x2)), (3, .int (jI x3))] → W p l e R s m args below meth c H locs 0 0 Qf (F0 m 31 ls [])) x1 x2 x3 u → W p l e R s m args below meth c H locs 0 0 Qf (F0 m 31 ls []) := fun x1 x2 x3 u H locs ls rx1 rx2 rx3 hw hl h => h H locs ls rx1 rx2 rx3 hw hl
  have hx := X.1.1
  have hb := X.1.2.1
  unfold w_turningOff_31b at h
  refine lv_iload_n hx hb dX12_turningOff_31 rfl (lv_at hl 3 rfl) ?_
  refine lv_iload_n hx hb dX12_turningOff_32 rfl (lv_at hl 2 rfl) ?_
  refine k_icmp_ge hx hb rx3 rx2 dX12_turningOff_33 (tgt := 97) rfl h (fun h => ?_) (fun h => ?_)
  · exact hret _ _ _ _ _ h hw dX12_turningOff_97
  · refine lv_aload_n hx hb dX12_turningOff_36 rfl (lv_at hl 0 rfl) ?_
    refine lv_iload_n hx hb dX12_turningOff_37 rfl (lv_at hl 1 rfl) ?_
    refine lv_iload_n hx hb dX12_turningOff_38 rfl (lv_at hl 3 rfl) ?_
    refine kcI (n := 2) (c_nth rx1 rx3 h) G_nth E_nth X hw (Nat.le_trans (Nat.le_of_ble_eq_true rfl) hRf) (Nat.le_trans (Nat.le_of_ble_eq_true rfl) hRl) rfl hl.1 (Nat.le_of_ble_eq_true rfl) rfl dX12_turningOff_39 (fun v4 u H locs rv4 h hw => ?_)
    refine lv_istore hx hb dX12_turningOff_42 hl (by decide) rfl (fun ls hl => ?_)
    have hl : lv_has ls 5 [(4, .int (jI v4)), (0, .ref (h0)), (1, .int (jI x1)), (2, .int (jI x2)), (3, .int (jI x3))] := hl
    refine lv_aload_n hx hb dX12_turningOff_44 rfl (lv_at hl 1 rfl) ?_
    refine lv_iload hx hb dX12_turningOff_45 (lv_at hl 0 rfl) ?_
    refine kcI (n := 1) (c_isNewName rv4 h) G_isNewName E_isNewName X hw (Nat.le_trans (Nat.le_of_ble_eq_true rfl) hRf) (Nat.le_trans (Nat.le_of_ble_eq_true rfl) hRl) rfl hl.1 (Nat.le_of_ble_eq_true rfl) rfl dX12_turningOff_47 (fun v5 u H locs rv5 h hw => ?_)
    refine k_if_ne hx hb rv5 dX12_turningOff_50 (tgt := 61) rfl h (fun h => ?_) (fun h => ?_)
    · refine lv_aload_n hx hb dX12_turningOff_61 rfl (lv_at hl 1 rfl) ?_
      refine lv_iload hx hb dX12_turningOff_62 (lv_at hl 0 rfl) ?_
      refine kcI (n := 1) (c_theoremOf rv4 h) G_theoremOf E_theoremOf X hw (Nat.le_trans (Nat.le_of_ble_eq_true rfl) hRf) (Nat.le_trans (Nat.le_of_ble_eq_true rfl) hRl) rfl hl.1 (Nat.le_of_ble_eq_true rfl) rfl dX12_turningOff_64 (fun v6 u H locs rv6 h hw => ?_)
      refine lv_iconst hx hb dX12_turningOff_67 (v := jI (-1)) rfl ?_
      refine k_icmp_ne hx hb rv6 (by decide) dX12_turningOff_68 (tgt := 79) rfl h (fun h => ?_) (fun h => ?_)
      · refine lv_aload_n hx hb dX12_turningOff_79 rfl (lv_at hl 1 rfl) ?_
        refine gA 53 127 (by decide) L_53 (fun _ _ => mF_53) rfl X hw dX12_turningOff_80 ?_
        refine lv_aload_n hx hb dX12_turningOff_83 rfl (lv_at hl 1 rfl) ?_
        refine lv_iload hx hb dX12_turningOff_84 (lv_at hl 0 rfl) ?_
        refine kcI (n := 1) (c_theoremOf rv4 h) G_theoremOf E_theoremOf X hw (Nat.le_trans (Nat.le_of_ble_eq_true rfl) hRf) (Nat.le_trans (Nat.le_of_ble_eq_true rfl) hRl) rfl hl.1 (Nat.le_of_ble_eq_true rfl) rfl dX12_turningOff_86 (fun v7 u H locs rv7 h hw => ?_)
        refine lv_iconst hx hb dX12_turningOff_89 (v := jI 1) rfl ?_
        refine aY 53 37 36 60 (fun _ _ _ _ => mG_53) (fun _ => rfl) (fun _ _ _ _ _ _ => mSA_53) X hw rv7 dX12_turningOff_90 rfl h (fun H locs u hw h => ?_)
        refine k_iinc (k := 4) hx hb dX12_turningOff_91 hl rfl (by decide) rfl h (fun ls r8 h hl => ?_)
        have hl : lv_has ls 5 [(3, .int (jI (x3 + 1))), (4, .int (jI v4)), (0, .ref (h0)), (1, .int (jI x1)), (2, .int (jI x2))] := hl
        refine lv_goto hx hb dX12_turningOff_94 (tgt := 31) rfl ?_
        exact hR31 _ _ _ _ H locs ls rx1 rx2 r8 hw (lv_sub hl [2, 3, 4, 0] rfl) h
      · refine lv_aload_n hx hb dX12_turningOff_71 rfl (lv_at hl 1 rfl) ?_
        refine lv_iconst hx hb dX12_turningOff_72 (v := jI 3) rfl ?_
        refine kcV (n := 1) (c_wrong (by decide) h) G_wrong E_wrong X hw (Nat.le_trans (Nat.le_of_ble_eq_true rfl) hRf) (Nat.le_trans (Nat.le_of_ble_eq_true rfl) hRl) rfl hl.1 (Nat.le_of_ble_eq_true rfl) rfl dX12_turningOff_73 (fun u H locs h hw => ?_)
        refine lv_goto hx hb dX12_turningOff_76 (tgt := 91) rfl ?_
        refine k_iinc (k := 4) hx hb dX12_turningOff_91 hl rfl (by decide) rfl h (fun ls r10 h hl => ?_)
        have hl : lv_has ls 5 [(3, .int (jI (x3 + 1))), (4, .int (jI v4)), (0, .ref (h0)), (1, .int (jI x1)), (2, .int (jI x2))] := hl
        refine lv_goto hx hb dX12_turningOff_94 (tgt := 31) rfl ?_
        exact hR31 _ _ _ _ H locs ls rx1 rx2 r10 hw (lv_sub hl [2, 3, 4, 0] rfl) h
    · refine lv_aload_n hx hb dX12_turningOff_53 rfl (lv_at hl 1 rfl) ?_
      refine lv_iconst hx hb dX12_turningOff_54 (v := jI 2) rfl ?_
      refine kcV (n := 1) (c_wrong (by decide) h) G_wrong E_wrong X hw (Nat.le_trans (Nat.le_of_ble_eq_true rfl) hRf) (Nat.le_trans (Nat.le_of_ble_eq_true rfl) hRl) rfl hl.1 (Nat.le_of_ble_eq_true rfl) rfl dX12_turningOff_55 (fun u H locs h hw => ?_)
      refine lv_goto hx hb dX12_turningOff_58 (tgt := 91) rfl ?_
      refine k_iinc (k := 4) hx hb dX12_turningOff_91 hl rfl (by decide) rfl h (fun ls r12 h hl => ?_)
      have hl : lv_has ls 5 [(3, .int (jI (x3 + 1))), (4, .int (jI v4)), (0, .ref (h0)), (1, .int (jI x1)), (2, .int (jI x2))] := hl
      refine lv_goto hx hb dX12_turningOff_94 (tgt := 31) rfl ?_
      exact hR31 _ _ _ _ H locs ls rx1 rx2 r12 hw (lv_sub hl [2, 3, 4, 0] rfl) h

def w_turningOff (a0 : Int) (Q : iST → Prop) (u : iST) : Prop :=
  w_lengthOf a0 (fun v1 u => 
  br (v1 < 2) (
    w_turningOff_18 Q u) (
    rz (u.1 135) (fun v3 => 
    br (v3 = 0) (
      zt 1 (sw (iI u 135 1) (fun u => 
      w_turningOff_31 Q a0 v1 1 u))) (
      w_turningOff_18 Q u)))) u
set_option maxRecDepth 20000 in
set_option maxHeartbeats 4000000 in
theorem b_turningOff_s (X : kX p m c cX12_turningOff 5 s args D ca) (hRf : 2 ≤ R.frames) (hRl : 44 ≤ R.locals) {Q : iST → Prop} (hret : ∀ (u : iST) (H : Heap) (locs : List Loc) (ls : Array Slot) (pc : Nat), Q u → kW D ca A h0 ad H0 H locs u → decode cX12_turningOff pc = .ok (.return_, 1) → W p l e R s m args below meth c H locs 0 0 Qf (F0 m pc ls [])) {a0 : Int} (ra0 : inR a0) (hw : kW D ca A h0 ad H0 H locs u) (hl : lv_has ls 5 [(0, .ref h0), (1, .int (jI a0))]) (h : w_turningOff a0 Q u) : W p l e R s m args below meth c H locs 0 0 Qf (F0 m 0 ls []) := by
  have hx := X.1.1
  have hb := X.1.2.1
  unfold w_turningOff at h
  refine lv_aload_n hx hb dX12_turningOff_0 rfl (lv_at hl 0 rfl) ?_
  refine lv_iload_n hx hb dX12_turningOff_1 rfl (lv_at hl 1 rfl) ?_
  refine kcI (n := 1) (c_lengthOf ra0 h) G_lengthOf E_lengthOf X hw (Nat.le_trans (Nat.le_of_ble_eq_true rfl) hRf) (Nat.le_trans (Nat.le_of_ble_eq_true rfl) hRl) rfl hl.1 (Nat.le_of_ble_eq_true rfl) rfl dX12_turningOff_2 (fun v1 u H locs rv1 h hw => ?_)
  refine lv_istore_n hx hb dX12_turningOff_5 rfl hl (by decide) rfl (fun ls hl => ?_)
  have hl : lv_has ls 5 [(2, .int (jI v1)), (0, .ref (h0)), (1, .int (jI a0))] := hl
  refine lv_iload_n hx hb dX12_turningOff_6 rfl (lv_at hl 0 rfl) ?_
  refine lv_iconst hx hb dX12_turningOff_7 (v := jI 2) rfl ?_
  refine k_icmp_lt hx hb rv1 (by decide) dX12_turningOff_8 (tgt := 18) rfl h (fun h => ?_) (fun h => ?_)
  · exact b_turningOff_18 X hRf hRl hret hw (lv_sub hl [1] rfl) h
  · refine lv_aload_n hx hb dX12_turningOff_11 rfl (lv_at hl 1 rfl) ?_
    refine gZ 135 881 (by decide) L_135 (fun _ _ => mF_135) rfl (by decide) X hw dX12_turningOff_12 h (fun v3 rv3 h => ?_)
    refine k_if_eq hx hb (bz_in rv3) dX12_turningOff_15 (tgt := 24) rfl h (fun h => ?_) (fun h => ?_)
    · refine lv_aload_n hx hb dX12_turningOff_24 rfl (lv_at hl 1 rfl) ?_
      refine lv_iconst hx hb dX12_turningOff_25 (v := jI 1) rfl ?_
      refine pZ 135 881 (by decide) L_135 rfl rfl rfl (fun _ _ _ _ _ => mSI_135) X hw dX12_turningOff_26 h (fun H locs u hw h => ?_)
      refine lv_iconst hx hb dX12_turningOff_29 (v := jI 1) rfl ?_
      refine lv_istore_n hx hb dX12_turningOff_30 rfl hl (by decide) rfl (fun ls hl => ?_)
      have hl : lv_has ls 5 [(3, .int (jI 1)), (2, .int (jI v1)), (0, .ref (h0)), (1, .int (jI a0))] := hl
      exact b_turningOff_31 X hRf hRl hret ra0 rv1 (by decide) hw (lv_sub hl [2, 3, 1, 0] rfl) h
    · exact b_turningOff_18 X hRf hRl hret hw (lv_sub hl [1] rfl) h

end
theorem c_turningOff {l : Launch} {a0 : Int} (ra0 : inR a0) {Q : iST → Prop} {u : iST} (h : w_turningOff a0 Q u) : kMV l yX12_turningOff (.code yX12_turningOff cX12_turningOff 5 none :: wsM) { frames := 2, cells := 0, slots := 0, locals := 44 } [.int (jI a0)] Q u := kMV_of rfl (fun _ => Nat.le_of_ble_eq_true rfl) (fun X hRf hRl hret hw hl => b_turningOff_s X hRf hRl hret ra0 hw hl h)

/-! hints -/
theorem dX12_hints_0 : decode cX12_hints 0 = .ok (.aload_n 0, 1) := by decide +kernel
theorem dX12_hints_1 : decode cX12_hints 1 = .ok (.iconst (-1), 1) := by decide +kernel
theorem dX12_hints_2 : decode cX12_hints 2 = .ok (.putfield 863, 3) := by decide +kernel
theorem dX12_hints_5 : decode cX12_hints 5 = .ok (.aload_n 0, 1) := by decide +kernel
theorem dX12_hints_6 : decode cX12_hints 6 = .ok (.iconst 0, 1) := by decide +kernel
theorem dX12_hints_7 : decode cX12_hints 7 = .ok (.putfield 860, 3) := by decide +kernel
theorem dX12_hints_10 : decode cX12_hints 10 = .ok (.aload_n 0, 1) := by decide +kernel
theorem dX12_hints_11 : decode cX12_hints 11 = .ok (.iconst 0, 1) := by decide +kernel
theorem dX12_hints_12 : decode cX12_hints 12 = .ok (.putfield 881, 3) := by decide +kernel
theorem dX12_hints_15 : decode cX12_hints 15 = .ok (.aload_n 0, 1) := by decide +kernel
theorem dX12_hints_16 : decode cX12_hints 16 = .ok (.iconst 0, 1) := by decide +kernel
theorem dX12_hints_17 : decode cX12_hints 17 = .ok (.putfield 878, 3) := by decide +kernel
theorem dX12_hints_20 : decode cX12_hints 20 = .ok (.iload_n 1, 1) := by decide +kernel
theorem dX12_hints_21 : decode cX12_hints 21 = .ok (.istore_n 2, 1) := by decide +kernel
theorem dX12_hints_22 : decode cX12_hints 22 = .ok (.iload_n 2, 1) := by decide +kernel
theorem dX12_hints_23 : decode cX12_hints 23 = .ok (.ifCond .eq 112, 3) := by decide +kernel
theorem dX12_hints_26 : decode cX12_hints 26 = .ok (.aload_n 0, 1) := by decide +kernel
theorem dX12_hints_27 : decode cX12_hints 27 = .ok (.getfield 8, 3) := by decide +kernel
theorem dX12_hints_30 : decode cX12_hints 30 = .ok (.iload_n 2, 1) := by decide +kernel
theorem dX12_hints_31 : decode cX12_hints 31 = .ok (.iaload, 1) := by decide +kernel
theorem dX12_hints_32 : decode cX12_hints 32 = .ok (.istore_n 3, 1) := by decide +kernel
theorem dX12_hints_33 : decode cX12_hints 33 = .ok (.aload_n 0, 1) := by decide +kernel
theorem dX12_hints_34 : decode cX12_hints 34 = .ok (.iload_n 3, 1) := by decide +kernel
theorem dX12_hints_35 : decode cX12_hints 35 = .ok (.invokevirtual 529, 3) := by decide +kernel
theorem dX12_hints_38 : decode cX12_hints 38 = .ok (.ifCond .le 7, 3) := by decide +kernel
theorem dX12_hints_41 : decode cX12_hints 41 = .ok (.iconst 1, 1) := by decide +kernel
theorem dX12_hints_42 : decode cX12_hints 42 = .ok (.goto 4, 3) := by decide +kernel
theorem dX12_hints_45 : decode cX12_hints 45 = .ok (.iconst 0, 1) := by decide +kernel
theorem dX12_hints_46 : decode cX12_hints 46 = .ok (.istore 4, 2) := by decide +kernel
theorem dX12_hints_48 : decode cX12_hints 48 = .ok (.iload 4, 2) := by decide +kernel
theorem dX12_hints_50 : decode cX12_hints 50 = .ok (.ifCond .eq 22, 3) := by decide +kernel
theorem dX12_hints_53 : decode cX12_hints 53 = .ok (.aload_n 0, 1) := by decide +kernel
theorem dX12_hints_54 : decode cX12_hints 54 = .ok (.getfield 8, 3) := by decide +kernel
theorem dX12_hints_57 : decode cX12_hints 57 = .ok (.iload_n 3, 1) := by decide +kernel
theorem dX12_hints_58 : decode cX12_hints 58 = .ok (.iaload, 1) := by decide +kernel
theorem dX12_hints_59 : decode cX12_hints 59 = .ok (.bipush 27, 2) := by decide +kernel
theorem dX12_hints_61 : decode cX12_hints 61 = .ok (.if_icmp .ne 11, 3) := by decide +kernel
theorem dX12_hints_64 : decode cX12_hints 64 = .ok (.aload_n 0, 1) := by decide +kernel
theorem dX12_hints_65 : decode cX12_hints 65 = .ok (.iload_n 3, 1) := by decide +kernel
theorem dX12_hints_66 : decode cX12_hints 66 = .ok (.invokevirtual 884, 3) := by decide +kernel
theorem dX12_hints_69 : decode cX12_hints 69 = .ok (.goto 56, 3) := by decide +kernel
theorem dX12_hints_72 : decode cX12_hints 72 = .ok (.iload 4, 2) := by decide +kernel
theorem dX12_hints_74 : decode cX12_hints 74 = .ok (.ifCond .eq 22, 3) := by decide +kernel
theorem dX12_hints_77 : decode cX12_hints 77 = .ok (.aload_n 0, 1) := by decide +kernel
theorem dX12_hints_78 : decode cX12_hints 78 = .ok (.getfield 8, 3) := by decide +kernel
theorem dX12_hints_81 : decode cX12_hints 81 = .ok (.iload_n 3, 1) := by decide +kernel
theorem dX12_hints_82 : decode cX12_hints 82 = .ok (.iaload, 1) := by decide +kernel
theorem dX12_hints_83 : decode cX12_hints 83 = .ok (.bipush 28, 2) := by decide +kernel
theorem dX12_hints_85 : decode cX12_hints 85 = .ok (.if_icmp .ne 11, 3) := by decide +kernel
theorem dX12_hints_88 : decode cX12_hints 88 = .ok (.aload_n 0, 1) := by decide +kernel
theorem dX12_hints_89 : decode cX12_hints 89 = .ok (.iload_n 3, 1) := by decide +kernel
theorem dX12_hints_90 : decode cX12_hints 90 = .ok (.invokevirtual 887, 3) := by decide +kernel
theorem dX12_hints_93 : decode cX12_hints 93 = .ok (.goto 32, 3) := by decide +kernel
theorem dX12_hints_96 : decode cX12_hints 96 = .ok (.iload 4, 2) := by decide +kernel
theorem dX12_hints_98 : decode cX12_hints 98 = .ok (.ifCond .eq 22, 3) := by decide +kernel
theorem dX12_hints_101 : decode cX12_hints 101 = .ok (.aload_n 0, 1) := by decide +kernel
theorem dX12_hints_102 : decode cX12_hints 102 = .ok (.getfield 8, 3) := by decide +kernel
theorem dX12_hints_105 : decode cX12_hints 105 = .ok (.iload_n 3, 1) := by decide +kernel
theorem dX12_hints_106 : decode cX12_hints 106 = .ok (.iaload, 1) := by decide +kernel
theorem dX12_hints_107 : decode cX12_hints 107 = .ok (.bipush 24, 2) := by decide +kernel
theorem dX12_hints_109 : decode cX12_hints 109 = .ok (.if_icmp .ne 11, 3) := by decide +kernel
theorem dX12_hints_112 : decode cX12_hints 112 = .ok (.aload_n 0, 1) := by decide +kernel
theorem dX12_hints_113 : decode cX12_hints 113 = .ok (.iload_n 3, 1) := by decide +kernel
theorem dX12_hints_114 : decode cX12_hints 114 = .ok (.invokevirtual 890, 3) := by decide +kernel
theorem dX12_hints_117 : decode cX12_hints 117 = .ok (.goto 8, 3) := by decide +kernel
theorem dX12_hints_120 : decode cX12_hints 120 = .ok (.aload_n 0, 1) := by decide +kernel
theorem dX12_hints_121 : decode cX12_hints 121 = .ok (.iconst 2, 1) := by decide +kernel
theorem dX12_hints_122 : decode cX12_hints 122 = .ok (.invokevirtual 866, 3) := by decide +kernel
theorem dX12_hints_125 : decode cX12_hints 125 = .ok (.aload_n 0, 1) := by decide +kernel
theorem dX12_hints_126 : decode cX12_hints 126 = .ok (.getfield 14, 3) := by decide +kernel
theorem dX12_hints_129 : decode cX12_hints 129 = .ok (.iload_n 2, 1) := by decide +kernel
theorem dX12_hints_130 : decode cX12_hints 130 = .ok (.iaload, 1) := by decide +kernel
theorem dX12_hints_131 : decode cX12_hints 131 = .ok (.istore_n 2, 1) := by decide +kernel
theorem dX12_hints_132 : decode cX12_hints 132 = .ok (.goto (-110), 3) := by decide +kernel
theorem dX12_hints_135 : decode cX12_hints 135 = .ok (.aload_n 0, 1) := by decide +kernel
theorem dX12_hints_136 : decode cX12_hints 136 = .ok (.getfield 860, 3) := by decide +kernel
theorem dX12_hints_139 : decode cX12_hints 139 = .ok (.ireturn, 1) := by decide +kernel

section
variable {p : Program} {l : Launch} {e : Env} {R : Room} {s : State} {m : MethodId} {args : Array Value} {below : List Frame} {meth : Method} {c : Code} {H : Heap} {locs : List Loc} {Qf : State → Prop}
variable {ls : Array Slot} {D : va_G} {ca : Nat → ClassId} {A : Nat → Prop} {h0 : Nat} {ad : Nat → Nat} {H0 : Heap} {u : iST}
def w_hints_125 (R22 : Int → iST → Prop) (Q : Int → iST → Prop) (x2 : Int) (u : iST) : Prop :=
  bd x2 452000 (rd (u.2.1 1 x2) (fun v5 => 
  R22 v5 u))
set_option maxRecDepth 20000 in
set_option maxHeartbeats 4000000 in
theorem b_hints_125 (X : kX p m c cX12_hints 5 s args D ca) (hRf : 9 ≤ R.frames) (hRl : 207 ≤ R.locals) {Q : Int → iST → Prop} (hret : ∀ (v : Int) (u : iST) (H : Heap) (locs : List Loc) (ls : Array Slot) (pc : Nat), inR v → Q v u → kW D ca A h0 ad H0 H locs u → decode cX12_hints pc = .ok (.ireturn, 1) → W p l e R s m args below meth c H locs 0 0 Qf (F0 m pc ls [.int (jI v)])) {R22 : Int → iST → Prop} (hR22 : ∀ (x2 : Int) (u : iST) (H : Heap) (locs : List Loc) (ls : Array Slot), inR x2 → kW D ca A h0 ad H0 H locs u → lv_has ls 5 [(0, .ref h0), (2, .int (jI x2))] → R22 x2 u → W p l e R s m args below meth c H locs 0 0 Qf (F0 m 22 ls [])) {x2 : Int} (rx2 : inR x2) (hw : kW D ca A h0 ad H0 H locs u) (hl : lv_has ls 5 [(0, .ref h0), (2, .int (jI x2))]) (h : w_hints_125 R22 Q x2 u) : W p l e R s m args below meth c H locs 0 0 Qf (F0 m 125 ls []) := by
  have hx := X.1.1
  have hb := X.1.2.1
  unfold w_hints_125 at h
  refine lv_aload_n hx hb dX12_hints_125 rfl (lv_at hl 0 rfl) ?_
  refine gA 1 14 (by decide) L_1 (fun _ _ => mF_1) rfl X hw dX12_hints_126 ?_
  refine lv_iload_n hx hb dX12_hints_129 rfl (lv_at hl 1 rfl) ?_
  refine aL 1 2 1 452000 (fun _ _ _ _ => mG_1) (fun _ => rfl) X hw rx2 dX12_hints_130 rfl h (fun v5 rv5 h => ?_)
  refine lv_istore_n hx hb dX12_hints_131 rfl hl (by decide) rfl (fun ls hl => ?_)
  have hl : lv_has ls 5 [(2, .int (jI v5)), (0, .ref (h0))] := hl
  refine lv_goto hx hb dX12_hints_132 (tgt := 22) rfl ?_
  exact hR22 _ _ H locs ls rv5 hw (lv_sub hl [1, 0] rfl) h

def w_hints_120 (R22 : Int → iST → Prop) (Q : Int → iST → Prop) (x2 : Int) (u : iST) : Prop :=
  w_wrong 2 (fun u => 
  w_hints_125 R22 Q x2 u) u
set_option maxRecDepth 20000 in
set_option maxHeartbeats 4000000 in
theorem b_hints_120 (X : kX p m c cX12_hints 5 s args D ca) (hRf : 9 ≤ R.frames) (hRl : 207 ≤ R.locals) {Q : Int → iST → Prop} (hret : ∀ (v : Int) (u : iST) (H : Heap) (locs : List Loc) (ls : Array Slot) (pc : Nat), inR v → Q v u → kW D ca A h0 ad H0 H locs u → decode cX12_hints pc = .ok (.ireturn, 1) → W p l e R s m args below meth c H locs 0 0 Qf (F0 m pc ls [.int (jI v)])) {R22 : Int → iST → Prop} (hR22 : ∀ (x2 : Int) (u : iST) (H : Heap) (locs : List Loc) (ls : Array Slot), inR x2 → kW D ca A h0 ad H0 H locs u → lv_has ls 5 [(0, .ref h0), (2, .int (jI x2))] → R22 x2 u → W p l e R s m args below meth c H locs 0 0 Qf (F0 m 22 ls [])) {x2 : Int} (rx2 : inR x2) (hw : kW D ca A h0 ad H0 H locs u) (hl : lv_has ls 5 [(0, .ref h0), (2, .int (jI x2))]) (h : w_hints_120 R22 Q x2 u) : W p l e R s m args below meth c H locs 0 0 Qf (F0 m 120 ls []) := by
  have hx := X.1.1
  have hb := X.1.2.1
  unfold w_hints_120 at h
  refine lv_aload_n hx hb dX12_hints_120 rfl (lv_at hl 0 rfl) ?_
  refine lv_iconst hx hb dX12_hints_121 (v := jI 2) rfl ?_
  refine kcV (n := 1) (c_wrong (by decide) h) G_wrong E_wrong X hw (Nat.le_trans (Nat.le_of_ble_eq_true rfl) hRf) (Nat.le_trans (Nat.le_of_ble_eq_true rfl) hRl) rfl hl.1 (Nat.le_of_ble_eq_true rfl) rfl dX12_hints_122 (fun u H locs h hw => ?_)
  exact b_hints_125 X hRf hRl hret hR22 rx2 hw hl h

def w_hints_96 (R22 : Int → iST → Prop) (Q : Int → iST → Prop) (x2 : Int) (x3 : Int) (x4 : Int) (u : iST) : Prop :=
  br (x4 = 0) (
    w_hints_120 R22 Q x2 u) (
    bd x3 452000 (rd (u.2.1 0 x3) (fun v6 => 
    br (v6 ≠ 24) (
      w_hints_120 R22 Q x2 u) (
      w_turningOff x3 (fun u => 
      w_hints_125 R22 Q x2 u) u))))
set_option maxRecDepth 20000 in
set_option maxHeartbeats 4000000 in
theorem b_hints_96 (X : kX p m c cX12_hints 5 s args D ca) (hRf : 9 ≤ R.frames) (hRl : 207 ≤ R.locals) {Q : Int → iST → Prop} (hret : ∀ (v : Int) (u : iST) (H : Heap) (locs : List Loc) (ls : Array Slot) (pc : Nat), inR v → Q v u → kW D ca A h0 ad H0 H locs u → decode cX12_hints pc = .ok (.ireturn, 1) → W p l e R s m args below meth c H locs 0 0 Qf (F0 m pc ls [.int (jI v)])) {R22 : Int → iST → Prop} (hR22 : ∀ (x2 : Int) (u : iST) (H : Heap) (locs : List Loc) (ls : Array Slot), inR x2 → kW D ca A h0 ad H0 H locs u → lv_has ls 5 [(0, .ref h0), (2, .int (jI x2))] → R22 x2 u → W p l e R s m args below meth c H locs 0 0 Qf (F0 m 22 ls [])) {x2 x3 x4 : Int} (rx2 : inR x2) (rx3 : inR x3) (rx4 : inR x4) (hw : kW D ca A h0 ad H0 H locs u) (hl : lv_has ls 5 [(0, .ref h0), (2, .int (jI x2)), (3, .int (jI x3)), (4, .int (jI x4))]) (h : w_hints_96 R22 Q x2 x3 x4 u) : W p l e R s m args below meth c H locs 0 0 Qf (F0 m 96 ls []) := by
  have hx := X.1.1
  have hb := X.1.2.1
  unfold w_hints_96 at h
  refine lv_iload hx hb dX12_hints_96 (lv_at hl 3 rfl) ?_
  refine k_if_eq hx hb rx4 dX12_hints_98 (tgt := 120) rfl h (fun h => ?_) (fun h => ?_)
  · exact b_hints_120 X hRf hRl hret hR22 rx2 hw (lv_sub hl [0, 1] rfl) h
  · refine lv_aload_n hx hb dX12_hints_101 rfl (lv_at hl 0 rfl) ?_
    refine gA 0 8 (by decide) L_0 (fun _ _ => mF_0) rfl X hw dX12_hints_102 ?_
    refine lv_iload_n hx hb dX12_hints_105 rfl (lv_at hl 2 rfl) ?_
    refine aL 0 1 0 452000 (fun _ _ _ _ => mG_0) (fun _ => rfl) X hw rx3 dX12_hints_106 rfl h (fun v6 rv6 h => ?_)
    refine lv_bipush hx hb dX12_hints_107 (v := jI 24) rfl ?_
    refine k_icmp_ne hx hb rv6 (by decide) dX12_hints_109 (tgt := 120) rfl h (fun h => ?_) (fun h => ?_)
    · exact b_hints_120 X hRf hRl hret hR22 rx2 hw (lv_sub hl [0, 1] rfl) h
    · refine lv_aload_n hx hb dX12_hints_112 rfl (lv_at hl 0 rfl) ?_
      refine lv_iload_n hx hb dX12_hints_113 rfl (lv_at hl 2 rfl) ?_
      refine kcV (n := 1) (c_turningOff rx3 h) G_turningOff E_turningOff X hw (Nat.le_trans (Nat.le_of_ble_eq_true rfl) hRf) (Nat.le_trans (Nat.le_of_ble_eq_true rfl) hRl) rfl hl.1 (Nat.le_of_ble_eq_true rfl) rfl dX12_hints_114 (fun u H locs h hw => ?_)
      refine lv_goto hx hb dX12_hints_117 (tgt := 125) rfl ?_
      exact b_hints_125 X hRf hRl hret hR22 rx2 hw (lv_sub hl [0, 1] rfl) h

def w_hints_72 (R22 : Int → iST → Prop) (Q : Int → iST → Prop) (x2 : Int) (x3 : Int) (x4 : Int) (u : iST) : Prop :=
  br (x4 = 0) (
    w_hints_96 R22 Q x2 x3 x4 u) (
    bd x3 452000 (rd (u.2.1 0 x3) (fun v8 => 
    br (v8 ≠ 28) (
      w_hints_96 R22 Q x2 x3 x4 u) (
      w_using x3 (fun u => 
      w_hints_125 R22 Q x2 u) u))))
set_option maxRecDepth 20000 in
set_option maxHeartbeats 4000000 in
theorem b_hints_72 (X : kX p m c cX12_hints 5 s args D ca) (hRf : 9 ≤ R.frames) (hRl : 207 ≤ R.locals) {Q : Int → iST → Prop} (hret : ∀ (v : Int) (u : iST) (H : Heap) (locs : List Loc) (ls : Array Slot) (pc : Nat), inR v → Q v u → kW D ca A h0 ad H0 H locs u → decode cX12_hints pc = .ok (.ireturn, 1) → W p l e R s m args below meth c H locs 0 0 Qf (F0 m pc ls [.int (jI v)])) {R22 : Int → iST → Prop} (hR22 : ∀ (x2 : Int) (u : iST) (H : Heap) (locs : List Loc) (ls : Array Slot), inR x2 → kW D ca A h0 ad H0 H locs u → lv_has ls 5 [(0, .ref h0), (2, .int (jI x2))] → R22 x2 u → W p l e R s m args below meth c H locs 0 0 Qf (F0 m 22 ls [])) {x2 x3 x4 : Int} (rx2 : inR x2) (rx3 : inR x3) (rx4 : inR x4) (hw : kW D ca A h0 ad H0 H locs u) (hl : lv_has ls 5 [(0, .ref h0), (2, .int (jI x2)), (3, .int (jI x3)), (4, .int (jI x4))]) (h : w_hints_72 R22 Q x2 x3 x4 u) : W p l e R s m args below meth c H locs 0 0 Qf (F0 m 72 ls []) := by
  have hx := X.1.1
  have hb := X.1.2.1
  unfold w_hints_72 at h
  refine lv_iload hx hb dX12_hints_72 (lv_at hl 3 rfl) ?_
  refine k_if_eq hx hb rx4 dX12_hints_74 (tgt := 96) rfl h (fun h => ?_) (fun h => ?_)
  · exact b_hints_96 X hRf hRl hret hR22 rx2 rx3 rx4 hw hl h
  · refine lv_aload_n hx hb dX12_hints_77 rfl (lv_at hl 0 rfl) ?_
    refine gA 0 8 (by decide) L_0 (fun _ _ => mF_0) rfl X hw dX12_hints_78 ?_
    refine lv_iload_n hx hb dX12_hints_81 rfl (lv_at hl 2 rfl) ?_
    refine aL 0 1 0 452000 (fun _ _ _ _ => mG_0) (fun _ => rfl) X hw rx3 dX12_hints_82 rfl h (fun v8 rv8 h => ?_)
    refine lv_bipush hx hb dX12_hints_83 (v := jI 28) rfl ?_
    refine k_icmp_ne hx hb rv8 (by decide) dX12_hints_85 (tgt := 96) rfl h (fun h => ?_) (fun h => ?_)
    · exact b_hints_96 X hRf hRl hret hR22 rx2 rx3 rx4 hw hl h
    · refine lv_aload_n hx hb dX12_hints_88 rfl (lv_at hl 0 rfl) ?_
      refine lv_iload_n hx hb dX12_hints_89 rfl (lv_at hl 2 rfl) ?_
      refine kcV (n := 1) (c_using rx3 h) G_using E_using X hw (Nat.le_trans (Nat.le_of_ble_eq_true rfl) hRf) (Nat.le_trans (Nat.le_of_ble_eq_true rfl) hRl) rfl hl.1 (Nat.le_of_ble_eq_true rfl) rfl dX12_hints_90 (fun u H locs h hw => ?_)
      refine lv_goto hx hb dX12_hints_93 (tgt := 125) rfl ?_
      exact b_hints_125 X hRf hRl hret hR22 rx2 hw (lv_sub hl [0, 1] rfl) h

def w_hints_46 (R22 : Int → iST → Prop) (Q : Int → iST → Prop) (x2 : Int) (x3 : Int) (y0 : Int) (u : iST) : Prop :=
  br (y0 = 0) (
    w_hints_72 R22 Q x2 x3 y0 u) (
    bd x3 452000 (rd (u.2.1 0 x3) (fun v10 => 
    br (v10 ≠ 27) (
      w_hints_72 R22 Q x2 x3 y0 u) (
      w_induction x3 (fun u => 
      w_hints_125 R22 Q x2 u) u))))
set_option maxRecDepth 20000 in
set_option maxHeartbeats 4000000 in
theorem b_hints_46 (X : kX p m c cX12_hints 5 s args D ca) (hRf : 9 ≤ R.frames) (hRl : 207 ≤ R.locals) {Q : Int → iST → Prop} (hret : ∀ (v : Int) (u : iST) (H : Heap) (locs : List Loc) (ls : Array Slot) (pc : Nat), inR v → Q v u → kW D ca A h0 ad H0 H locs u → decode cX12_hints pc = .ok (.ireturn, 1) → W p l e R s m args below meth c H locs 0 0 Qf (F0 m pc ls [.int (jI v)])) {R22 : Int → iST → Prop} (hR22 : ∀ (x2 : Int) (u : iST) (H : Heap) (locs : List Loc) (ls : Array Slot), inR x2 → kW D ca A h0 ad H0 H locs u → lv_has ls 5 [(0, .ref h0), (2, .int (jI x2))] → R22 x2 u → W p l e R s m args below meth c H locs 0 0 Qf (F0 m 22 ls [])) {x2 x3 y0 : Int} (rx2 : inR x2) (rx3 : inR x3) (ry0 : inR y0) (hw : kW D ca A h0 ad H0 H locs u) (hl : lv_has ls 5 [(0, .ref h0), (2, .int (jI x2)), (3, .int (jI x3))]) (h : w_hints_46 R22 Q x2 x3 y0 u) : W p l e R s m args below meth c H locs 0 0 Qf (F0 m 46 ls [.int (jI y0)]) := by
  have hx := X.1.1
  have hb := X.1.2.1
  unfold w_hints_46 at h
  refine lv_istore hx hb dX12_hints_46 hl (by decide) rfl (fun ls hl => ?_)
  have hl : lv_has ls 5 [(4, .int (jI y0)), (0, .ref (h0)), (2, .int (jI x2)), (3, .int (jI x3))] := hl
  refine lv_iload hx hb dX12_hints_48 (lv_at hl 0 rfl) ?_
  refine k_if_eq hx hb ry0 dX12_hints_50 (tgt := 72) rfl h (fun h => ?_) (fun h => ?_)
  · exact b_hints_72 X hRf hRl hret hR22 rx2 rx3 ry0 hw (lv_sub hl [1, 2, 3, 0] rfl) h
  · refine lv_aload_n hx hb dX12_hints_53 rfl (lv_at hl 1 rfl) ?_
    refine gA 0 8 (by decide) L_0 (fun _ _ => mF_0) rfl X hw dX12_hints_54 ?_
    refine lv_iload_n hx hb dX12_hints_57 rfl (lv_at hl 3 rfl) ?_
    refine aL 0 1 0 452000 (fun _ _ _ _ => mG_0) (fun _ => rfl) X hw rx3 dX12_hints_58 rfl h (fun v10 rv10 h => ?_)
    refine lv_bipush hx hb dX12_hints_59 (v := jI 27) rfl ?_
    refine k_icmp_ne hx hb rv10 (by decide) dX12_hints_61 (tgt := 72) rfl h (fun h => ?_) (fun h => ?_)
    · exact b_hints_72 X hRf hRl hret hR22 rx2 rx3 ry0 hw (lv_sub hl [1, 2, 3, 0] rfl) h
    · refine lv_aload_n hx hb dX12_hints_64 rfl (lv_at hl 1 rfl) ?_
      refine lv_iload_n hx hb dX12_hints_65 rfl (lv_at hl 3 rfl) ?_
      refine kcV (n := 1) (c_induction rx3 h) G_induction E_induction X hw (Nat.le_trans (Nat.le_of_ble_eq_true rfl) hRf) (Nat.le_trans (Nat.le_of_ble_eq_true rfl) hRl) rfl hl.1 (Nat.le_of_ble_eq_true rfl) rfl dX12_hints_66 (fun u H locs h hw => ?_)
      refine lv_goto hx hb dX12_hints_69 (tgt := 125) rfl ?_
      exact b_hints_125 X hRf hRl hret hR22 rx2 hw (lv_sub hl [1, 2] rfl) h

def w_hints_22b (R22 : Int → iST → Prop) (Q : Int → iST → Prop) (x2 : Int) (u : iST) : Prop :=
  br (x2 = 0) (
    rd (u.1 136) (fun v1 => 
    Q v1 u)) (
    bd x2 452000 (rd (u.2.1 0 x2) (fun v2 => 
    w_lengthOf v2 (fun v3 u => 
    br (v3 ≤ 0) (
      w_hints_46 R22 Q x2 v2 0 u) (
      w_hints_46 R22 Q x2 v2 1 u)) u)))
def w_hints_22 (Q : Int → iST → Prop) (x2 : Int) (u : iST) : Prop := ∀ R22 : Int → iST → Prop, (∀ (x2 : Int) (u : iST), w_hints_22b R22 Q x2 u → R22 x2 u) → R22 x2 u
set_option maxRecDepth 20000 in
set_option maxHeartbeats 4000000 in
theorem b_hints_22 (X : kX p m c cX12_hints 5 s args D ca) (hRf : 9 ≤ R.frames) (hRl : 207 ≤ R.locals) {Q : Int → iST → Prop} (hret : ∀ (v : Int) (u : iST) (H : Heap) (locs : List Loc) (ls : Array Slot) (pc : Nat), inR v → Q v u → kW D ca A h0 ad H0 H locs u → decode cX12_hints pc = .ok (.ireturn, 1) → W p l e R s m args below meth c H locs 0 0 Qf (F0 m pc ls [.int (jI v)])) {x2 : Int} (rx2 : inR x2) (hw : kW D ca A h0 ad H0 H locs u) (hl : lv_has ls 5 [(0, .ref h0), (2, .int (jI x2))]) (h : w_hints_22 Q x2 u) : W p l e R s m args below meth c H locs 0 0 Qf (F0 m 22 ls []) := by
  refine h (fun x2 u => ∀ (H : Heap) (locs : List Loc) (ls : Array Slot), inR x2 → kW D ca A h0 ad H0 H locs u → lv_has ls 5 [(0, .ref h0), (2, .int (jI x2))] → W p l e R s m args below meth c H locs 0 0 Qf (F0 m 22 ls [])) ?_ H locs ls rx2 hw hl
  clear h hl hw rx2
  intro x2 u h H locs ls rx2 hw hl
  have hR22 : ∀ (x2 : Int) (u : iST) (H : Heap) (locs : List Loc) (ls : Array Slot), inR x2 → kW D ca A h0 ad H0 H locs u → lv_has ls 5 [(0, .ref h0), (2, .int (jI x2))] → (fun (x2 : Int) u => ∀ (H : Heap) (locs : List Loc) (ls : Array Slot), inR x2 → kW D ca A h0 ad H0 H locs u → lv_has ls 5 [(0, .ref h0), (2, .int (jI x2))] → W p l e R s m args below meth c H locs 0 0 Qf (F0 m 22 ls [])) x2 u → W p l e R s m args below meth c H locs 0 0 Qf (F0 m 22 ls []) := fun x2 u H locs ls rx2 hw hl h => h H locs ls rx2 hw hl
  have hx := X.1.1
  have hb := X.1.2.1
  unfold w_hints_22b at h
  refine lv_iload_n hx hb dX12_hints_22 rfl (lv_at hl 1 rfl) ?_
  refine k_if_eq hx hb rx2 dX12_hints_23 (tgt := 135) rfl h (fun h => ?_) (fun h => ?_)
  · refine lv_aload_n hx hb dX12_hints_135 rfl (lv_at hl 0 rfl) ?_
    refine gS 136 860 (by decide) L_136 (fun _ _ => mF_136) rfl X hw dX12_hints_136 h (fun v1 rv1 h => ?_)
    exact hret _ _ _ _ _ _ rv1 h hw dX12_hints_139
  · refine lv_aload_n hx hb dX12_hints_26 rfl (lv_at hl 0 rfl) ?_
    refine gA 0 8 (by decide) L_0 (fun _ _ => mF_0) rfl X hw dX12_hints_27 ?_
    refine lv_iload_n hx hb dX12_hints_30 rfl (lv_at hl 1 rfl) ?_
    refine aL 0 1 0 452000 (fun _ _ _ _ => mG_0) (fun _ => rfl) X hw rx2 dX12_hints_31 rfl h (fun v2 rv2 h => ?_)
    refine lv_istore_n hx hb dX12_hints_32 rfl hl (by decide) rfl (fun ls hl => ?_)
    have hl : lv_has ls 5 [(3, .int (jI v2)), (0, .ref (h0)), (2, .int (jI x2))] := hl
    refine lv_aload_n hx hb dX12_hints_33 rfl (lv_at hl 1 rfl) ?_
    refine lv_iload_n hx hb dX12_hints_34 rfl (lv_at hl 0 rfl) ?_
    refine kcI (n := 1) (c_lengthOf rv2 h) G_lengthOf E_lengthOf X hw (Nat.le_trans (Nat.le_of_ble_eq_true rfl) hRf) (Nat.le_trans (Nat.le_of_ble_eq_true rfl) hRl) rfl hl.1 (Nat.le_of_ble_eq_true rfl) rfl dX12_hints_35 (fun v3 u H locs rv3 h hw => ?_)
    refine k_if_le hx hb rv3 dX12_hints_38 (tgt := 45) rfl h (fun h => ?_) (fun h => ?_)
    · refine lv_iconst hx hb dX12_hints_45 (v := jI 0) rfl ?_
      exact b_hints_46 X hRf hRl hret hR22 rx2 rv2 (by decide) hw (lv_sub hl [1, 2, 0] rfl) h
    · refine lv_iconst hx hb dX12_hints_41 (v := jI 1) rfl ?_
      refine lv_goto hx hb dX12_hints_42 (tgt := 46) rfl ?_
      exact b_hints_46 X hRf hRl hret hR22 rx2 rv2 (by decide) hw (lv_sub hl [1, 2, 0] rfl) h

def w_hints (a0 : Int) (Q : Int → iST → Prop) (u : iST) : Prop :=
  sw (iI u 133 (-1)) (fun u => 
  sw (iI u 136 0) (fun u => 
  zt 0 (sw (iI u 135 0) (fun u => 
  sw (iI u 139 0) (fun u => 
  w_hints_22 Q a0 u)))))
set_option maxRecDepth 20000 in
set_option maxHeartbeats 4000000 in
theorem b_hints_s (X : kX p m c cX12_hints 5 s args D ca) (hRf : 9 ≤ R.frames) (hRl : 207 ≤ R.locals) {Q : Int → iST → Prop} (hret : ∀ (v : Int) (u : iST) (H : Heap) (locs : List Loc) (ls : Array Slot) (pc : Nat), inR v → Q v u → kW D ca A h0 ad H0 H locs u → decode cX12_hints pc = .ok (.ireturn, 1) → W p l e R s m args below meth c H locs 0 0 Qf (F0 m pc ls [.int (jI v)])) {a0 : Int} (ra0 : inR a0) (hw : kW D ca A h0 ad H0 H locs u) (hl : lv_has ls 5 [(0, .ref h0), (1, .int (jI a0))]) (h : w_hints a0 Q u) : W p l e R s m args below meth c H locs 0 0 Qf (F0 m 0 ls []) := by
  have hx := X.1.1
  have hb := X.1.2.1
  unfold w_hints at h
  refine lv_aload_n hx hb dX12_hints_0 rfl (lv_at hl 0 rfl) ?_
  refine lv_iconst hx hb dX12_hints_1 (v := jI (-1)) rfl ?_
  refine pS 133 863 (by decide) L_133 rfl rfl rfl (fun _ _ _ _ _ => mSI_133) (by decide) X hw (by decide) dX12_hints_2 h (fun H locs u hw h => ?_)
  refine lv_aload_n hx hb dX12_hints_5 rfl (lv_at hl 0 rfl) ?_
  refine lv_iconst hx hb dX12_hints_6 (v := jI 0) rfl ?_
  refine pS 136 860 (by decide) L_136 rfl rfl rfl (fun _ _ _ _ _ => mSI_136) (by decide) X hw (by decide) dX12_hints_7 h (fun H locs u hw h => ?_)
  refine lv_aload_n hx hb dX12_hints_10 rfl (lv_at hl 0 rfl) ?_
  refine lv_iconst hx hb dX12_hints_11 (v := jI 0) rfl ?_
  refine pZ 135 881 (by decide) L_135 rfl rfl rfl (fun _ _ _ _ _ => mSI_135) X hw dX12_hints_12 h (fun H locs u hw h => ?_)
  refine lv_aload_n hx hb dX12_hints_15 rfl (lv_at hl 0 rfl) ?_
  refine lv_iconst hx hb dX12_hints_16 (v := jI 0) rfl ?_
  refine pS 139 878 (by decide) L_139 rfl rfl rfl (fun _ _ _ _ _ => mSI_139) (by decide) X hw (by decide) dX12_hints_17 h (fun H locs u hw h => ?_)
  refine lv_iload_n hx hb dX12_hints_20 rfl (lv_at hl 1 rfl) ?_
  refine lv_istore_n hx hb dX12_hints_21 rfl hl (by decide) rfl (fun ls hl => ?_)
  have hl : lv_has ls 5 [(2, .int (jI a0)), (0, .ref (h0)), (1, .int (jI a0))] := hl
  exact b_hints_22 X hRf hRl hret ra0 hw (lv_sub hl [1, 0] rfl) h

end
theorem c_hints {l : Launch} {a0 : Int} (ra0 : inR a0) {Q : Int → iST → Prop} {u : iST} (h : w_hints a0 Q u) : kMI l yX12_hints (.code yX12_hints cX12_hints 5 (some .int) :: wsM) { frames := 9, cells := 0, slots := 0, locals := 207 } [.int (jI a0)] Q u := kMI_of rfl (fun _ => Nat.le_of_ble_eq_true rfl) (fun X hRf hRl hret hw hl => b_hints_s X hRf hRl hret ra0 hw hl h)

/-! takeParameters -/
theorem dX12_takeParameters_0 : decode cX12_takeParameters 0 = .ok (.aload_n 0, 1) := by decide +kernel
theorem dX12_takeParameters_1 : decode cX12_takeParameters 1 = .ok (.aload_n 0, 1) := by decide +kernel
theorem dX12_takeParameters_2 : decode cX12_takeParameters 2 = .ok (.getfield 81, 3) := by decide +kernel
theorem dX12_takeParameters_5 : decode cX12_takeParameters 5 = .ok (.iload_n 1, 1) := by decide +kernel
theorem dX12_takeParameters_6 : decode cX12_takeParameters 6 = .ok (.iaload, 1) := by decide +kernel
theorem dX12_takeParameters_7 : decode cX12_takeParameters 7 = .ok (.putfield 495, 3) := by decide +kernel
theorem dX12_takeParameters_10 : decode cX12_takeParameters 10 = .ok (.iconst 0, 1) := by decide +kernel
theorem dX12_takeParameters_11 : decode cX12_takeParameters 11 = .ok (.istore_n 3, 1) := by decide +kernel
theorem dX12_takeParameters_12 : decode cX12_takeParameters 12 = .ok (.iload_n 3, 1) := by decide +kernel
theorem dX12_takeParameters_13 : decode cX12_takeParameters 13 = .ok (.aload_n 0, 1) := by decide +kernel
theorem dX12_takeParameters_14 : decode cX12_takeParameters 14 = .ok (.getfield 495, 3) := by decide +kernel
theorem dX12_takeParameters_17 : decode cX12_takeParameters 17 = .ok (.if_icmp .ge 38, 3) := by decide +kernel
theorem dX12_takeParameters_20 : decode cX12_takeParameters 20 = .ok (.aload_n 0, 1) := by decide +kernel
theorem dX12_takeParameters_21 : decode cX12_takeParameters 21 = .ok (.getfield 157, 3) := by decide +kernel
theorem dX12_takeParameters_24 : decode cX12_takeParameters 24 = .ok (.iload_n 3, 1) := by decide +kernel
theorem dX12_takeParameters_25 : decode cX12_takeParameters 25 = .ok (.aload_n 0, 1) := by decide +kernel
theorem dX12_takeParameters_26 : decode cX12_takeParameters 26 = .ok (.getfield 84, 3) := by decide +kernel
theorem dX12_takeParameters_29 : decode cX12_takeParameters 29 = .ok (.bipush 6, 2) := by decide +kernel
theorem dX12_takeParameters_31 : decode cX12_takeParameters 31 = .ok (.iload_n 1, 1) := by decide +kernel
theorem dX12_takeParameters_32 : decode cX12_takeParameters 32 = .ok (.imul, 1) := by decide +kernel
theorem dX12_takeParameters_33 : decode cX12_takeParameters 33 = .ok (.iload_n 3, 1) := by decide +kernel
theorem dX12_takeParameters_34 : decode cX12_takeParameters 34 = .ok (.iadd, 1) := by decide +kernel
theorem dX12_takeParameters_35 : decode cX12_takeParameters 35 = .ok (.iaload, 1) := by decide +kernel
theorem dX12_takeParameters_36 : decode cX12_takeParameters 36 = .ok (.iastore, 1) := by decide +kernel
theorem dX12_takeParameters_37 : decode cX12_takeParameters 37 = .ok (.aload_n 0, 1) := by decide +kernel
theorem dX12_takeParameters_38 : decode cX12_takeParameters 38 = .ok (.getfield 160, 3) := by decide +kernel
theorem dX12_takeParameters_41 : decode cX12_takeParameters 41 = .ok (.iload_n 3, 1) := by decide +kernel
theorem dX12_takeParameters_42 : decode cX12_takeParameters 42 = .ok (.aload_n 0, 1) := by decide +kernel
theorem dX12_takeParameters_43 : decode cX12_takeParameters 43 = .ok (.iload_n 2, 1) := by decide +kernel
theorem dX12_takeParameters_44 : decode cX12_takeParameters 44 = .ok (.iload_n 3, 1) := by decide +kernel
theorem dX12_takeParameters_45 : decode cX12_takeParameters 45 = .ok (.invokevirtual 471, 3) := by decide +kernel
theorem dX12_takeParameters_48 : decode cX12_takeParameters 48 = .ok (.iastore, 1) := by decide +kernel
theorem dX12_takeParameters_49 : decode cX12_takeParameters 49 = .ok (.iinc 3 1, 3) := by decide +kernel
theorem dX12_takeParameters_52 : decode cX12_takeParameters 52 = .ok (.goto (-40), 3) := by decide +kernel
theorem dX12_takeParameters_55 : decode cX12_takeParameters 55 = .ok (.return_, 1) := by decide +kernel

section
variable {p : Program} {l : Launch} {e : Env} {R : Room} {s : State} {m : MethodId} {args : Array Value} {below : List Frame} {meth : Method} {c : Code} {H : Heap} {locs : List Loc} {Qf : State → Prop}
variable {ls : Array Slot} {D : va_G} {ca : Nat → ClassId} {A : Nat → Prop} {h0 : Nat} {ad : Nat → Nat} {H0 : Heap} {u : iST}
def w_takeParameters_12b (R12 : Int → Int → Int → iST → Prop) (Q : iST → Prop) (x1 : Int) (x2 : Int) (x3 : Int) (u : iST) : Prop :=
  rd (u.1 74) (fun v2 => 
  br (v2 ≤ x3) (
    Q u) (
    ov (6 * x1) (
    ov ((6 * x1) + x3) (
    bd ((6 * x1) + x3) 240 (rd (u.2.1 38 ((6 * x1) + x3)) (fun v5 => 
    bd x3 400 (sw (iA u 72 x3 v5) (fun u => 
    w_nth x2 x3 (fun v6 u => 
    bd x3 400 (sw (iA u 73 x3 v6) (fun u => 
    ov (x3 + 1) (
    R12 x1 x2 (x3 + 1) u)))) u))))))))
def w_takeParameters_12 (Q : iST → Prop) (x1 : Int) (x2 : Int) (x3 : Int) (u : iST) : Prop := ∀ R12 : Int → Int → Int → iST → Prop, (∀ (x1 : Int) (x2 : Int) (x3 : Int) (u : iST), w_takeParameters_12b R12 Q x1 x2 x3 u → R12 x1 x2 x3 u) → R12 x1 x2 x3 u
set_option maxRecDepth 20000 in
set_option maxHeartbeats 4000000 in
theorem b_takeParameters_12 (X : kX p m c cX12_takeParameters 4 s args D ca) (hRf : 1 ≤ R.frames) (hRl : 24 ≤ R.locals) {Q : iST → Prop} (hret : ∀ (u : iST) (H : Heap) (locs : List Loc) (ls : Array Slot) (pc : Nat), Q u → kW D ca A h0 ad H0 H locs u → decode cX12_takeParameters pc = .ok (.return_, 1) → W p l e R s m args below meth c H locs 0 0 Qf (F0 m pc ls [])) {x1 x2 x3 : Int} (rx1 : inR x1) (rx2 : inR x2) (rx3 : inR x3) (hw : kW D ca A h0 ad H0 H locs u) (hl : lv_has ls 4 [(0, .ref h0), (1, .int (jI x1)), (2, .int (jI x2)), (3, .int (jI x3))]) (h : w_takeParameters_12 Q x1 x2 x3 u) : W p l e R s m args below meth c H locs 0 0 Qf (F0 m 12 ls []) := by
  refine h (fun x1 x2 x3 u => ∀ (H : Heap) (locs : List Loc) (ls : Array Slot), inR x1 → inR x2 → inR x3 → kW D ca A h0 ad H0 H locs u → lv_has ls 4 [(0, .ref h0), (1, .int (jI x1)), (2, .int (jI x2)), (3, .int (jI x3))] → W p l e R s m args below meth c H locs 0 0 Qf (F0 m 12 ls [])) ?_ H locs ls rx1 rx2 rx3 hw hl
  clear h hl hw rx1 rx2 rx3
  intro x1 x2 x3 u h H locs ls rx1 rx2 rx3 hw hl
  have hR12 : ∀ (x1 : Int) (x2 : Int) (x3 : Int) (u : iST) (H : Heap) (locs : List Loc) (ls : Array Slot), inR x1 → inR x2 → inR x3 → kW D ca A h0 ad H0 H locs u → lv_has ls 4 [(0, .ref h0), (1, .int (jI x1)), (2, .int (jI x2)), (3, .int (jI x3))] → (fun (x1 : Int) (x2 : Int) (x3 : Int) u => ∀ (H : Heap) (locs : List Loc) (ls : Array Slot), inR x1 → inR x2 → inR x3 → kW D ca A h0 ad H0 H locs u → lv_has ls 4 [(0, .ref h0), (1, .int (jI x1)), (2, .int (jI x2)), (3, .int (jI x3))] → W p l e R s m args below meth c H locs 0 0 Qf (F0 m 12 ls [])) x1 x2 x3 u → W p l e R s m args below meth c H locs 0 0 Qf (F0 m 12 ls []) := fun x1 x2 x3 u H locs ls rx1 rx2 rx3 hw hl h => h H locs ls rx1 rx2 rx3 hw hl
  have hx := X.1.1
  have hb := X.1.2.1
  unfold w_takeParameters_12b at h
  refine lv_iload_n hx hb dX12_takeParameters_12 rfl (lv_at hl 3 rfl) ?_
  refine lv_aload_n hx hb dX12_takeParameters_13 rfl (lv_at hl 0 rfl) ?_
  refine gS 74 495 (by decide) L_74 (fun _ _ => mF_74) rfl X hw dX12_takeParameters_14 h (fun v2 rv2 h => ?_)
  refine k_icmp_ge hx hb rx3 rv2 dX12_takeParameters_17 (tgt := 55) rfl h (fun h => ?_) (fun h => ?_)
  · exact hret _ _ _ _ _ h hw dX12_takeParameters_55
  · refine lv_aload_n hx hb dX12_takeParameters_20 rfl (lv_at hl 0 rfl) ?_
    refine gA 72 157 (by decide) L_72 (fun _ _ => mF_72) rfl X hw dX12_takeParameters_21 ?_
    refine lv_iload_n hx hb dX12_takeParameters_24 rfl (lv_at hl 3 rfl) ?_
    refine lv_aload_n hx hb dX12_takeParameters_25 rfl (lv_at hl 0 rfl) ?_
    refine gA 38 84 (by decide) L_38 (fun _ _ => mF_38) rfl X hw dX12_takeParameters_26 ?_
    refine lv_bipush hx hb dX12_takeParameters_29 (v := jI 6) rfl ?_
    refine lv_iload_n hx hb dX12_takeParameters_31 rfl (lv_at hl 1 rfl) ?_
    refine k_imul hx hb dX12_takeParameters_32 h (fun r3 h => ?_)
    refine lv_iload_n hx hb dX12_takeParameters_33 rfl (lv_at hl 3 rfl) ?_
    refine k_iadd hx hb dX12_takeParameters_34 h (fun r4 h => ?_)
    refine aL 38 23 22 240 (fun _ _ _ _ => mG_38) (fun _ => rfl) X hw r4 dX12_takeParameters_35 rfl h (fun v5 rv5 h => ?_)
    refine aS 72 45 44 400 (fun _ _ _ _ => mG_72) (fun _ => rfl) (fun _ _ _ _ _ _ => mSA_72) (by decide) X hw rx3 rv5 dX12_takeParameters_36 rfl h (fun H locs u hw h => ?_)
    refine lv_aload_n hx hb dX12_takeParameters_37 rfl (lv_at hl 0 rfl) ?_
    refine gA 73 160 (by decide) L_73 (fun _ _ => mF_73) rfl X hw dX12_takeParameters_38 ?_
    refine lv_iload_n hx hb dX12_takeParameters_41 rfl (lv_at hl 3 rfl) ?_
    refine lv_aload_n hx hb dX12_takeParameters_42 rfl (lv_at hl 0 rfl) ?_
    refine lv_iload_n hx hb dX12_takeParameters_43 rfl (lv_at hl 2 rfl) ?_
    refine lv_iload_n hx hb dX12_takeParameters_44 rfl (lv_at hl 3 rfl) ?_
    refine kcI (n := 2) (c_nth rx2 rx3 h) G_nth E_nth X hw (Nat.le_trans (Nat.le_of_ble_eq_true rfl) hRf) (Nat.le_trans (Nat.le_of_ble_eq_true rfl) hRl) rfl hl.1 (Nat.le_of_ble_eq_true rfl) rfl dX12_takeParameters_45 (fun v6 u H locs rv6 h hw => ?_)
    refine aS 73 46 45 400 (fun _ _ _ _ => mG_73) (fun _ => rfl) (fun _ _ _ _ _ _ => mSA_73) (by decide) X hw rx3 rv6 dX12_takeParameters_48 rfl h (fun H locs u hw h => ?_)
    refine k_iinc (k := 3) hx hb dX12_takeParameters_49 hl rfl (by decide) rfl h (fun ls r7 h hl => ?_)
    have hl : lv_has ls 4 [(3, .int (jI (x3 + 1))), (0, .ref (h0)), (1, .int (jI x1)), (2, .int (jI x2))] := hl
    refine lv_goto hx hb dX12_takeParameters_52 (tgt := 12) rfl ?_
    exact hR12 _ _ _ _ H locs ls rx1 rx2 r7 hw (lv_sub hl [1, 2, 3, 0] rfl) h

def w_takeParameters (a0 : Int) (a1 : Int) (Q : iST → Prop) (u : iST) : Prop :=
  bd a0 40 (rd (u.2.1 37 a0) (fun v1 => 
  sw (iI u 74 v1) (fun u => 
  w_takeParameters_12 Q a0 a1 0 u)))
set_option maxRecDepth 20000 in
set_option maxHeartbeats 4000000 in
theorem b_takeParameters_s (X : kX p m c cX12_takeParameters 4 s args D ca) (hRf : 1 ≤ R.frames) (hRl : 24 ≤ R.locals) {Q : iST → Prop} (hret : ∀ (u : iST) (H : Heap) (locs : List Loc) (ls : Array Slot) (pc : Nat), Q u → kW D ca A h0 ad H0 H locs u → decode cX12_takeParameters pc = .ok (.return_, 1) → W p l e R s m args below meth c H locs 0 0 Qf (F0 m pc ls [])) {a0 a1 : Int} (ra0 : inR a0) (ra1 : inR a1) (hw : kW D ca A h0 ad H0 H locs u) (hl : lv_has ls 4 [(0, .ref h0), (1, .int (jI a0)), (2, .int (jI a1))]) (h : w_takeParameters a0 a1 Q u) : W p l e R s m args below meth c H locs 0 0 Qf (F0 m 0 ls []) := by
  have hx := X.1.1
  have hb := X.1.2.1
  unfold w_takeParameters at h
  refine lv_aload_n hx hb dX12_takeParameters_0 rfl (lv_at hl 0 rfl) ?_
  refine lv_aload_n hx hb dX12_takeParameters_1 rfl (lv_at hl 0 rfl) ?_
  refine gA 37 81 (by decide) L_37 (fun _ _ => mF_37) rfl X hw dX12_takeParameters_2 ?_
  refine lv_iload_n hx hb dX12_takeParameters_5 rfl (lv_at hl 1 rfl) ?_
  refine aL 37 22 21 40 (fun _ _ _ _ => mG_37) (fun _ => rfl) X hw ra0 dX12_takeParameters_6 rfl h (fun v1 rv1 h => ?_)
  refine pS 74 495 (by decide) L_74 rfl rfl rfl (fun _ _ _ _ _ => mSI_74) (by decide) X hw rv1 dX12_takeParameters_7 h (fun H locs u hw h => ?_)
  refine lv_iconst hx hb dX12_takeParameters_10 (v := jI 0) rfl ?_
  refine lv_istore_n hx hb dX12_takeParameters_11 rfl hl (by decide) rfl (fun ls hl => ?_)
  have hl : lv_has ls 4 [(3, .int (jI 0)), (0, .ref (h0)), (1, .int (jI a0)), (2, .int (jI a1))] := hl
  exact b_takeParameters_12 X hRf hRl hret ra0 ra1 (by decide) hw (lv_sub hl [1, 2, 3, 0] rfl) h

end
theorem c_takeParameters {l : Launch} {a0 : Int} {a1 : Int} (ra0 : inR a0) (ra1 : inR a1) {Q : iST → Prop} {u : iST} (h : w_takeParameters a0 a1 Q u) : kMV l yX12_takeParameters (.code yX12_takeParameters cX12_takeParameters 4 none :: wsM) { frames := 1, cells := 0, slots := 0, locals := 24 } [.int (jI a0), .int (jI a1)] Q u := kMV_of rfl (fun _ => Nat.le_of_ble_eq_true rfl) (fun X hRf hRl hret hw hl => b_takeParameters_s X hRf hRl hret ra0 ra1 hw hl h)

/-! inductionRow -/
theorem dX12_inductionRow_0 : decode cX12_inductionRow 0 = .ok (.iconst 0, 1) := by decide +kernel
theorem dX12_inductionRow_1 : decode cX12_inductionRow 1 = .ok (.istore 5, 2) := by decide +kernel
theorem dX12_inductionRow_3 : decode cX12_inductionRow 3 = .ok (.iload 5, 2) := by decide +kernel
theorem dX12_inductionRow_5 : decode cX12_inductionRow 5 = .ok (.aload_n 0, 1) := by decide +kernel
theorem dX12_inductionRow_6 : decode cX12_inductionRow 6 = .ok (.getfield 266, 3) := by decide +kernel
theorem dX12_inductionRow_9 : decode cX12_inductionRow 9 = .ok (.iload_n 3, 1) := by decide +kernel
theorem dX12_inductionRow_10 : decode cX12_inductionRow 10 = .ok (.iaload, 1) := by decide +kernel
theorem dX12_inductionRow_11 : decode cX12_inductionRow 11 = .ok (.if_icmp .ge 39, 3) := by decide +kernel
theorem dX12_inductionRow_14 : decode cX12_inductionRow 14 = .ok (.aload_n 0, 1) := by decide +kernel
theorem dX12_inductionRow_15 : decode cX12_inductionRow 15 = .ok (.iload_n 1, 1) := by decide +kernel
theorem dX12_inductionRow_16 : decode cX12_inductionRow 16 = .ok (.iload_n 2, 1) := by decide +kernel
theorem dX12_inductionRow_17 : decode cX12_inductionRow 17 = .ok (.invokevirtual 893, 3) := by decide +kernel
theorem dX12_inductionRow_20 : decode cX12_inductionRow 20 = .ok (.aload_n 0, 1) := by decide +kernel
theorem dX12_inductionRow_21 : decode cX12_inductionRow 21 = .ok (.aload_n 0, 1) := by decide +kernel
theorem dX12_inductionRow_22 : decode cX12_inductionRow 22 = .ok (.aload_n 0, 1) := by decide +kernel
theorem dX12_inductionRow_23 : decode cX12_inductionRow 23 = .ok (.aload_n 0, 1) := by decide +kernel
theorem dX12_inductionRow_24 : decode cX12_inductionRow 24 = .ok (.getfield 263, 3) := by decide +kernel
theorem dX12_inductionRow_27 : decode cX12_inductionRow 27 = .ok (.bipush 64, 2) := by decide +kernel
theorem dX12_inductionRow_29 : decode cX12_inductionRow 29 = .ok (.iload_n 3, 1) := by decide +kernel
theorem dX12_inductionRow_30 : decode cX12_inductionRow 30 = .ok (.imul, 1) := by decide +kernel
theorem dX12_inductionRow_31 : decode cX12_inductionRow 31 = .ok (.iload 5, 2) := by decide +kernel
theorem dX12_inductionRow_33 : decode cX12_inductionRow 33 = .ok (.iadd, 1) := by decide +kernel
theorem dX12_inductionRow_34 : decode cX12_inductionRow 34 = .ok (.iaload, 1) := by decide +kernel
theorem dX12_inductionRow_35 : decode cX12_inductionRow 35 = .ok (.invokevirtual 712, 3) := by decide +kernel
theorem dX12_inductionRow_38 : decode cX12_inductionRow 38 = .ok (.invokevirtual 659, 3) := by decide +kernel
theorem dX12_inductionRow_41 : decode cX12_inductionRow 41 = .ok (.invokevirtual 739, 3) := by decide +kernel
theorem dX12_inductionRow_44 : decode cX12_inductionRow 44 = .ok (.iinc 5 1, 3) := by decide +kernel
theorem dX12_inductionRow_47 : decode cX12_inductionRow 47 = .ok (.goto (-44), 3) := by decide +kernel
theorem dX12_inductionRow_50 : decode cX12_inductionRow 50 = .ok (.aload_n 0, 1) := by decide +kernel
theorem dX12_inductionRow_51 : decode cX12_inductionRow 51 = .ok (.aload_n 0, 1) := by decide +kernel
theorem dX12_inductionRow_52 : decode cX12_inductionRow 52 = .ok (.getfield 260, 3) := by decide +kernel
theorem dX12_inductionRow_55 : decode cX12_inductionRow 55 = .ok (.iload_n 3, 1) := by decide +kernel
theorem dX12_inductionRow_56 : decode cX12_inductionRow 56 = .ok (.iaload, 1) := by decide +kernel
theorem dX12_inductionRow_57 : decode cX12_inductionRow 57 = .ok (.aload_n 0, 1) := by decide +kernel
theorem dX12_inductionRow_58 : decode cX12_inductionRow 58 = .ok (.getfield 78, 3) := by decide +kernel
theorem dX12_inductionRow_61 : decode cX12_inductionRow 61 = .ok (.iload_n 1, 1) := by decide +kernel
theorem dX12_inductionRow_62 : decode cX12_inductionRow 62 = .ok (.iaload, 1) := by decide +kernel
theorem dX12_inductionRow_63 : decode cX12_inductionRow 63 = .ok (.invokevirtual 806, 3) := by decide +kernel
theorem dX12_inductionRow_66 : decode cX12_inductionRow 66 = .ok (.iconst 0, 1) := by decide +kernel
theorem dX12_inductionRow_67 : decode cX12_inductionRow 67 = .ok (.istore 5, 2) := by decide +kernel
theorem dX12_inductionRow_69 : decode cX12_inductionRow 69 = .ok (.iload 5, 2) := by decide +kernel
theorem dX12_inductionRow_71 : decode cX12_inductionRow 71 = .ok (.aload_n 0, 1) := by decide +kernel
theorem dX12_inductionRow_72 : decode cX12_inductionRow 72 = .ok (.getfield 791, 3) := by decide +kernel
theorem dX12_inductionRow_75 : decode cX12_inductionRow 75 = .ok (.if_icmp .ge 138, 3) := by decide +kernel
theorem dX12_inductionRow_78 : decode cX12_inductionRow 78 = .ok (.aload_n 0, 1) := by decide +kernel
theorem dX12_inductionRow_79 : decode cX12_inductionRow 79 = .ok (.getfield 480, 3) := by decide +kernel
theorem dX12_inductionRow_82 : decode cX12_inductionRow 82 = .ok (.ifCond .ne 131, 3) := by decide +kernel
theorem dX12_inductionRow_85 : decode cX12_inductionRow 85 = .ok (.aload_n 0, 1) := by decide +kernel
theorem dX12_inductionRow_86 : decode cX12_inductionRow 86 = .ok (.iload_n 1, 1) := by decide +kernel
theorem dX12_inductionRow_87 : decode cX12_inductionRow 87 = .ok (.iload_n 2, 1) := by decide +kernel
theorem dX12_inductionRow_88 : decode cX12_inductionRow 88 = .ok (.invokevirtual 893, 3) := by decide +kernel
theorem dX12_inductionRow_91 : decode cX12_inductionRow 91 = .ok (.iconst 0, 1) := by decide +kernel
theorem dX12_inductionRow_92 : decode cX12_inductionRow 92 = .ok (.istore 6, 2) := by decide +kernel
theorem dX12_inductionRow_94 : decode cX12_inductionRow 94 = .ok (.iload 6, 2) := by decide +kernel
theorem dX12_inductionRow_96 : decode cX12_inductionRow 96 = .ok (.aload_n 0, 1) := by decide +kernel
theorem dX12_inductionRow_97 : decode cX12_inductionRow 97 = .ok (.getfield 81, 3) := by decide +kernel
theorem dX12_inductionRow_100 : decode cX12_inductionRow 100 = .ok (.iload_n 1, 1) := by decide +kernel
theorem dX12_inductionRow_101 : decode cX12_inductionRow 101 = .ok (.iaload, 1) := by decide +kernel
theorem dX12_inductionRow_102 : decode cX12_inductionRow 102 = .ok (.if_icmp .ge 35, 3) := by decide +kernel
theorem dX12_inductionRow_105 : decode cX12_inductionRow 105 = .ok (.aload_n 0, 1) := by decide +kernel
theorem dX12_inductionRow_106 : decode cX12_inductionRow 106 = .ok (.getfield 287, 3) := by decide +kernel
theorem dX12_inductionRow_109 : decode cX12_inductionRow 109 = .ok (.iload 6, 2) := by decide +kernel
theorem dX12_inductionRow_111 : decode cX12_inductionRow 111 = .ok (.aload_n 0, 1) := by decide +kernel
theorem dX12_inductionRow_112 : decode cX12_inductionRow 112 = .ok (.aload_n 0, 1) := by decide +kernel
theorem dX12_inductionRow_113 : decode cX12_inductionRow 113 = .ok (.aload_n 0, 1) := by decide +kernel
theorem dX12_inductionRow_114 : decode cX12_inductionRow 114 = .ok (.getfield 278, 3) := by decide +kernel
theorem dX12_inductionRow_117 : decode cX12_inductionRow 117 = .ok (.iload 5, 2) := by decide +kernel
theorem dX12_inductionRow_119 : decode cX12_inductionRow 119 = .ok (.iaload, 1) := by decide +kernel
theorem dX12_inductionRow_120 : decode cX12_inductionRow 120 = .ok (.iload 6, 2) := by decide +kernel
theorem dX12_inductionRow_122 : decode cX12_inductionRow 122 = .ok (.iconst 1, 1) := by decide +kernel
theorem dX12_inductionRow_123 : decode cX12_inductionRow 123 = .ok (.iadd, 1) := by decide +kernel
theorem dX12_inductionRow_124 : decode cX12_inductionRow 124 = .ok (.invokevirtual 592, 3) := by decide +kernel
theorem dX12_inductionRow_127 : decode cX12_inductionRow 127 = .ok (.invokevirtual 712, 3) := by decide +kernel
theorem dX12_inductionRow_130 : decode cX12_inductionRow 130 = .ok (.iastore, 1) := by decide +kernel
theorem dX12_inductionRow_131 : decode cX12_inductionRow 131 = .ok (.iinc 6 1, 3) := by decide +kernel
theorem dX12_inductionRow_134 : decode cX12_inductionRow 134 = .ok (.goto (-40), 3) := by decide +kernel
theorem dX12_inductionRow_137 : decode cX12_inductionRow 137 = .ok (.aload_n 0, 1) := by decide +kernel
theorem dX12_inductionRow_138 : decode cX12_inductionRow 138 = .ok (.aload_n 0, 1) := by decide +kernel
theorem dX12_inductionRow_139 : decode cX12_inductionRow 139 = .ok (.getfield 81, 3) := by decide +kernel
theorem dX12_inductionRow_142 : decode cX12_inductionRow 142 = .ok (.iload_n 1, 1) := by decide +kernel
theorem dX12_inductionRow_143 : decode cX12_inductionRow 143 = .ok (.iaload, 1) := by decide +kernel
theorem dX12_inductionRow_144 : decode cX12_inductionRow 144 = .ok (.putfield 495, 3) := by decide +kernel
theorem dX12_inductionRow_147 : decode cX12_inductionRow 147 = .ok (.iconst 0, 1) := by decide +kernel
theorem dX12_inductionRow_148 : decode cX12_inductionRow 148 = .ok (.istore 6, 2) := by decide +kernel
theorem dX12_inductionRow_150 : decode cX12_inductionRow 150 = .ok (.iload 6, 2) := by decide +kernel
theorem dX12_inductionRow_152 : decode cX12_inductionRow 152 = .ok (.aload_n 0, 1) := by decide +kernel
theorem dX12_inductionRow_153 : decode cX12_inductionRow 153 = .ok (.getfield 495, 3) := by decide +kernel
theorem dX12_inductionRow_156 : decode cX12_inductionRow 156 = .ok (.if_icmp .ge 37, 3) := by decide +kernel
theorem dX12_inductionRow_159 : decode cX12_inductionRow 159 = .ok (.aload_n 0, 1) := by decide +kernel
theorem dX12_inductionRow_160 : decode cX12_inductionRow 160 = .ok (.getfield 157, 3) := by decide +kernel
theorem dX12_inductionRow_163 : decode cX12_inductionRow 163 = .ok (.iload 6, 2) := by decide +kernel
theorem dX12_inductionRow_165 : decode cX12_inductionRow 165 = .ok (.aload_n 0, 1) := by decide +kernel
theorem dX12_inductionRow_166 : decode cX12_inductionRow 166 = .ok (.iload_n 2, 1) := by decide +kernel
theorem dX12_inductionRow_167 : decode cX12_inductionRow 167 = .ok (.iload 6, 2) := by decide +kernel
theorem dX12_inductionRow_169 : decode cX12_inductionRow 169 = .ok (.invokevirtual 471, 3) := by decide +kernel
theorem dX12_inductionRow_172 : decode cX12_inductionRow 172 = .ok (.iastore, 1) := by decide +kernel
theorem dX12_inductionRow_173 : decode cX12_inductionRow 173 = .ok (.aload_n 0, 1) := by decide +kernel
theorem dX12_inductionRow_174 : decode cX12_inductionRow 174 = .ok (.getfield 160, 3) := by decide +kernel
theorem dX12_inductionRow_177 : decode cX12_inductionRow 177 = .ok (.iload 6, 2) := by decide +kernel
theorem dX12_inductionRow_179 : decode cX12_inductionRow 179 = .ok (.aload_n 0, 1) := by decide +kernel
theorem dX12_inductionRow_180 : decode cX12_inductionRow 180 = .ok (.getfield 287, 3) := by decide +kernel
theorem dX12_inductionRow_183 : decode cX12_inductionRow 183 = .ok (.iload 6, 2) := by decide +kernel
theorem dX12_inductionRow_185 : decode cX12_inductionRow 185 = .ok (.iaload, 1) := by decide +kernel
theorem dX12_inductionRow_186 : decode cX12_inductionRow 186 = .ok (.iastore, 1) := by decide +kernel
theorem dX12_inductionRow_187 : decode cX12_inductionRow 187 = .ok (.iinc 6 1, 3) := by decide +kernel
theorem dX12_inductionRow_190 : decode cX12_inductionRow 190 = .ok (.goto (-40), 3) := by decide +kernel
theorem dX12_inductionRow_193 : decode cX12_inductionRow 193 = .ok (.aload_n 0, 1) := by decide +kernel
theorem dX12_inductionRow_194 : decode cX12_inductionRow 194 = .ok (.aload_n 0, 1) := by decide +kernel
theorem dX12_inductionRow_195 : decode cX12_inductionRow 195 = .ok (.aload_n 0, 1) := by decide +kernel
theorem dX12_inductionRow_196 : decode cX12_inductionRow 196 = .ok (.iload 4, 2) := by decide +kernel
theorem dX12_inductionRow_198 : decode cX12_inductionRow 198 = .ok (.invokevirtual 712, 3) := by decide +kernel
theorem dX12_inductionRow_201 : decode cX12_inductionRow 201 = .ok (.invokevirtual 659, 3) := by decide +kernel
theorem dX12_inductionRow_204 : decode cX12_inductionRow 204 = .ok (.invokevirtual 739, 3) := by decide +kernel
theorem dX12_inductionRow_207 : decode cX12_inductionRow 207 = .ok (.iinc 5 1, 3) := by decide +kernel
theorem dX12_inductionRow_210 : decode cX12_inductionRow 210 = .ok (.goto (-141), 3) := by decide +kernel
theorem dX12_inductionRow_213 : decode cX12_inductionRow 213 = .ok (.aload_n 0, 1) := by decide +kernel
theorem dX12_inductionRow_214 : decode cX12_inductionRow 214 = .ok (.iload 4, 2) := by decide +kernel
theorem dX12_inductionRow_216 : decode cX12_inductionRow 216 = .ok (.invokevirtual 739, 3) := by decide +kernel
theorem dX12_inductionRow_219 : decode cX12_inductionRow 219 = .ok (.return_, 1) := by decide +kernel

section
variable {p : Program} {l : Launch} {e : Env} {R : Room} {s : State} {m : MethodId} {args : Array Value} {below : List Frame} {meth : Method} {c : Code} {H : Heap} {locs : List Loc} {Qf : State → Prop}
variable {ls : Array Slot} {D : va_G} {ca : Nat → ClassId} {A : Nat → Prop} {h0 : Nat} {ad : Nat → Nat} {H0 : Heap} {u : iST}
def w_inductionRow_213 (Q : iST → Prop) (x4 : Int) (u : iST) : Prop :=
  w_put x4 (fun u => 
  Q u) u
set_option maxRecDepth 20000 in
set_option maxHeartbeats 4000000 in
theorem b_inductionRow_213 (X : kX p m c cX12_inductionRow 7 s args D ca) (hRf : 6 ≤ R.frames) (hRl : 136 ≤ R.locals) {Q : iST → Prop} (hret : ∀ (u : iST) (H : Heap) (locs : List Loc) (ls : Array Slot) (pc : Nat), Q u → kW D ca A h0 ad H0 H locs u → decode cX12_inductionRow pc = .ok (.return_, 1) → W p l e R s m args below meth c H locs 0 0 Qf (F0 m pc ls [])) {x4 : Int} (rx4 : inR x4) (hw : kW D ca A h0 ad H0 H locs u) (hl : lv_has ls 7 [(0, .ref h0), (4, .int (jI x4))]) (h : w_inductionRow_213 Q x4 u) : W p l e R s m args below meth c H locs 0 0 Qf (F0 m 213 ls []) := by
  have hx := X.1.1
  have hb := X.1.2.1
  unfold w_inductionRow_213 at h
  refine lv_aload_n hx hb dX12_inductionRow_213 rfl (lv_at hl 0 rfl) ?_
  refine lv_iload hx hb dX12_inductionRow_214 (lv_at hl 1 rfl) ?_
  refine kcV (n := 1) (c_put rx4 h) G_put E_put X hw (Nat.le_trans (Nat.le_of_ble_eq_true rfl) hRf) (Nat.le_trans (Nat.le_of_ble_eq_true rfl) hRl) rfl hl.1 (Nat.le_of_ble_eq_true rfl) rfl dX12_inductionRow_216 (fun u H locs h hw => ?_)
  exact hret _ _ _ _ _ h hw dX12_inductionRow_219

def w_inductionRow_150b (R69 : Int → Int → Int → Int → iST → Prop) (R150 : Int → Int → Int → Int → Int → iST → Prop) (Q : iST → Prop) (x1 : Int) (x2 : Int) (x4 : Int) (x5 : Int) (x6 : Int) (u : iST) : Prop :=
  rd (u.1 74) (fun v11 => 
  br (v11 ≤ x6) (
    w_instance x4 (fun v12 u => 
    w_notOf v12 (fun v13 u => 
    w_put v13 (fun u => 
    ov (x5 + 1) (
    R69 x1 x2 x4 (x5 + 1) u)) u) u) u) (
    w_nth x2 x6 (fun v16 u => 
    bd x6 400 (sw (iA u 72 x6 v16) (fun u => 
    bd x6 6 (rd (u.2.1 140 x6) (fun v17 => 
    bd x6 400 (sw (iA u 73 x6 v17) (fun u => 
    ov (x6 + 1) (
    R150 x1 x2 x4 x5 (x6 + 1) u)))))))) u))
def w_inductionRow_150 (R69 : Int → Int → Int → Int → iST → Prop) (Q : iST → Prop) (x1 : Int) (x2 : Int) (x4 : Int) (x5 : Int) (x6 : Int) (u : iST) : Prop := ∀ R150 : Int → Int → Int → Int → Int → iST → Prop, (∀ (x1 : Int) (x2 : Int) (x4 : Int) (x5 : Int) (x6 : Int) (u : iST), w_inductionRow_150b R69 R150 Q x1 x2 x4 x5 x6 u → R150 x1 x2 x4 x5 x6 u) → R150 x1 x2 x4 x5 x6 u
set_option maxRecDepth 20000 in
set_option maxHeartbeats 4000000 in
theorem b_inductionRow_150 (X : kX p m c cX12_inductionRow 7 s args D ca) (hRf : 6 ≤ R.frames) (hRl : 136 ≤ R.locals) {Q : iST → Prop} (hret : ∀ (u : iST) (H : Heap) (locs : List Loc) (ls : Array Slot) (pc : Nat), Q u → kW D ca A h0 ad H0 H locs u → decode cX12_inductionRow pc = .ok (.return_, 1) → W p l e R s m args below meth c H locs 0 0 Qf (F0 m pc ls [])) {R69 : Int → Int → Int → Int → iST → Prop} (hR69 : ∀ (x1 : Int) (x2 : Int) (x4 : Int) (x5 : Int) (u : iST) (H : Heap) (locs : List Loc) (ls : Array Slot), inR x1 → inR x2 → inR x4 → inR x5 → kW D ca A h0 ad H0 H locs u → lv_has ls 7 [(0, .ref h0), (1, .int (jI x1)), (2, .int (jI x2)), (4, .int (jI x4)), (5, .int (jI x5))] → R69 x1 x2 x4 x5 u → W p l e R s m args below meth c H locs 0 0 Qf (F0 m 69 ls [])) {x1 x2 x4 x5 x6 : Int} (rx1 : inR x1) (rx2 : inR x2) (rx4 : inR x4) (rx5 : inR x5) (rx6 : inR x6) (hw : kW D ca A h0 ad H0 H locs u) (hl : lv_has ls 7 [(0, .ref h0), (1, .int (jI x1)), (2, .int (jI x2)), (4, .int (jI x4)), (5, .int (jI x5)), (6, .int (jI x6))]) (h : w_inductionRow_150 R69 Q x1 x2 x4 x5 x6 u) : W p l e R s m args below meth c H locs 0 0 Qf (F0 m 150 ls []) := by
  refine h (fun x1 x2 x4 x5 x6 u => ∀ (H : Heap) (locs : List Loc) (ls : Array Slot), inR x1 → inR x2 → inR x4 → inR x5 → inR x6 → kW D ca A h0 ad H0 H locs u → lv_has ls 7 [(0, .ref h0), (1, .int (jI x1)), (2, .int (jI x2)), (4, .int (jI x4)), (5, .int (jI x5)), (6, .int (jI x6))] → W p l e R s m args below meth c H locs 0 0 Qf (F0 m 150 ls [])) ?_ H locs ls rx1 rx2 rx4 rx5 rx6 hw hl
  clear h hl hw rx1 rx2 rx4 rx5 rx6
  intro x1 x2 x4 x5 x6 u h H locs ls rx1 rx2 rx4 rx5 rx6 hw hl
  have hR150 : ∀ (x1 : Int) (x2 : Int) (x4 : Int) (x5 : Int) (x6 : Int) (u : iST) (H : Heap) (locs : List Loc) (ls : Array Slot), inR x1 → inR x2 → inR x4 → inR x5 → inR x6 → kW D ca A h0 ad H0 H locs u → lv_has ls 7 [(0, .ref h0), (1, .int (jI x1)), (2, .int (jI x2)), (4, .int (jI x4)), (5, .int (jI x5)), (6, .int (jI x6))] → (fun (x1 : Int) (x2 : Int) (x4 : Int) (x5 : Int) (x6 : Int) u => ∀ (H : Heap) (locs : List Loc) (ls : Array Slot), inR x1 → inR x2 → inR x4 → inR x5 → inR x6 → kW D ca A h0 ad H0 H locs u → lv_has ls 7 [(0, .ref h0), (1, .int (jI x1)), (2, .int (jI x2)), (4, .int (jI x4)), (5, .int (jI x5)), (6, .int (jI x6))] → W p l e R s m args below meth c H locs 0 0 Qf (F0 m 150 ls [])) x1 x2 x4 x5 x6 u → W p l e R s m args below meth c H locs 0 0 Qf (F0 m 150 ls []) := fun x1 x2 x4 x5 x6 u H locs ls rx1 rx2 rx4 rx5 rx6 hw hl h => h H locs ls rx1 rx2 rx4 rx5 rx6 hw hl
  have hx := X.1.1
  have hb := X.1.2.1
  unfold w_inductionRow_150b at h
  refine lv_iload hx hb dX12_inductionRow_150 (lv_at hl 5 rfl) ?_
  refine lv_aload_n hx hb dX12_inductionRow_152 rfl (lv_at hl 0 rfl) ?_
  refine gS 74 495 (by decide) L_74 (fun _ _ => mF_74) rfl X hw dX12_inductionRow_153 h (fun v11 rv11 h => ?_)
  refine k_icmp_ge hx hb rx6 rv11 dX12_inductionRow_156 (tgt := 193) rfl h (fun h => ?_) (fun h => ?_)
  · refine lv_aload_n hx hb dX12_inductionRow_193 rfl (lv_at hl 0 rfl) ?_
    refine lv_aload_n hx hb dX12_inductionRow_194 rfl (lv_at hl 0 rfl) ?_
    refine lv_aload_n hx hb dX12_inductionRow_195 rfl (lv_at hl 0 rfl) ?_
    refine lv_iload hx hb dX12_inductionRow_196 (lv_at hl 3 rfl) ?_
    refine kcI (n := 1) (c_instance rx4 h) G_instance E_instance X hw (Nat.le_trans (Nat.le_of_ble_eq_true rfl) hRf) (Nat.le_trans (Nat.le_of_ble_eq_true rfl) hRl) rfl hl.1 (Nat.le_of_ble_eq_true rfl) rfl dX12_inductionRow_198 (fun v12 u H locs rv12 h hw => ?_)
    refine kcI (n := 1) (c_notOf rv12 h) G_notOf E_notOf X hw (Nat.le_trans (Nat.le_of_ble_eq_true rfl) hRf) (Nat.le_trans (Nat.le_of_ble_eq_true rfl) hRl) rfl hl.1 (Nat.le_of_ble_eq_true rfl) rfl dX12_inductionRow_201 (fun v13 u H locs rv13 h hw => ?_)
    refine kcV (n := 1) (c_put rv13 h) G_put E_put X hw (Nat.le_trans (Nat.le_of_ble_eq_true rfl) hRf) (Nat.le_trans (Nat.le_of_ble_eq_true rfl) hRl) rfl hl.1 (Nat.le_of_ble_eq_true rfl) rfl dX12_inductionRow_204 (fun u H locs h hw => ?_)
    refine k_iinc (k := 4) hx hb dX12_inductionRow_207 hl rfl (by decide) rfl h (fun ls r15 h hl => ?_)
    have hl : lv_has ls 7 [(5, .int (jI (x5 + 1))), (0, .ref (h0)), (1, .int (jI x1)), (2, .int (jI x2)), (4, .int (jI x4)), (6, .int (jI x6))] := hl
    refine lv_goto hx hb dX12_inductionRow_210 (tgt := 69) rfl ?_
    exact hR69 _ _ _ _ _ H locs ls rx1 rx2 rx4 r15 hw (lv_sub hl [1, 2, 3, 4, 0] rfl) h
  · refine lv_aload_n hx hb dX12_inductionRow_159 rfl (lv_at hl 0 rfl) ?_
    refine gA 72 157 (by decide) L_72 (fun _ _ => mF_72) rfl X hw dX12_inductionRow_160 ?_
    refine lv_iload hx hb dX12_inductionRow_163 (lv_at hl 5 rfl) ?_
    refine lv_aload_n hx hb dX12_inductionRow_165 rfl (lv_at hl 0 rfl) ?_
    refine lv_iload_n hx hb dX12_inductionRow_166 rfl (lv_at hl 2 rfl) ?_
    refine lv_iload hx hb dX12_inductionRow_167 (lv_at hl 5 rfl) ?_
    refine kcI (n := 2) (c_nth rx2 rx6 h) G_nth E_nth X hw (Nat.le_trans (Nat.le_of_ble_eq_true rfl) hRf) (Nat.le_trans (Nat.le_of_ble_eq_true rfl) hRl) rfl hl.1 (Nat.le_of_ble_eq_true rfl) rfl dX12_inductionRow_169 (fun v16 u H locs rv16 h hw => ?_)
    refine aS 72 45 44 400 (fun _ _ _ _ => mG_72) (fun _ => rfl) (fun _ _ _ _ _ _ => mSA_72) (by decide) X hw rx6 rv16 dX12_inductionRow_172 rfl h (fun H locs u hw h => ?_)
    refine lv_aload_n hx hb dX12_inductionRow_173 rfl (lv_at hl 0 rfl) ?_
    refine gA 73 160 (by decide) L_73 (fun _ _ => mF_73) rfl X hw dX12_inductionRow_174 ?_
    refine lv_iload hx hb dX12_inductionRow_177 (lv_at hl 5 rfl) ?_
    refine lv_aload_n hx hb dX12_inductionRow_179 rfl (lv_at hl 0 rfl) ?_
    refine gA 140 287 (by decide) L_140 (fun _ _ => mF_140) rfl X hw dX12_inductionRow_180 ?_
    refine lv_iload hx hb dX12_inductionRow_183 (lv_at hl 5 rfl) ?_
    refine aL 140 88 87 6 (fun _ _ _ _ => mG_140) (fun _ => rfl) X hw rx6 dX12_inductionRow_185 rfl h (fun v17 rv17 h => ?_)
    refine aS 73 46 45 400 (fun _ _ _ _ => mG_73) (fun _ => rfl) (fun _ _ _ _ _ _ => mSA_73) (by decide) X hw rx6 rv17 dX12_inductionRow_186 rfl h (fun H locs u hw h => ?_)
    refine k_iinc (k := 5) hx hb dX12_inductionRow_187 hl rfl (by decide) rfl h (fun ls r18 h hl => ?_)
    have hl : lv_has ls 7 [(6, .int (jI (x6 + 1))), (0, .ref (h0)), (1, .int (jI x1)), (2, .int (jI x2)), (4, .int (jI x4)), (5, .int (jI x5))] := hl
    refine lv_goto hx hb dX12_inductionRow_190 (tgt := 150) rfl ?_
    exact hR150 _ _ _ _ _ _ H locs ls rx1 rx2 rx4 rx5 r18 hw (lv_sub hl [1, 2, 3, 4, 5, 0] rfl) h

def w_inductionRow_94b (R69 : Int → Int → Int → Int → iST → Prop) (R94 : Int → Int → Int → Int → Int → iST → Prop) (Q : iST → Prop) (x1 : Int) (x2 : Int) (x4 : Int) (x5 : Int) (x6 : Int) (u : iST) : Prop :=
  bd x1 40 (rd (u.2.1 37 x1) (fun v9 => 
  br (v9 ≤ x6) (
    bd x1 40 (rd (u.2.1 37 x1) (fun v10 => 
    sw (iI u 74 v10) (fun u => 
    w_inductionRow_150 R69 Q x1 x2 x4 x5 0 u)))) (
    bd x5 130 (rd (u.2.1 130 x5) (fun v19 => 
    ov (x6 + 1) (
    w_term v19 (x6 + 1) (fun v21 u => 
    w_instance v21 (fun v22 u => 
    bd x6 6 (sw (iA u 140 x6 v22) (fun u => 
    ov (x6 + 1) (
    R94 x1 x2 x4 x5 (x6 + 1) u)))) u) u))))))
def w_inductionRow_94 (R69 : Int → Int → Int → Int → iST → Prop) (Q : iST → Prop) (x1 : Int) (x2 : Int) (x4 : Int) (x5 : Int) (x6 : Int) (u : iST) : Prop := ∀ R94 : Int → Int → Int → Int → Int → iST → Prop, (∀ (x1 : Int) (x2 : Int) (x4 : Int) (x5 : Int) (x6 : Int) (u : iST), w_inductionRow_94b R69 R94 Q x1 x2 x4 x5 x6 u → R94 x1 x2 x4 x5 x6 u) → R94 x1 x2 x4 x5 x6 u
set_option maxRecDepth 20000 in
set_option maxHeartbeats 4000000 in
theorem b_inductionRow_94 (X : kX p m c cX12_inductionRow 7 s args D ca) (hRf : 6 ≤ R.frames) (hRl : 136 ≤ R.locals) {Q : iST → Prop} (hret : ∀ (u : iST) (H : Heap) (locs : List Loc) (ls : Array Slot) (pc : Nat), Q u → kW D ca A h0 ad H0 H locs u → decode cX12_inductionRow pc = .ok (.return_, 1) → W p l e R s m args below meth c H locs 0 0 Qf (F0 m pc ls [])) {R69 : Int → Int → Int → Int → iST → Prop} (hR69 : ∀ (x1 : Int) (x2 : Int) (x4 : Int) (x5 : Int) (u : iST) (H : Heap) (locs : List Loc) (ls : Array Slot), inR x1 → inR x2 → inR x4 → inR x5 → kW D ca A h0 ad H0 H locs u → lv_has ls 7 [(0, .ref h0), (1, .int (jI x1)), (2, .int (jI x2)), (4, .int (jI x4)), (5, .int (jI x5))] → R69 x1 x2 x4 x5 u → W p l e R s m args below meth c H locs 0 0 Qf (F0 m 69 ls [])) {x1 x2 x4 x5 x6 : Int} (rx1 : inR x1) (rx2 : inR x2) (rx4 : inR x4) (rx5 : inR x5) (rx6 : inR x6) (hw : kW D ca A h0 ad H0 H locs u) (hl : lv_has ls 7 [(0, .ref h0), (1, .int (jI x1)), (2, .int (jI x2)), (4, .int (jI x4)), (5, .int (jI x5)), (6, .int (jI x6))]) (h : w_inductionRow_94 R69 Q x1 x2 x4 x5 x6 u) : W p l e R s m args below meth c H locs 0 0 Qf (F0 m 94 ls []) := by
  refine h (fun x1 x2 x4 x5 x6 u => ∀ (H : Heap) (locs : List Loc) (ls : Array Slot), inR x1 → inR x2 → inR x4 → inR x5 → inR x6 → kW D ca A h0 ad H0 H locs u → lv_has ls 7 [(0, .ref h0), (1, .int (jI x1)), (2, .int (jI x2)), (4, .int (jI x4)), (5, .int (jI x5)), (6, .int (jI x6))] → W p l e R s m args below meth c H locs 0 0 Qf (F0 m 94 ls [])) ?_ H locs ls rx1 rx2 rx4 rx5 rx6 hw hl
  clear h hl hw rx1 rx2 rx4 rx5 rx6
  intro x1 x2 x4 x5 x6 u h H locs ls rx1 rx2 rx4 rx5 rx6 hw hl
  have hR94 : ∀ (x1 : Int) (x2 : Int) (x4 : Int) (x5 : Int) (x6 : Int) (u : iST) (H : Heap) (locs : List Loc) (ls : Array Slot), inR x1 → inR x2 → inR x4 → inR x5 → inR x6 → kW D ca A h0 ad H0 H locs u → lv_has ls 7 [(0, .ref h0), (1, .int (jI x1)), (2, .int (jI x2)), (4, .int (jI x4)), (5, .int (jI x5)), (6, .int (jI x6))] → (fun (x1 : Int) (x2 : Int) (x4 : Int) (x5 : Int) (x6 : Int) u => ∀ (H : Heap) (locs : List Loc) (ls : Array Slot), inR x1 → inR x2 → inR x4 → inR x5 → inR x6 → kW D ca A h0 ad H0 H locs u → lv_has ls 7 [(0, .ref h0), (1, .int (jI x1)), (2, .int (jI x2)), (4, .int (jI x4)), (5, .int (jI x5)), (6, .int (jI x6))] → W p l e R s m args below meth c H locs 0 0 Qf (F0 m 94 ls [])) x1 x2 x4 x5 x6 u → W p l e R s m args below meth c H locs 0 0 Qf (F0 m 94 ls []) := fun x1 x2 x4 x5 x6 u H locs ls rx1 rx2 rx4 rx5 rx6 hw hl h => h H locs ls rx1 rx2 rx4 rx5 rx6 hw hl
  have hx := X.1.1
  have hb := X.1.2.1
  unfold w_inductionRow_94b at h
  refine lv_iload hx hb dX12_inductionRow_94 (lv_at hl 5 rfl) ?_
  refine lv_aload_n hx hb dX12_inductionRow_96 rfl (lv_at hl 0 rfl) ?_
  refine gA 37 81 (by decide) L_37 (fun _ _ => mF_37) rfl X hw dX12_inductionRow_97 ?_
  refine lv_iload_n hx hb dX12_inductionRow_100 rfl (lv_at hl 1 rfl) ?_
  refine aL 37 22 21 40 (fun _ _ _ _ => mG_37) (fun _ => rfl) X hw rx1 dX12_inductionRow_101 rfl h (fun v9 rv9 h => ?_)
  refine k_icmp_ge hx hb rx6 rv9 dX12_inductionRow_102 (tgt := 137) rfl h (fun h => ?_) (fun h => ?_)
  · refine lv_aload_n hx hb dX12_inductionRow_137 rfl (lv_at hl 0 rfl) ?_
    refine lv_aload_n hx hb dX12_inductionRow_138 rfl (lv_at hl 0 rfl) ?_
    refine gA 37 81 (by decide) L_37 (fun _ _ => mF_37) rfl X hw dX12_inductionRow_139 ?_
    refine lv_iload_n hx hb dX12_inductionRow_142 rfl (lv_at hl 1 rfl) ?_
    refine aL 37 22 21 40 (fun _ _ _ _ => mG_37) (fun _ => rfl) X hw rx1 dX12_inductionRow_143 rfl h (fun v10 rv10 h => ?_)
    refine pS 74 495 (by decide) L_74 rfl rfl rfl (fun _ _ _ _ _ => mSI_74) (by decide) X hw rv10 dX12_inductionRow_144 h (fun H locs u hw h => ?_)
    refine lv_iconst hx hb dX12_inductionRow_147 (v := jI 0) rfl ?_
    refine lv_istore hx hb dX12_inductionRow_148 hl (by decide) rfl (fun ls hl => ?_)
    have hl : lv_has ls 7 [(6, .int (jI 0)), (0, .ref (h0)), (1, .int (jI x1)), (2, .int (jI x2)), (4, .int (jI x4)), (5, .int (jI x5))] := hl
    exact b_inductionRow_150 X hRf hRl hret hR69 rx1 rx2 rx4 rx5 (by decide) hw (lv_sub hl [1, 2, 3, 4, 5, 0] rfl) h
  · refine lv_aload_n hx hb dX12_inductionRow_105 rfl (lv_at hl 0 rfl) ?_
    refine gA 140 287 (by decide) L_140 (fun _ _ => mF_140) rfl X hw dX12_inductionRow_106 ?_
    refine lv_iload hx hb dX12_inductionRow_109 (lv_at hl 5 rfl) ?_
    refine lv_aload_n hx hb dX12_inductionRow_111 rfl (lv_at hl 0 rfl) ?_
    refine lv_aload_n hx hb dX12_inductionRow_112 rfl (lv_at hl 0 rfl) ?_
    refine lv_aload_n hx hb dX12_inductionRow_113 rfl (lv_at hl 0 rfl) ?_
    refine gA 130 278 (by decide) L_130 (fun _ _ => mF_130) rfl X hw dX12_inductionRow_114 ?_
    refine lv_iload hx hb dX12_inductionRow_117 (lv_at hl 4 rfl) ?_
    refine aL 130 85 84 130 (fun _ _ _ _ => mG_130) (fun _ => rfl) X hw rx5 dX12_inductionRow_119 rfl h (fun v19 rv19 h => ?_)
    refine lv_iload hx hb dX12_inductionRow_120 (lv_at hl 5 rfl) ?_
    refine lv_iconst hx hb dX12_inductionRow_122 (v := jI 1) rfl ?_
    refine k_iadd hx hb dX12_inductionRow_123 h (fun r20 h => ?_)
    refine kcI (n := 2) (c_term rv19 r20 h) G_term E_term X hw (Nat.le_trans (Nat.le_of_ble_eq_true rfl) hRf) (Nat.le_trans (Nat.le_of_ble_eq_true rfl) hRl) rfl hl.1 (Nat.le_of_ble_eq_true rfl) rfl dX12_inductionRow_124 (fun v21 u H locs rv21 h hw => ?_)
    refine kcI (n := 1) (c_instance rv21 h) G_instance E_instance X hw (Nat.le_trans (Nat.le_of_ble_eq_true rfl) hRf) (Nat.le_trans (Nat.le_of_ble_eq_true rfl) hRl) rfl hl.1 (Nat.le_of_ble_eq_true rfl) rfl dX12_inductionRow_127 (fun v22 u H locs rv22 h hw => ?_)
    refine aS 140 88 87 6 (fun _ _ _ _ => mG_140) (fun _ => rfl) (fun _ _ _ _ _ _ => mSA_140) (by decide) X hw rx6 rv22 dX12_inductionRow_130 rfl h (fun H locs u hw h => ?_)
    refine k_iinc (k := 5) hx hb dX12_inductionRow_131 hl rfl (by decide) rfl h (fun ls r23 h hl => ?_)
    have hl : lv_has ls 7 [(6, .int (jI (x6 + 1))), (0, .ref (h0)), (1, .int (jI x1)), (2, .int (jI x2)), (4, .int (jI x4)), (5, .int (jI x5))] := hl
    refine lv_goto hx hb dX12_inductionRow_134 (tgt := 94) rfl ?_
    exact hR94 _ _ _ _ _ _ H locs ls rx1 rx2 rx4 rx5 r23 hw (lv_sub hl [1, 2, 3, 4, 5, 0] rfl) h

def w_inductionRow_69b (R69 : Int → Int → Int → Int → iST → Prop) (Q : iST → Prop) (x1 : Int) (x2 : Int) (x4 : Int) (x5 : Int) (u : iST) : Prop :=
  rd (u.1 131) (fun v5 => 
  br (v5 ≤ x5) (
    w_inductionRow_213 Q x4 u) (
    rd (u.1 61) (fun v7 => 
    br (v7 ≠ 0) (
      w_inductionRow_213 Q x4 u) (
      w_takeParameters x1 x2 (fun u => 
      w_inductionRow_94 R69 Q x1 x2 x4 x5 0 u) u))))
def w_inductionRow_69 (Q : iST → Prop) (x1 : Int) (x2 : Int) (x4 : Int) (x5 : Int) (u : iST) : Prop := ∀ R69 : Int → Int → Int → Int → iST → Prop, (∀ (x1 : Int) (x2 : Int) (x4 : Int) (x5 : Int) (u : iST), w_inductionRow_69b R69 Q x1 x2 x4 x5 u → R69 x1 x2 x4 x5 u) → R69 x1 x2 x4 x5 u
set_option maxRecDepth 20000 in
set_option maxHeartbeats 4000000 in
theorem b_inductionRow_69 (X : kX p m c cX12_inductionRow 7 s args D ca) (hRf : 6 ≤ R.frames) (hRl : 136 ≤ R.locals) {Q : iST → Prop} (hret : ∀ (u : iST) (H : Heap) (locs : List Loc) (ls : Array Slot) (pc : Nat), Q u → kW D ca A h0 ad H0 H locs u → decode cX12_inductionRow pc = .ok (.return_, 1) → W p l e R s m args below meth c H locs 0 0 Qf (F0 m pc ls [])) {x1 x2 x4 x5 : Int} (rx1 : inR x1) (rx2 : inR x2) (rx4 : inR x4) (rx5 : inR x5) (hw : kW D ca A h0 ad H0 H locs u) (hl : lv_has ls 7 [(0, .ref h0), (1, .int (jI x1)), (2, .int (jI x2)), (4, .int (jI x4)), (5, .int (jI x5))]) (h : w_inductionRow_69 Q x1 x2 x4 x5 u) : W p l e R s m args below meth c H locs 0 0 Qf (F0 m 69 ls []) := by
  refine h (fun x1 x2 x4 x5 u => ∀ (H : Heap) (locs : List Loc) (ls : Array Slot), inR x1 → inR x2 → inR x4 → inR x5 → kW D ca A h0 ad H0 H locs u → lv_has ls 7 [(0, .ref h0), (1, .int (jI x1)), (2, .int (jI x2)), (4, .int (jI x4)), (5, .int (jI x5))] → W p l e R s m args below meth c H locs 0 0 Qf (F0 m 69 ls [])) ?_ H locs ls rx1 rx2 rx4 rx5 hw hl
  clear h hl hw rx1 rx2 rx4 rx5
  intro x1 x2 x4 x5 u h H locs ls rx1 rx2 rx4 rx5 hw hl
  have hR69 : ∀ (x1 : Int) (x2 : Int) (x4 : Int) (x5 : Int) (u : iST) (H : Heap) (locs : List Loc) (ls : Array Slot), inR x1 → inR x2 → inR x4 → inR x5 → kW D ca A h0 ad H0 H locs u → lv_has ls 7 [(0, .ref h0), (1, .int (jI x1)), (2, .int (jI x2)), (4, .int (jI x4)), (5, .int (jI x5))] → (fun (x1 : Int) (x2 : Int) (x4 : Int) (x5 : Int) u => ∀ (H : Heap) (locs : List Loc) (ls : Array Slot), inR x1 → inR x2 → inR x4 → inR x5 → kW D ca A h0 ad H0 H locs u → lv_has ls 7 [(0, .ref h0), (1, .int (jI x1)), (2, .int (jI x2)), (4, .int (jI x4)), (5, .int (jI x5))] → W p l e R s m args below meth c H locs 0 0 Qf (F0 m 69 ls [])) x1 x2 x4 x5 u → W p l e R s m args below meth c H locs 0 0 Qf (F0 m 69 ls []) := fun x1 x2 x4 x5 u H locs ls rx1 rx2 rx4 rx5 hw hl h => h H locs ls rx1 rx2 rx4 rx5 hw hl
  have hx := X.1.1
  have hb := X.1.2.1
  unfold w_inductionRow_69b at h
  refine lv_iload hx hb dX12_inductionRow_69 (lv_at hl 4 rfl) ?_
  refine lv_aload_n hx hb dX12_inductionRow_71 rfl (lv_at hl 0 rfl) ?_
  refine gS 131 791 (by decide) L_131 (fun _ _ => mF_131) rfl X hw dX12_inductionRow_72 h (fun v5 rv5 h => ?_)
  refine k_icmp_ge hx hb rx5 rv5 dX12_inductionRow_75 (tgt := 213) rfl h (fun h => ?_) (fun h => ?_)
  · exact b_inductionRow_213 X hRf hRl hret rx4 hw (lv_sub hl [0, 3] rfl) h
  · refine lv_aload_n hx hb dX12_inductionRow_78 rfl (lv_at hl 0 rfl) ?_
    refine gS 61 480 (by decide) L_61 (fun _ _ => mF_61) rfl X hw dX12_inductionRow_79 h (fun v7 rv7 h => ?_)
    refine k_if_ne hx hb rv7 dX12_inductionRow_82 (tgt := 213) rfl h (fun h => ?_) (fun h => ?_)
    · exact b_inductionRow_213 X hRf hRl hret rx4 hw (lv_sub hl [0, 3] rfl) h
    · refine lv_aload_n hx hb dX12_inductionRow_85 rfl (lv_at hl 0 rfl) ?_
      refine lv_iload_n hx hb dX12_inductionRow_86 rfl (lv_at hl 1 rfl) ?_
      refine lv_iload_n hx hb dX12_inductionRow_87 rfl (lv_at hl 2 rfl) ?_
      refine kcV (n := 2) (c_takeParameters rx1 rx2 h) G_takeParameters E_takeParameters X hw (Nat.le_trans (Nat.le_of_ble_eq_true rfl) hRf) (Nat.le_trans (Nat.le_of_ble_eq_true rfl) hRl) rfl hl.1 (Nat.le_of_ble_eq_true rfl) rfl dX12_inductionRow_88 (fun u H locs h hw => ?_)
      refine lv_iconst hx hb dX12_inductionRow_91 (v := jI 0) rfl ?_
      refine lv_istore hx hb dX12_inductionRow_92 hl (by decide) rfl (fun ls hl => ?_)
      have hl : lv_has ls 7 [(6, .int (jI 0)), (0, .ref (h0)), (1, .int (jI x1)), (2, .int (jI x2)), (4, .int (jI x4)), (5, .int (jI x5))] := hl
      exact b_inductionRow_94 X hRf hRl hret hR69 rx1 rx2 rx4 rx5 (by decide) hw (lv_sub hl [1, 2, 3, 4, 5, 0] rfl) h

def w_inductionRow_3b (R3 : Int → Int → Int → Int → Int → iST → Prop) (Q : iST → Prop) (x1 : Int) (x2 : Int) (x3 : Int) (x4 : Int) (x5 : Int) (u : iST) : Prop :=
  bd x3 128 (rd (u.2.1 125 x3) (fun v1 => 
  br (v1 ≤ x5) (
    bd x3 128 (rd (u.2.1 123 x3) (fun v2 => 
    bd x1 40 (rd (u.2.1 36 x1) (fun v3 => 
    w_find v2 v3 (fun u => 
    w_inductionRow_69 Q x1 x2 x4 0 u) u))))) (
    w_takeParameters x1 x2 (fun u => 
    ov (64 * x3) (
    ov ((64 * x3) + x5) (
    bd ((64 * x3) + x5) 8192 (rd (u.2.1 124 ((64 * x3) + x5)) (fun v27 => 
    w_instance v27 (fun v28 u => 
    w_notOf v28 (fun v29 u => 
    w_put v29 (fun u => 
    ov (x5 + 1) (
    R3 x1 x2 x3 x4 (x5 + 1) u)) u) u) u))))) u)))
def w_inductionRow_3 (Q : iST → Prop) (x1 : Int) (x2 : Int) (x3 : Int) (x4 : Int) (x5 : Int) (u : iST) : Prop := ∀ R3 : Int → Int → Int → Int → Int → iST → Prop, (∀ (x1 : Int) (x2 : Int) (x3 : Int) (x4 : Int) (x5 : Int) (u : iST), w_inductionRow_3b R3 Q x1 x2 x3 x4 x5 u → R3 x1 x2 x3 x4 x5 u) → R3 x1 x2 x3 x4 x5 u
set_option maxRecDepth 20000 in
set_option maxHeartbeats 4000000 in
theorem b_inductionRow_3 (X : kX p m c cX12_inductionRow 7 s args D ca) (hRf : 6 ≤ R.frames) (hRl : 136 ≤ R.locals) {Q : iST → Prop} (hret : ∀ (u : iST) (H : Heap) (locs : List Loc) (ls : Array Slot) (pc : Nat), Q u → kW D ca A h0 ad H0 H locs u → decode cX12_inductionRow pc = .ok (.return_, 1) → W p l e R s m args below meth c H locs 0 0 Qf (F0 m pc ls [])) {x1 x2 x3 x4 x5 : Int} (rx1 : inR x1) (rx2 : inR x2) (rx3 : inR x3) (rx4 : inR x4) (rx5 : inR x5) (hw : kW D ca A h0 ad H0 H locs u) (hl : lv_has ls 7 [(0, .ref h0), (1, .int (jI x1)), (2, .int (jI x2)), (3, .int (jI x3)), (4, .int (jI x4)), (5, .int (jI x5))]) (h : w_inductionRow_3 Q x1 x2 x3 x4 x5 u) : W p l e R s m args below meth c H locs 0 0 Qf (F0 m 3 ls []) := by
  refine h (fun x1 x2 x3 x4 x5 u => ∀ (H : Heap) (locs : List Loc) (ls : Array Slot), inR x1 → inR x2 → inR x3 → inR x4 → inR x5 → kW D ca A h0 ad H0 H locs u → lv_has ls 7 [(0, .ref h0), (1, .int (jI x1)), (2, .int (jI x2)), (3, .int (jI x3)), (4, .int (jI x4)), (5, .int (jI x5))] → W p l e R s m args below meth c H locs 0 0 Qf (F0 m 3 ls [])) ?_ H locs ls rx1 rx2 rx3 rx4 rx5 hw hl
  clear h hl hw rx1 rx2 rx3 rx4 rx5
  intro x1 x2 x3 x4 x5 u h H locs ls rx1 rx2 rx3 rx4 rx5 hw hl
  have hR3 : ∀ (x1 : Int) (x2 : Int) (x3 : Int) (x4 : Int) (x5 : Int) (u : iST) (H : Heap) (locs : List Loc) (ls : Array Slot), inR x1 → inR x2 → inR x3 → inR x4 → inR x5 → kW D ca A h0 ad H0 H locs u → lv_has ls 7 [(0, .ref h0), (1, .int (jI x1)), (2, .int (jI x2)), (3, .int (jI x3)), (4, .int (jI x4)), (5, .int (jI x5))] → (fun (x1 : Int) (x2 : Int) (x3 : Int) (x4 : Int) (x5 : Int) u => ∀ (H : Heap) (locs : List Loc) (ls : Array Slot), inR x1 → inR x2 → inR x3 → inR x4 → inR x5 → kW D ca A h0 ad H0 H locs u → lv_has ls 7 [(0, .ref h0), (1, .int (jI x1)), (2, .int (jI x2)), (3, .int (jI x3)), (4, .int (jI x4)), (5, .int (jI x5))] → W p l e R s m args below meth c H locs 0 0 Qf (F0 m 3 ls [])) x1 x2 x3 x4 x5 u → W p l e R s m args below meth c H locs 0 0 Qf (F0 m 3 ls []) := fun x1 x2 x3 x4 x5 u H locs ls rx1 rx2 rx3 rx4 rx5 hw hl h => h H locs ls rx1 rx2 rx3 rx4 rx5 hw hl
  have hx := X.1.1
  have hb := X.1.2.1
  unfold w_inductionRow_3b at h
  refine lv_iload hx hb dX12_inductionRow_3 (lv_at hl 5 rfl) ?_
  refine lv_aload_n hx hb dX12_inductionRow_5 rfl (lv_at hl 0 rfl) ?_
  refine gA 125 266 (by decide) L_125 (fun _ _ => mF_125) rfl X hw dX12_inductionRow_6 ?_
  refine lv_iload_n hx hb dX12_inductionRow_9 rfl (lv_at hl 3 rfl) ?_
  refine aL 125 81 80 128 (fun _ _ _ _ => mG_125) (fun _ => rfl) X hw rx3 dX12_inductionRow_10 rfl h (fun v1 rv1 h => ?_)
  refine k_icmp_ge hx hb rx5 rv1 dX12_inductionRow_11 (tgt := 50) rfl h (fun h => ?_) (fun h => ?_)
  · refine lv_aload_n hx hb dX12_inductionRow_50 rfl (lv_at hl 0 rfl) ?_
    refine lv_aload_n hx hb dX12_inductionRow_51 rfl (lv_at hl 0 rfl) ?_
    refine gA 123 260 (by decide) L_123 (fun _ _ => mF_123) rfl X hw dX12_inductionRow_52 ?_
    refine lv_iload_n hx hb dX12_inductionRow_55 rfl (lv_at hl 3 rfl) ?_
    refine aL 123 79 78 128 (fun _ _ _ _ => mG_123) (fun _ => rfl) X hw rx3 dX12_inductionRow_56 rfl h (fun v2 rv2 h => ?_)
    refine lv_aload_n hx hb dX12_inductionRow_57 rfl (lv_at hl 0 rfl) ?_
    refine gA 36 78 (by decide) L_36 (fun _ _ => mF_36) rfl X hw dX12_inductionRow_58 ?_
    refine lv_iload_n hx hb dX12_inductionRow_61 rfl (lv_at hl 1 rfl) ?_
    refine aL 36 21 20 40 (fun _ _ _ _ => mG_36) (fun _ => rfl) X hw rx1 dX12_inductionRow_62 rfl h (fun v3 rv3 h => ?_)
    refine kcV (n := 2) (c_find rv2 rv3 h) G_find E_find X hw (Nat.le_trans (Nat.le_of_ble_eq_true rfl) hRf) (Nat.le_trans (Nat.le_of_ble_eq_true rfl) hRl) rfl hl.1 (Nat.le_of_ble_eq_true rfl) rfl dX12_inductionRow_63 (fun u H locs h hw => ?_)
    refine lv_iconst hx hb dX12_inductionRow_66 (v := jI 0) rfl ?_
    refine lv_istore hx hb dX12_inductionRow_67 hl (by decide) rfl (fun ls hl => ?_)
    have hl : lv_has ls 7 [(5, .int (jI 0)), (0, .ref (h0)), (1, .int (jI x1)), (2, .int (jI x2)), (3, .int (jI x3)), (4, .int (jI x4))] := hl
    exact b_inductionRow_69 X hRf hRl hret rx1 rx2 rx4 (by decide) hw (lv_sub hl [1, 2, 3, 5, 0] rfl) h
  · refine lv_aload_n hx hb dX12_inductionRow_14 rfl (lv_at hl 0 rfl) ?_
    refine lv_iload_n hx hb dX12_inductionRow_15 rfl (lv_at hl 1 rfl) ?_
    refine lv_iload_n hx hb dX12_inductionRow_16 rfl (lv_at hl 2 rfl) ?_
    refine kcV (n := 2) (c_takeParameters rx1 rx2 h) G_takeParameters E_takeParameters X hw (Nat.le_trans (Nat.le_of_ble_eq_true rfl) hRf) (Nat.le_trans (Nat.le_of_ble_eq_true rfl) hRl) rfl hl.1 (Nat.le_of_ble_eq_true rfl) rfl dX12_inductionRow_17 (fun u H locs h hw => ?_)
    refine lv_aload_n hx hb dX12_inductionRow_20 rfl (lv_at hl 0 rfl) ?_
    refine lv_aload_n hx hb dX12_inductionRow_21 rfl (lv_at hl 0 rfl) ?_
    refine lv_aload_n hx hb dX12_inductionRow_22 rfl (lv_at hl 0 rfl) ?_
    refine lv_aload_n hx hb dX12_inductionRow_23 rfl (lv_at hl 0 rfl) ?_
    refine gA 124 263 (by decide) L_124 (fun _ _ => mF_124) rfl X hw dX12_inductionRow_24 ?_
    refine lv_bipush hx hb dX12_inductionRow_27 (v := jI 64) rfl ?_
    refine lv_iload_n hx hb dX12_inductionRow_29 rfl (lv_at hl 3 rfl) ?_
    refine k_imul hx hb dX12_inductionRow_30 h (fun r25 h => ?_)
    refine lv_iload hx hb dX12_inductionRow_31 (lv_at hl 5 rfl) ?_
    refine k_iadd hx hb dX12_inductionRow_33 h (fun r26 h => ?_)
    refine aL 124 80 79 8192 (fun _ _ _ _ => mG_124) (fun _ => rfl) X hw r26 dX12_inductionRow_34 rfl h (fun v27 rv27 h => ?_)
    refine kcI (n := 1) (c_instance rv27 h) G_instance E_instance X hw (Nat.le_trans (Nat.le_of_ble_eq_true rfl) hRf) (Nat.le_trans (Nat.le_of_ble_eq_true rfl) hRl) rfl hl.1 (Nat.le_of_ble_eq_true rfl) rfl dX12_inductionRow_35 (fun v28 u H locs rv28 h hw => ?_)
    refine kcI (n := 1) (c_notOf rv28 h) G_notOf E_notOf X hw (Nat.le_trans (Nat.le_of_ble_eq_true rfl) hRf) (Nat.le_trans (Nat.le_of_ble_eq_true rfl) hRl) rfl hl.1 (Nat.le_of_ble_eq_true rfl) rfl dX12_inductionRow_38 (fun v29 u H locs rv29 h hw => ?_)
    refine kcV (n := 1) (c_put rv29 h) G_put E_put X hw (Nat.le_trans (Nat.le_of_ble_eq_true rfl) hRf) (Nat.le_trans (Nat.le_of_ble_eq_true rfl) hRl) rfl hl.1 (Nat.le_of_ble_eq_true rfl) rfl dX12_inductionRow_41 (fun u H locs h hw => ?_)
    refine k_iinc (k := 5) hx hb dX12_inductionRow_44 hl rfl (by decide) rfl h (fun ls r31 h hl => ?_)
    have hl : lv_has ls 7 [(5, .int (jI (x5 + 1))), (0, .ref (h0)), (1, .int (jI x1)), (2, .int (jI x2)), (3, .int (jI x3)), (4, .int (jI x4))] := hl
    refine lv_goto hx hb dX12_inductionRow_47 (tgt := 3) rfl ?_
    exact hR3 _ _ _ _ _ _ H locs ls rx1 rx2 rx3 rx4 r31 hw (lv_sub hl [1, 2, 3, 4, 5, 0] rfl) h

def w_inductionRow (a0 : Int) (a1 : Int) (a2 : Int) (a3 : Int) (Q : iST → Prop) (u : iST) : Prop :=
  w_inductionRow_3 Q a0 a1 a2 a3 0 u
set_option maxRecDepth 20000 in
set_option maxHeartbeats 4000000 in
theorem b_inductionRow_s (X : kX p m c cX12_inductionRow 7 s args D ca) (hRf : 6 ≤ R.frames) (hRl : 136 ≤ R.locals) {Q : iST → Prop} (hret : ∀ (u : iST) (H : Heap) (locs : List Loc) (ls : Array Slot) (pc : Nat), Q u → kW D ca A h0 ad H0 H locs u → decode cX12_inductionRow pc = .ok (.return_, 1) → W p l e R s m args below meth c H locs 0 0 Qf (F0 m pc ls [])) {a0 a1 a2 a3 : Int} (ra0 : inR a0) (ra1 : inR a1) (ra2 : inR a2) (ra3 : inR a3) (hw : kW D ca A h0 ad H0 H locs u) (hl : lv_has ls 7 [(0, .ref h0), (1, .int (jI a0)), (2, .int (jI a1)), (3, .int (jI a2)), (4, .int (jI a3))]) (h : w_inductionRow a0 a1 a2 a3 Q u) : W p l e R s m args below meth c H locs 0 0 Qf (F0 m 0 ls []) := by
  have hx := X.1.1
  have hb := X.1.2.1
  unfold w_inductionRow at h
  refine lv_iconst hx hb dX12_inductionRow_0 (v := jI 0) rfl ?_
  refine lv_istore hx hb dX12_inductionRow_1 hl (by decide) rfl (fun ls hl => ?_)
  have hl : lv_has ls 7 [(5, .int (jI 0)), (0, .ref (h0)), (1, .int (jI a0)), (2, .int (jI a1)), (3, .int (jI a2)), (4, .int (jI a3))] := hl
  exact b_inductionRow_3 X hRf hRl hret ra0 ra1 ra2 ra3 (by decide) hw (lv_sub hl [1, 2, 3, 4, 5, 0] rfl) h

end
theorem c_inductionRow {l : Launch} {a0 : Int} {a1 : Int} {a2 : Int} {a3 : Int} (ra0 : inR a0) (ra1 : inR a1) (ra2 : inR a2) (ra3 : inR a3) {Q : iST → Prop} {u : iST} (h : w_inductionRow a0 a1 a2 a3 Q u) : kMV l yX12_inductionRow (.code yX12_inductionRow cX12_inductionRow 7 none :: wsM) { frames := 6, cells := 0, slots := 0, locals := 136 } [.int (jI a0), .int (jI a1), .int (jI a2), .int (jI a3)] Q u := kMV_of rfl (fun _ => Nat.le_of_ble_eq_true rfl) (fun X hRf hRl hret hw hl => b_inductionRow_s X hRf hRl hret ra0 ra1 ra2 ra3 hw hl h)

/-! useRows -/
theorem dX12_useRows_0 : decode cX12_useRows 0 = .ok (.iconst 0, 1) := by decide +kernel
theorem dX12_useRows_1 : decode cX12_useRows 1 = .ok (.istore_n 1, 1) := by decide +kernel
theorem dX12_useRows_2 : decode cX12_useRows 2 = .ok (.iload_n 1, 1) := by decide +kernel
theorem dX12_useRows_3 : decode cX12_useRows 3 = .ok (.aload_n 0, 1) := by decide +kernel
theorem dX12_useRows_4 : decode cX12_useRows 4 = .ok (.getfield 878, 3) := by decide +kernel
theorem dX12_useRows_7 : decode cX12_useRows 7 = .ok (.if_icmp .ge 119, 3) := by decide +kernel
theorem dX12_useRows_10 : decode cX12_useRows 10 = .ok (.aload_n 0, 1) := by decide +kernel
theorem dX12_useRows_11 : decode cX12_useRows 11 = .ok (.getfield 480, 3) := by decide +kernel
theorem dX12_useRows_14 : decode cX12_useRows 14 = .ok (.ifCond .ne 112, 3) := by decide +kernel
theorem dX12_useRows_17 : decode cX12_useRows 17 = .ok (.aload_n 0, 1) := by decide +kernel
theorem dX12_useRows_18 : decode cX12_useRows 18 = .ok (.iconst 0, 1) := by decide +kernel
theorem dX12_useRows_19 : decode cX12_useRows 19 = .ok (.putfield 495, 3) := by decide +kernel
theorem dX12_useRows_22 : decode cX12_useRows 22 = .ok (.aload_n 0, 1) := by decide +kernel
theorem dX12_useRows_23 : decode cX12_useRows 23 = .ok (.getfield 284, 3) := by decide +kernel
theorem dX12_useRows_26 : decode cX12_useRows 26 = .ok (.iload_n 1, 1) := by decide +kernel
theorem dX12_useRows_27 : decode cX12_useRows 27 = .ok (.iaload, 1) := by decide +kernel
theorem dX12_useRows_28 : decode cX12_useRows 28 = .ok (.istore_n 2, 1) := by decide +kernel
theorem dX12_useRows_29 : decode cX12_useRows 29 = .ok (.iload_n 2, 1) := by decide +kernel
theorem dX12_useRows_30 : decode cX12_useRows 30 = .ok (.ifCond .eq 67, 3) := by decide +kernel
theorem dX12_useRows_33 : decode cX12_useRows 33 = .ok (.aload_n 0, 1) := by decide +kernel
theorem dX12_useRows_34 : decode cX12_useRows 34 = .ok (.getfield 157, 3) := by decide +kernel
theorem dX12_useRows_37 : decode cX12_useRows 37 = .ok (.aload_n 0, 1) := by decide +kernel
theorem dX12_useRows_38 : decode cX12_useRows 38 = .ok (.getfield 495, 3) := by decide +kernel
theorem dX12_useRows_41 : decode cX12_useRows 41 = .ok (.aload_n 0, 1) := by decide +kernel
theorem dX12_useRows_42 : decode cX12_useRows 42 = .ok (.getfield 8, 3) := by decide +kernel
theorem dX12_useRows_45 : decode cX12_useRows 45 = .ok (.aload_n 0, 1) := by decide +kernel
theorem dX12_useRows_46 : decode cX12_useRows 46 = .ok (.getfield 8, 3) := by decide +kernel
theorem dX12_useRows_49 : decode cX12_useRows 49 = .ok (.iload_n 2, 1) := by decide +kernel
theorem dX12_useRows_50 : decode cX12_useRows 50 = .ok (.iaload, 1) := by decide +kernel
theorem dX12_useRows_51 : decode cX12_useRows 51 = .ok (.iaload, 1) := by decide +kernel
theorem dX12_useRows_52 : decode cX12_useRows 52 = .ok (.iastore, 1) := by decide +kernel
theorem dX12_useRows_53 : decode cX12_useRows 53 = .ok (.aload_n 0, 1) := by decide +kernel
theorem dX12_useRows_54 : decode cX12_useRows 54 = .ok (.getfield 160, 3) := by decide +kernel
theorem dX12_useRows_57 : decode cX12_useRows 57 = .ok (.aload_n 0, 1) := by decide +kernel
theorem dX12_useRows_58 : decode cX12_useRows 58 = .ok (.getfield 495, 3) := by decide +kernel
theorem dX12_useRows_61 : decode cX12_useRows 61 = .ok (.aload_n 0, 1) := by decide +kernel
theorem dX12_useRows_62 : decode cX12_useRows 62 = .ok (.aload_n 0, 1) := by decide +kernel
theorem dX12_useRows_63 : decode cX12_useRows 63 = .ok (.aload_n 0, 1) := by decide +kernel
theorem dX12_useRows_64 : decode cX12_useRows 64 = .ok (.getfield 8, 3) := by decide +kernel
theorem dX12_useRows_67 : decode cX12_useRows 67 = .ok (.iload_n 2, 1) := by decide +kernel
theorem dX12_useRows_68 : decode cX12_useRows 68 = .ok (.iaload, 1) := by decide +kernel
theorem dX12_useRows_69 : decode cX12_useRows 69 = .ok (.iconst 1, 1) := by decide +kernel
theorem dX12_useRows_70 : decode cX12_useRows 70 = .ok (.invokevirtual 471, 3) := by decide +kernel
theorem dX12_useRows_73 : decode cX12_useRows 73 = .ok (.invokevirtual 815, 3) := by decide +kernel
theorem dX12_useRows_76 : decode cX12_useRows 76 = .ok (.iastore, 1) := by decide +kernel
theorem dX12_useRows_77 : decode cX12_useRows 77 = .ok (.aload_n 0, 1) := by decide +kernel
theorem dX12_useRows_78 : decode cX12_useRows 78 = .ok (.dup, 1) := by decide +kernel
theorem dX12_useRows_79 : decode cX12_useRows 79 = .ok (.getfield 495, 3) := by decide +kernel
theorem dX12_useRows_82 : decode cX12_useRows 82 = .ok (.iconst 1, 1) := by decide +kernel
theorem dX12_useRows_83 : decode cX12_useRows 83 = .ok (.iadd, 1) := by decide +kernel
theorem dX12_useRows_84 : decode cX12_useRows 84 = .ok (.putfield 495, 3) := by decide +kernel
theorem dX12_useRows_87 : decode cX12_useRows 87 = .ok (.aload_n 0, 1) := by decide +kernel
theorem dX12_useRows_88 : decode cX12_useRows 88 = .ok (.getfield 14, 3) := by decide +kernel
theorem dX12_useRows_91 : decode cX12_useRows 91 = .ok (.iload_n 2, 1) := by decide +kernel
theorem dX12_useRows_92 : decode cX12_useRows 92 = .ok (.iaload, 1) := by decide +kernel
theorem dX12_useRows_93 : decode cX12_useRows 93 = .ok (.istore_n 2, 1) := by decide +kernel
theorem dX12_useRows_94 : decode cX12_useRows 94 = .ok (.goto (-65), 3) := by decide +kernel
theorem dX12_useRows_97 : decode cX12_useRows 97 = .ok (.aload_n 0, 1) := by decide +kernel
theorem dX12_useRows_98 : decode cX12_useRows 98 = .ok (.aload_n 0, 1) := by decide +kernel
theorem dX12_useRows_99 : decode cX12_useRows 99 = .ok (.aload_n 0, 1) := by decide +kernel
theorem dX12_useRows_100 : decode cX12_useRows 100 = .ok (.aload_n 0, 1) := by decide +kernel
theorem dX12_useRows_101 : decode cX12_useRows 101 = .ok (.getfield 100, 3) := by decide +kernel
theorem dX12_useRows_104 : decode cX12_useRows 104 = .ok (.aload_n 0, 1) := by decide +kernel
theorem dX12_useRows_105 : decode cX12_useRows 105 = .ok (.getfield 281, 3) := by decide +kernel
theorem dX12_useRows_108 : decode cX12_useRows 108 = .ok (.iload_n 1, 1) := by decide +kernel
theorem dX12_useRows_109 : decode cX12_useRows 109 = .ok (.iaload, 1) := by decide +kernel
theorem dX12_useRows_110 : decode cX12_useRows 110 = .ok (.iaload, 1) := by decide +kernel
theorem dX12_useRows_111 : decode cX12_useRows 111 = .ok (.invokevirtual 712, 3) := by decide +kernel
theorem dX12_useRows_114 : decode cX12_useRows 114 = .ok (.invokevirtual 659, 3) := by decide +kernel
theorem dX12_useRows_117 : decode cX12_useRows 117 = .ok (.invokevirtual 739, 3) := by decide +kernel
theorem dX12_useRows_120 : decode cX12_useRows 120 = .ok (.iinc 1 1, 3) := by decide +kernel
theorem dX12_useRows_123 : decode cX12_useRows 123 = .ok (.goto (-121), 3) := by decide +kernel
theorem dX12_useRows_126 : decode cX12_useRows 126 = .ok (.return_, 1) := by decide +kernel

section
variable {p : Program} {l : Launch} {e : Env} {R : Room} {s : State} {m : MethodId} {args : Array Value} {below : List Frame} {meth : Method} {c : Code} {H : Heap} {locs : List Loc} {Qf : State → Prop}
variable {ls : Array Slot} {D : va_G} {ca : Nat → ClassId} {A : Nat → Prop} {h0 : Nat} {ad : Nat → Nat} {H0 : Heap} {u : iST}
def w_useRows_29b (R2 : Int → iST → Prop) (R29 : Int → Int → iST → Prop) (Q : iST → Prop) (x1 : Int) (x2 : Int) (u : iST) : Prop :=
  br (x2 = 0) (
    bd x1 400 (rd (u.2.1 137 x1) (fun v4 => 
    bd v4 60 (rd (u.2.1 44 v4) (fun v5 => 
    w_instance v5 (fun v6 u => 
    w_notOf v6 (fun v7 u => 
    w_put v7 (fun u => 
    ov (x1 + 1) (
    R2 (x1 + 1) u)) u) u) u))))) (
    rd (u.1 74) (fun v10 => 
    bd x2 452000 (rd (u.2.1 0 x2) (fun v11 => 
    bd v11 452000 (rd (u.2.1 0 v11) (fun v12 => 
    bd v10 400 (sw (iA u 72 v10 v12) (fun u => 
    rd (u.1 74) (fun v13 => 
    bd x2 452000 (rd (u.2.1 0 x2) (fun v14 => 
    w_nth v14 1 (fun v15 u => 
    w_termOf v15 (fun v16 u => 
    bd v13 400 (sw (iA u 73 v13 v16) (fun u => 
    rd (u.1 74) (fun v17 => 
    ov (v17 + 1) (
    sw (iI u 74 (v17 + 1)) (fun u => 
    bd x2 452000 (rd (u.2.1 1 x2) (fun v19 => 
    R29 x1 v19 u)))))))) u) u)))))))))))
def w_useRows_29 (R2 : Int → iST → Prop) (Q : iST → Prop) (x1 : Int) (x2 : Int) (u : iST) : Prop := ∀ R29 : Int → Int → iST → Prop, (∀ (x1 : Int) (x2 : Int) (u : iST), w_useRows_29b R2 R29 Q x1 x2 u → R29 x1 x2 u) → R29 x1 x2 u
set_option maxRecDepth 20000 in
set_option maxHeartbeats 4000000 in
theorem b_useRows_29 (X : kX p m c cX12_useRows 3 s args D ca) (hRf : 7 ≤ R.frames) (hRl : 159 ≤ R.locals) {Q : iST → Prop} (hret : ∀ (u : iST) (H : Heap) (locs : List Loc) (ls : Array Slot) (pc : Nat), Q u → kW D ca A h0 ad H0 H locs u → decode cX12_useRows pc = .ok (.return_, 1) → W p l e R s m args below meth c H locs 0 0 Qf (F0 m pc ls [])) {R2 : Int → iST → Prop} (hR2 : ∀ (x1 : Int) (u : iST) (H : Heap) (locs : List Loc) (ls : Array Slot), inR x1 → kW D ca A h0 ad H0 H locs u → lv_has ls 3 [(0, .ref h0), (1, .int (jI x1))] → R2 x1 u → W p l e R s m args below meth c H locs 0 0 Qf (F0 m 2 ls [])) {x1 x2 : Int} (rx1 : inR x1) (rx2 : inR x2) (hw : kW D ca A h0 ad H0 H locs u) (hl : lv_has ls 3 [(0, .ref h0), (1, .int (jI x1)), (2, .int (jI x2))]) (h : w_useRows_29 R2 Q x1 x2 u) : W p l e R s m args below meth c H locs 0 0 Qf (F0 m 29 ls []) := by
  refine h (fun x1 x2 u => ∀ (H : Heap) (locs : List Loc) (ls : Array Slot), inR x1 → inR x2 → kW D ca A h0 ad H0 H locs u → lv_has ls 3 [(0, .ref h0), (1, .int (jI x1)), (2, .int (jI x2))] → W p l e R s m args below meth c H locs 0 0 Qf (F0 m 29 ls [])) ?_ H locs ls rx1 rx2 hw hl
  clear h hl hw rx1 rx2
  intro x1 x2 u h H locs ls rx1 rx2 hw hl
  have hR29 : ∀ (x1 : Int) (x2 : Int) (u : iST) (H : Heap) (locs : List Loc) (ls : Array Slot), inR x1 → inR x2 → kW D ca A h0 ad H0 H locs u → lv_has ls 3 [(0, .ref h0), (1, .int (jI x1)), (2, .int (jI x2))] → (fun (x1 : Int) (x2 : Int) u => ∀ (H : Heap) (locs : List Loc) (ls : Array Slot), inR x1 → inR x2 → kW D ca A h0 ad H0 H locs u → lv_has ls 3 [(0, .ref h0), (1, .int (jI x1)), (2, .int (jI x2))] → W p l e R s m args below meth c H locs 0 0 Qf (F0 m 29 ls [])) x1 x2 u → W p l e R s m args below meth c H locs 0 0 Qf (F0 m 29 ls []) := fun x1 x2 u H locs ls rx1 rx2 hw hl h => h H locs ls rx1 rx2 hw hl
  have hx := X.1.1
  have hb := X.1.2.1
  unfold w_useRows_29b at h
  refine lv_iload_n hx hb dX12_useRows_29 rfl (lv_at hl 2 rfl) ?_
  refine k_if_eq hx hb rx2 dX12_useRows_30 (tgt := 97) rfl h (fun h => ?_) (fun h => ?_)
  · refine lv_aload_n hx hb dX12_useRows_97 rfl (lv_at hl 0 rfl) ?_
    refine lv_aload_n hx hb dX12_useRows_98 rfl (lv_at hl 0 rfl) ?_
    refine lv_aload_n hx hb dX12_useRows_99 rfl (lv_at hl 0 rfl) ?_
    refine lv_aload_n hx hb dX12_useRows_100 rfl (lv_at hl 0 rfl) ?_
    refine gA 44 100 (by decide) L_44 (fun _ _ => mF_44) rfl X hw dX12_useRows_101 ?_
    refine lv_aload_n hx hb dX12_useRows_104 rfl (lv_at hl 0 rfl) ?_
    refine gA 137 281 (by decide) L_137 (fun _ _ => mF_137) rfl X hw dX12_useRows_105 ?_
    refine lv_iload_n hx hb dX12_useRows_108 rfl (lv_at hl 1 rfl) ?_
    refine aL 137 86 85 400 (fun _ _ _ _ => mG_137) (fun _ => rfl) X hw rx1 dX12_useRows_109 rfl h (fun v4 rv4 h => ?_)
    refine aL 44 28 27 60 (fun _ _ _ _ => mG_44) (fun _ => rfl) X hw rv4 dX12_useRows_110 rfl h (fun v5 rv5 h => ?_)
    refine kcI (n := 1) (c_instance rv5 h) G_instance E_instance X hw (Nat.le_trans (Nat.le_of_ble_eq_true rfl) hRf) (Nat.le_trans (Nat.le_of_ble_eq_true rfl) hRl) rfl hl.1 (Nat.le_of_ble_eq_true rfl) rfl dX12_useRows_111 (fun v6 u H locs rv6 h hw => ?_)
    refine kcI (n := 1) (c_notOf rv6 h) G_notOf E_notOf X hw (Nat.le_trans (Nat.le_of_ble_eq_true rfl) hRf) (Nat.le_trans (Nat.le_of_ble_eq_true rfl) hRl) rfl hl.1 (Nat.le_of_ble_eq_true rfl) rfl dX12_useRows_114 (fun v7 u H locs rv7 h hw => ?_)
    refine kcV (n := 1) (c_put rv7 h) G_put E_put X hw (Nat.le_trans (Nat.le_of_ble_eq_true rfl) hRf) (Nat.le_trans (Nat.le_of_ble_eq_true rfl) hRl) rfl hl.1 (Nat.le_of_ble_eq_true rfl) rfl dX12_useRows_117 (fun u H locs h hw => ?_)
    refine k_iinc (k := 1) hx hb dX12_useRows_120 hl rfl (by decide) rfl h (fun ls r9 h hl => ?_)
    have hl : lv_has ls 3 [(1, .int (jI (x1 + 1))), (0, .ref (h0)), (2, .int (jI x2))] := hl
    refine lv_goto hx hb dX12_useRows_123 (tgt := 2) rfl ?_
    exact hR2 _ _ H locs ls r9 hw (lv_sub hl [1, 0] rfl) h
  · refine lv_aload_n hx hb dX12_useRows_33 rfl (lv_at hl 0 rfl) ?_
    refine gA 72 157 (by decide) L_72 (fun _ _ => mF_72) rfl X hw dX12_useRows_34 ?_
    refine lv_aload_n hx hb dX12_useRows_37 rfl (lv_at hl 0 rfl) ?_
    refine gS 74 495 (by decide) L_74 (fun _ _ => mF_74) rfl X hw dX12_useRows_38 h (fun v10 rv10 h => ?_)
    refine lv_aload_n hx hb dX12_useRows_41 rfl (lv_at hl 0 rfl) ?_
    refine gA 0 8 (by decide) L_0 (fun _ _ => mF_0) rfl X hw dX12_useRows_42 ?_
    refine lv_aload_n hx hb dX12_useRows_45 rfl (lv_at hl 0 rfl) ?_
    refine gA 0 8 (by decide) L_0 (fun _ _ => mF_0) rfl X hw dX12_useRows_46 ?_
    refine lv_iload_n hx hb dX12_useRows_49 rfl (lv_at hl 2 rfl) ?_
    refine aL 0 1 0 452000 (fun _ _ _ _ => mG_0) (fun _ => rfl) X hw rx2 dX12_useRows_50 rfl h (fun v11 rv11 h => ?_)
    refine aL 0 1 0 452000 (fun _ _ _ _ => mG_0) (fun _ => rfl) X hw rv11 dX12_useRows_51 rfl h (fun v12 rv12 h => ?_)
    refine aS 72 45 44 400 (fun _ _ _ _ => mG_72) (fun _ => rfl) (fun _ _ _ _ _ _ => mSA_72) (by decide) X hw rv10 rv12 dX12_useRows_52 rfl h (fun H locs u hw h => ?_)
    refine lv_aload_n hx hb dX12_useRows_53 rfl (lv_at hl 0 rfl) ?_
    refine gA 73 160 (by decide) L_73 (fun _ _ => mF_73) rfl X hw dX12_useRows_54 ?_
    refine lv_aload_n hx hb dX12_useRows_57 rfl (lv_at hl 0 rfl) ?_
    refine gS 74 495 (by decide) L_74 (fun _ _ => mF_74) rfl X hw dX12_useRows_58 h (fun v13 rv13 h => ?_)
    refine lv_aload_n hx hb dX12_useRows_61 rfl (lv_at hl 0 rfl) ?_
    refine lv_aload_n hx hb dX12_useRows_62 rfl (lv_at hl 0 rfl) ?_
    refine lv_aload_n hx hb dX12_useRows_63 rfl (lv_at hl 0 rfl) ?_
    refine gA 0 8 (by decide) L_0 (fun _ _ => mF_0) rfl X hw dX12_useRows_64 ?_
    refine lv_iload_n hx hb dX12_useRows_67 rfl (lv_at hl 2 rfl) ?_
    refine aL 0 1 0 452000 (fun _ _ _ _ => mG_0) (fun _ => rfl) X hw rx2 dX12_useRows_68 rfl h (fun v14 rv14 h => ?_)
    refine lv_iconst hx hb dX12_useRows_69 (v := jI 1) rfl ?_
    refine kcI (n := 2) (c_nth rv14 (by decide) h) G_nth E_nth X hw (Nat.le_trans (Nat.le_of_ble_eq_true rfl) hRf) (Nat.le_trans (Nat.le_of_ble_eq_true rfl) hRl) rfl hl.1 (Nat.le_of_ble_eq_true rfl) rfl dX12_useRows_70 (fun v15 u H locs rv15 h hw => ?_)
    refine kcI (n := 1) (c_termOf rv15 h) G_termOf E_termOf X hw (Nat.le_trans (Nat.le_of_ble_eq_true rfl) hRf) (Nat.le_trans (Nat.le_of_ble_eq_true rfl) hRl) rfl hl.1 (Nat.le_of_ble_eq_true rfl) rfl dX12_useRows_73 (fun v16 u H locs rv16 h hw => ?_)
    refine aS 73 46 45 400 (fun _ _ _ _ => mG_73) (fun _ => rfl) (fun _ _ _ _ _ _ => mSA_73) (by decide) X hw rv13 rv16 dX12_useRows_76 rfl h (fun H locs u hw h => ?_)
    refine lv_aload_n hx hb dX12_useRows_77 rfl (lv_at hl 0 rfl) ?_
    refine lv_dup hx hb dX12_useRows_78 rfl ?_
    refine gS 74 495 (by decide) L_74 (fun _ _ => mF_74) rfl X hw dX12_useRows_79 h (fun v17 rv17 h => ?_)
    refine lv_iconst hx hb dX12_useRows_82 (v := jI 1) rfl ?_
    refine k_iadd hx hb dX12_useRows_83 h (fun r18 h => ?_)
    refine pS 74 495 (by decide) L_74 rfl rfl rfl (fun _ _ _ _ _ => mSI_74) (by decide) X hw r18 dX12_useRows_84 h (fun H locs u hw h => ?_)
    refine lv_aload_n hx hb dX12_useRows_87 rfl (lv_at hl 0 rfl) ?_
    refine gA 1 14 (by decide) L_1 (fun _ _ => mF_1) rfl X hw dX12_useRows_88 ?_
    refine lv_iload_n hx hb dX12_useRows_91 rfl (lv_at hl 2 rfl) ?_
    refine aL 1 2 1 452000 (fun _ _ _ _ => mG_1) (fun _ => rfl) X hw rx2 dX12_useRows_92 rfl h (fun v19 rv19 h => ?_)
    refine lv_istore_n hx hb dX12_useRows_93 rfl hl (by decide) rfl (fun ls hl => ?_)
    have hl : lv_has ls 3 [(2, .int (jI v19)), (0, .ref (h0)), (1, .int (jI x1))] := hl
    refine lv_goto hx hb dX12_useRows_94 (tgt := 29) rfl ?_
    exact hR29 _ _ _ H locs ls rx1 rv19 hw (lv_sub hl [1, 2, 0] rfl) h

def w_useRows_2b (R2 : Int → iST → Prop) (Q : iST → Prop) (x1 : Int) (u : iST) : Prop :=
  rd (u.1 139) (fun v1 => 
  br (v1 ≤ x1) (
    Q u) (
    rd (u.1 61) (fun v2 => 
    br (v2 ≠ 0) (
      Q u) (
      sw (iI u 74 0) (fun u => 
      bd x1 400 (rd (u.2.1 138 x1) (fun v3 => 
      w_useRows_29 R2 Q x1 v3 u)))))))
def w_useRows_2 (Q : iST → Prop) (x1 : Int) (u : iST) : Prop := ∀ R2 : Int → iST → Prop, (∀ (x1 : Int) (u : iST), w_useRows_2b R2 Q x1 u → R2 x1 u) → R2 x1 u
set_option maxRecDepth 20000 in
set_option maxHeartbeats 4000000 in
theorem b_useRows_2 (X : kX p m c cX12_useRows 3 s args D ca) (hRf : 7 ≤ R.frames) (hRl : 159 ≤ R.locals) {Q : iST → Prop} (hret : ∀ (u : iST) (H : Heap) (locs : List Loc) (ls : Array Slot) (pc : Nat), Q u → kW D ca A h0 ad H0 H locs u → decode cX12_useRows pc = .ok (.return_, 1) → W p l e R s m args below meth c H locs 0 0 Qf (F0 m pc ls [])) {x1 : Int} (rx1 : inR x1) (hw : kW D ca A h0 ad H0 H locs u) (hl : lv_has ls 3 [(0, .ref h0), (1, .int (jI x1))]) (h : w_useRows_2 Q x1 u) : W p l e R s m args below meth c H locs 0 0 Qf (F0 m 2 ls []) := by
  refine h (fun x1 u => ∀ (H : Heap) (locs : List Loc) (ls : Array Slot), inR x1 → kW D ca A h0 ad H0 H locs u → lv_has ls 3 [(0, .ref h0), (1, .int (jI x1))] → W p l e R s m args below meth c H locs 0 0 Qf (F0 m 2 ls [])) ?_ H locs ls rx1 hw hl
  clear h hl hw rx1
  intro x1 u h H locs ls rx1 hw hl
  have hR2 : ∀ (x1 : Int) (u : iST) (H : Heap) (locs : List Loc) (ls : Array Slot), inR x1 → kW D ca A h0 ad H0 H locs u → lv_has ls 3 [(0, .ref h0), (1, .int (jI x1))] → (fun (x1 : Int) u => ∀ (H : Heap) (locs : List Loc) (ls : Array Slot), inR x1 → kW D ca A h0 ad H0 H locs u → lv_has ls 3 [(0, .ref h0), (1, .int (jI x1))] → W p l e R s m args below meth c H locs 0 0 Qf (F0 m 2 ls [])) x1 u → W p l e R s m args below meth c H locs 0 0 Qf (F0 m 2 ls []) := fun x1 u H locs ls rx1 hw hl h => h H locs ls rx1 hw hl
  have hx := X.1.1
  have hb := X.1.2.1
  unfold w_useRows_2b at h
  refine lv_iload_n hx hb dX12_useRows_2 rfl (lv_at hl 1 rfl) ?_
  refine lv_aload_n hx hb dX12_useRows_3 rfl (lv_at hl 0 rfl) ?_
  refine gS 139 878 (by decide) L_139 (fun _ _ => mF_139) rfl X hw dX12_useRows_4 h (fun v1 rv1 h => ?_)
  refine k_icmp_ge hx hb rx1 rv1 dX12_useRows_7 (tgt := 126) rfl h (fun h => ?_) (fun h => ?_)
  · exact hret _ _ _ _ _ h hw dX12_useRows_126
  · refine lv_aload_n hx hb dX12_useRows_10 rfl (lv_at hl 0 rfl) ?_
    refine gS 61 480 (by decide) L_61 (fun _ _ => mF_61) rfl X hw dX12_useRows_11 h (fun v2 rv2 h => ?_)
    refine k_if_ne hx hb rv2 dX12_useRows_14 (tgt := 126) rfl h (fun h => ?_) (fun h => ?_)
    · exact hret _ _ _ _ _ h hw dX12_useRows_126
    · refine lv_aload_n hx hb dX12_useRows_17 rfl (lv_at hl 0 rfl) ?_
      refine lv_iconst hx hb dX12_useRows_18 (v := jI 0) rfl ?_
      refine pS 74 495 (by decide) L_74 rfl rfl rfl (fun _ _ _ _ _ => mSI_74) (by decide) X hw (by decide) dX12_useRows_19 h (fun H locs u hw h => ?_)
      refine lv_aload_n hx hb dX12_useRows_22 rfl (lv_at hl 0 rfl) ?_
      refine gA 138 284 (by decide) L_138 (fun _ _ => mF_138) rfl X hw dX12_useRows_23 ?_
      refine lv_iload_n hx hb dX12_useRows_26 rfl (lv_at hl 1 rfl) ?_
      refine aL 138 87 86 400 (fun _ _ _ _ => mG_138) (fun _ => rfl) X hw rx1 dX12_useRows_27 rfl h (fun v3 rv3 h => ?_)
      refine lv_istore_n hx hb dX12_useRows_28 rfl hl (by decide) rfl (fun ls hl => ?_)
      have hl : lv_has ls 3 [(2, .int (jI v3)), (0, .ref (h0)), (1, .int (jI x1))] := hl
      exact b_useRows_29 X hRf hRl hret hR2 rx1 rv3 hw (lv_sub hl [1, 2, 0] rfl) h

def w_useRows (Q : iST → Prop) (u : iST) : Prop :=
  w_useRows_2 Q 0 u
set_option maxRecDepth 20000 in
set_option maxHeartbeats 4000000 in
theorem b_useRows_s (X : kX p m c cX12_useRows 3 s args D ca) (hRf : 7 ≤ R.frames) (hRl : 159 ≤ R.locals) {Q : iST → Prop} (hret : ∀ (u : iST) (H : Heap) (locs : List Loc) (ls : Array Slot) (pc : Nat), Q u → kW D ca A h0 ad H0 H locs u → decode cX12_useRows pc = .ok (.return_, 1) → W p l e R s m args below meth c H locs 0 0 Qf (F0 m pc ls [])) (hw : kW D ca A h0 ad H0 H locs u) (hl : lv_has ls 3 [(0, .ref h0)]) (h : w_useRows Q u) : W p l e R s m args below meth c H locs 0 0 Qf (F0 m 0 ls []) := by
  have hx := X.1.1
  have hb := X.1.2.1
  unfold w_useRows at h
  refine lv_iconst hx hb dX12_useRows_0 (v := jI 0) rfl ?_
  refine lv_istore_n hx hb dX12_useRows_1 rfl hl (by decide) rfl (fun ls hl => ?_)
  have hl : lv_has ls 3 [(1, .int (jI 0)), (0, .ref (h0))] := hl
  exact b_useRows_2 X hRf hRl hret (by decide) hw (lv_sub hl [1, 0] rfl) h

end
theorem c_useRows {l : Launch} {Q : iST → Prop} {u : iST} (h : w_useRows Q u) : kMV l yX12_useRows (.code yX12_useRows cX12_useRows 3 none :: wsM) { frames := 7, cells := 0, slots := 0, locals := 159 } [] Q u := kMV_of rfl (fun _ => Nat.le_of_ble_eq_true rfl) (fun X hRf hRl hret hw hl => b_useRows_s X hRf hRl hret hw hl h)
