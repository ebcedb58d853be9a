/-! tryRules -/
theorem dX12_tryRules_0 : decode cX12_tryRules 0 = .ok (.aload_n 0, 1) := by decide +kernel
theorem dX12_tryRules_1 : decode cX12_tryRules 1 = .ok (.getfield 190, 3) := by decide +kernel
theorem dX12_tryRules_4 : decode cX12_tryRules 4 = .ok (.iload_n 1, 1) := by decide +kernel
theorem dX12_tryRules_5 : decode cX12_tryRules 5 = .ok (.iaload, 1) := by decide +kernel
theorem dX12_tryRules_6 : decode cX12_tryRules 6 = .ok (.istore_n 3, 1) := by decide +kernel
theorem dX12_tryRules_7 : decode cX12_tryRules 7 = .ok (.iload_n 2, 1) := by decide +kernel
theorem dX12_tryRules_8 : decode cX12_tryRules 8 = .ok (.istore 4, 2) := by decide +kernel
theorem dX12_tryRules_10 : decode cX12_tryRules 10 = .ok (.iload 4, 2) := by decide +kernel
theorem dX12_tryRules_12 : decode cX12_tryRules 12 = .ok (.ifCond .lt 174, 3) := by decide +kernel
theorem dX12_tryRules_15 : decode cX12_tryRules 15 = .ok (.aload_n 0, 1) := by decide +kernel
theorem dX12_tryRules_16 : decode cX12_tryRules 16 = .ok (.getfield 480, 3) := by decide +kernel
theorem dX12_tryRules_19 : decode cX12_tryRules 19 = .ok (.ifCond .ne 167, 3) := by decide +kernel
theorem dX12_tryRules_22 : decode cX12_tryRules 22 = .ok (.aload_n 0, 1) := by decide +kernel
theorem dX12_tryRules_23 : decode cX12_tryRules 23 = .ok (.getfield 106, 3) := by decide +kernel
theorem dX12_tryRules_26 : decode cX12_tryRules 26 = .ok (.iload 4, 2) := by decide +kernel
theorem dX12_tryRules_28 : decode cX12_tryRules 28 = .ok (.iaload, 1) := by decide +kernel
theorem dX12_tryRules_29 : decode cX12_tryRules 29 = .ok (.iconst (-1), 1) := by decide +kernel
theorem dX12_tryRules_30 : decode cX12_tryRules 30 = .ok (.if_icmp .eq 150, 3) := by decide +kernel
theorem dX12_tryRules_33 : decode cX12_tryRules 33 = .ok (.aload_n 0, 1) := by decide +kernel
theorem dX12_tryRules_34 : decode cX12_tryRules 34 = .ok (.getfield 124, 3) := by decide +kernel
theorem dX12_tryRules_37 : decode cX12_tryRules 37 = .ok (.iload 4, 2) := by decide +kernel
theorem dX12_tryRules_39 : decode cX12_tryRules 39 = .ok (.baload, 1) := by decide +kernel
theorem dX12_tryRules_40 : decode cX12_tryRules 40 = .ok (.ifCond .eq 140, 3) := by decide +kernel
theorem dX12_tryRules_43 : decode cX12_tryRules 43 = .ok (.aload_n 0, 1) := by decide +kernel
theorem dX12_tryRules_44 : decode cX12_tryRules 44 = .ok (.getfield 127, 3) := by decide +kernel
theorem dX12_tryRules_47 : decode cX12_tryRules 47 = .ok (.iload 4, 2) := by decide +kernel
theorem dX12_tryRules_49 : decode cX12_tryRules 49 = .ok (.baload, 1) := by decide +kernel
theorem dX12_tryRules_50 : decode cX12_tryRules 50 = .ok (.ifCond .ne 130, 3) := by decide +kernel
theorem dX12_tryRules_53 : decode cX12_tryRules 53 = .ok (.aload_n 0, 1) := by decide +kernel
theorem dX12_tryRules_54 : decode cX12_tryRules 54 = .ok (.getfield 193, 3) := by decide +kernel
theorem dX12_tryRules_57 : decode cX12_tryRules 57 = .ok (.iload_n 1, 1) := by decide +kernel
theorem dX12_tryRules_58 : decode cX12_tryRules 58 = .ok (.baload, 1) := by decide +kernel
theorem dX12_tryRules_59 : decode cX12_tryRules 59 = .ok (.ifCond .ne 13, 3) := by decide +kernel
theorem dX12_tryRules_62 : decode cX12_tryRules 62 = .ok (.aload_n 0, 1) := by decide +kernel
theorem dX12_tryRules_63 : decode cX12_tryRules 63 = .ok (.getfield 121, 3) := by decide +kernel
theorem dX12_tryRules_66 : decode cX12_tryRules 66 = .ok (.iload 4, 2) := by decide +kernel
theorem dX12_tryRules_68 : decode cX12_tryRules 68 = .ok (.baload, 1) := by decide +kernel
theorem dX12_tryRules_69 : decode cX12_tryRules 69 = .ok (.ifCond .ne 111, 3) := by decide +kernel
theorem dX12_tryRules_72 : decode cX12_tryRules 72 = .ok (.aload_n 0, 1) := by decide +kernel
theorem dX12_tryRules_73 : decode cX12_tryRules 73 = .ok (.getfield 8, 3) := by decide +kernel
theorem dX12_tryRules_76 : decode cX12_tryRules 76 = .ok (.aload_n 0, 1) := by decide +kernel
theorem dX12_tryRules_77 : decode cX12_tryRules 77 = .ok (.getfield 106, 3) := by decide +kernel
theorem dX12_tryRules_80 : decode cX12_tryRules 80 = .ok (.iload 4, 2) := by decide +kernel
theorem dX12_tryRules_82 : decode cX12_tryRules 82 = .ok (.iaload, 1) := by decide +kernel
theorem dX12_tryRules_83 : decode cX12_tryRules 83 = .ok (.iaload, 1) := by decide +kernel
theorem dX12_tryRules_84 : decode cX12_tryRules 84 = .ok (.aload_n 0, 1) := by decide +kernel
theorem dX12_tryRules_85 : decode cX12_tryRules 85 = .ok (.getfield 8, 3) := by decide +kernel
theorem dX12_tryRules_88 : decode cX12_tryRules 88 = .ok (.iload_n 3, 1) := by decide +kernel
theorem dX12_tryRules_89 : decode cX12_tryRules 89 = .ok (.iaload, 1) := by decide +kernel
theorem dX12_tryRules_90 : decode cX12_tryRules 90 = .ok (.if_icmp .ne 90, 3) := by decide +kernel
theorem dX12_tryRules_93 : decode cX12_tryRules 93 = .ok (.aload_n 0, 1) := by decide +kernel
theorem dX12_tryRules_94 : decode cX12_tryRules 94 = .ok (.aload_n 0, 1) := by decide +kernel
theorem dX12_tryRules_95 : decode cX12_tryRules 95 = .ok (.getfield 106, 3) := by decide +kernel
theorem dX12_tryRules_98 : decode cX12_tryRules 98 = .ok (.iload 4, 2) := by decide +kernel
theorem dX12_tryRules_100 : decode cX12_tryRules 100 = .ok (.iaload, 1) := by decide +kernel
theorem dX12_tryRules_101 : decode cX12_tryRules 101 = .ok (.iload_n 3, 1) := by decide +kernel
theorem dX12_tryRules_102 : decode cX12_tryRules 102 = .ok (.iload_n 1, 1) := by decide +kernel
theorem dX12_tryRules_103 : decode cX12_tryRules 103 = .ok (.iconst 0, 1) := by decide +kernel
theorem dX12_tryRules_104 : decode cX12_tryRules 104 = .ok (.invokevirtual 706, 3) := by decide +kernel
theorem dX12_tryRules_107 : decode cX12_tryRules 107 = .ok (.ifCond .eq 73, 3) := by decide +kernel
theorem dX12_tryRules_110 : decode cX12_tryRules 110 = .ok (.aload_n 0, 1) := by decide +kernel
theorem dX12_tryRules_111 : decode cX12_tryRules 111 = .ok (.invokevirtual 615, 3) := by decide +kernel
theorem dX12_tryRules_114 : decode cX12_tryRules 114 = .ok (.ifCond .ne 4, 3) := by decide +kernel
theorem dX12_tryRules_117 : decode cX12_tryRules 117 = .ok (.return_, 1) := by decide +kernel
theorem dX12_tryRules_118 : decode cX12_tryRules 118 = .ok (.aload_n 0, 1) := by decide +kernel
theorem dX12_tryRules_119 : decode cX12_tryRules 119 = .ok (.iload_n 1, 1) := by decide +kernel
theorem dX12_tryRules_120 : decode cX12_tryRules 120 = .ok (.invokevirtual 709, 3) := by decide +kernel
theorem dX12_tryRules_123 : decode cX12_tryRules 123 = .ok (.aload_n 0, 1) := by decide +kernel
theorem dX12_tryRules_124 : decode cX12_tryRules 124 = .ok (.getfield 118, 3) := by decide +kernel
theorem dX12_tryRules_127 : decode cX12_tryRules 127 = .ok (.iload 4, 2) := by decide +kernel
theorem dX12_tryRules_129 : decode cX12_tryRules 129 = .ok (.baload, 1) := by decide +kernel
theorem dX12_tryRules_130 : decode cX12_tryRules 130 = .ok (.ifCond .eq 22, 3) := by decide +kernel
theorem dX12_tryRules_133 : decode cX12_tryRules 133 = .ok (.aload_n 0, 1) := by decide +kernel
theorem dX12_tryRules_134 : decode cX12_tryRules 134 = .ok (.aload_n 0, 1) := by decide +kernel
theorem dX12_tryRules_135 : decode cX12_tryRules 135 = .ok (.aload_n 0, 1) := by decide +kernel
theorem dX12_tryRules_136 : decode cX12_tryRules 136 = .ok (.getfield 109, 3) := by decide +kernel
theorem dX12_tryRules_139 : decode cX12_tryRules 139 = .ok (.iload 4, 2) := by decide +kernel
theorem dX12_tryRules_141 : decode cX12_tryRules 141 = .ok (.iaload, 1) := by decide +kernel
theorem dX12_tryRules_142 : decode cX12_tryRules 142 = .ok (.invokevirtual 712, 3) := by decide +kernel
theorem dX12_tryRules_145 : decode cX12_tryRules 145 = .ok (.iload_n 3, 1) := by decide +kernel
theorem dX12_tryRules_146 : decode cX12_tryRules 146 = .ok (.invokevirtual 715, 3) := by decide +kernel
theorem dX12_tryRules_149 : decode cX12_tryRules 149 = .ok (.ifCond .eq 31, 3) := by decide +kernel
theorem dX12_tryRules_152 : decode cX12_tryRules 152 = .ok (.aload_n 0, 1) := by decide +kernel
theorem dX12_tryRules_153 : decode cX12_tryRules 153 = .ok (.getfield 214, 3) := by decide +kernel
theorem dX12_tryRules_156 : decode cX12_tryRules 156 = .ok (.iload_n 1, 1) := by decide +kernel
theorem dX12_tryRules_157 : decode cX12_tryRules 157 = .ok (.iload 4, 2) := by decide +kernel
theorem dX12_tryRules_159 : decode cX12_tryRules 159 = .ok (.iastore, 1) := by decide +kernel
theorem dX12_tryRules_160 : decode cX12_tryRules 160 = .ok (.aload_n 0, 1) := by decide +kernel
theorem dX12_tryRules_161 : decode cX12_tryRules 161 = .ok (.getfield 217, 3) := by decide +kernel
theorem dX12_tryRules_164 : decode cX12_tryRules 164 = .ok (.iload_n 1, 1) := by decide +kernel
theorem dX12_tryRules_165 : decode cX12_tryRules 165 = .ok (.iconst 0, 1) := by decide +kernel
theorem dX12_tryRules_166 : decode cX12_tryRules 166 = .ok (.iastore, 1) := by decide +kernel
theorem dX12_tryRules_167 : decode cX12_tryRules 167 = .ok (.aload_n 0, 1) := by decide +kernel
theorem dX12_tryRules_168 : decode cX12_tryRules 168 = .ok (.getfield 480, 3) := by decide +kernel
theorem dX12_tryRules_171 : decode cX12_tryRules 171 = .ok (.ifCond .ne 8, 3) := by decide +kernel
theorem dX12_tryRules_174 : decode cX12_tryRules 174 = .ok (.aload_n 0, 1) := by decide +kernel
theorem dX12_tryRules_175 : decode cX12_tryRules 175 = .ok (.iload_n 1, 1) := by decide +kernel
theorem dX12_tryRules_176 : decode cX12_tryRules 176 = .ok (.invokevirtual 669, 3) := by decide +kernel
theorem dX12_tryRules_179 : decode cX12_tryRules 179 = .ok (.return_, 1) := by decide +kernel
theorem dX12_tryRules_180 : decode cX12_tryRules 180 = .ok (.iinc 4 (-1), 3) := by decide +kernel
theorem dX12_tryRules_183 : decode cX12_tryRules 183 = .ok (.goto (-173), 3) := by decide +kernel
theorem dX12_tryRules_186 : decode cX12_tryRules 186 = .ok (.aload_n 0, 1) := by decide +kernel
theorem dX12_tryRules_187 : decode cX12_tryRules 187 = .ok (.getfield 480, 3) := by decide +kernel
theorem dX12_tryRules_190 : decode cX12_tryRules 190 = .ok (.ifCond .ne 8, 3) := by decide +kernel
theorem dX12_tryRules_193 : decode cX12_tryRules 193 = .ok (.aload_n 0, 1) := by decide +kernel
theorem dX12_tryRules_194 : decode cX12_tryRules 194 = .ok (.iload_n 1, 1) := by decide +kernel
theorem dX12_tryRules_195 : decode cX12_tryRules 195 = .ok (.invokevirtual 718, 3) := by decide +kernel
theorem dX12_tryRules_198 : decode cX12_tryRules 198 = .ok (.return_, 1) := by decide +kernel

section
variable {p : Program} {l : Launch} {e : Env} {R : Room} {s : State} {m : MethodId} {args : Array Value} {below : List Frame} {meth : Method} {c : Code} {H : Heap} {locs : List Loc} {Qf : State → Prop}
variable {ls : Array Slot} {D : va_G} {ca : Nat → ClassId} {A : Nat → Prop} {h0 : Nat} {ad : Nat → Nat} {H0 : Heap} {u : iST}
def w_tryRules_186 (Q : iST → Prop) (x1 : Int) (u : iST) : Prop :=
  rd (u.1 61) (fun v2 => 
  br (v2 ≠ 0) (
    Q u) (
    w_define x1 (fun u => 
    Q u) u))
set_option maxRecDepth 20000 in
set_option maxHeartbeats 4000000 in
theorem b_tryRules_186 (X : kX p m c cX12_tryRules 5 s args D ca) (hRf : 8 ≤ R.frames) (hRl : 183 ≤ R.locals) {Q : iST → Prop} (hret : ∀ (u : iST) (H : Heap) (locs : List Loc) (ls : Array Slot) (pc : Nat), Q u → kW D ca A h0 ad H0 H locs u → decode cX12_tryRules pc = .ok (.return_, 1) → W p l e R s m args below meth c H locs 0 0 Qf (F0 m pc ls [])) {x1 : Int} (rx1 : inR x1) (hw : kW D ca A h0 ad H0 H locs u) (hl : lv_has ls 5 [(0, .ref h0), (1, .int (jI x1))]) (h : w_tryRules_186 Q x1 u) : W p l e R s m args below meth c H locs 0 0 Qf (F0 m 186 ls []) := by
  have hx := X.1.1
  have hb := X.1.2.1
  unfold w_tryRules_186 at h
  refine lv_aload_n hx hb dX12_tryRules_186 rfl (lv_at hl 0 rfl) ?_
  refine gS 61 480 (by decide) L_61 (fun _ _ => mF_61) rfl X hw dX12_tryRules_187 h (fun v2 rv2 h => ?_)
  refine k_if_ne hx hb rv2 dX12_tryRules_190 (tgt := 198) rfl h (fun h => ?_) (fun h => ?_)
  · exact hret _ _ _ _ _ h hw dX12_tryRules_198
  · refine lv_aload_n hx hb dX12_tryRules_193 rfl (lv_at hl 0 rfl) ?_
    refine lv_iload_n hx hb dX12_tryRules_194 rfl (lv_at hl 1 rfl) ?_
    refine kcV (n := 1) (c_define rx1 h) G_define E_define X hw (Nat.le_trans (Nat.le_of_ble_eq_true rfl) hRf) (Nat.le_trans (Nat.le_of_ble_eq_true rfl) hRl) rfl hl.1 (Nat.le_of_ble_eq_true rfl) rfl dX12_tryRules_195 (fun u H locs h hw => ?_)
    exact hret _ _ _ _ _ h hw dX12_tryRules_198

def w_tryRules_152 (Q : iST → Prop) (x1 : Int) (x4 : Int) (u : iST) : Prop :=
  bd x1 60 (sw (iA u 100 x1 x4) (fun u => 
  bd x1 60 (sw (iA u 101 x1 0) (fun u => 
  rd (u.1 61) (fun v22 => 
  br (v22 ≠ 0) (
    Q u) (
    w_nextHypothesis x1 (fun u => 
    Q u) u))))))
set_option maxRecDepth 20000 in
set_option maxHeartbeats 4000000 in
theorem b_tryRules_152 (X : kX p m c cX12_tryRules 5 s args D ca) (hRf : 8 ≤ R.frames) (hRl : 183 ≤ R.locals) {Q : iST → Prop} (hret : ∀ (u : iST) (H : Heap) (locs : List Loc) (ls : Array Slot) (pc : Nat), Q u → kW D ca A h0 ad H0 H locs u → decode cX12_tryRules pc = .ok (.return_, 1) → W p l e R s m args below meth c H locs 0 0 Qf (F0 m pc ls [])) {x1 x4 : Int} (rx1 : inR x1) (rx4 : inR x4) (hw : kW D ca A h0 ad H0 H locs u) (hl : lv_has ls 5 [(0, .ref h0), (1, .int (jI x1)), (4, .int (jI x4))]) (h : w_tryRules_152 Q x1 x4 u) : W p l e R s m args below meth c H locs 0 0 Qf (F0 m 152 ls []) := by
  have hx := X.1.1
  have hb := X.1.2.1
  unfold w_tryRules_152 at h
  refine lv_aload_n hx hb dX12_tryRules_152 rfl (lv_at hl 0 rfl) ?_
  refine gA 100 214 (by decide) L_100 (fun _ _ => mF_100) rfl X hw dX12_tryRules_153 ?_
  refine lv_iload_n hx hb dX12_tryRules_156 rfl (lv_at hl 1 rfl) ?_
  refine lv_iload hx hb dX12_tryRules_157 (lv_at hl 2 rfl) ?_
  refine aS 100 64 63 60 (fun _ _ _ _ => mG_100) (fun _ => rfl) (fun _ _ _ _ _ _ => mSA_100) (by decide) X hw rx1 rx4 dX12_tryRules_159 rfl h (fun H locs u hw h => ?_)
  refine lv_aload_n hx hb dX12_tryRules_160 rfl (lv_at hl 0 rfl) ?_
  refine gA 101 217 (by decide) L_101 (fun _ _ => mF_101) rfl X hw dX12_tryRules_161 ?_
  refine lv_iload_n hx hb dX12_tryRules_164 rfl (lv_at hl 1 rfl) ?_
  refine lv_iconst hx hb dX12_tryRules_165 (v := jI 0) rfl ?_
  refine aS 101 65 64 60 (fun _ _ _ _ => mG_101) (fun _ => rfl) (fun _ _ _ _ _ _ => mSA_101) (by decide) X hw rx1 (by decide) dX12_tryRules_166 rfl h (fun H locs u hw h => ?_)
  refine lv_aload_n hx hb dX12_tryRules_167 rfl (lv_at hl 0 rfl) ?_
  refine gS 61 480 (by decide) L_61 (fun _ _ => mF_61) rfl X hw dX12_tryRules_168 h (fun v22 rv22 h => ?_)
  refine k_if_ne hx hb rv22 dX12_tryRules_171 (tgt := 179) rfl h (fun h => ?_) (fun h => ?_)
  · exact hret _ _ _ _ _ h hw dX12_tryRules_179
  · refine lv_aload_n hx hb dX12_tryRules_174 rfl (lv_at hl 0 rfl) ?_
    refine lv_iload_n hx hb dX12_tryRules_175 rfl (lv_at hl 1 rfl) ?_
    refine kcV (n := 1) (c_nextHypothesis rx1 h) G_nextHypothesis E_nextHypothesis X hw (Nat.le_trans (Nat.le_of_ble_eq_true rfl) hRf) (Nat.le_trans (Nat.le_of_ble_eq_true rfl) hRl) rfl hl.1 (Nat.le_of_ble_eq_true rfl) rfl dX12_tryRules_176 (fun u H locs h hw => ?_)
    exact hret _ _ _ _ _ h hw dX12_tryRules_179

def w_tryRules_72 (R10 : Int → Int → Int → iST → Prop) (Q : iST → Prop) (x1 : Int) (x3 : Int) (x4 : Int) (u : iST) : Prop :=
  bd x4 60 (rd (u.2.1 46 x4) (fun v12 => 
  bd v12 452000 (rd (u.2.1 0 v12) (fun v13 => 
  bd x3 452000 (rd (u.2.1 0 x3) (fun v14 => 
  br (v13 ≠ v14) (
    ov (x4 + (-1)) (
    R10 x1 x3 (x4 + (-1)) u)) (
    bd x4 60 (rd (u.2.1 46 x4) (fun v16 => 
    w_matches v16 x3 x1 0 (fun v17 u => 
    br (v17 = 0) (
      ov (x4 + (-1)) (
      R10 x1 x3 (x4 + (-1)) u)) (
      w_isStep (fun v19 u => 
      br (v19 ≠ 0) (
        w_takePairs x1 (fun u => 
        bd x4 60 (rz (u.2.1 50 x4) (fun v21 => 
        br (v21 = 0) (
          w_tryRules_152 Q x1 x4 u) (
          bd x4 60 (rd (u.2.1 47 x4) (fun v24 => 
          w_instance v24 (fun v25 u => 
          w_isSmaller v25 x3 (fun v26 u => 
          br (v26 = 0) (
            ov (x4 + (-1)) (
            R10 x1 x3 (x4 + (-1)) u)) (
            w_tryRules_152 Q x1 x4 u)) u) u)))))) u) (
        Q u)) u)) u)))))))))
set_option maxRecDepth 20000 in
set_option maxHeartbeats 4000000 in
theorem b_tryRules_72 (X : kX p m c cX12_tryRules 5 s args D ca) (hRf : 8 ≤ R.frames) (hRl : 183 ≤ R.locals) {Q : iST → Prop} (hret : ∀ (u : iST) (H : Heap) (locs : List Loc) (ls : Array Slot) (pc : Nat), Q u → kW D ca A h0 ad H0 H locs u → decode cX12_tryRules pc = .ok (.return_, 1) → W p l e R s m args below meth c H locs 0 0 Qf (F0 m pc ls [])) {R10 : Int → Int → Int → iST → Prop} (hR10 : ∀ (x1 : Int) (x3 : Int) (x4 : Int) (u : iST) (H : Heap) (locs : List Loc) (ls : Array Slot), inR x1 → inR x3 → inR x4 → kW D ca A h0 ad H0 H locs u → lv_has ls 5 [(0, .ref h0), (1, .int (jI x1)), (3, .int (jI x3)), (4, .int (jI x4))] → R10 x1 x3 x4 u → W p l e R s m args below meth c H locs 0 0 Qf (F0 m 10 ls [])) {x1 x3 x4 : Int} (rx1 : inR x1) (rx3 : inR x3) (rx4 : inR x4) (hw : kW D ca A h0 ad H0 H locs u) (hl : lv_has ls 5 [(0, .ref h0), (1, .int (jI x1)), (3, .int (jI x3)), (4, .int (jI x4))]) (h : w_tryRules_72 R10 Q x1 x3 x4 u) : W p l e R s m args below meth c H locs 0 0 Qf (F0 m 72 ls []) := by
  have hx := X.1.1
  have hb := X.1.2.1
  unfold w_tryRules_72 at h
  refine lv_aload_n hx hb dX12_tryRules_72 rfl (lv_at hl 0 rfl) ?_
  refine gA 0 8 (by decide) L_0 (fun _ _ => mF_0) rfl X hw dX12_tryRules_73 ?_
  refine lv_aload_n hx hb dX12_tryRules_76 rfl (lv_at hl 0 rfl) ?_
  refine gA 46 106 (by decide) L_46 (fun _ _ => mF_46) rfl X hw dX12_tryRules_77 ?_
  refine lv_iload hx hb dX12_tryRules_80 (lv_at hl 3 rfl) ?_
  refine aL 46 30 29 60 (fun _ _ _ _ => mG_46) (fun _ => rfl) X hw rx4 dX12_tryRules_82 rfl h (fun v12 rv12 h => ?_)
  refine aL 0 1 0 452000 (fun _ _ _ _ => mG_0) (fun _ => rfl) X hw rv12 dX12_tryRules_83 rfl h (fun v13 rv13 h => ?_)
  refine lv_aload_n hx hb dX12_tryRules_84 rfl (lv_at hl 0 rfl) ?_
  refine gA 0 8 (by decide) L_0 (fun _ _ => mF_0) rfl X hw dX12_tryRules_85 ?_
  refine lv_iload_n hx hb dX12_tryRules_88 rfl (lv_at hl 2 rfl) ?_
  refine aL 0 1 0 452000 (fun _ _ _ _ => mG_0) (fun _ => rfl) X hw rx3 dX12_tryRules_89 rfl h (fun v14 rv14 h => ?_)
  refine k_icmp_ne hx hb rv13 rv14 dX12_tryRules_90 (tgt := 180) rfl h (fun h => ?_) (fun h => ?_)
  · refine k_iinc (k := 3) hx hb dX12_tryRules_180 hl rfl (by decide) rfl h (fun ls r15 h hl => ?_)
    have hl : lv_has ls 5 [(4, .int (jI (x4 + (-1)))), (0, .ref (h0)), (1, .int (jI x1)), (3, .int (jI x3))] := hl
    refine lv_goto hx hb dX12_tryRules_183 (tgt := 10) rfl ?_
    exact hR10 _ _ _ _ H locs ls rx1 rx3 r15 hw (lv_sub hl [1, 2, 3, 0] rfl) h
  · refine lv_aload_n hx hb dX12_tryRules_93 rfl (lv_at hl 0 rfl) ?_
    refine lv_aload_n hx hb dX12_tryRules_94 rfl (lv_at hl 0 rfl) ?_
    refine gA 46 106 (by decide) L_46 (fun _ _ => mF_46) rfl X hw dX12_tryRules_95 ?_
    refine lv_iload hx hb dX12_tryRules_98 (lv_at hl 3 rfl) ?_
    refine aL 46 30 29 60 (fun _ _ _ _ => mG_46) (fun _ => rfl) X hw rx4 dX12_tryRules_100 rfl h (fun v16 rv16 h => ?_)
    refine lv_iload_n hx hb dX12_tryRules_101 rfl (lv_at hl 2 rfl) ?_
    refine lv_iload_n hx hb dX12_tryRules_102 rfl (lv_at hl 1 rfl) ?_
    refine lv_iconst hx hb dX12_tryRules_103 (v := jI 0) rfl ?_
    refine kcI (n := 4) (c_matches rv16 rx3 rx1 (by decide) h) G_matches E_matches X hw (Nat.le_trans (Nat.le_of_ble_eq_true rfl) hRf) (Nat.le_trans (Nat.le_of_ble_eq_true rfl) hRl) rfl hl.1 (Nat.le_of_ble_eq_true rfl) rfl dX12_tryRules_104 (fun v17 u H locs rv17 h hw => ?_)
    refine k_if_eq hx hb rv17 dX12_tryRules_107 (tgt := 180) rfl h (fun h => ?_) (fun h => ?_)
    · refine k_iinc (k := 3) hx hb dX12_tryRules_180 hl rfl (by decide) rfl h (fun ls r18 h hl => ?_)
      have hl : lv_has ls 5 [(4, .int (jI (x4 + (-1)))), (0, .ref (h0)), (1, .int (jI x1)), (3, .int (jI x3))] := hl
      refine lv_goto hx hb dX12_tryRules_183 (tgt := 10) rfl ?_
      exact hR10 _ _ _ _ H locs ls rx1 rx3 r18 hw (lv_sub hl [1, 2, 3, 0] rfl) h
    · refine lv_aload_n hx hb dX12_tryRules_110 rfl (lv_at hl 0 rfl) ?_
      refine kcI (n := 0) (c_isStep h) G_isStep E_isStep X hw (Nat.le_trans (Nat.le_of_ble_eq_true rfl) hRf) (Nat.le_trans (Nat.le_of_ble_eq_true rfl) hRl) rfl hl.1 (Nat.le_of_ble_eq_true rfl) rfl dX12_tryRules_111 (fun v19 u H locs rv19 h hw => ?_)
      refine k_if_ne hx hb rv19 dX12_tryRules_114 (tgt := 118) rfl h (fun h => ?_) (fun h => ?_)
      · refine lv_aload_n hx hb dX12_tryRules_118 rfl (lv_at hl 0 rfl) ?_
        refine lv_iload_n hx hb dX12_tryRules_119 rfl (lv_at hl 1 rfl) ?_
        refine kcV (n := 1) (c_takePairs rx1 h) G_takePairs E_takePairs X hw (Nat.le_trans (Nat.le_of_ble_eq_true rfl) hRf) (Nat.le_trans (Nat.le_of_ble_eq_true rfl) hRl) rfl hl.1 (Nat.le_of_ble_eq_true rfl) rfl dX12_tryRules_120 (fun u H locs h hw => ?_)
        refine lv_aload_n hx hb dX12_tryRules_123 rfl (lv_at hl 0 rfl) ?_
        refine gA 50 118 (by decide) L_50 (fun _ _ => mF_50) rfl X hw dX12_tryRules_124 ?_
        refine lv_iload hx hb dX12_tryRules_127 (lv_at hl 3 rfl) ?_
        refine aZ 50 34 33 60 (fun _ _ _ _ => mG_50) (fun _ => rfl) (by decide) X hw rx4 dX12_tryRules_129 rfl h (fun v21 rv21 h => ?_)
        refine k_if_eq hx hb (bz_in rv21) dX12_tryRules_130 (tgt := 152) rfl h (fun h => ?_) (fun h => ?_)
        · exact b_tryRules_152 X hRf hRl hret rx1 rx4 hw (lv_sub hl [0, 1, 3] rfl) h
        · refine lv_aload_n hx hb dX12_tryRules_133 rfl (lv_at hl 0 rfl) ?_
          refine lv_aload_n hx hb dX12_tryRules_134 rfl (lv_at hl 0 rfl) ?_
          refine lv_aload_n hx hb dX12_tryRules_135 rfl (lv_at hl 0 rfl) ?_
          refine gA 47 109 (by decide) L_47 (fun _ _ => mF_47) rfl X hw dX12_tryRules_136 ?_
          refine lv_iload hx hb dX12_tryRules_139 (lv_at hl 3 rfl) ?_
          refine aL 47 31 30 60 (fun _ _ _ _ => mG_47) (fun _ => rfl) X hw rx4 dX12_tryRules_141 rfl h (fun v24 rv24 h => ?_)
          refine kcI (n := 1) (c_instance rv24 h) G_instance E_instance X hw (Nat.le_trans (Nat.le_of_ble_eq_true rfl) hRf) (Nat.le_trans (Nat.le_of_ble_eq_true rfl) hRl) rfl hl.1 (Nat.le_of_ble_eq_true rfl) rfl dX12_tryRules_142 (fun v25 u H locs rv25 h hw => ?_)
          refine lv_iload_n hx hb dX12_tryRules_145 rfl (lv_at hl 2 rfl) ?_
          refine kcI (n := 2) (c_isSmaller rv25 rx3 h) G_isSmaller E_isSmaller X hw (Nat.le_trans (Nat.le_of_ble_eq_true rfl) hRf) (Nat.le_trans (Nat.le_of_ble_eq_true rfl) hRl) rfl hl.1 (Nat.le_of_ble_eq_true rfl) rfl dX12_tryRules_146 (fun v26 u H locs rv26 h hw => ?_)
          refine k_if_eq hx hb rv26 dX12_tryRules_149 (tgt := 180) rfl h (fun h => ?_) (fun h => ?_)
          · refine k_iinc (k := 3) hx hb dX12_tryRules_180 hl rfl (by decide) rfl h (fun ls r27 h hl => ?_)
            have hl : lv_has ls 5 [(4, .int (jI (x4 + (-1)))), (0, .ref (h0)), (1, .int (jI x1)), (3, .int (jI x3))] := hl
            refine lv_goto hx hb dX12_tryRules_183 (tgt := 10) rfl ?_
            exact hR10 _ _ _ _ H locs ls rx1 rx3 r27 hw (lv_sub hl [1, 2, 3, 0] rfl) h
          · exact b_tryRules_152 X hRf hRl hret rx1 rx4 hw (lv_sub hl [0, 1, 3] rfl) h
      · exact hret _ _ _ _ _ h hw dX12_tryRules_117

def w_tryRules_10b (R10 : Int → Int → Int → iST → Prop) (Q : iST → Prop) (x1 : Int) (x3 : Int) (x4 : Int) (u : iST) : Prop :=
  br (x4 < 0) (
    w_tryRules_186 Q x1 u) (
    rd (u.1 61) (fun v4 => 
    br (v4 ≠ 0) (
      w_tryRules_186 Q x1 u) (
      bd x4 60 (rd (u.2.1 46 x4) (fun v5 => 
      br (v5 = (-1)) (
        ov (x4 + (-1)) (
        R10 x1 x3 (x4 + (-1)) u)) (
        bd x4 60 (rz (u.2.1 52 x4) (fun v7 => 
        br (v7 = 0) (
          ov (x4 + (-1)) (
          R10 x1 x3 (x4 + (-1)) u)) (
          bd x4 60 (rz (u.2.1 53 x4) (fun v9 => 
          br (v9 ≠ 0) (
            ov (x4 + (-1)) (
            R10 x1 x3 (x4 + (-1)) u)) (
            bd x1 60 (rz (u.2.1 93 x1) (fun v11 => 
            br (v11 ≠ 0) (
              w_tryRules_72 R10 Q x1 x3 x4 u) (
              bd x4 60 (rz (u.2.1 51 x4) (fun v28 => 
              br (v28 ≠ 0) (
                ov (x4 + (-1)) (
                R10 x1 x3 (x4 + (-1)) u)) (
                w_tryRules_72 R10 Q x1 x3 x4 u))))))))))))))))))
def w_tryRules_10 (Q : iST → Prop) (x1 : Int) (x3 : Int) (x4 : Int) (u : iST) : Prop := ∀ R10 : Int → Int → Int → iST → Prop, (∀ (x1 : Int) (x3 : Int) (x4 : Int) (u : iST), w_tryRules_10b R10 Q x1 x3 x4 u → R10 x1 x3 x4 u) → R10 x1 x3 x4 u
set_option maxRecDepth 20000 in
set_option maxHeartbeats 4000000 in
theorem b_tryRules_10 (X : kX p m c cX12_tryRules 5 s args D ca) (hRf : 8 ≤ R.frames) (hRl : 183 ≤ R.locals) {Q : iST → Prop} (hret : ∀ (u : iST) (H : Heap) (locs : List Loc) (ls : Array Slot) (pc : Nat), Q u → kW D ca A h0 ad H0 H locs u → decode cX12_tryRules pc = .ok (.return_, 1) → W p l e R s m args below meth c H locs 0 0 Qf (F0 m pc ls [])) {x1 x3 x4 : Int} (rx1 : inR x1) (rx3 : inR x3) (rx4 : inR x4) (hw : kW D ca A h0 ad H0 H locs u) (hl : lv_has ls 5 [(0, .ref h0), (1, .int (jI x1)), (3, .int (jI x3)), (4, .int (jI x4))]) (h : w_tryRules_10 Q x1 x3 x4 u) : W p l e R s m args below meth c H locs 0 0 Qf (F0 m 10 ls []) := by
  refine h (fun x1 x3 x4 u => ∀ (H : Heap) (locs : List Loc) (ls : Array Slot), inR x1 → inR x3 → inR x4 → kW D ca A h0 ad H0 H locs u → lv_has ls 5 [(0, .ref h0), (1, .int (jI x1)), (3, .int (jI x3)), (4, .int (jI x4))] → W p l e R s m args below meth c H locs 0 0 Qf (F0 m 10 ls [])) ?_ H locs ls rx1 rx3 rx4 hw hl
  clear h hl hw rx1 rx3 rx4
  intro x1 x3 x4 u h H locs ls rx1 rx3 rx4 hw hl
  have hR10 : ∀ (x1 : Int) (x3 : Int) (x4 : Int) (u : iST) (H : Heap) (locs : List Loc) (ls : Array Slot), inR x1 → inR x3 → inR x4 → kW D ca A h0 ad H0 H locs u → lv_has ls 5 [(0, .ref h0), (1, .int (jI x1)), (3, .int (jI x3)), (4, .int (jI x4))] → (fun (x1 : Int) (x3 : Int) (x4 : Int) u => ∀ (H : Heap) (locs : List Loc) (ls : Array Slot), inR x1 → inR x3 → inR x4 → kW D ca A h0 ad H0 H locs u → lv_has ls 5 [(0, .ref h0), (1, .int (jI x1)), (3, .int (jI x3)), (4, .int (jI x4))] → W p l e R s m args below meth c H locs 0 0 Qf (F0 m 10 ls [])) x1 x3 x4 u → W p l e R s m args below meth c H locs 0 0 Qf (F0 m 10 ls []) := fun x1 x3 x4 u H locs ls rx1 rx3 rx4 hw hl h => h H locs ls rx1 rx3 rx4 hw hl
  have hx := X.1.1
  have hb := X.1.2.1
  unfold w_tryRules_10b at h
  refine lv_iload hx hb dX12_tryRules_10 (lv_at hl 3 rfl) ?_
  refine k_if_lt hx hb rx4 dX12_tryRules_12 (tgt := 186) rfl h (fun h => ?_) (fun h => ?_)
  · exact b_tryRules_186 X hRf hRl hret rx1 hw (lv_sub hl [0, 1] rfl) h
  · refine lv_aload_n hx hb dX12_tryRules_15 rfl (lv_at hl 0 rfl) ?_
    refine gS 61 480 (by decide) L_61 (fun _ _ => mF_61) rfl X hw dX12_tryRules_16 h (fun v4 rv4 h => ?_)
    refine k_if_ne hx hb rv4 dX12_tryRules_19 (tgt := 186) rfl h (fun h => ?_) (fun h => ?_)
    · exact b_tryRules_186 X hRf hRl hret rx1 hw (lv_sub hl [0, 1] rfl) h
    · refine lv_aload_n hx hb dX12_tryRules_22 rfl (lv_at hl 0 rfl) ?_
      refine gA 46 106 (by decide) L_46 (fun _ _ => mF_46) rfl X hw dX12_tryRules_23 ?_
      refine lv_iload hx hb dX12_tryRules_26 (lv_at hl 3 rfl) ?_
      refine aL 46 30 29 60 (fun _ _ _ _ => mG_46) (fun _ => rfl) X hw rx4 dX12_tryRules_28 rfl h (fun v5 rv5 h => ?_)
      refine lv_iconst hx hb dX12_tryRules_29 (v := jI (-1)) rfl ?_
      refine k_icmp_eq hx hb rv5 (by decide) dX12_tryRules_30 (tgt := 180) rfl h (fun h => ?_) (fun h => ?_)
      · refine k_iinc (k := 3) hx hb dX12_tryRules_180 hl rfl (by decide) rfl h (fun ls r6 h hl => ?_)
        have hl : lv_has ls 5 [(4, .int (jI (x4 + (-1)))), (0, .ref (h0)), (1, .int (jI x1)), (3, .int (jI x3))] := hl
        refine lv_goto hx hb dX12_tryRules_183 (tgt := 10) rfl ?_
        exact hR10 _ _ _ _ H locs ls rx1 rx3 r6 hw (lv_sub hl [1, 2, 3, 0] rfl) h
      · refine lv_aload_n hx hb dX12_tryRules_33 rfl (lv_at hl 0 rfl) ?_
        refine gA 52 124 (by decide) L_52 (fun _ _ => mF_52) rfl X hw dX12_tryRules_34 ?_
        refine lv_iload hx hb dX12_tryRules_37 (lv_at hl 3 rfl) ?_
        refine aZ 52 36 35 60 (fun _ _ _ _ => mG_52) (fun _ => rfl) (by decide) X hw rx4 dX12_tryRules_39 rfl h (fun v7 rv7 h => ?_)
        refine k_if_eq hx hb (bz_in rv7) dX12_tryRules_40 (tgt := 180) rfl h (fun h => ?_) (fun h => ?_)
        · refine k_iinc (k := 3) hx hb dX12_tryRules_180 hl rfl (by decide) rfl h (fun ls r8 h hl => ?_)
          have hl : lv_has ls 5 [(4, .int (jI (x4 + (-1)))), (0, .ref (h0)), (1, .int (jI x1)), (3, .int (jI x3))] := hl
          refine lv_goto hx hb dX12_tryRules_183 (tgt := 10) rfl ?_
          exact hR10 _ _ _ _ H locs ls rx1 rx3 r8 hw (lv_sub hl [1, 2, 3, 0] rfl) h
        · refine lv_aload_n hx hb dX12_tryRules_43 rfl (lv_at hl 0 rfl) ?_
          refine gA 53 127 (by decide) L_53 (fun _ _ => mF_53) rfl X hw dX12_tryRules_44 ?_
          refine lv_iload hx hb dX12_tryRules_47 (lv_at hl 3 rfl) ?_
          refine aZ 53 37 36 60 (fun _ _ _ _ => mG_53) (fun _ => rfl) (by decide) X hw rx4 dX12_tryRules_49 rfl h (fun v9 rv9 h => ?_)
          refine k_if_ne hx hb (bz_in rv9) dX12_tryRules_50 (tgt := 180) rfl h (fun h => ?_) (fun h => ?_)
          · refine k_iinc (k := 3) hx hb dX12_tryRules_180 hl rfl (by decide) rfl h (fun ls r10 h hl => ?_)
            have hl : lv_has ls 5 [(4, .int (jI (x4 + (-1)))), (0, .ref (h0)), (1, .int (jI x1)), (3, .int (jI x3))] := hl
            refine lv_goto hx hb dX12_tryRules_183 (tgt := 10) rfl ?_
            exact hR10 _ _ _ _ H locs ls rx1 rx3 r10 hw (lv_sub hl [1, 2, 3, 0] rfl) h
          · refine lv_aload_n hx hb dX12_tryRules_53 rfl (lv_at hl 0 rfl) ?_
            refine gA 93 193 (by decide) L_93 (fun _ _ => mF_93) rfl X hw dX12_tryRules_54 ?_
            refine lv_iload_n hx hb dX12_tryRules_57 rfl (lv_at hl 1 rfl) ?_
            refine aZ 93 57 56 60 (fun _ _ _ _ => mG_93) (fun _ => rfl) (by decide) X hw rx1 dX12_tryRules_58 rfl h (fun v11 rv11 h => ?_)
            refine k_if_ne hx hb (bz_in rv11) dX12_tryRules_59 (tgt := 72) rfl h (fun h => ?_) (fun h => ?_)
            · exact b_tryRules_72 X hRf hRl hret hR10 rx1 rx3 rx4 hw hl h
            · refine lv_aload_n hx hb dX12_tryRules_62 rfl (lv_at hl 0 rfl) ?_
              refine gA 51 121 (by decide) L_51 (fun _ _ => mF_51) rfl X hw dX12_tryRules_63 ?_
              refine lv_iload hx hb dX12_tryRules_66 (lv_at hl 3 rfl) ?_
              refine aZ 51 35 34 60 (fun _ _ _ _ => mG_51) (fun _ => rfl) (by decide) X hw rx4 dX12_tryRules_68 rfl h (fun v28 rv28 h => ?_)
              refine k_if_ne hx hb (bz_in rv28) dX12_tryRules_69 (tgt := 180) rfl h (fun h => ?_) (fun h => ?_)
              · refine k_iinc (k := 3) hx hb dX12_tryRules_180 hl rfl (by decide) rfl h (fun ls r29 h hl => ?_)
                have hl : lv_has ls 5 [(4, .int (jI (x4 + (-1)))), (0, .ref (h0)), (1, .int (jI x1)), (3, .int (jI x3))] := hl
                refine lv_goto hx hb dX12_tryRules_183 (tgt := 10) rfl ?_
                exact hR10 _ _ _ _ H locs ls rx1 rx3 r29 hw (lv_sub hl [1, 2, 3, 0] rfl) h
              · exact b_tryRules_72 X hRf hRl hret hR10 rx1 rx3 rx4 hw hl h

def w_tryRules (a0 : Int) (a1 : Int) (Q : iST → Prop) (u : iST) : Prop :=
  bd a0 60 (rd (u.2.1 92 a0) (fun v1 => 
  w_tryRules_10 Q a0 v1 a1 u))
set_option maxRecDepth 20000 in
set_option maxHeartbeats 4000000 in
theorem b_tryRules_s (X : kX p m c cX12_tryRules 5 s args D ca) (hRf : 8 ≤ R.frames) (hRl : 183 ≤ R.locals) {Q : iST → Prop} (hret : ∀ (u : iST) (H : Heap) (locs : List Loc) (ls : Array Slot) (pc : Nat), Q u → kW D ca A h0 ad H0 H locs u → decode cX12_tryRules pc = .ok (.return_, 1) → W p l e R s m args below meth c H locs 0 0 Qf (F0 m pc ls [])) {a0 a1 : Int} (ra0 : inR a0) (ra1 : inR a1) (hw : kW D ca A h0 ad H0 H locs u) (hl : lv_has ls 5 [(0, .ref h0), (1, .int (jI a0)), (2, .int (jI a1))]) (h : w_tryRules a0 a1 Q u) : W p l e R s m args below meth c H locs 0 0 Qf (F0 m 0 ls []) := by
  have hx := X.1.1
  have hb := X.1.2.1
  unfold w_tryRules at h
  refine lv_aload_n hx hb dX12_tryRules_0 rfl (lv_at hl 0 rfl) ?_
  refine gA 92 190 (by decide) L_92 (fun _ _ => mF_92) rfl X hw dX12_tryRules_1 ?_
  refine lv_iload_n hx hb dX12_tryRules_4 rfl (lv_at hl 1 rfl) ?_
  refine aL 92 56 55 60 (fun _ _ _ _ => mG_92) (fun _ => rfl) X hw ra0 dX12_tryRules_5 rfl h (fun v1 rv1 h => ?_)
  refine lv_istore_n hx hb dX12_tryRules_6 rfl hl (by decide) rfl (fun ls hl => ?_)
  have hl : lv_has ls 5 [(3, .int (jI v1)), (0, .ref (h0)), (1, .int (jI a0)), (2, .int (jI a1))] := hl
  refine lv_iload_n hx hb dX12_tryRules_7 rfl (lv_at hl 3 rfl) ?_
  refine lv_istore hx hb dX12_tryRules_8 hl (by decide) rfl (fun ls hl => ?_)
  have hl : lv_has ls 5 [(4, .int (jI a1)), (3, .int (jI v1)), (0, .ref (h0)), (1, .int (jI a0)), (2, .int (jI a1))] := hl
  exact b_tryRules_10 X hRf hRl hret ra0 rv1 ra1 hw (lv_sub hl [2, 3, 1, 0] rfl) h

end
theorem c_tryRules {l : Launch} {a0 : Int} {a1 : Int} (ra0 : inR a0) (ra1 : inR a1) {Q : iST → Prop} {u : iST} (h : w_tryRules a0 a1 Q u) : kMV l yX12_tryRules (.code yX12_tryRules cX12_tryRules 5 none :: wsM) { frames := 8, cells := 0, slots := 0, locals := 183 } [.int (jI a0), .int (jI a1)] Q u := kMV_of rfl (fun _ => Nat.le_of_ble_eq_true rfl) (fun X hRf hRl hret hw hl => b_tryRules_s X hRf hRl hret ra0 ra1 hw hl h)

/-! apply -/
theorem dX12_apply_0 : decode cX12_apply 0 = .ok (.aload_n 0, 1) := by decide +kernel
theorem dX12_apply_1 : decode cX12_apply 1 = .ok (.getfield 190, 3) := by decide +kernel
theorem dX12_apply_4 : decode cX12_apply 4 = .ok (.iload_n 1, 1) := by decide +kernel
theorem dX12_apply_5 : decode cX12_apply 5 = .ok (.iaload, 1) := by decide +kernel
theorem dX12_apply_6 : decode cX12_apply 6 = .ok (.istore_n 2, 1) := by decide +kernel
theorem dX12_apply_7 : decode cX12_apply 7 = .ok (.aload_n 0, 1) := by decide +kernel
theorem dX12_apply_8 : decode cX12_apply 8 = .ok (.aload_n 0, 1) := by decide +kernel
theorem dX12_apply_9 : decode cX12_apply 9 = .ok (.getfield 8, 3) := by decide +kernel
theorem dX12_apply_12 : decode cX12_apply 12 = .ok (.iload_n 2, 1) := by decide +kernel
theorem dX12_apply_13 : decode cX12_apply 13 = .ok (.iaload, 1) := by decide +kernel
theorem dX12_apply_14 : decode cX12_apply 14 = .ok (.invokevirtual 526, 3) := by decide +kernel
theorem dX12_apply_17 : decode cX12_apply 17 = .ok (.istore_n 3, 1) := by decide +kernel
theorem dX12_apply_18 : decode cX12_apply 18 = .ok (.aload_n 0, 1) := by decide +kernel
theorem dX12_apply_19 : decode cX12_apply 19 = .ok (.iload_n 2, 1) := by decide +kernel
theorem dX12_apply_20 : decode cX12_apply 20 = .ok (.invokevirtual 681, 3) := by decide +kernel
theorem dX12_apply_23 : decode cX12_apply 23 = .ok (.ifCond .eq 63, 3) := by decide +kernel
theorem dX12_apply_26 : decode cX12_apply 26 = .ok (.iload_n 3, 1) := by decide +kernel
theorem dX12_apply_27 : decode cX12_apply 27 = .ok (.bipush 100, 2) := by decide +kernel
theorem dX12_apply_29 : decode cX12_apply 29 = .ok (.if_icmp .ge 12, 3) := by decide +kernel
theorem dX12_apply_32 : decode cX12_apply 32 = .ok (.aload_n 0, 1) := by decide +kernel
theorem dX12_apply_33 : decode cX12_apply 33 = .ok (.iload_n 2, 1) := by decide +kernel
theorem dX12_apply_34 : decode cX12_apply 34 = .ok (.iload_n 3, 1) := by decide +kernel
theorem dX12_apply_35 : decode cX12_apply 35 = .ok (.invokevirtual 684, 3) := by decide +kernel
theorem dX12_apply_38 : decode cX12_apply 38 = .ok (.goto 9, 3) := by decide +kernel
theorem dX12_apply_41 : decode cX12_apply 41 = .ok (.aload_n 0, 1) := by decide +kernel
theorem dX12_apply_42 : decode cX12_apply 42 = .ok (.iload_n 2, 1) := by decide +kernel
theorem dX12_apply_43 : decode cX12_apply 43 = .ok (.iconst 1, 1) := by decide +kernel
theorem dX12_apply_44 : decode cX12_apply 44 = .ok (.invokevirtual 687, 3) := by decide +kernel
theorem dX12_apply_47 : decode cX12_apply 47 = .ok (.istore 4, 2) := by decide +kernel
theorem dX12_apply_49 : decode cX12_apply 49 = .ok (.iload_n 3, 1) := by decide +kernel
theorem dX12_apply_50 : decode cX12_apply 50 = .ok (.bipush 100, 2) := by decide +kernel
theorem dX12_apply_52 : decode cX12_apply 52 = .ok (.if_icmp .lt 17, 3) := by decide +kernel
theorem dX12_apply_55 : decode cX12_apply 55 = .ok (.aload_n 0, 1) := by decide +kernel
theorem dX12_apply_56 : decode cX12_apply 56 = .ok (.getfield 576, 3) := by decide +kernel
theorem dX12_apply_59 : decode cX12_apply 59 = .ok (.iconst 1, 1) := by decide +kernel
theorem dX12_apply_60 : decode cX12_apply 60 = .ok (.if_icmp .ne 9, 3) := by decide +kernel
theorem dX12_apply_63 : decode cX12_apply 63 = .ok (.aload_n 0, 1) := by decide +kernel
theorem dX12_apply_64 : decode cX12_apply 64 = .ok (.iconst 1, 1) := by decide +kernel
theorem dX12_apply_65 : decode cX12_apply 65 = .ok (.invokevirtual 517, 3) := by decide +kernel
theorem dX12_apply_68 : decode cX12_apply 68 = .ok (.return_, 1) := by decide +kernel
theorem dX12_apply_69 : decode cX12_apply 69 = .ok (.iload 4, 2) := by decide +kernel
theorem dX12_apply_71 : decode cX12_apply 71 = .ok (.iconst (-1), 1) := by decide +kernel
theorem dX12_apply_72 : decode cX12_apply 72 = .ok (.if_icmp .eq 14, 3) := by decide +kernel
theorem dX12_apply_75 : decode cX12_apply 75 = .ok (.aload_n 0, 1) := by decide +kernel
theorem dX12_apply_76 : decode cX12_apply 76 = .ok (.aload_n 0, 1) := by decide +kernel
theorem dX12_apply_77 : decode cX12_apply 77 = .ok (.iload 4, 2) := by decide +kernel
theorem dX12_apply_79 : decode cX12_apply 79 = .ok (.invokevirtual 523, 3) := by decide +kernel
theorem dX12_apply_82 : decode cX12_apply 82 = .ok (.invokevirtual 637, 3) := by decide +kernel
theorem dX12_apply_85 : decode cX12_apply 85 = .ok (.return_, 1) := by decide +kernel
theorem dX12_apply_86 : decode cX12_apply 86 = .ok (.iload_n 3, 1) := by decide +kernel
theorem dX12_apply_87 : decode cX12_apply 87 = .ok (.bipush 100, 2) := by decide +kernel
theorem dX12_apply_89 : decode cX12_apply 89 = .ok (.if_icmp .ge 129, 3) := by decide +kernel
theorem dX12_apply_92 : decode cX12_apply 92 = .ok (.aload_n 0, 1) := by decide +kernel
theorem dX12_apply_93 : decode cX12_apply 93 = .ok (.iload_n 2, 1) := by decide +kernel
theorem dX12_apply_94 : decode cX12_apply 94 = .ok (.invokevirtual 690, 3) := by decide +kernel
theorem dX12_apply_97 : decode cX12_apply 97 = .ok (.istore 4, 2) := by decide +kernel
theorem dX12_apply_99 : decode cX12_apply 99 = .ok (.iload 4, 2) := by decide +kernel
theorem dX12_apply_101 : decode cX12_apply 101 = .ok (.iconst (-1), 1) := by decide +kernel
theorem dX12_apply_102 : decode cX12_apply 102 = .ok (.if_icmp .eq 10, 3) := by decide +kernel
theorem dX12_apply_105 : decode cX12_apply 105 = .ok (.aload_n 0, 1) := by decide +kernel
theorem dX12_apply_106 : decode cX12_apply 106 = .ok (.iload 4, 2) := by decide +kernel
theorem dX12_apply_108 : decode cX12_apply 108 = .ok (.invokevirtual 637, 3) := by decide +kernel
theorem dX12_apply_111 : decode cX12_apply 111 = .ok (.return_, 1) := by decide +kernel
theorem dX12_apply_112 : decode cX12_apply 112 = .ok (.iload_n 3, 1) := by decide +kernel
theorem dX12_apply_113 : decode cX12_apply 113 = .ok (.iconst 4, 1) := by decide +kernel
theorem dX12_apply_114 : decode cX12_apply 114 = .ok (.if_icmp .ne 104, 3) := by decide +kernel
theorem dX12_apply_117 : decode cX12_apply 117 = .ok (.aload_n 0, 1) := by decide +kernel
theorem dX12_apply_118 : decode cX12_apply 118 = .ok (.aload_n 0, 1) := by decide +kernel
theorem dX12_apply_119 : decode cX12_apply 119 = .ok (.iload_n 2, 1) := by decide +kernel
theorem dX12_apply_120 : decode cX12_apply 120 = .ok (.iconst 1, 1) := by decide +kernel
theorem dX12_apply_121 : decode cX12_apply 121 = .ok (.invokevirtual 592, 3) := by decide +kernel
theorem dX12_apply_124 : decode cX12_apply 124 = .ok (.iconst 5, 1) := by decide +kernel
theorem dX12_apply_125 : decode cX12_apply 125 = .ok (.invokevirtual 542, 3) := by decide +kernel
theorem dX12_apply_128 : decode cX12_apply 128 = .ok (.ifCond .eq 90, 3) := by decide +kernel
theorem dX12_apply_131 : decode cX12_apply 131 = .ok (.aload_n 0, 1) := by decide +kernel
theorem dX12_apply_132 : decode cX12_apply 132 = .ok (.aload_n 0, 1) := by decide +kernel
theorem dX12_apply_133 : decode cX12_apply 133 = .ok (.iload_n 2, 1) := by decide +kernel
theorem dX12_apply_134 : decode cX12_apply 134 = .ok (.iconst 2, 1) := by decide +kernel
theorem dX12_apply_135 : decode cX12_apply 135 = .ok (.invokevirtual 592, 3) := by decide +kernel
theorem dX12_apply_138 : decode cX12_apply 138 = .ok (.iconst 5, 1) := by decide +kernel
theorem dX12_apply_139 : decode cX12_apply 139 = .ok (.invokevirtual 542, 3) := by decide +kernel
theorem dX12_apply_142 : decode cX12_apply 142 = .ok (.ifCond .eq 76, 3) := by decide +kernel
theorem dX12_apply_145 : decode cX12_apply 145 = .ok (.aload_n 0, 1) := by decide +kernel
theorem dX12_apply_146 : decode cX12_apply 146 = .ok (.iload_n 2, 1) := by decide +kernel
theorem dX12_apply_147 : decode cX12_apply 147 = .ok (.iconst 1, 1) := by decide +kernel
theorem dX12_apply_148 : decode cX12_apply 148 = .ok (.invokevirtual 592, 3) := by decide +kernel
theorem dX12_apply_151 : decode cX12_apply 151 = .ok (.istore 5, 2) := by decide +kernel
theorem dX12_apply_153 : decode cX12_apply 153 = .ok (.aload_n 0, 1) := by decide +kernel
theorem dX12_apply_154 : decode cX12_apply 154 = .ok (.iload_n 2, 1) := by decide +kernel
theorem dX12_apply_155 : decode cX12_apply 155 = .ok (.iconst 2, 1) := by decide +kernel
theorem dX12_apply_156 : decode cX12_apply 156 = .ok (.invokevirtual 592, 3) := by decide +kernel
theorem dX12_apply_159 : decode cX12_apply 159 = .ok (.istore 6, 2) := by decide +kernel
theorem dX12_apply_161 : decode cX12_apply 161 = .ok (.aload_n 0, 1) := by decide +kernel
theorem dX12_apply_162 : decode cX12_apply 162 = .ok (.iconst 4, 1) := by decide +kernel
theorem dX12_apply_163 : decode cX12_apply 163 = .ok (.aload_n 0, 1) := by decide +kernel
theorem dX12_apply_164 : decode cX12_apply 164 = .ok (.iload 5, 2) := by decide +kernel
theorem dX12_apply_166 : decode cX12_apply 166 = .ok (.iconst 1, 1) := by decide +kernel
theorem dX12_apply_167 : decode cX12_apply 167 = .ok (.invokevirtual 592, 3) := by decide +kernel
theorem dX12_apply_170 : decode cX12_apply 170 = .ok (.aload_n 0, 1) := by decide +kernel
theorem dX12_apply_171 : decode cX12_apply 171 = .ok (.iload 6, 2) := by decide +kernel
theorem dX12_apply_173 : decode cX12_apply 173 = .ok (.iconst 1, 1) := by decide +kernel
theorem dX12_apply_174 : decode cX12_apply 174 = .ok (.invokevirtual 592, 3) := by decide +kernel
theorem dX12_apply_177 : decode cX12_apply 177 = .ok (.invokevirtual 693, 3) := by decide +kernel
theorem dX12_apply_180 : decode cX12_apply 180 = .ok (.istore 7, 2) := by decide +kernel
theorem dX12_apply_182 : decode cX12_apply 182 = .ok (.aload_n 0, 1) := by decide +kernel
theorem dX12_apply_183 : decode cX12_apply 183 = .ok (.iconst 4, 1) := by decide +kernel
theorem dX12_apply_184 : decode cX12_apply 184 = .ok (.aload_n 0, 1) := by decide +kernel
theorem dX12_apply_185 : decode cX12_apply 185 = .ok (.iload 5, 2) := by decide +kernel
theorem dX12_apply_187 : decode cX12_apply 187 = .ok (.iconst 2, 1) := by decide +kernel
theorem dX12_apply_188 : decode cX12_apply 188 = .ok (.invokevirtual 592, 3) := by decide +kernel
theorem dX12_apply_191 : decode cX12_apply 191 = .ok (.aload_n 0, 1) := by decide +kernel
theorem dX12_apply_192 : decode cX12_apply 192 = .ok (.iload 6, 2) := by decide +kernel
theorem dX12_apply_194 : decode cX12_apply 194 = .ok (.iconst 2, 1) := by decide +kernel
theorem dX12_apply_195 : decode cX12_apply 195 = .ok (.invokevirtual 592, 3) := by decide +kernel
theorem dX12_apply_198 : decode cX12_apply 198 = .ok (.invokevirtual 693, 3) := by decide +kernel
theorem dX12_apply_201 : decode cX12_apply 201 = .ok (.istore 8, 2) := by decide +kernel
theorem dX12_apply_203 : decode cX12_apply 203 = .ok (.aload_n 0, 1) := by decide +kernel
theorem dX12_apply_204 : decode cX12_apply 204 = .ok (.aload_n 0, 1) := by decide +kernel
theorem dX12_apply_205 : decode cX12_apply 205 = .ok (.iconst 3, 1) := by decide +kernel
theorem dX12_apply_206 : decode cX12_apply 206 = .ok (.iload 7, 2) := by decide +kernel
theorem dX12_apply_208 : decode cX12_apply 208 = .ok (.iload 8, 2) := by decide +kernel
theorem dX12_apply_210 : decode cX12_apply 210 = .ok (.iconst 0, 1) := by decide +kernel
theorem dX12_apply_211 : decode cX12_apply 211 = .ok (.invokevirtual 538, 3) := by decide +kernel
theorem dX12_apply_214 : decode cX12_apply 214 = .ok (.invokevirtual 644, 3) := by decide +kernel
theorem dX12_apply_217 : decode cX12_apply 217 = .ok (.return_, 1) := by decide +kernel
theorem dX12_apply_218 : decode cX12_apply 218 = .ok (.iload_n 3, 1) := by decide +kernel
theorem dX12_apply_219 : decode cX12_apply 219 = .ok (.bipush 9, 2) := by decide +kernel
theorem dX12_apply_221 : decode cX12_apply 221 = .ok (.if_icmp .ne 22, 3) := by decide +kernel
theorem dX12_apply_224 : decode cX12_apply 224 = .ok (.aload_n 0, 1) := by decide +kernel
theorem dX12_apply_225 : decode cX12_apply 225 = .ok (.aload_n 0, 1) := by decide +kernel
theorem dX12_apply_226 : decode cX12_apply 226 = .ok (.iload_n 2, 1) := by decide +kernel
theorem dX12_apply_227 : decode cX12_apply 227 = .ok (.iconst 1, 1) := by decide +kernel
theorem dX12_apply_228 : decode cX12_apply 228 = .ok (.invokevirtual 592, 3) := by decide +kernel
theorem dX12_apply_231 : decode cX12_apply 231 = .ok (.aload_n 0, 1) := by decide +kernel
theorem dX12_apply_232 : decode cX12_apply 232 = .ok (.iload_n 2, 1) := by decide +kernel
theorem dX12_apply_233 : decode cX12_apply 233 = .ok (.iconst 2, 1) := by decide +kernel
theorem dX12_apply_234 : decode cX12_apply 234 = .ok (.invokevirtual 592, 3) := by decide +kernel
theorem dX12_apply_237 : decode cX12_apply 237 = .ok (.invokevirtual 696, 3) := by decide +kernel
theorem dX12_apply_240 : decode cX12_apply 240 = .ok (.goto 4, 3) := by decide +kernel
theorem dX12_apply_243 : decode cX12_apply 243 = .ok (.iconst (-1), 1) := by decide +kernel
theorem dX12_apply_244 : decode cX12_apply 244 = .ok (.istore 4, 2) := by decide +kernel
theorem dX12_apply_246 : decode cX12_apply 246 = .ok (.iload 4, 2) := by decide +kernel
theorem dX12_apply_248 : decode cX12_apply 248 = .ok (.iconst (-1), 1) := by decide +kernel
theorem dX12_apply_249 : decode cX12_apply 249 = .ok (.if_icmp .eq 10, 3) := by decide +kernel
theorem dX12_apply_252 : decode cX12_apply 252 = .ok (.aload_n 0, 1) := by decide +kernel
theorem dX12_apply_253 : decode cX12_apply 253 = .ok (.iload 4, 2) := by decide +kernel
theorem dX12_apply_255 : decode cX12_apply 255 = .ok (.invokevirtual 644, 3) := by decide +kernel
theorem dX12_apply_258 : decode cX12_apply 258 = .ok (.return_, 1) := by decide +kernel
theorem dX12_apply_259 : decode cX12_apply 259 = .ok (.aload_n 0, 1) := by decide +kernel
theorem dX12_apply_260 : decode cX12_apply 260 = .ok (.iload_n 2, 1) := by decide +kernel
theorem dX12_apply_261 : decode cX12_apply 261 = .ok (.aload_n 0, 1) := by decide +kernel
theorem dX12_apply_262 : decode cX12_apply 262 = .ok (.getfield 193, 3) := by decide +kernel
theorem dX12_apply_265 : decode cX12_apply 265 = .ok (.iload_n 1, 1) := by decide +kernel
theorem dX12_apply_266 : decode cX12_apply 266 = .ok (.baload, 1) := by decide +kernel
theorem dX12_apply_267 : decode cX12_apply 267 = .ok (.invokevirtual 640, 3) := by decide +kernel
theorem dX12_apply_270 : decode cX12_apply 270 = .ok (.istore 5, 2) := by decide +kernel
theorem dX12_apply_272 : decode cX12_apply 272 = .ok (.iload 5, 2) := by decide +kernel
theorem dX12_apply_274 : decode cX12_apply 274 = .ok (.iload_n 2, 1) := by decide +kernel
theorem dX12_apply_275 : decode cX12_apply 275 = .ok (.if_icmp .eq 12, 3) := by decide +kernel
theorem dX12_apply_278 : decode cX12_apply 278 = .ok (.aload_n 0, 1) := by decide +kernel
theorem dX12_apply_279 : decode cX12_apply 279 = .ok (.iload 5, 2) := by decide +kernel
theorem dX12_apply_281 : decode cX12_apply 281 = .ok (.invokevirtual 637, 3) := by decide +kernel
theorem dX12_apply_284 : decode cX12_apply 284 = .ok (.goto 14, 3) := by decide +kernel
theorem dX12_apply_287 : decode cX12_apply 287 = .ok (.aload_n 0, 1) := by decide +kernel
theorem dX12_apply_288 : decode cX12_apply 288 = .ok (.iload_n 1, 1) := by decide +kernel
theorem dX12_apply_289 : decode cX12_apply 289 = .ok (.aload_n 0, 1) := by decide +kernel
theorem dX12_apply_290 : decode cX12_apply 290 = .ok (.getfield 699, 3) := by decide +kernel
theorem dX12_apply_293 : decode cX12_apply 293 = .ok (.iconst 1, 1) := by decide +kernel
theorem dX12_apply_294 : decode cX12_apply 294 = .ok (.isub, 1) := by decide +kernel
theorem dX12_apply_295 : decode cX12_apply 295 = .ok (.invokevirtual 672, 3) := by decide +kernel
theorem dX12_apply_298 : decode cX12_apply 298 = .ok (.return_, 1) := by decide +kernel

section
variable {p : Program} {l : Launch} {e : Env} {R : Room} {s : State} {m : MethodId} {args : Array Value} {below : List Frame} {meth : Method} {c : Code} {H : Heap} {locs : List Loc} {Qf : State → Prop}
variable {ls : Array Slot} {D : va_G} {ca : Nat → ClassId} {A : Nat → Prop} {h0 : Nat} {ad : Nat → Nat} {H0 : Heap} {u : iST}
def w_apply_244 (Q : iST → Prop) (x1 : Int) (x2 : Int) (y0 : Int) (u : iST) : Prop :=
  br (y0 = (-1)) (
    bd x1 60 (rz (u.2.1 93 x1) (fun v5 => 
    w_lookedUp x2 v5 (fun v6 u => 
    br (v6 = x2) (
      rd (u.1 42) (fun v7 => 
      ov (v7 - 1) (
      w_tryRules x1 (v7 - 1) (fun u => 
      Q u) u))) (
      w_end0 v6 (fun u => 
      Q u) u)) u))) (
    w_passOn y0 (fun u => 
    Q u) u)
set_option maxRecDepth 20000 in
set_option maxHeartbeats 4000000 in
theorem b_apply_244 (X : kX p m c cX12_apply 9 s args D ca) (hRf : 9 ≤ R.frames) (hRl : 207 ≤ R.locals) {Q : iST → Prop} (hret : ∀ (u : iST) (H : Heap) (locs : List Loc) (ls : Array Slot) (pc : Nat), Q u → kW D ca A h0 ad H0 H locs u → decode cX12_apply pc = .ok (.return_, 1) → W p l e R s m args below meth c H locs 0 0 Qf (F0 m pc ls [])) {x1 x2 y0 : Int} (rx1 : inR x1) (rx2 : inR x2) (ry0 : inR y0) (hw : kW D ca A h0 ad H0 H locs u) (hl : lv_has ls 9 [(0, .ref h0), (1, .int (jI x1)), (2, .int (jI x2))]) (h : w_apply_244 Q x1 x2 y0 u) : W p l e R s m args below meth c H locs 0 0 Qf (F0 m 244 ls [.int (jI y0)]) := by
  have hx := X.1.1
  have hb := X.1.2.1
  unfold w_apply_244 at h
  refine lv_istore hx hb dX12_apply_244 hl (by decide) rfl (fun ls hl => ?_)
  have hl : lv_has ls 9 [(4, .int (jI y0)), (0, .ref (h0)), (1, .int (jI x1)), (2, .int (jI x2))] := hl
  refine lv_iload hx hb dX12_apply_246 (lv_at hl 0 rfl) ?_
  refine lv_iconst hx hb dX12_apply_248 (v := jI (-1)) rfl ?_
  refine k_icmp_eq hx hb ry0 (by decide) dX12_apply_249 (tgt := 259) rfl h (fun h => ?_) (fun h => ?_)
  · refine lv_aload_n hx hb dX12_apply_259 rfl (lv_at hl 1 rfl) ?_
    refine lv_iload_n hx hb dX12_apply_260 rfl (lv_at hl 3 rfl) ?_
    refine lv_aload_n hx hb dX12_apply_261 rfl (lv_at hl 1 rfl) ?_
    refine gA 93 193 (by decide) L_93 (fun _ _ => mF_93) rfl X hw dX12_apply_262 ?_
    refine lv_iload_n hx hb dX12_apply_265 rfl (lv_at hl 2 rfl) ?_
    refine aZ 93 57 56 60 (fun _ _ _ _ => mG_93) (fun _ => rfl) (by decide) X hw rx1 dX12_apply_266 rfl h (fun v5 rv5 h => ?_)
    refine kcI (n := 2) (c_lookedUp rx2 (bz_in rv5) h) G_lookedUp E_lookedUp X hw (Nat.le_trans (Nat.le_of_ble_eq_true rfl) hRf) (Nat.le_trans (Nat.le_of_ble_eq_true rfl) hRl) rfl hl.1 (Nat.le_of_ble_eq_true rfl) rfl dX12_apply_267 (fun v6 u H locs rv6 h hw => ?_)
    refine lv_istore hx hb dX12_apply_270 hl (by decide) rfl (fun ls hl => ?_)
    have hl : lv_has ls 9 [(5, .int (jI v6)), (4, .int (jI y0)), (0, .ref (h0)), (1, .int (jI x1)), (2, .int (jI x2))] := hl
    refine lv_iload hx hb dX12_apply_272 (lv_at hl 0 rfl) ?_
    refine lv_iload_n hx hb dX12_apply_274 rfl (lv_at hl 4 rfl) ?_
    refine k_icmp_eq hx hb rv6 rx2 dX12_apply_275 (tgt := 287) rfl h (fun h => ?_) (fun h => ?_)
    · refine lv_aload_n hx hb dX12_apply_287 rfl (lv_at hl 2 rfl) ?_
      refine lv_iload_n hx hb dX12_apply_288 rfl (lv_at hl 3 rfl) ?_
      refine lv_aload_n hx hb dX12_apply_289 rfl (lv_at hl 2 rfl) ?_
      refine gS 42 699 (by decide) L_42 (fun _ _ => mF_42) rfl X hw dX12_apply_290 h (fun v7 rv7 h => ?_)
      refine lv_iconst hx hb dX12_apply_293 (v := jI 1) rfl ?_
      refine k_isub hx hb dX12_apply_294 h (fun r8 h => ?_)
      refine kcV (n := 2) (c_tryRules rx1 r8 h) G_tryRules E_tryRules X hw (Nat.le_trans (Nat.le_of_ble_eq_true rfl) hRf) (Nat.le_trans (Nat.le_of_ble_eq_true rfl) hRl) rfl hl.1 (Nat.le_of_ble_eq_true rfl) rfl dX12_apply_295 (fun u H locs h hw => ?_)
      exact hret _ _ _ _ _ h hw dX12_apply_298
    · refine lv_aload_n hx hb dX12_apply_278 rfl (lv_at hl 2 rfl) ?_
      refine lv_iload hx hb dX12_apply_279 (lv_at hl 0 rfl) ?_
      refine kcV (n := 1) (c_end0 rv6 h) G_end0 E_end0 X hw (Nat.le_trans (Nat.le_of_ble_eq_true rfl) hRf) (Nat.le_trans (Nat.le_of_ble_eq_true rfl) hRl) rfl hl.1 (Nat.le_of_ble_eq_true rfl) rfl dX12_apply_281 (fun u H locs h hw => ?_)
      refine lv_goto hx hb dX12_apply_284 (tgt := 298) rfl ?_
      exact hret _ _ _ _ _ h hw dX12_apply_298
  · refine lv_aload_n hx hb dX12_apply_252 rfl (lv_at hl 1 rfl) ?_
    refine lv_iload hx hb dX12_apply_253 (lv_at hl 0 rfl) ?_
    refine kcV (n := 1) (c_passOn ry0 h) G_passOn E_passOn X hw (Nat.le_trans (Nat.le_of_ble_eq_true rfl) hRf) (Nat.le_trans (Nat.le_of_ble_eq_true rfl) hRl) rfl hl.1 (Nat.le_of_ble_eq_true rfl) rfl dX12_apply_255 (fun u H locs h hw => ?_)
    exact hret _ _ _ _ _ h hw dX12_apply_258

def w_apply_218 (Q : iST → Prop) (x1 : Int) (x2 : Int) (x3 : Int) (u : iST) : Prop :=
  br (x3 ≠ 9) (
    w_apply_244 Q x1 x2 (-1) u) (
    w_term x2 1 (fun v12 u => 
    w_term x2 2 (fun v13 u => 
    w_fallen v12 v13 (fun v14 u => 
    w_apply_244 Q x1 x2 v14 u) u) u) u)
set_option maxRecDepth 20000 in
set_option maxHeartbeats 4000000 in
theorem b_apply_218 (X : kX p m c cX12_apply 9 s args D ca) (hRf : 9 ≤ R.frames) (hRl : 207 ≤ R.locals) {Q : iST → Prop} (hret : ∀ (u : iST) (H : Heap) (locs : List Loc) (ls : Array Slot) (pc : Nat), Q u → kW D ca A h0 ad H0 H locs u → decode cX12_apply pc = .ok (.return_, 1) → W p l e R s m args below meth c H locs 0 0 Qf (F0 m pc ls [])) {x1 x2 x3 : Int} (rx1 : inR x1) (rx2 : inR x2) (rx3 : inR x3) (hw : kW D ca A h0 ad H0 H locs u) (hl : lv_has ls 9 [(0, .ref h0), (1, .int (jI x1)), (2, .int (jI x2)), (3, .int (jI x3))]) (h : w_apply_218 Q x1 x2 x3 u) : W p l e R s m args below meth c H locs 0 0 Qf (F0 m 218 ls []) := by
  have hx := X.1.1
  have hb := X.1.2.1
  unfold w_apply_218 at h
  refine lv_iload_n hx hb dX12_apply_218 rfl (lv_at hl 3 rfl) ?_
  refine lv_bipush hx hb dX12_apply_219 (v := jI 9) rfl ?_
  refine k_icmp_ne hx hb rx3 (by decide) dX12_apply_221 (tgt := 243) rfl h (fun h => ?_) (fun h => ?_)
  · refine lv_iconst hx hb dX12_apply_243 (v := jI (-1)) rfl ?_
    exact b_apply_244 X hRf hRl hret rx1 rx2 (by decide) hw (lv_sub hl [0, 1, 2] rfl) h
  · refine lv_aload_n hx hb dX12_apply_224 rfl (lv_at hl 0 rfl) ?_
    refine lv_aload_n hx hb dX12_apply_225 rfl (lv_at hl 0 rfl) ?_
    refine lv_iload_n hx hb dX12_apply_226 rfl (lv_at hl 2 rfl) ?_
    refine lv_iconst hx hb dX12_apply_227 (v := jI 1) rfl ?_
    refine kcI (n := 2) (c_term rx2 (by decide) h) G_term E_term X hw (Nat.le_trans (Nat.le_of_ble_eq_true rfl) hRf) (Nat.le_trans (Nat.le_of_ble_eq_true rfl) hRl) rfl hl.1 (Nat.le_of_ble_eq_true rfl) rfl dX12_apply_228 (fun v12 u H locs rv12 h hw => ?_)
    refine lv_aload_n hx hb dX12_apply_231 rfl (lv_at hl 0 rfl) ?_
    refine lv_iload_n hx hb dX12_apply_232 rfl (lv_at hl 2 rfl) ?_
    refine lv_iconst hx hb dX12_apply_233 (v := jI 2) rfl ?_
    refine kcI (n := 2) (c_term rx2 (by decide) h) G_term E_term X hw (Nat.le_trans (Nat.le_of_ble_eq_true rfl) hRf) (Nat.le_trans (Nat.le_of_ble_eq_true rfl) hRl) rfl hl.1 (Nat.le_of_ble_eq_true rfl) rfl dX12_apply_234 (fun v13 u H locs rv13 h hw => ?_)
    refine kcI (n := 2) (c_fallen rv12 rv13 h) G_fallen E_fallen X hw (Nat.le_trans (Nat.le_of_ble_eq_true rfl) hRf) (Nat.le_trans (Nat.le_of_ble_eq_true rfl) hRl) rfl hl.1 (Nat.le_of_ble_eq_true rfl) rfl dX12_apply_237 (fun v14 u H locs rv14 h hw => ?_)
    refine lv_goto hx hb dX12_apply_240 (tgt := 244) rfl ?_
    exact b_apply_244 X hRf hRl hret rx1 rx2 rv14 hw (lv_sub hl [0, 1, 2] rfl) h

def w_apply_86 (Q : iST → Prop) (x1 : Int) (x2 : Int) (x3 : Int) (u : iST) : Prop :=
  br (100 ≤ x3) (
    w_apply_218 Q x1 x2 x3 u) (
    w_plain x2 (fun v15 u => 
    br (v15 = (-1)) (
      br (x3 ≠ 4) (
        w_apply_218 Q x1 x2 x3 u) (
        w_term x2 1 (fun v16 u => 
        w_isCallOf v16 5 (fun v17 u => 
        br (v17 = 0) (
          w_apply_218 Q x1 x2 x3 u) (
          w_term x2 2 (fun v18 u => 
          w_isCallOf v18 5 (fun v19 u => 
          br (v19 = 0) (
            w_apply_218 Q x1 x2 x3 u) (
            w_term x2 1 (fun v20 u => 
            w_term x2 2 (fun v21 u => 
            w_term v20 1 (fun v22 u => 
            w_term v21 1 (fun v23 u => 
            w_made2 4 v22 v23 (fun v24 u => 
            w_term v20 2 (fun v25 u => 
            w_term v21 2 (fun v26 u => 
            w_made2 4 v25 v26 (fun v27 u => 
            w_made 3 v24 v27 0 (fun v28 u => 
            w_passOn v28 (fun u => 
            Q u) u) u) u) u) u) u) u) u) u) u)) u) u)) u) u)) (
      w_end0 v15 (fun u => 
      Q u) u)) u)
set_option maxRecDepth 20000 in
set_option maxHeartbeats 4000000 in
theorem b_apply_86 (X : kX p m c cX12_apply 9 s args D ca) (hRf : 9 ≤ R.frames) (hRl : 207 ≤ R.locals) {Q : iST → Prop} (hret : ∀ (u : iST) (H : Heap) (locs : List Loc) (ls : Array Slot) (pc : Nat), Q u → kW D ca A h0 ad H0 H locs u → decode cX12_apply pc = .ok (.return_, 1) → W p l e R s m args below meth c H locs 0 0 Qf (F0 m pc ls [])) {x1 x2 x3 : Int} (rx1 : inR x1) (rx2 : inR x2) (rx3 : inR x3) (hw : kW D ca A h0 ad H0 H locs u) (hl : lv_has ls 9 [(0, .ref h0), (1, .int (jI x1)), (2, .int (jI x2)), (3, .int (jI x3))]) (h : w_apply_86 Q x1 x2 x3 u) : W p l e R s m args below meth c H locs 0 0 Qf (F0 m 86 ls []) := by
  have hx := X.1.1
  have hb := X.1.2.1
  unfold w_apply_86 at h
  refine lv_iload_n hx hb dX12_apply_86 rfl (lv_at hl 3 rfl) ?_
  refine lv_bipush hx hb dX12_apply_87 (v := jI 100) rfl ?_
  refine k_icmp_ge hx hb rx3 (by decide) dX12_apply_89 (tgt := 218) rfl h (fun h => ?_) (fun h => ?_)
  · exact b_apply_218 X hRf hRl hret rx1 rx2 rx3 hw hl h
  · refine lv_aload_n hx hb dX12_apply_92 rfl (lv_at hl 0 rfl) ?_
    refine lv_iload_n hx hb dX12_apply_93 rfl (lv_at hl 2 rfl) ?_
    refine kcI (n := 1) (c_plain rx2 h) G_plain E_plain X hw (Nat.le_trans (Nat.le_of_ble_eq_true rfl) hRf) (Nat.le_trans (Nat.le_of_ble_eq_true rfl) hRl) rfl hl.1 (Nat.le_of_ble_eq_true rfl) rfl dX12_apply_94 (fun v15 u H locs rv15 h hw => ?_)
    refine lv_istore hx hb dX12_apply_97 hl (by decide) rfl (fun ls hl => ?_)
    have hl : lv_has ls 9 [(4, .int (jI v15)), (0, .ref (h0)), (1, .int (jI x1)), (2, .int (jI x2)), (3, .int (jI x3))] := hl
    refine lv_iload hx hb dX12_apply_99 (lv_at hl 0 rfl) ?_
    refine lv_iconst hx hb dX12_apply_101 (v := jI (-1)) rfl ?_
    refine k_icmp_eq hx hb rv15 (by decide) dX12_apply_102 (tgt := 112) rfl h (fun h => ?_) (fun h => ?_)
    · refine lv_iload_n hx hb dX12_apply_112 rfl (lv_at hl 4 rfl) ?_
      refine lv_iconst hx hb dX12_apply_113 (v := jI 4) rfl ?_
      refine k_icmp_ne hx hb rx3 (by decide) dX12_apply_114 (tgt := 218) rfl h (fun h => ?_) (fun h => ?_)
      · exact b_apply_218 X hRf hRl hret rx1 rx2 rx3 hw (lv_sub hl [1, 2, 3, 4] rfl) h
      · refine lv_aload_n hx hb dX12_apply_117 rfl (lv_at hl 1 rfl) ?_
        refine lv_aload_n hx hb dX12_apply_118 rfl (lv_at hl 1 rfl) ?_
        refine lv_iload_n hx hb dX12_apply_119 rfl (lv_at hl 3 rfl) ?_
        refine lv_iconst hx hb dX12_apply_120 (v := jI 1) rfl ?_
        refine kcI (n := 2) (c_term rx2 (by decide) h) G_term E_term X hw (Nat.le_trans (Nat.le_of_ble_eq_true rfl) hRf) (Nat.le_trans (Nat.le_of_ble_eq_true rfl) hRl) rfl hl.1 (Nat.le_of_ble_eq_true rfl) rfl dX12_apply_121 (fun v16 u H locs rv16 h hw => ?_)
        refine lv_iconst hx hb dX12_apply_124 (v := jI 5) rfl ?_
        refine kcI (n := 2) (c_isCallOf rv16 (by decide) h) G_isCallOf E_isCallOf X hw (Nat.le_trans (Nat.le_of_ble_eq_true rfl) hRf) (Nat.le_trans (Nat.le_of_ble_eq_true rfl) hRl) rfl hl.1 (Nat.le_of_ble_eq_true rfl) rfl dX12_apply_125 (fun v17 u H locs rv17 h hw => ?_)
        refine k_if_eq hx hb rv17 dX12_apply_128 (tgt := 218) rfl h (fun h => ?_) (fun h => ?_)
        · exact b_apply_218 X hRf hRl hret rx1 rx2 rx3 hw (lv_sub hl [1, 2, 3, 4] rfl) h
        · refine lv_aload_n hx hb dX12_apply_131 rfl (lv_at hl 1 rfl) ?_
          refine lv_aload_n hx hb dX12_apply_132 rfl (lv_at hl 1 rfl) ?_
          refine lv_iload_n hx hb dX12_apply_133 rfl (lv_at hl 3 rfl) ?_
          refine lv_iconst hx hb dX12_apply_134 (v := jI 2) rfl ?_
          refine kcI (n := 2) (c_term rx2 (by decide) h) G_term E_term X hw (Nat.le_trans (Nat.le_of_ble_eq_true rfl) hRf) (Nat.le_trans (Nat.le_of_ble_eq_true rfl) hRl) rfl hl.1 (Nat.le_of_ble_eq_true rfl) rfl dX12_apply_135 (fun v18 u H locs rv18 h hw => ?_)
          refine lv_iconst hx hb dX12_apply_138 (v := jI 5) rfl ?_
          refine kcI (n := 2) (c_isCallOf rv18 (by decide) h) G_isCallOf E_isCallOf X hw (Nat.le_trans (Nat.le_of_ble_eq_true rfl) hRf) (Nat.le_trans (Nat.le_of_ble_eq_true rfl) hRl) rfl hl.1 (Nat.le_of_ble_eq_true rfl) rfl dX12_apply_139 (fun v19 u H locs rv19 h hw => ?_)
          refine k_if_eq hx hb rv19 dX12_apply_142 (tgt := 218) rfl h (fun h => ?_) (fun h => ?_)
          · exact b_apply_218 X hRf hRl hret rx1 rx2 rx3 hw (lv_sub hl [1, 2, 3, 4] rfl) h
          · refine lv_aload_n hx hb dX12_apply_145 rfl (lv_at hl 1 rfl) ?_
            refine lv_iload_n hx hb dX12_apply_146 rfl (lv_at hl 3 rfl) ?_
            refine lv_iconst hx hb dX12_apply_147 (v := jI 1) rfl ?_
            refine kcI (n := 2) (c_term rx2 (by decide) h) G_term E_term X hw (Nat.le_trans (Nat.le_of_ble_eq_true rfl) hRf) (Nat.le_trans (Nat.le_of_ble_eq_true rfl) hRl) rfl hl.1 (Nat.le_of_ble_eq_true rfl) rfl dX12_apply_148 (fun v20 u H locs rv20 h hw => ?_)
            refine lv_istore hx hb dX12_apply_151 hl (by decide) rfl (fun ls hl => ?_)
            have hl : lv_has ls 9 [(5, .int (jI v20)), (4, .int (jI v15)), (0, .ref (h0)), (1, .int (jI x1)), (2, .int (jI x2)), (3, .int (jI x3))] := hl
            refine lv_aload_n hx hb dX12_apply_153 rfl (lv_at hl 2 rfl) ?_
            refine lv_iload_n hx hb dX12_apply_154 rfl (lv_at hl 4 rfl) ?_
            refine lv_iconst hx hb dX12_apply_155 (v := jI 2) rfl ?_
            refine kcI (n := 2) (c_term rx2 (by decide) h) G_term E_term X hw (Nat.le_trans (Nat.le_of_ble_eq_true rfl) hRf) (Nat.le_trans (Nat.le_of_ble_eq_true rfl) hRl) rfl hl.1 (Nat.le_of_ble_eq_true rfl) rfl dX12_apply_156 (fun v21 u H locs rv21 h hw => ?_)
            refine lv_istore hx hb dX12_apply_159 hl (by decide) rfl (fun ls hl => ?_)
            have hl : lv_has ls 9 [(6, .int (jI v21)), (5, .int (jI v20)), (4, .int (jI v15)), (0, .ref (h0)), (1, .int (jI x1)), (2, .int (jI x2)), (3, .int (jI x3))] := hl
            refine lv_aload_n hx hb dX12_apply_161 rfl (lv_at hl 3 rfl) ?_
            refine lv_iconst hx hb dX12_apply_162 (v := jI 4) rfl ?_
            refine lv_aload_n hx hb dX12_apply_163 rfl (lv_at hl 3 rfl) ?_
            refine lv_iload hx hb dX12_apply_164 (lv_at hl 1 rfl) ?_
            refine lv_iconst hx hb dX12_apply_166 (v := jI 1) rfl ?_
            refine kcI (n := 2) (c_term rv20 (by decide) h) G_term E_term X hw (Nat.le_trans (Nat.le_of_ble_eq_true rfl) hRf) (Nat.le_trans (Nat.le_of_ble_eq_true rfl) hRl) rfl hl.1 (Nat.le_of_ble_eq_true rfl) rfl dX12_apply_167 (fun v22 u H locs rv22 h hw => ?_)
            refine lv_aload_n hx hb dX12_apply_170 rfl (lv_at hl 3 rfl) ?_
            refine lv_iload hx hb dX12_apply_171 (lv_at hl 0 rfl) ?_
            refine lv_iconst hx hb dX12_apply_173 (v := jI 1) rfl ?_
            refine kcI (n := 2) (c_term rv21 (by decide) h) G_term E_term X hw (Nat.le_trans (Nat.le_of_ble_eq_true rfl) hRf) (Nat.le_trans (Nat.le_of_ble_eq_true rfl) hRl) rfl hl.1 (Nat.le_of_ble_eq_true rfl) rfl dX12_apply_174 (fun v23 u H locs rv23 h hw => ?_)
            refine kcI (n := 3) (c_made2 (by decide) rv22 rv23 h) G_made2 E_made2 X hw (Nat.le_trans (Nat.le_of_ble_eq_true rfl) hRf) (Nat.le_trans (Nat.le_of_ble_eq_true rfl) hRl) rfl hl.1 (Nat.le_of_ble_eq_true rfl) rfl dX12_apply_177 (fun v24 u H locs rv24 h hw => ?_)
            refine lv_istore hx hb dX12_apply_180 hl (by decide) rfl (fun ls hl => ?_)
            have hl : lv_has ls 9 [(7, .int (jI v24)), (6, .int (jI v21)), (5, .int (jI v20)), (4, .int (jI v15)), (0, .ref (h0)), (1, .int (jI x1)), (2, .int (jI x2)), (3, .int (jI x3))] := hl
            refine lv_aload_n hx hb dX12_apply_182 rfl (lv_at hl 4 rfl) ?_
            refine lv_iconst hx hb dX12_apply_183 (v := jI 4) rfl ?_
            refine lv_aload_n hx hb dX12_apply_184 rfl (lv_at hl 4 rfl) ?_
            refine lv_iload hx hb dX12_apply_185 (lv_at hl 2 rfl) ?_
            refine lv_iconst hx hb dX12_apply_187 (v := jI 2) rfl ?_
            refine kcI (n := 2) (c_term rv20 (by decide) h) G_term E_term X hw (Nat.le_trans (Nat.le_of_ble_eq_true rfl) hRf) (Nat.le_trans (Nat.le_of_ble_eq_true rfl) hRl) rfl hl.1 (Nat.le_of_ble_eq_true rfl) rfl dX12_apply_188 (fun v25 u H locs rv25 h hw => ?_)
            refine lv_aload_n hx hb dX12_apply_191 rfl (lv_at hl 4 rfl) ?_
            refine lv_iload hx hb dX12_apply_192 (lv_at hl 1 rfl) ?_
            refine lv_iconst hx hb dX12_apply_194 (v := jI 2) rfl ?_
            refine kcI (n := 2) (c_term rv21 (by decide) h) G_term E_term X hw (Nat.le_trans (Nat.le_of_ble_eq_true rfl) hRf) (Nat.le_trans (Nat.le_of_ble_eq_true rfl) hRl) rfl hl.1 (Nat.le_of_ble_eq_true rfl) rfl dX12_apply_195 (fun v26 u H locs rv26 h hw => ?_)
            refine kcI (n := 3) (c_made2 (by decide) rv25 rv26 h) G_made2 E_made2 X hw (Nat.le_trans (Nat.le_of_ble_eq_true rfl) hRf) (Nat.le_trans (Nat.le_of_ble_eq_true rfl) hRl) rfl hl.1 (Nat.le_of_ble_eq_true rfl) rfl dX12_apply_198 (fun v27 u H locs rv27 h hw => ?_)
            refine lv_istore hx hb dX12_apply_201 hl (by decide) rfl (fun ls hl => ?_)
            have hl : lv_has ls 9 [(8, .int (jI v27)), (7, .int (jI v24)), (6, .int (jI v21)), (5, .int (jI v20)), (4, .int (jI v15)), (0, .ref (h0)), (1, .int (jI x1)), (2, .int (jI x2)), (3, .int (jI x3))] := hl
            refine lv_aload_n hx hb dX12_apply_203 rfl (lv_at hl 5 rfl) ?_
            refine lv_aload_n hx hb dX12_apply_204 rfl (lv_at hl 5 rfl) ?_
            refine lv_iconst hx hb dX12_apply_205 (v := jI 3) rfl ?_
            refine lv_iload hx hb dX12_apply_206 (lv_at hl 1 rfl) ?_
            refine lv_iload hx hb dX12_apply_208 (lv_at hl 0 rfl) ?_
            refine lv_iconst hx hb dX12_apply_210 (v := jI 0) rfl ?_
            refine kcI (n := 4) (c_made (by decide) rv24 rv27 (by decide) h) G_made E_made X hw (Nat.le_trans (Nat.le_of_ble_eq_true rfl) hRf) (Nat.le_trans (Nat.le_of_ble_eq_true rfl) hRl) rfl hl.1 (Nat.le_of_ble_eq_true rfl) rfl dX12_apply_211 (fun v28 u H locs rv28 h hw => ?_)
            refine kcV (n := 1) (c_passOn rv28 h) G_passOn E_passOn X hw (Nat.le_trans (Nat.le_of_ble_eq_true rfl) hRf) (Nat.le_trans (Nat.le_of_ble_eq_true rfl) hRl) rfl hl.1 (Nat.le_of_ble_eq_true rfl) rfl dX12_apply_214 (fun u H locs h hw => ?_)
            exact hret _ _ _ _ _ h hw dX12_apply_217
    · refine lv_aload_n hx hb dX12_apply_105 rfl (lv_at hl 1 rfl) ?_
      refine lv_iload hx hb dX12_apply_106 (lv_at hl 0 rfl) ?_
      refine kcV (n := 1) (c_end0 rv15 h) G_end0 E_end0 X hw (Nat.le_trans (Nat.le_of_ble_eq_true rfl) hRf) (Nat.le_trans (Nat.le_of_ble_eq_true rfl) hRl) rfl hl.1 (Nat.le_of_ble_eq_true rfl) rfl dX12_apply_108 (fun u H locs h hw => ?_)
      exact hret _ _ _ _ _ h hw dX12_apply_111

def w_apply_69 (Q : iST → Prop) (x1 : Int) (x2 : Int) (x3 : Int) (x4 : Int) (u : iST) : Prop :=
  br (x4 = (-1)) (
    w_apply_86 Q x1 x2 x3 u) (
    w_constantOf x4 (fun v32 u => 
    w_end0 v32 (fun u => 
    Q u) u) u)
set_option maxRecDepth 20000 in
set_option maxHeartbeats 4000000 in
theorem b_apply_69 (X : kX p m c cX12_apply 9 s args D ca) (hRf : 9 ≤ R.frames) (hRl : 207 ≤ R.locals) {Q : iST → Prop} (hret : ∀ (u : iST) (H : Heap) (locs : List Loc) (ls : Array Slot) (pc : Nat), Q u → kW D ca A h0 ad H0 H locs u → decode cX12_apply pc = .ok (.return_, 1) → W p l e R s m args below meth c H locs 0 0 Qf (F0 m pc ls [])) {x1 x2 x3 x4 : Int} (rx1 : inR x1) (rx2 : inR x2) (rx3 : inR x3) (rx4 : inR x4) (hw : kW D ca A h0 ad H0 H locs u) (hl : lv_has ls 9 [(0, .ref h0), (1, .int (jI x1)), (2, .int (jI x2)), (3, .int (jI x3)), (4, .int (jI x4))]) (h : w_apply_69 Q x1 x2 x3 x4 u) : W p l e R s m args below meth c H locs 0 0 Qf (F0 m 69 ls []) := by
  have hx := X.1.1
  have hb := X.1.2.1
  unfold w_apply_69 at h
  refine lv_iload hx hb dX12_apply_69 (lv_at hl 4 rfl) ?_
  refine lv_iconst hx hb dX12_apply_71 (v := jI (-1)) rfl ?_
  refine k_icmp_eq hx hb rx4 (by decide) dX12_apply_72 (tgt := 86) rfl h (fun h => ?_) (fun h => ?_)
  · exact b_apply_86 X hRf hRl hret rx1 rx2 rx3 hw (lv_sub hl [0, 1, 2, 3] rfl) h
  · refine lv_aload_n hx hb dX12_apply_75 rfl (lv_at hl 0 rfl) ?_
    refine lv_aload_n hx hb dX12_apply_76 rfl (lv_at hl 0 rfl) ?_
    refine lv_iload hx hb dX12_apply_77 (lv_at hl 4 rfl) ?_
    refine kcI (n := 1) (c_constantOf rx4 h) G_constantOf E_constantOf X hw (Nat.le_trans (Nat.le_of_ble_eq_true rfl) hRf) (Nat.le_trans (Nat.le_of_ble_eq_true rfl) hRl) rfl hl.1 (Nat.le_of_ble_eq_true rfl) rfl dX12_apply_79 (fun v32 u H locs rv32 h hw => ?_)
    refine kcV (n := 1) (c_end0 rv32 h) G_end0 E_end0 X hw (Nat.le_trans (Nat.le_of_ble_eq_true rfl) hRf) (Nat.le_trans (Nat.le_of_ble_eq_true rfl) hRl) rfl hl.1 (Nat.le_of_ble_eq_true rfl) rfl dX12_apply_82 (fun u H locs h hw => ?_)
    exact hret _ _ _ _ _ h hw dX12_apply_85

def w_apply_47 (Q : iST → Prop) (x1 : Int) (x2 : Int) (x3 : Int) (y0 : Int) (u : iST) : Prop :=
  br (x3 < 100) (
    w_apply_69 Q x1 x2 x3 y0 u) (
    rd (u.1 89) (fun v34 => 
    br (v34 ≠ 1) (
      w_apply_69 Q x1 x2 x3 y0 u) (
      w_fail 1 (fun u => 
      Q u) u)))
set_option maxRecDepth 20000 in
set_option maxHeartbeats 4000000 in
theorem b_apply_47 (X : kX p m c cX12_apply 9 s args D ca) (hRf : 9 ≤ R.frames) (hRl : 207 ≤ R.locals) {Q : iST → Prop} (hret : ∀ (u : iST) (H : Heap) (locs : List Loc) (ls : Array Slot) (pc : Nat), Q u → kW D ca A h0 ad H0 H locs u → decode cX12_apply pc = .ok (.return_, 1) → W p l e R s m args below meth c H locs 0 0 Qf (F0 m pc ls [])) {x1 x2 x3 y0 : Int} (rx1 : inR x1) (rx2 : inR x2) (rx3 : inR x3) (ry0 : inR y0) (hw : kW D ca A h0 ad H0 H locs u) (hl : lv_has ls 9 [(0, .ref h0), (1, .int (jI x1)), (2, .int (jI x2)), (3, .int (jI x3))]) (h : w_apply_47 Q x1 x2 x3 y0 u) : W p l e R s m args below meth c H locs 0 0 Qf (F0 m 47 ls [.int (jI y0)]) := by
  have hx := X.1.1
  have hb := X.1.2.1
  unfold w_apply_47 at h
  refine lv_istore hx hb dX12_apply_47 hl (by decide) rfl (fun ls hl => ?_)
  have hl : lv_has ls 9 [(4, .int (jI y0)), (0, .ref (h0)), (1, .int (jI x1)), (2, .int (jI x2)), (3, .int (jI x3))] := hl
  refine lv_iload_n hx hb dX12_apply_49 rfl (lv_at hl 4 rfl) ?_
  refine lv_bipush hx hb dX12_apply_50 (v := jI 100) rfl ?_
  refine k_icmp_lt hx hb rx3 (by decide) dX12_apply_52 (tgt := 69) rfl h (fun h => ?_) (fun h => ?_)
  · exact b_apply_69 X hRf hRl hret rx1 rx2 rx3 ry0 hw (lv_sub hl [1, 2, 3, 4, 0] rfl) h
  · refine lv_aload_n hx hb dX12_apply_55 rfl (lv_at hl 1 rfl) ?_
    refine gS 89 576 (by decide) L_89 (fun _ _ => mF_89) rfl X hw dX12_apply_56 h (fun v34 rv34 h => ?_)
    refine lv_iconst hx hb dX12_apply_59 (v := jI 1) rfl ?_
    refine k_icmp_ne hx hb rv34 (by decide) dX12_apply_60 (tgt := 69) rfl h (fun h => ?_) (fun h => ?_)
    · exact b_apply_69 X hRf hRl hret rx1 rx2 rx3 ry0 hw (lv_sub hl [1, 2, 3, 4, 0] rfl) h
    · refine lv_aload_n hx hb dX12_apply_63 rfl (lv_at hl 1 rfl) ?_
      refine lv_iconst hx hb dX12_apply_64 (v := jI 1) rfl ?_
      refine kcV (n := 1) (c_fail (by decide) h) G_fail E_fail X hw (Nat.le_trans (Nat.le_of_ble_eq_true rfl) hRf) (Nat.le_trans (Nat.le_of_ble_eq_true rfl) hRl) rfl hl.1 (Nat.le_of_ble_eq_true rfl) rfl dX12_apply_65 (fun u H locs h hw => ?_)
      exact hret _ _ _ _ _ h hw dX12_apply_68

def w_apply (a0 : Int) (Q : iST → Prop) (u : iST) : Prop :=
  bd a0 60 (rd (u.2.1 92 a0) (fun v1 => 
  bd v1 452000 (rd (u.2.1 0 v1) (fun v2 => 
  w_functionOf v2 (fun v3 u => 
  w_areConstants v1 (fun v4 u => 
  br (v4 = 0) (
    w_apply_86 Q a0 v1 v3 u) (
    br (100 ≤ v3) (
      w_evaluated v1 1 (fun v31 u => 
      w_apply_47 Q a0 v1 v3 v31 u) u) (
      w_constantValue v1 v3 (fun v36 u => 
      w_apply_47 Q a0 v1 v3 v36 u) u))) u) u))))
set_option maxRecDepth 20000 in
set_option maxHeartbeats 4000000 in
theorem b_apply_s (X : kX p m c cX12_apply 9 s args D ca) (hRf : 9 ≤ R.frames) (hRl : 207 ≤ R.locals) {Q : iST → Prop} (hret : ∀ (u : iST) (H : Heap) (locs : List Loc) (ls : Array Slot) (pc : Nat), Q u → kW D ca A h0 ad H0 H locs u → decode cX12_apply pc = .ok (.return_, 1) → W p l e R s m args below meth c H locs 0 0 Qf (F0 m pc ls [])) {a0 : Int} (ra0 : inR a0) (hw : kW D ca A h0 ad H0 H locs u) (hl : lv_has ls 9 [(0, .ref h0), (1, .int (jI a0))]) (h : w_apply a0 Q u) : W p l e R s m args below meth c H locs 0 0 Qf (F0 m 0 ls []) := by
  have hx := X.1.1
  have hb := X.1.2.1
  unfold w_apply at h
  refine lv_aload_n hx hb dX12_apply_0 rfl (lv_at hl 0 rfl) ?_
  refine gA 92 190 (by decide) L_92 (fun _ _ => mF_92) rfl X hw dX12_apply_1 ?_
  refine lv_iload_n hx hb dX12_apply_4 rfl (lv_at hl 1 rfl) ?_
  refine aL 92 56 55 60 (fun _ _ _ _ => mG_92) (fun _ => rfl) X hw ra0 dX12_apply_5 rfl h (fun v1 rv1 h => ?_)
  refine lv_istore_n hx hb dX12_apply_6 rfl hl (by decide) rfl (fun ls hl => ?_)
  have hl : lv_has ls 9 [(2, .int (jI v1)), (0, .ref (h0)), (1, .int (jI a0))] := hl
  refine lv_aload_n hx hb dX12_apply_7 rfl (lv_at hl 1 rfl) ?_
  refine lv_aload_n hx hb dX12_apply_8 rfl (lv_at hl 1 rfl) ?_
  refine gA 0 8 (by decide) L_0 (fun _ _ => mF_0) rfl X hw dX12_apply_9 ?_
  refine lv_iload_n hx hb dX12_apply_12 rfl (lv_at hl 0 rfl) ?_
  refine aL 0 1 0 452000 (fun _ _ _ _ => mG_0) (fun _ => rfl) X hw rv1 dX12_apply_13 rfl h (fun v2 rv2 h => ?_)
  refine kcI (n := 1) (c_functionOf rv2 h) G_functionOf E_functionOf X hw (Nat.le_trans (Nat.le_of_ble_eq_true rfl) hRf) (Nat.le_trans (Nat.le_of_ble_eq_true rfl) hRl) rfl hl.1 (Nat.le_of_ble_eq_true rfl) rfl dX12_apply_14 (fun v3 u H locs rv3 h hw => ?_)
  refine lv_istore_n hx hb dX12_apply_17 rfl hl (by decide) rfl (fun ls hl => ?_)
  have hl : lv_has ls 9 [(3, .int (jI v3)), (2, .int (jI v1)), (0, .ref (h0)), (1, .int (jI a0))] := hl
  refine lv_aload_n hx hb dX12_apply_18 rfl (lv_at hl 2 rfl) ?_
  refine lv_iload_n hx hb dX12_apply_19 rfl (lv_at hl 1 rfl) ?_
  refine kcI (n := 1) (c_areConstants rv1 h) G_areConstants E_areConstants X hw (Nat.le_trans (Nat.le_of_ble_eq_true rfl) hRf) (Nat.le_trans (Nat.le_of_ble_eq_true rfl) hRl) rfl hl.1 (Nat.le_of_ble_eq_true rfl) rfl dX12_apply_20 (fun v4 u H locs rv4 h hw => ?_)
  refine k_if_eq hx hb rv4 dX12_apply_23 (tgt := 86) rfl h (fun h => ?_) (fun h => ?_)
  · exact b_apply_86 X hRf hRl hret ra0 rv1 rv3 hw (lv_sub hl [2, 3, 1, 0] rfl) h
  · refine lv_iload_n hx hb dX12_apply_26 rfl (lv_at hl 0 rfl) ?_
    refine lv_bipush hx hb dX12_apply_27 (v := jI 100) rfl ?_
    refine k_icmp_ge hx hb rv3 (by decide) dX12_apply_29 (tgt := 41) rfl h (fun h => ?_) (fun h => ?_)
    · refine lv_aload_n hx hb dX12_apply_41 rfl (lv_at hl 2 rfl) ?_
      refine lv_iload_n hx hb dX12_apply_42 rfl (lv_at hl 1 rfl) ?_
      refine lv_iconst hx hb dX12_apply_43 (v := jI 1) rfl ?_
      refine kcI (n := 2) (c_evaluated rv1 (by decide) h) G_evaluated E_evaluated X hw (Nat.le_trans (Nat.le_of_ble_eq_true rfl) hRf) (Nat.le_trans (Nat.le_of_ble_eq_true rfl) hRl) rfl hl.1 (Nat.le_of_ble_eq_true rfl) rfl dX12_apply_44 (fun v31 u H locs rv31 h hw => ?_)
      exact b_apply_47 X hRf hRl hret ra0 rv1 rv3 rv31 hw (lv_sub hl [2, 3, 1, 0] rfl) h
    · refine lv_aload_n hx hb dX12_apply_32 rfl (lv_at hl 2 rfl) ?_
      refine lv_iload_n hx hb dX12_apply_33 rfl (lv_at hl 1 rfl) ?_
      refine lv_iload_n hx hb dX12_apply_34 rfl (lv_at hl 0 rfl) ?_
      refine kcI (n := 2) (c_constantValue rv1 rv3 h) G_constantValue E_constantValue X hw (Nat.le_trans (Nat.le_of_ble_eq_true rfl) hRf) (Nat.le_trans (Nat.le_of_ble_eq_true rfl) hRl) rfl hl.1 (Nat.le_of_ble_eq_true rfl) rfl dX12_apply_35 (fun v36 u H locs rv36 h hw => ?_)
      refine lv_goto hx hb dX12_apply_38 (tgt := 47) rfl ?_
      exact b_apply_47 X hRf hRl hret ra0 rv1 rv3 rv36 hw (lv_sub hl [2, 3, 1, 0] rfl) h

end
theorem c_apply {l : Launch} {a0 : Int} (ra0 : inR a0) {Q : iST → Prop} {u : iST} (h : w_apply a0 Q u) : kMV l yX12_apply (.code yX12_apply cX12_apply 9 none :: wsM) { frames := 9, cells := 0, slots := 0, locals := 207 } [.int (jI a0)] Q u := kMV_of rfl (fun _ => Nat.le_of_ble_eq_true rfl) (fun X hRf hRl hret hw hl => b_apply_s X hRf hRl hret ra0 hw hl h)

/-! nextTerm -/
theorem dX12_nextTerm_0 : decode cX12_nextTerm 0 = .ok (.aload_n 0, 1) := by decide +kernel
theorem dX12_nextTerm_1 : decode cX12_nextTerm 1 = .ok (.getfield 208, 3) := by decide +kernel
theorem dX12_nextTerm_4 : decode cX12_nextTerm 4 = .ok (.iload_n 1, 1) := by decide +kernel
theorem dX12_nextTerm_5 : decode cX12_nextTerm 5 = .ok (.iaload, 1) := by decide +kernel
theorem dX12_nextTerm_6 : decode cX12_nextTerm 6 = .ok (.ifCond .ne 107, 3) := by decide +kernel
theorem dX12_nextTerm_9 : decode cX12_nextTerm 9 = .ok (.aload_n 0, 1) := by decide +kernel
theorem dX12_nextTerm_10 : decode cX12_nextTerm 10 = .ok (.getfield 486, 3) := by decide +kernel
theorem dX12_nextTerm_13 : decode cX12_nextTerm 13 = .ok (.istore_n 2, 1) := by decide +kernel
theorem dX12_nextTerm_14 : decode cX12_nextTerm 14 = .ok (.aload_n 0, 1) := by decide +kernel
theorem dX12_nextTerm_15 : decode cX12_nextTerm 15 = .ok (.getfield 211, 3) := by decide +kernel
theorem dX12_nextTerm_18 : decode cX12_nextTerm 18 = .ok (.iload_n 1, 1) := by decide +kernel
theorem dX12_nextTerm_19 : decode cX12_nextTerm 19 = .ok (.iaload, 1) := by decide +kernel
theorem dX12_nextTerm_20 : decode cX12_nextTerm 20 = .ok (.istore_n 3, 1) := by decide +kernel
theorem dX12_nextTerm_21 : decode cX12_nextTerm 21 = .ok (.iload_n 3, 1) := by decide +kernel
theorem dX12_nextTerm_22 : decode cX12_nextTerm 22 = .ok (.aload_n 0, 1) := by decide +kernel
theorem dX12_nextTerm_23 : decode cX12_nextTerm 23 = .ok (.getfield 647, 3) := by decide +kernel
theorem dX12_nextTerm_26 : decode cX12_nextTerm 26 = .ok (.if_icmp .ge 19, 3) := by decide +kernel
theorem dX12_nextTerm_29 : decode cX12_nextTerm 29 = .ok (.aload_n 0, 1) := by decide +kernel
theorem dX12_nextTerm_30 : decode cX12_nextTerm 30 = .ok (.aload_n 0, 1) := by decide +kernel
theorem dX12_nextTerm_31 : decode cX12_nextTerm 31 = .ok (.getfield 220, 3) := by decide +kernel
theorem dX12_nextTerm_34 : decode cX12_nextTerm 34 = .ok (.iload_n 3, 1) := by decide +kernel
theorem dX12_nextTerm_35 : decode cX12_nextTerm 35 = .ok (.iaload, 1) := by decide +kernel
theorem dX12_nextTerm_36 : decode cX12_nextTerm 36 = .ok (.invokevirtual 498, 3) := by decide +kernel
theorem dX12_nextTerm_39 : decode cX12_nextTerm 39 = .ok (.iinc 3 1, 3) := by decide +kernel
theorem dX12_nextTerm_42 : decode cX12_nextTerm 42 = .ok (.goto (-21), 3) := by decide +kernel
theorem dX12_nextTerm_45 : decode cX12_nextTerm 45 = .ok (.aload_n 0, 1) := by decide +kernel
theorem dX12_nextTerm_46 : decode cX12_nextTerm 46 = .ok (.aload_n 0, 1) := by decide +kernel
theorem dX12_nextTerm_47 : decode cX12_nextTerm 47 = .ok (.getfield 8, 3) := by decide +kernel
theorem dX12_nextTerm_50 : decode cX12_nextTerm 50 = .ok (.aload_n 0, 1) := by decide +kernel
theorem dX12_nextTerm_51 : decode cX12_nextTerm 51 = .ok (.getfield 190, 3) := by decide +kernel
theorem dX12_nextTerm_54 : decode cX12_nextTerm 54 = .ok (.iload_n 1, 1) := by decide +kernel
theorem dX12_nextTerm_55 : decode cX12_nextTerm 55 = .ok (.iaload, 1) := by decide +kernel
theorem dX12_nextTerm_56 : decode cX12_nextTerm 56 = .ok (.iaload, 1) := by decide +kernel
theorem dX12_nextTerm_57 : decode cX12_nextTerm 57 = .ok (.iload_n 2, 1) := by decide +kernel
theorem dX12_nextTerm_58 : decode cX12_nextTerm 58 = .ok (.invokevirtual 514, 3) := by decide +kernel
theorem dX12_nextTerm_61 : decode cX12_nextTerm 61 = .ok (.istore_n 3, 1) := by decide +kernel
theorem dX12_nextTerm_62 : decode cX12_nextTerm 62 = .ok (.aload_n 0, 1) := by decide +kernel
theorem dX12_nextTerm_63 : decode cX12_nextTerm 63 = .ok (.iload_n 2, 1) := by decide +kernel
theorem dX12_nextTerm_64 : decode cX12_nextTerm 64 = .ok (.putfield 486, 3) := by decide +kernel
theorem dX12_nextTerm_67 : decode cX12_nextTerm 67 = .ok (.aload_n 0, 1) := by decide +kernel
theorem dX12_nextTerm_68 : decode cX12_nextTerm 68 = .ok (.getfield 20, 3) := by decide +kernel
theorem dX12_nextTerm_71 : decode cX12_nextTerm 71 = .ok (.iload_n 3, 1) := by decide +kernel
theorem dX12_nextTerm_72 : decode cX12_nextTerm 72 = .ok (.iaload, 1) := by decide +kernel
theorem dX12_nextTerm_73 : decode cX12_nextTerm 73 = .ok (.bipush 120, 2) := by decide +kernel
theorem dX12_nextTerm_75 : decode cX12_nextTerm 75 = .ok (.if_icmp .le 8, 3) := by decide +kernel
theorem dX12_nextTerm_78 : decode cX12_nextTerm 78 = .ok (.aload_n 0, 1) := by decide +kernel
theorem dX12_nextTerm_79 : decode cX12_nextTerm 79 = .ok (.iconst 4, 1) := by decide +kernel
theorem dX12_nextTerm_80 : decode cX12_nextTerm 80 = .ok (.invokevirtual 517, 3) := by decide +kernel
theorem dX12_nextTerm_83 : decode cX12_nextTerm 83 = .ok (.aload_n 0, 1) := by decide +kernel
theorem dX12_nextTerm_84 : decode cX12_nextTerm 84 = .ok (.aload_n 0, 1) := by decide +kernel
theorem dX12_nextTerm_85 : decode cX12_nextTerm 85 = .ok (.getfield 211, 3) := by decide +kernel
theorem dX12_nextTerm_88 : decode cX12_nextTerm 88 = .ok (.iload_n 1, 1) := by decide +kernel
theorem dX12_nextTerm_89 : decode cX12_nextTerm 89 = .ok (.iaload, 1) := by decide +kernel
theorem dX12_nextTerm_90 : decode cX12_nextTerm 90 = .ok (.putfield 647, 3) := by decide +kernel
theorem dX12_nextTerm_93 : decode cX12_nextTerm 93 = .ok (.aload_n 0, 1) := by decide +kernel
theorem dX12_nextTerm_94 : decode cX12_nextTerm 94 = .ok (.getfield 190, 3) := by decide +kernel
theorem dX12_nextTerm_97 : decode cX12_nextTerm 97 = .ok (.iload_n 1, 1) := by decide +kernel
theorem dX12_nextTerm_98 : decode cX12_nextTerm 98 = .ok (.iload_n 3, 1) := by decide +kernel
theorem dX12_nextTerm_99 : decode cX12_nextTerm 99 = .ok (.iastore, 1) := by decide +kernel
theorem dX12_nextTerm_100 : decode cX12_nextTerm 100 = .ok (.aload_n 0, 1) := by decide +kernel
theorem dX12_nextTerm_101 : decode cX12_nextTerm 101 = .ok (.getfield 480, 3) := by decide +kernel
theorem dX12_nextTerm_104 : decode cX12_nextTerm 104 = .ok (.ifCond .ne 8, 3) := by decide +kernel
theorem dX12_nextTerm_107 : decode cX12_nextTerm 107 = .ok (.aload_n 0, 1) := by decide +kernel
theorem dX12_nextTerm_108 : decode cX12_nextTerm 108 = .ok (.iload_n 1, 1) := by decide +kernel
theorem dX12_nextTerm_109 : decode cX12_nextTerm 109 = .ok (.invokevirtual 653, 3) := by decide +kernel
theorem dX12_nextTerm_112 : decode cX12_nextTerm 112 = .ok (.return_, 1) := by decide +kernel
theorem dX12_nextTerm_113 : decode cX12_nextTerm 113 = .ok (.aload_n 0, 1) := by decide +kernel
theorem dX12_nextTerm_114 : decode cX12_nextTerm 114 = .ok (.getfield 8, 3) := by decide +kernel
theorem dX12_nextTerm_117 : decode cX12_nextTerm 117 = .ok (.aload_n 0, 1) := by decide +kernel
theorem dX12_nextTerm_118 : decode cX12_nextTerm 118 = .ok (.getfield 208, 3) := by decide +kernel
theorem dX12_nextTerm_121 : decode cX12_nextTerm 121 = .ok (.iload_n 1, 1) := by decide +kernel
theorem dX12_nextTerm_122 : decode cX12_nextTerm 122 = .ok (.iaload, 1) := by decide +kernel
theorem dX12_nextTerm_123 : decode cX12_nextTerm 123 = .ok (.iaload, 1) := by decide +kernel
theorem dX12_nextTerm_124 : decode cX12_nextTerm 124 = .ok (.istore_n 2, 1) := by decide +kernel
theorem dX12_nextTerm_125 : decode cX12_nextTerm 125 = .ok (.aload_n 0, 1) := by decide +kernel
theorem dX12_nextTerm_126 : decode cX12_nextTerm 126 = .ok (.getfield 208, 3) := by decide +kernel
theorem dX12_nextTerm_129 : decode cX12_nextTerm 129 = .ok (.iload_n 1, 1) := by decide +kernel
theorem dX12_nextTerm_130 : decode cX12_nextTerm 130 = .ok (.aload_n 0, 1) := by decide +kernel
theorem dX12_nextTerm_131 : decode cX12_nextTerm 131 = .ok (.getfield 14, 3) := by decide +kernel
theorem dX12_nextTerm_134 : decode cX12_nextTerm 134 = .ok (.aload_n 0, 1) := by decide +kernel
theorem dX12_nextTerm_135 : decode cX12_nextTerm 135 = .ok (.getfield 208, 3) := by decide +kernel
theorem dX12_nextTerm_138 : decode cX12_nextTerm 138 = .ok (.iload_n 1, 1) := by decide +kernel
theorem dX12_nextTerm_139 : decode cX12_nextTerm 139 = .ok (.iaload, 1) := by decide +kernel
theorem dX12_nextTerm_140 : decode cX12_nextTerm 140 = .ok (.iaload, 1) := by decide +kernel
theorem dX12_nextTerm_141 : decode cX12_nextTerm 141 = .ok (.iastore, 1) := by decide +kernel
theorem dX12_nextTerm_142 : decode cX12_nextTerm 142 = .ok (.aload_n 0, 1) := by decide +kernel
theorem dX12_nextTerm_143 : decode cX12_nextTerm 143 = .ok (.iload_n 2, 1) := by decide +kernel
theorem dX12_nextTerm_144 : decode cX12_nextTerm 144 = .ok (.iconst 0, 1) := by decide +kernel
theorem dX12_nextTerm_145 : decode cX12_nextTerm 145 = .ok (.invokevirtual 621, 3) := by decide +kernel
theorem dX12_nextTerm_148 : decode cX12_nextTerm 148 = .ok (.return_, 1) := by decide +kernel

section
variable {p : Program} {l : Launch} {e : Env} {R : Room} {s : State} {m : MethodId} {args : Array Value} {below : List Frame} {meth : Method} {c : Code} {H : Heap} {locs : List Loc} {Qf : State → Prop}
variable {ls : Array Slot} {D : va_G} {ca : Nat → ClassId} {A : Nat → Prop} {h0 : Nat} {ad : Nat → Nat} {H0 : Heap} {u : iST}
def w_nextTerm_83 (Q : iST → Prop) (x1 : Int) (x3 : Int) (u : iST) : Prop :=
  bd x1 60 (rd (u.2.1 99 x1) (fun v14 => 
  sw (iI u 104 v14) (fun u => 
  bd x1 60 (sw (iA u 92 x1 x3) (fun u => 
  rd (u.1 61) (fun v15 => 
  br (v15 ≠ 0) (
    Q u) (
    w_apply x1 (fun u => 
    Q u) u)))))))
set_option maxRecDepth 20000 in
set_option maxHeartbeats 4000000 in
theorem b_nextTerm_83 (X : kX p m c cX12_nextTerm 4 s args D ca) (hRf : 10 ≤ R.frames) (hRl : 235 ≤ R.locals) {Q : iST → Prop} (hret : ∀ (u : iST) (H : Heap) (locs : List Loc) (ls : Array Slot) (pc : Nat), Q u → kW D ca A h0 ad H0 H locs u → decode cX12_nextTerm pc = .ok (.return_, 1) → W p l e R s m args below meth c H locs 0 0 Qf (F0 m pc ls [])) {x1 x3 : Int} (rx1 : inR x1) (rx3 : inR x3) (hw : kW D ca A h0 ad H0 H locs u) (hl : lv_has ls 4 [(0, .ref h0), (1, .int (jI x1)), (3, .int (jI x3))]) (h : w_nextTerm_83 Q x1 x3 u) : W p l e R s m args below meth c H locs 0 0 Qf (F0 m 83 ls []) := by
  have hx := X.1.1
  have hb := X.1.2.1
  unfold w_nextTerm_83 at h
  refine lv_aload_n hx hb dX12_nextTerm_83 rfl (lv_at hl 0 rfl) ?_
  refine lv_aload_n hx hb dX12_nextTerm_84 rfl (lv_at hl 0 rfl) ?_
  refine gA 99 211 (by decide) L_99 (fun _ _ => mF_99) rfl X hw dX12_nextTerm_85 ?_
  refine lv_iload_n hx hb dX12_nextTerm_88 rfl (lv_at hl 1 rfl) ?_
  refine aL 99 63 62 60 (fun _ _ _ _ => mG_99) (fun _ => rfl) X hw rx1 dX12_nextTerm_89 rfl h (fun v14 rv14 h => ?_)
  refine pS 104 647 (by decide) L_104 rfl rfl rfl (fun _ _ _ _ _ => mSI_104) (by decide) X hw rv14 dX12_nextTerm_90 h (fun H locs u hw h => ?_)
  refine lv_aload_n hx hb dX12_nextTerm_93 rfl (lv_at hl 0 rfl) ?_
  refine gA 92 190 (by decide) L_92 (fun _ _ => mF_92) rfl X hw dX12_nextTerm_94 ?_
  refine lv_iload_n hx hb dX12_nextTerm_97 rfl (lv_at hl 1 rfl) ?_
  refine lv_iload_n hx hb dX12_nextTerm_98 rfl (lv_at hl 2 rfl) ?_
  refine aS 92 56 55 60 (fun _ _ _ _ => mG_92) (fun _ => rfl) (fun _ _ _ _ _ _ => mSA_92) (by decide) X hw rx1 rx3 dX12_nextTerm_99 rfl h (fun H locs u hw h => ?_)
  refine lv_aload_n hx hb dX12_nextTerm_100 rfl (lv_at hl 0 rfl) ?_
  refine gS 61 480 (by decide) L_61 (fun _ _ => mF_61) rfl X hw dX12_nextTerm_101 h (fun v15 rv15 h => ?_)
  refine k_if_ne hx hb rv15 dX12_nextTerm_104 (tgt := 112) rfl h (fun h => ?_) (fun h => ?_)
  · exact hret _ _ _ _ _ h hw dX12_nextTerm_112
  · refine lv_aload_n hx hb dX12_nextTerm_107 rfl (lv_at hl 0 rfl) ?_
    refine lv_iload_n hx hb dX12_nextTerm_108 rfl (lv_at hl 1 rfl) ?_
    refine kcV (n := 1) (c_apply rx1 h) G_apply E_apply X hw (Nat.le_trans (Nat.le_of_ble_eq_true rfl) hRf) (Nat.le_trans (Nat.le_of_ble_eq_true rfl) hRl) rfl hl.1 (Nat.le_of_ble_eq_true rfl) rfl dX12_nextTerm_109 (fun u H locs h hw => ?_)
    exact hret _ _ _ _ _ h hw dX12_nextTerm_112

def w_nextTerm_21b (R21 : Int → Int → Int → iST → Prop) (Q : iST → Prop) (x1 : Int) (x2 : Int) (x3 : Int) (u : iST) : Prop :=
  rd (u.1 104) (fun v9 => 
  br (v9 ≤ x3) (
    bd x1 60 (rd (u.2.1 92 x1) (fun v10 => 
    bd v10 452000 (rd (u.2.1 0 v10) (fun v11 => 
    w_callFrom v11 x2 (fun v12 u => 
    sw (iI u 71 x2) (fun u => 
    bd v12 452000 (rd (u.2.1 3 v12) (fun v13 => 
    br (v13 ≤ 120) (
      w_nextTerm_83 Q x1 v12 u) (
      w_fail 4 (fun u => 
      w_nextTerm_83 Q x1 v12 u) u))))) u))))) (
    bd x3 1200 (rd (u.2.1 103 x3) (fun v18 => 
    w_build v18 (fun u => 
    ov (x3 + 1) (
    R21 x1 x2 (x3 + 1) u)) u))))
def w_nextTerm_21 (Q : iST → Prop) (x1 : Int) (x2 : Int) (x3 : Int) (u : iST) : Prop := ∀ R21 : Int → Int → Int → iST → Prop, (∀ (x1 : Int) (x2 : Int) (x3 : Int) (u : iST), w_nextTerm_21b R21 Q x1 x2 x3 u → R21 x1 x2 x3 u) → R21 x1 x2 x3 u
set_option maxRecDepth 20000 in
set_option maxHeartbeats 4000000 in
theorem b_nextTerm_21 (X : kX p m c cX12_nextTerm 4 s args D ca) (hRf : 10 ≤ R.frames) (hRl : 235 ≤ R.locals) {Q : iST → Prop} (hret : ∀ (u : iST) (H : Heap) (locs : List Loc) (ls : Array Slot) (pc : Nat), Q u → kW D ca A h0 ad H0 H locs u → decode cX12_nextTerm pc = .ok (.return_, 1) → W p l e R s m args below meth c H locs 0 0 Qf (F0 m pc ls [])) {x1 x2 x3 : Int} (rx1 : inR x1) (rx2 : inR x2) (rx3 : inR x3) (hw : kW D ca A h0 ad H0 H locs u) (hl : lv_has ls 4 [(0, .ref h0), (1, .int (jI x1)), (2, .int (jI x2)), (3, .int (jI x3))]) (h : w_nextTerm_21 Q x1 x2 x3 u) : W p l e R s m args below meth c H locs 0 0 Qf (F0 m 21 ls []) := by
  refine h (fun x1 x2 x3 u => ∀ (H : Heap) (locs : List Loc) (ls : Array Slot), inR x1 → inR x2 → inR x3 → kW D ca A h0 ad H0 H locs u → lv_has ls 4 [(0, .ref h0), (1, .int (jI x1)), (2, .int (jI x2)), (3, .int (jI x3))] → W p l e R s m args below meth c H locs 0 0 Qf (F0 m 21 ls [])) ?_ H locs ls rx1 rx2 rx3 hw hl
  clear h hl hw rx1 rx2 rx3
  intro x1 x2 x3 u h H locs ls rx1 rx2 rx3 hw hl
  have hR21 : ∀ (x1 : Int) (x2 : Int) (x3 : Int) (u : iST) (H : Heap) (locs : List Loc) (ls : Array Slot), inR x1 → inR x2 → inR x3 → kW D ca A h0 ad H0 H locs u → lv_has ls 4 [(0, .ref h0), (1, .int (jI x1)), (2, .int (jI x2)), (3, .int (jI x3))] → (fun (x1 : Int) (x2 : Int) (x3 : Int) u => ∀ (H : Heap) (locs : List Loc) (ls : Array Slot), inR x1 → inR x2 → inR x3 → kW D ca A h0 ad H0 H locs u → lv_has ls 4 [(0, .ref h0), (1, .int (jI x1)), (2, .int (jI x2)), (3, .int (jI x3))] → W p l e R s m args below meth c H locs 0 0 Qf (F0 m 21 ls [])) x1 x2 x3 u → W p l e R s m args below meth c H locs 0 0 Qf (F0 m 21 ls []) := fun x1 x2 x3 u H locs ls rx1 rx2 rx3 hw hl h => h H locs ls rx1 rx2 rx3 hw hl
  have hx := X.1.1
  have hb := X.1.2.1
  unfold w_nextTerm_21b at h
  refine lv_iload_n hx hb dX12_nextTerm_21 rfl (lv_at hl 3 rfl) ?_
  refine lv_aload_n hx hb dX12_nextTerm_22 rfl (lv_at hl 0 rfl) ?_
  refine gS 104 647 (by decide) L_104 (fun _ _ => mF_104) rfl X hw dX12_nextTerm_23 h (fun v9 rv9 h => ?_)
  refine k_icmp_ge hx hb rx3 rv9 dX12_nextTerm_26 (tgt := 45) rfl h (fun h => ?_) (fun h => ?_)
  · refine lv_aload_n hx hb dX12_nextTerm_45 rfl (lv_at hl 0 rfl) ?_
    refine lv_aload_n hx hb dX12_nextTerm_46 rfl (lv_at hl 0 rfl) ?_
    refine gA 0 8 (by decide) L_0 (fun _ _ => mF_0) rfl X hw dX12_nextTerm_47 ?_
    refine lv_aload_n hx hb dX12_nextTerm_50 rfl (lv_at hl 0 rfl) ?_
    refine gA 92 190 (by decide) L_92 (fun _ _ => mF_92) rfl X hw dX12_nextTerm_51 ?_
    refine lv_iload_n hx hb dX12_nextTerm_54 rfl (lv_at hl 1 rfl) ?_
    refine aL 92 56 55 60 (fun _ _ _ _ => mG_92) (fun _ => rfl) X hw rx1 dX12_nextTerm_55 rfl h (fun v10 rv10 h => ?_)
    refine aL 0 1 0 452000 (fun _ _ _ _ => mG_0) (fun _ => rfl) X hw rv10 dX12_nextTerm_56 rfl h (fun v11 rv11 h => ?_)
    refine lv_iload_n hx hb dX12_nextTerm_57 rfl (lv_at hl 2 rfl) ?_
    refine kcI (n := 2) (c_callFrom rv11 rx2 h) G_callFrom E_callFrom X hw (Nat.le_trans (Nat.le_of_ble_eq_true rfl) hRf) (Nat.le_trans (Nat.le_of_ble_eq_true rfl) hRl) rfl hl.1 (Nat.le_of_ble_eq_true rfl) rfl dX12_nextTerm_58 (fun v12 u H locs rv12 h hw => ?_)
    refine lv_istore_n hx hb dX12_nextTerm_61 rfl hl (by decide) rfl (fun ls hl => ?_)
    have hl : lv_has ls 4 [(3, .int (jI v12)), (0, .ref (h0)), (1, .int (jI x1)), (2, .int (jI x2))] := hl
    refine lv_aload_n hx hb dX12_nextTerm_62 rfl (lv_at hl 1 rfl) ?_
    refine lv_iload_n hx hb dX12_nextTerm_63 rfl (lv_at hl 3 rfl) ?_
    refine pS 71 486 (by decide) L_71 rfl rfl rfl (fun _ _ _ _ _ => mSI_71) (by decide) X hw rx2 dX12_nextTerm_64 h (fun H locs u hw h => ?_)
    refine lv_aload_n hx hb dX12_nextTerm_67 rfl (lv_at hl 1 rfl) ?_
    refine gA 3 20 (by decide) L_3 (fun _ _ => mF_3) rfl X hw dX12_nextTerm_68 ?_
    refine lv_iload_n hx hb dX12_nextTerm_71 rfl (lv_at hl 0 rfl) ?_
    refine aL 3 4 3 452000 (fun _ _ _ _ => mG_3) (fun _ => rfl) X hw rv12 dX12_nextTerm_72 rfl h (fun v13 rv13 h => ?_)
    refine lv_bipush hx hb dX12_nextTerm_73 (v := jI 120) rfl ?_
    refine k_icmp_le hx hb rv13 (by decide) dX12_nextTerm_75 (tgt := 83) rfl h (fun h => ?_) (fun h => ?_)
    · exact b_nextTerm_83 X hRf hRl hret rx1 rv12 hw (lv_sub hl [1, 2, 0] rfl) h
    · refine lv_aload_n hx hb dX12_nextTerm_78 rfl (lv_at hl 1 rfl) ?_
      refine lv_iconst hx hb dX12_nextTerm_79 (v := jI 4) rfl ?_
      refine kcV (n := 1) (c_fail (by decide) h) G_fail E_fail X hw (Nat.le_trans (Nat.le_of_ble_eq_true rfl) hRf) (Nat.le_trans (Nat.le_of_ble_eq_true rfl) hRl) rfl hl.1 (Nat.le_of_ble_eq_true rfl) rfl dX12_nextTerm_80 (fun u H locs h hw => ?_)
      exact b_nextTerm_83 X hRf hRl hret rx1 rv12 hw (lv_sub hl [1, 2, 0] rfl) h
  · refine lv_aload_n hx hb dX12_nextTerm_29 rfl (lv_at hl 0 rfl) ?_
    refine lv_aload_n hx hb dX12_nextTerm_30 rfl (lv_at hl 0 rfl) ?_
    refine gA 103 220 (by decide) L_103 (fun _ _ => mF_103) rfl X hw dX12_nextTerm_31 ?_
    refine lv_iload_n hx hb dX12_nextTerm_34 rfl (lv_at hl 3 rfl) ?_
    refine aL 103 66 65 1200 (fun _ _ _ _ => mG_103) (fun _ => rfl) X hw rx3 dX12_nextTerm_35 rfl h (fun v18 rv18 h => ?_)
    refine kcV (n := 1) (c_build rv18 h) G_build E_build X hw (Nat.le_trans (Nat.le_of_ble_eq_true rfl) hRf) (Nat.le_trans (Nat.le_of_ble_eq_true rfl) hRl) rfl hl.1 (Nat.le_of_ble_eq_true rfl) rfl dX12_nextTerm_36 (fun u H locs h hw => ?_)
    refine k_iinc (k := 3) hx hb dX12_nextTerm_39 hl rfl (by decide) rfl h (fun ls r20 h hl => ?_)
    have hl : lv_has ls 4 [(3, .int (jI (x3 + 1))), (0, .ref (h0)), (1, .int (jI x1)), (2, .int (jI x2))] := hl
    refine lv_goto hx hb dX12_nextTerm_42 (tgt := 21) rfl ?_
    exact hR21 _ _ _ _ H locs ls rx1 rx2 r20 hw (lv_sub hl [1, 2, 3, 0] rfl) h

def w_nextTerm (a0 : Int) (Q : iST → Prop) (u : iST) : Prop :=
  bd a0 60 (rd (u.2.1 98 a0) (fun v1 => 
  br (v1 ≠ 0) (
    bd a0 60 (rd (u.2.1 98 a0) (fun v2 => 
    bd v2 452000 (rd (u.2.1 0 v2) (fun v3 => 
    bd a0 60 (rd (u.2.1 98 a0) (fun v4 => 
    bd v4 452000 (rd (u.2.1 1 v4) (fun v5 => 
    bd a0 60 (sw (iA u 98 a0 v5) (fun u => 
    w_beginJob v3 0 (fun u => 
    Q u) u))))))))))) (
    rd (u.1 71) (fun v7 => 
    bd a0 60 (rd (u.2.1 99 a0) (fun v8 => 
    w_nextTerm_21 Q a0 v7 v8 u))))))
set_option maxRecDepth 20000 in
set_option maxHeartbeats 4000000 in
theorem b_nextTerm_s (X : kX p m c cX12_nextTerm 4 s args D ca) (hRf : 10 ≤ R.frames) (hRl : 235 ≤ R.locals) {Q : iST → Prop} (hret : ∀ (u : iST) (H : Heap) (locs : List Loc) (ls : Array Slot) (pc : Nat), Q u → kW D ca A h0 ad H0 H locs u → decode cX12_nextTerm pc = .ok (.return_, 1) → W p l e R s m args below meth c H locs 0 0 Qf (F0 m pc ls [])) {a0 : Int} (ra0 : inR a0) (hw : kW D ca A h0 ad H0 H locs u) (hl : lv_has ls 4 [(0, .ref h0), (1, .int (jI a0))]) (h : w_nextTerm a0 Q u) : W p l e R s m args below meth c H locs 0 0 Qf (F0 m 0 ls []) := by
  have hx := X.1.1
  have hb := X.1.2.1
  unfold w_nextTerm at h
  refine lv_aload_n hx hb dX12_nextTerm_0 rfl (lv_at hl 0 rfl) ?_
  refine gA 98 208 (by decide) L_98 (fun _ _ => mF_98) rfl X hw dX12_nextTerm_1 ?_
  refine lv_iload_n hx hb dX12_nextTerm_4 rfl (lv_at hl 1 rfl) ?_
  refine aL 98 62 61 60 (fun _ _ _ _ => mG_98) (fun _ => rfl) X hw ra0 dX12_nextTerm_5 rfl h (fun v1 rv1 h => ?_)
  refine k_if_ne hx hb rv1 dX12_nextTerm_6 (tgt := 113) rfl h (fun h => ?_) (fun h => ?_)
  · refine lv_aload_n hx hb dX12_nextTerm_113 rfl (lv_at hl 0 rfl) ?_
    refine gA 0 8 (by decide) L_0 (fun _ _ => mF_0) rfl X hw dX12_nextTerm_114 ?_
    refine lv_aload_n hx hb dX12_nextTerm_117 rfl (lv_at hl 0 rfl) ?_
    refine gA 98 208 (by decide) L_98 (fun _ _ => mF_98) rfl X hw dX12_nextTerm_118 ?_
    refine lv_iload_n hx hb dX12_nextTerm_121 rfl (lv_at hl 1 rfl) ?_
    refine aL 98 62 61 60 (fun _ _ _ _ => mG_98) (fun _ => rfl) X hw ra0 dX12_nextTerm_122 rfl h (fun v2 rv2 h => ?_)
    refine aL 0 1 0 452000 (fun _ _ _ _ => mG_0) (fun _ => rfl) X hw rv2 dX12_nextTerm_123 rfl h (fun v3 rv3 h => ?_)
    refine lv_istore_n hx hb dX12_nextTerm_124 rfl hl (by decide) rfl (fun ls hl => ?_)
    have hl : lv_has ls 4 [(2, .int (jI v3)), (0, .ref (h0)), (1, .int (jI a0))] := hl
    refine lv_aload_n hx hb dX12_nextTerm_125 rfl (lv_at hl 1 rfl) ?_
    refine gA 98 208 (by decide) L_98 (fun _ _ => mF_98) rfl X hw dX12_nextTerm_126 ?_
    refine lv_iload_n hx hb dX12_nextTerm_129 rfl (lv_at hl 2 rfl) ?_
    refine lv_aload_n hx hb dX12_nextTerm_130 rfl (lv_at hl 1 rfl) ?_
    refine gA 1 14 (by decide) L_1 (fun _ _ => mF_1) rfl X hw dX12_nextTerm_131 ?_
    refine lv_aload_n hx hb dX12_nextTerm_134 rfl (lv_at hl 1 rfl) ?_
    refine gA 98 208 (by decide) L_98 (fun _ _ => mF_98) rfl X hw dX12_nextTerm_135 ?_
    refine lv_iload_n hx hb dX12_nextTerm_138 rfl (lv_at hl 2 rfl) ?_
    refine aL 98 62 61 60 (fun _ _ _ _ => mG_98) (fun _ => rfl) X hw ra0 dX12_nextTerm_139 rfl h (fun v4 rv4 h => ?_)
    refine aL 1 2 1 452000 (fun _ _ _ _ => mG_1) (fun _ => rfl) X hw rv4 dX12_nextTerm_140 rfl h (fun v5 rv5 h => ?_)
    refine aS 98 62 61 60 (fun _ _ _ _ => mG_98) (fun _ => rfl) (fun _ _ _ _ _ _ => mSA_98) (by decide) X hw ra0 rv5 dX12_nextTerm_141 rfl h (fun H locs u hw h => ?_)
    refine lv_aload_n hx hb dX12_nextTerm_142 rfl (lv_at hl 1 rfl) ?_
    refine lv_iload_n hx hb dX12_nextTerm_143 rfl (lv_at hl 0 rfl) ?_
    refine lv_iconst hx hb dX12_nextTerm_144 (v := jI 0) rfl ?_
    refine kcV (n := 2) (c_beginJob rv3 (by decide) h) G_beginJob E_beginJob X hw (Nat.le_trans (Nat.le_of_ble_eq_true rfl) hRf) (Nat.le_trans (Nat.le_of_ble_eq_true rfl) hRl) rfl hl.1 (Nat.le_of_ble_eq_true rfl) rfl dX12_nextTerm_145 (fun u H locs h hw => ?_)
    exact hret _ _ _ _ _ h hw dX12_nextTerm_148
  · refine lv_aload_n hx hb dX12_nextTerm_9 rfl (lv_at hl 0 rfl) ?_
    refine gS 71 486 (by decide) L_71 (fun _ _ => mF_71) rfl X hw dX12_nextTerm_10 h (fun v7 rv7 h => ?_)
    refine lv_istore_n hx hb dX12_nextTerm_13 rfl hl (by decide) rfl (fun ls hl => ?_)
    have hl : lv_has ls 4 [(2, .int (jI v7)), (0, .ref (h0)), (1, .int (jI a0))] := hl
    refine lv_aload_n hx hb dX12_nextTerm_14 rfl (lv_at hl 1 rfl) ?_
    refine gA 99 211 (by decide) L_99 (fun _ _ => mF_99) rfl X hw dX12_nextTerm_15 ?_
    refine lv_iload_n hx hb dX12_nextTerm_18 rfl (lv_at hl 2 rfl) ?_
    refine aL 99 63 62 60 (fun _ _ _ _ => mG_99) (fun _ => rfl) X hw ra0 dX12_nextTerm_19 rfl h (fun v8 rv8 h => ?_)
    refine lv_istore_n hx hb dX12_nextTerm_20 rfl hl (by decide) rfl (fun ls hl => ?_)
    have hl : lv_has ls 4 [(3, .int (jI v8)), (2, .int (jI v7)), (0, .ref (h0)), (1, .int (jI a0))] := hl
    exact b_nextTerm_21 X hRf hRl hret ra0 rv7 rv8 hw (lv_sub hl [2, 3, 1, 0] rfl) h

end
theorem c_nextTerm {l : Launch} {a0 : Int} (ra0 : inR a0) {Q : iST → Prop} {u : iST} (h : w_nextTerm a0 Q u) : kMV l yX12_nextTerm (.code yX12_nextTerm cX12_nextTerm 4 none :: wsM) { frames := 10, cells := 0, slots := 0, locals := 235 } [.int (jI a0)] Q u := kMV_of rfl (fun _ => Nat.le_of_ble_eq_true rfl) (fun X hRf hRl hret hw hl => b_nextTerm_s X hRf hRl hret ra0 hw hl h)

/-! startJob -/
theorem dX12_startJob_0 : decode cX12_startJob 0 = .ok (.aload_n 0, 1) := by decide +kernel
theorem dX12_startJob_1 : decode cX12_startJob 1 = .ok (.getfield 190, 3) := by decide +kernel
theorem dX12_startJob_4 : decode cX12_startJob 4 = .ok (.iload_n 1, 1) := by decide +kernel
theorem dX12_startJob_5 : decode cX12_startJob 5 = .ok (.iaload, 1) := by decide +kernel
theorem dX12_startJob_6 : decode cX12_startJob 6 = .ok (.istore_n 2, 1) := by decide +kernel
theorem dX12_startJob_7 : decode cX12_startJob 7 = .ok (.aload_n 0, 1) := by decide +kernel
theorem dX12_startJob_8 : decode cX12_startJob 8 = .ok (.iload_n 2, 1) := by decide +kernel
theorem dX12_startJob_9 : decode cX12_startJob 9 = .ok (.invokevirtual 546, 3) := by decide +kernel
theorem dX12_startJob_12 : decode cX12_startJob 12 = .ok (.ifCond .eq 11, 3) := by decide +kernel
theorem dX12_startJob_15 : decode cX12_startJob 15 = .ok (.aload_n 0, 1) := by decide +kernel
theorem dX12_startJob_16 : decode cX12_startJob 16 = .ok (.iload_n 2, 1) := by decide +kernel
theorem dX12_startJob_17 : decode cX12_startJob 17 = .ok (.invokevirtual 637, 3) := by decide +kernel
theorem dX12_startJob_20 : decode cX12_startJob 20 = .ok (.goto 172, 3) := by decide +kernel
theorem dX12_startJob_23 : decode cX12_startJob 23 = .ok (.aload_n 0, 1) := by decide +kernel
theorem dX12_startJob_24 : decode cX12_startJob 24 = .ok (.iload_n 2, 1) := by decide +kernel
theorem dX12_startJob_25 : decode cX12_startJob 25 = .ok (.invokevirtual 504, 3) := by decide +kernel
theorem dX12_startJob_28 : decode cX12_startJob 28 = .ok (.ifCond .eq 21, 3) := by decide +kernel
theorem dX12_startJob_31 : decode cX12_startJob 31 = .ok (.aload_n 0, 1) := by decide +kernel
theorem dX12_startJob_32 : decode cX12_startJob 32 = .ok (.aload_n 0, 1) := by decide +kernel
theorem dX12_startJob_33 : decode cX12_startJob 33 = .ok (.iload_n 2, 1) := by decide +kernel
theorem dX12_startJob_34 : decode cX12_startJob 34 = .ok (.aload_n 0, 1) := by decide +kernel
theorem dX12_startJob_35 : decode cX12_startJob 35 = .ok (.getfield 193, 3) := by decide +kernel
theorem dX12_startJob_38 : decode cX12_startJob 38 = .ok (.iload_n 1, 1) := by decide +kernel
theorem dX12_startJob_39 : decode cX12_startJob 39 = .ok (.baload, 1) := by decide +kernel
theorem dX12_startJob_40 : decode cX12_startJob 40 = .ok (.invokevirtual 640, 3) := by decide +kernel
theorem dX12_startJob_43 : decode cX12_startJob 43 = .ok (.invokevirtual 637, 3) := by decide +kernel
theorem dX12_startJob_46 : decode cX12_startJob 46 = .ok (.goto 146, 3) := by decide +kernel
theorem dX12_startJob_49 : decode cX12_startJob 49 = .ok (.aload_n 0, 1) := by decide +kernel
theorem dX12_startJob_50 : decode cX12_startJob 50 = .ok (.getfield 8, 3) := by decide +kernel
theorem dX12_startJob_53 : decode cX12_startJob 53 = .ok (.iload_n 2, 1) := by decide +kernel
theorem dX12_startJob_54 : decode cX12_startJob 54 = .ok (.iaload, 1) := by decide +kernel
theorem dX12_startJob_55 : decode cX12_startJob 55 = .ok (.iconst 3, 1) := by decide +kernel
theorem dX12_startJob_56 : decode cX12_startJob 56 = .ok (.if_icmp .ne 24, 3) := by decide +kernel
theorem dX12_startJob_59 : decode cX12_startJob 59 = .ok (.aload_n 0, 1) := by decide +kernel
theorem dX12_startJob_60 : decode cX12_startJob 60 = .ok (.getfield 196, 3) := by decide +kernel
theorem dX12_startJob_63 : decode cX12_startJob 63 = .ok (.iload_n 1, 1) := by decide +kernel
theorem dX12_startJob_64 : decode cX12_startJob 64 = .ok (.iconst 1, 1) := by decide +kernel
theorem dX12_startJob_65 : decode cX12_startJob 65 = .ok (.iastore, 1) := by decide +kernel
theorem dX12_startJob_66 : decode cX12_startJob 66 = .ok (.aload_n 0, 1) := by decide +kernel
theorem dX12_startJob_67 : decode cX12_startJob 67 = .ok (.aload_n 0, 1) := by decide +kernel
theorem dX12_startJob_68 : decode cX12_startJob 68 = .ok (.iload_n 2, 1) := by decide +kernel
theorem dX12_startJob_69 : decode cX12_startJob 69 = .ok (.iconst 1, 1) := by decide +kernel
theorem dX12_startJob_70 : decode cX12_startJob 70 = .ok (.invokevirtual 592, 3) := by decide +kernel
theorem dX12_startJob_73 : decode cX12_startJob 73 = .ok (.iconst 1, 1) := by decide +kernel
theorem dX12_startJob_74 : decode cX12_startJob 74 = .ok (.invokevirtual 621, 3) := by decide +kernel
theorem dX12_startJob_77 : decode cX12_startJob 77 = .ok (.goto 115, 3) := by decide +kernel
theorem dX12_startJob_80 : decode cX12_startJob 80 = .ok (.aload_n 0, 1) := by decide +kernel
theorem dX12_startJob_81 : decode cX12_startJob 81 = .ok (.getfield 8, 3) := by decide +kernel
theorem dX12_startJob_84 : decode cX12_startJob 84 = .ok (.iload_n 2, 1) := by decide +kernel
theorem dX12_startJob_85 : decode cX12_startJob 85 = .ok (.iaload, 1) := by decide +kernel
theorem dX12_startJob_86 : decode cX12_startJob 86 = .ok (.bipush 6, 2) := by decide +kernel
theorem dX12_startJob_88 : decode cX12_startJob 88 = .ok (.if_icmp .ne 37, 3) := by decide +kernel
theorem dX12_startJob_91 : decode cX12_startJob 91 = .ok (.aload_n 0, 1) := by decide +kernel
theorem dX12_startJob_92 : decode cX12_startJob 92 = .ok (.iconst 3, 1) := by decide +kernel
theorem dX12_startJob_93 : decode cX12_startJob 93 = .ok (.aload_n 0, 1) := by decide +kernel
theorem dX12_startJob_94 : decode cX12_startJob 94 = .ok (.iload_n 2, 1) := by decide +kernel
theorem dX12_startJob_95 : decode cX12_startJob 95 = .ok (.iconst 2, 1) := by decide +kernel
theorem dX12_startJob_96 : decode cX12_startJob 96 = .ok (.invokevirtual 592, 3) := by decide +kernel
theorem dX12_startJob_99 : decode cX12_startJob 99 = .ok (.iconst 1, 1) := by decide +kernel
theorem dX12_startJob_100 : decode cX12_startJob 100 = .ok (.iconst 0, 1) := by decide +kernel
theorem dX12_startJob_101 : decode cX12_startJob 101 = .ok (.invokevirtual 538, 3) := by decide +kernel
theorem dX12_startJob_104 : decode cX12_startJob 104 = .ok (.istore_n 3, 1) := by decide +kernel
theorem dX12_startJob_105 : decode cX12_startJob 105 = .ok (.aload_n 0, 1) := by decide +kernel
theorem dX12_startJob_106 : decode cX12_startJob 106 = .ok (.aload_n 0, 1) := by decide +kernel
theorem dX12_startJob_107 : decode cX12_startJob 107 = .ok (.iconst 3, 1) := by decide +kernel
theorem dX12_startJob_108 : decode cX12_startJob 108 = .ok (.aload_n 0, 1) := by decide +kernel
theorem dX12_startJob_109 : decode cX12_startJob 109 = .ok (.iload_n 2, 1) := by decide +kernel
theorem dX12_startJob_110 : decode cX12_startJob 110 = .ok (.iconst 1, 1) := by decide +kernel
theorem dX12_startJob_111 : decode cX12_startJob 111 = .ok (.invokevirtual 592, 3) := by decide +kernel
theorem dX12_startJob_114 : decode cX12_startJob 114 = .ok (.iload_n 3, 1) := by decide +kernel
theorem dX12_startJob_115 : decode cX12_startJob 115 = .ok (.iconst 1, 1) := by decide +kernel
theorem dX12_startJob_116 : decode cX12_startJob 116 = .ok (.invokevirtual 538, 3) := by decide +kernel
theorem dX12_startJob_119 : decode cX12_startJob 119 = .ok (.invokevirtual 644, 3) := by decide +kernel
theorem dX12_startJob_122 : decode cX12_startJob 122 = .ok (.goto 70, 3) := by decide +kernel
theorem dX12_startJob_125 : decode cX12_startJob 125 = .ok (.aload_n 0, 1) := by decide +kernel
theorem dX12_startJob_126 : decode cX12_startJob 126 = .ok (.getfield 8, 3) := by decide +kernel
theorem dX12_startJob_129 : decode cX12_startJob 129 = .ok (.iload_n 2, 1) := by decide +kernel
theorem dX12_startJob_130 : decode cX12_startJob 130 = .ok (.iaload, 1) := by decide +kernel
theorem dX12_startJob_131 : decode cX12_startJob 131 = .ok (.bipush 15, 2) := by decide +kernel
theorem dX12_startJob_133 : decode cX12_startJob 133 = .ok (.if_icmp .ne 24, 3) := by decide +kernel
theorem dX12_startJob_136 : decode cX12_startJob 136 = .ok (.aload_n 0, 1) := by decide +kernel
theorem dX12_startJob_137 : decode cX12_startJob 137 = .ok (.getfield 196, 3) := by decide +kernel
theorem dX12_startJob_140 : decode cX12_startJob 140 = .ok (.iload_n 1, 1) := by decide +kernel
theorem dX12_startJob_141 : decode cX12_startJob 141 = .ok (.iconst 5, 1) := by decide +kernel
theorem dX12_startJob_142 : decode cX12_startJob 142 = .ok (.iastore, 1) := by decide +kernel
theorem dX12_startJob_143 : decode cX12_startJob 143 = .ok (.aload_n 0, 1) := by decide +kernel
theorem dX12_startJob_144 : decode cX12_startJob 144 = .ok (.aload_n 0, 1) := by decide +kernel
theorem dX12_startJob_145 : decode cX12_startJob 145 = .ok (.iload_n 2, 1) := by decide +kernel
theorem dX12_startJob_146 : decode cX12_startJob 146 = .ok (.iconst 1, 1) := by decide +kernel
theorem dX12_startJob_147 : decode cX12_startJob 147 = .ok (.invokevirtual 592, 3) := by decide +kernel
theorem dX12_startJob_150 : decode cX12_startJob 150 = .ok (.iconst 1, 1) := by decide +kernel
theorem dX12_startJob_151 : decode cX12_startJob 151 = .ok (.invokevirtual 621, 3) := by decide +kernel
theorem dX12_startJob_154 : decode cX12_startJob 154 = .ok (.goto 38, 3) := by decide +kernel
theorem dX12_startJob_157 : decode cX12_startJob 157 = .ok (.aload_n 0, 1) := by decide +kernel
theorem dX12_startJob_158 : decode cX12_startJob 158 = .ok (.getfield 196, 3) := by decide +kernel
theorem dX12_startJob_161 : decode cX12_startJob 161 = .ok (.iload_n 1, 1) := by decide +kernel
theorem dX12_startJob_162 : decode cX12_startJob 162 = .ok (.bipush 10, 2) := by decide +kernel
theorem dX12_startJob_164 : decode cX12_startJob 164 = .ok (.iastore, 1) := by decide +kernel
theorem dX12_startJob_165 : decode cX12_startJob 165 = .ok (.aload_n 0, 1) := by decide +kernel
theorem dX12_startJob_166 : decode cX12_startJob 166 = .ok (.getfield 208, 3) := by decide +kernel
theorem dX12_startJob_169 : decode cX12_startJob 169 = .ok (.iload_n 1, 1) := by decide +kernel
theorem dX12_startJob_170 : decode cX12_startJob 170 = .ok (.aload_n 0, 1) := by decide +kernel
theorem dX12_startJob_171 : decode cX12_startJob 171 = .ok (.getfield 14, 3) := by decide +kernel
theorem dX12_startJob_174 : decode cX12_startJob 174 = .ok (.iload_n 2, 1) := by decide +kernel
theorem dX12_startJob_175 : decode cX12_startJob 175 = .ok (.iaload, 1) := by decide +kernel
theorem dX12_startJob_176 : decode cX12_startJob 176 = .ok (.iastore, 1) := by decide +kernel
theorem dX12_startJob_177 : decode cX12_startJob 177 = .ok (.aload_n 0, 1) := by decide +kernel
theorem dX12_startJob_178 : decode cX12_startJob 178 = .ok (.getfield 211, 3) := by decide +kernel
theorem dX12_startJob_181 : decode cX12_startJob 181 = .ok (.iload_n 1, 1) := by decide +kernel
theorem dX12_startJob_182 : decode cX12_startJob 182 = .ok (.aload_n 0, 1) := by decide +kernel
theorem dX12_startJob_183 : decode cX12_startJob 183 = .ok (.getfield 647, 3) := by decide +kernel
theorem dX12_startJob_186 : decode cX12_startJob 186 = .ok (.iastore, 1) := by decide +kernel
theorem dX12_startJob_187 : decode cX12_startJob 187 = .ok (.aload_n 0, 1) := by decide +kernel
theorem dX12_startJob_188 : decode cX12_startJob 188 = .ok (.iload_n 1, 1) := by decide +kernel
theorem dX12_startJob_189 : decode cX12_startJob 189 = .ok (.invokevirtual 650, 3) := by decide +kernel
theorem dX12_startJob_192 : decode cX12_startJob 192 = .ok (.return_, 1) := by decide +kernel

section
variable {p : Program} {l : Launch} {e : Env} {R : Room} {s : State} {m : MethodId} {args : Array Value} {below : List Frame} {meth : Method} {c : Code} {H : Heap} {locs : List Loc} {Qf : State → Prop}
variable {ls : Array Slot} {D : va_G} {ca : Nat → ClassId} {A : Nat → Prop} {h0 : Nat} {ad : Nat → Nat} {H0 : Heap} {u : iST}
def w_startJob (a0 : Int) (Q : iST → Prop) (u : iST) : Prop :=
  bd a0 60 (rd (u.2.1 92 a0) (fun v1 => 
  w_isConstant v1 (fun v2 u => 
  br (v2 = 0) (
    w_isVariable v1 (fun v3 u => 
    br (v3 = 0) (
      bd v1 452000 (rd (u.2.1 0 v1) (fun v4 => 
      br (v4 ≠ 3) (
        bd v1 452000 (rd (u.2.1 0 v1) (fun v5 => 
        br (v5 ≠ 6) (
          bd v1 452000 (rd (u.2.1 0 v1) (fun v6 => 
          br (v6 ≠ 15) (
            bd a0 60 (sw (iA u 94 a0 10) (fun u => 
            bd v1 452000 (rd (u.2.1 1 v1) (fun v7 => 
            bd a0 60 (sw (iA u 98 a0 v7) (fun u => 
            rd (u.1 104) (fun v8 => 
            bd a0 60 (sw (iA u 99 a0 v8) (fun u => 
            w_nextTerm a0 (fun u => 
            Q u) u)))))))))) (
            bd a0 60 (sw (iA u 94 a0 5) (fun u => 
            w_term v1 1 (fun v10 u => 
            w_beginJob v10 1 (fun u => 
            Q u) u) u)))))) (
          w_term v1 2 (fun v12 u => 
          w_made 3 v12 1 0 (fun v13 u => 
          w_term v1 1 (fun v14 u => 
          w_made 3 v14 v13 1 (fun v15 u => 
          w_passOn v15 (fun u => 
          Q u) u) u) u) u) u)))) (
        bd a0 60 (sw (iA u 94 a0 1) (fun u => 
        w_term v1 1 (fun v17 u => 
        w_beginJob v17 1 (fun u => 
        Q u) u) u)))))) (
      bd a0 60 (rz (u.2.1 93 a0) (fun v19 => 
      w_lookedUp v1 v19 (fun v20 u => 
      w_end0 v20 (fun u => 
      Q u) u) u)))) u) (
    w_end0 v1 (fun u => 
    Q u) u)) u))
set_option maxRecDepth 20000 in
set_option maxHeartbeats 4000000 in
theorem b_startJob_s (X : kX p m c cX12_startJob 4 s args D ca) (hRf : 11 ≤ R.frames) (hRl : 258 ≤ R.locals) {Q : iST → Prop} (hret : ∀ (u : iST) (H : Heap) (locs : List Loc) (ls : Array Slot) (pc : Nat), Q u → kW D ca A h0 ad H0 H locs u → decode cX12_startJob pc = .ok (.return_, 1) → W p l e R s m args below meth c H locs 0 0 Qf (F0 m pc ls [])) {a0 : Int} (ra0 : inR a0) (hw : kW D ca A h0 ad H0 H locs u) (hl : lv_has ls 4 [(0, .ref h0), (1, .int (jI a0))]) (h : w_startJob a0 Q u) : W p l e R s m args below meth c H locs 0 0 Qf (F0 m 0 ls []) := by
  have hx := X.1.1
  have hb := X.1.2.1
  unfold w_startJob at h
  refine lv_aload_n hx hb dX12_startJob_0 rfl (lv_at hl 0 rfl) ?_
  refine gA 92 190 (by decide) L_92 (fun _ _ => mF_92) rfl X hw dX12_startJob_1 ?_
  refine lv_iload_n hx hb dX12_startJob_4 rfl (lv_at hl 1 rfl) ?_
  refine aL 92 56 55 60 (fun _ _ _ _ => mG_92) (fun _ => rfl) X hw ra0 dX12_startJob_5 rfl h (fun v1 rv1 h => ?_)
  refine lv_istore_n hx hb dX12_startJob_6 rfl hl (by decide) rfl (fun ls hl => ?_)
  have hl : lv_has ls 4 [(2, .int (jI v1)), (0, .ref (h0)), (1, .int (jI a0))] := hl
  refine lv_aload_n hx hb dX12_startJob_7 rfl (lv_at hl 1 rfl) ?_
  refine lv_iload_n hx hb dX12_startJob_8 rfl (lv_at hl 0 rfl) ?_
  refine kcI (n := 1) (c_isConstant rv1 h) G_isConstant E_isConstant X hw (Nat.le_trans (Nat.le_of_ble_eq_true rfl) hRf) (Nat.le_trans (Nat.le_of_ble_eq_true rfl) hRl) rfl hl.1 (Nat.le_of_ble_eq_true rfl) rfl dX12_startJob_9 (fun v2 u H locs rv2 h hw => ?_)
  refine k_if_eq hx hb rv2 dX12_startJob_12 (tgt := 23) rfl h (fun h => ?_) (fun h => ?_)
  · refine lv_aload_n hx hb dX12_startJob_23 rfl (lv_at hl 1 rfl) ?_
    refine lv_iload_n hx hb dX12_startJob_24 rfl (lv_at hl 0 rfl) ?_
    refine kcI (n := 1) (c_isVariable rv1 h) G_isVariable E_isVariable X hw (Nat.le_trans (Nat.le_of_ble_eq_true rfl) hRf) (Nat.le_trans (Nat.le_of_ble_eq_true rfl) hRl) rfl hl.1 (Nat.le_of_ble_eq_true rfl) rfl dX12_startJob_25 (fun v3 u H locs rv3 h hw => ?_)
    refine k_if_eq hx hb rv3 dX12_startJob_28 (tgt := 49) rfl h (fun h => ?_) (fun h => ?_)
    · refine lv_aload_n hx hb dX12_startJob_49 rfl (lv_at hl 1 rfl) ?_
      refine gA 0 8 (by decide) L_0 (fun _ _ => mF_0) rfl X hw dX12_startJob_50 ?_
      refine lv_iload_n hx hb dX12_startJob_53 rfl (lv_at hl 0 rfl) ?_
      refine aL 0 1 0 452000 (fun _ _ _ _ => mG_0) (fun _ => rfl) X hw rv1 dX12_startJob_54 rfl h (fun v4 rv4 h => ?_)
      refine lv_iconst hx hb dX12_startJob_55 (v := jI 3) rfl ?_
      refine k_icmp_ne hx hb rv4 (by decide) dX12_startJob_56 (tgt := 80) rfl h (fun h => ?_) (fun h => ?_)
      · refine lv_aload_n hx hb dX12_startJob_80 rfl (lv_at hl 1 rfl) ?_
        refine gA 0 8 (by decide) L_0 (fun _ _ => mF_0) rfl X hw dX12_startJob_81 ?_
        refine lv_iload_n hx hb dX12_startJob_84 rfl (lv_at hl 0 rfl) ?_
        refine aL 0 1 0 452000 (fun _ _ _ _ => mG_0) (fun _ => rfl) X hw rv1 dX12_startJob_85 rfl h (fun v5 rv5 h => ?_)
        refine lv_bipush hx hb dX12_startJob_86 (v := jI 6) rfl ?_
        refine k_icmp_ne hx hb rv5 (by decide) dX12_startJob_88 (tgt := 125) rfl h (fun h => ?_) (fun h => ?_)
        · refine lv_aload_n hx hb dX12_startJob_125 rfl (lv_at hl 1 rfl) ?_
          refine gA 0 8 (by decide) L_0 (fun _ _ => mF_0) rfl X hw dX12_startJob_126 ?_
          refine lv_iload_n hx hb dX12_startJob_129 rfl (lv_at hl 0 rfl) ?_
          refine aL 0 1 0 452000 (fun _ _ _ _ => mG_0) (fun _ => rfl) X hw rv1 dX12_startJob_130 rfl h (fun v6 rv6 h => ?_)
          refine lv_bipush hx hb dX12_startJob_131 (v := jI 15) rfl ?_
          refine k_icmp_ne hx hb rv6 (by decide) dX12_startJob_133 (tgt := 157) rfl h (fun h => ?_) (fun h => ?_)
          · refine lv_aload_n hx hb dX12_startJob_157 rfl (lv_at hl 1 rfl) ?_
            refine gA 94 196 (by decide) L_94 (fun _ _ => mF_94) rfl X hw dX12_startJob_158 ?_
            refine lv_iload_n hx hb dX12_startJob_161 rfl (lv_at hl 2 rfl) ?_
            refine lv_bipush hx hb dX12_startJob_162 (v := jI 10) rfl ?_
            refine aS 94 58 57 60 (fun _ _ _ _ => mG_94) (fun _ => rfl) (fun _ _ _ _ _ _ => mSA_94) (by decide) X hw ra0 (by decide) dX12_startJob_164 rfl h (fun H locs u hw h => ?_)
            refine lv_aload_n hx hb dX12_startJob_165 rfl (lv_at hl 1 rfl) ?_
            refine gA 98 208 (by decide) L_98 (fun _ _ => mF_98) rfl X hw dX12_startJob_166 ?_
            refine lv_iload_n hx hb dX12_startJob_169 rfl (lv_at hl 2 rfl) ?_
            refine lv_aload_n hx hb dX12_startJob_170 rfl (lv_at hl 1 rfl) ?_
            refine gA 1 14 (by decide) L_1 (fun _ _ => mF_1) rfl X hw dX12_startJob_171 ?_
            refine lv_iload_n hx hb dX12_startJob_174 rfl (lv_at hl 0 rfl) ?_
            refine aL 1 2 1 452000 (fun _ _ _ _ => mG_1) (fun _ => rfl) X hw rv1 dX12_startJob_175 rfl h (fun v7 rv7 h => ?_)
            refine aS 98 62 61 60 (fun _ _ _ _ => mG_98) (fun _ => rfl) (fun _ _ _ _ _ _ => mSA_98) (by decide) X hw ra0 rv7 dX12_startJob_176 rfl h (fun H locs u hw h => ?_)
            refine lv_aload_n hx hb dX12_startJob_177 rfl (lv_at hl 1 rfl) ?_
            refine gA 99 211 (by decide) L_99 (fun _ _ => mF_99) rfl X hw dX12_startJob_178 ?_
            refine lv_iload_n hx hb dX12_startJob_181 rfl (lv_at hl 2 rfl) ?_
            refine lv_aload_n hx hb dX12_startJob_182 rfl (lv_at hl 1 rfl) ?_
            refine gS 104 647 (by decide) L_104 (fun _ _ => mF_104) rfl X hw dX12_startJob_183 h (fun v8 rv8 h => ?_)
            refine aS 99 63 62 60 (fun _ _ _ _ => mG_99) (fun _ => rfl) (fun _ _ _ _ _ _ => mSA_99) (by decide) X hw ra0 rv8 dX12_startJob_186 rfl h (fun H locs u hw h => ?_)
            refine lv_aload_n hx hb dX12_startJob_187 rfl (lv_at hl 1 rfl) ?_
            refine lv_iload_n hx hb dX12_startJob_188 rfl (lv_at hl 2 rfl) ?_
            refine kcV (n := 1) (c_nextTerm ra0 h) G_nextTerm E_nextTerm X hw (Nat.le_trans (Nat.le_of_ble_eq_true rfl) hRf) (Nat.le_trans (Nat.le_of_ble_eq_true rfl) hRl) rfl hl.1 (Nat.le_of_ble_eq_true rfl) rfl dX12_startJob_189 (fun u H locs h hw => ?_)
            exact hret _ _ _ _ _ h hw dX12_startJob_192
          · refine lv_aload_n hx hb dX12_startJob_136 rfl (lv_at hl 1 rfl) ?_
            refine gA 94 196 (by decide) L_94 (fun _ _ => mF_94) rfl X hw dX12_startJob_137 ?_
            refine lv_iload_n hx hb dX12_startJob_140 rfl (lv_at hl 2 rfl) ?_
            refine lv_iconst hx hb dX12_startJob_141 (v := jI 5) rfl ?_
            refine aS 94 58 57 60 (fun _ _ _ _ => mG_94) (fun _ => rfl) (fun _ _ _ _ _ _ => mSA_94) (by decide) X hw ra0 (by decide) dX12_startJob_142 rfl h (fun H locs u hw h => ?_)
            refine lv_aload_n hx hb dX12_startJob_143 rfl (lv_at hl 1 rfl) ?_
            refine lv_aload_n hx hb dX12_startJob_144 rfl (lv_at hl 1 rfl) ?_
            refine lv_iload_n hx hb dX12_startJob_145 rfl (lv_at hl 0 rfl) ?_
            refine lv_iconst hx hb dX12_startJob_146 (v := jI 1) rfl ?_
            refine kcI (n := 2) (c_term rv1 (by decide) h) G_term E_term X hw (Nat.le_trans (Nat.le_of_ble_eq_true rfl) hRf) (Nat.le_trans (Nat.le_of_ble_eq_true rfl) hRl) rfl hl.1 (Nat.le_of_ble_eq_true rfl) rfl dX12_startJob_147 (fun v10 u H locs rv10 h hw => ?_)
            refine lv_iconst hx hb dX12_startJob_150 (v := jI 1) rfl ?_
            refine kcV (n := 2) (c_beginJob rv10 (by decide) h) G_beginJob E_beginJob X hw (Nat.le_trans (Nat.le_of_ble_eq_true rfl) hRf) (Nat.le_trans (Nat.le_of_ble_eq_true rfl) hRl) rfl hl.1 (Nat.le_of_ble_eq_true rfl) rfl dX12_startJob_151 (fun u H locs h hw => ?_)
            refine lv_goto hx hb dX12_startJob_154 (tgt := 192) rfl ?_
            exact hret _ _ _ _ _ h hw dX12_startJob_192
        · refine lv_aload_n hx hb dX12_startJob_91 rfl (lv_at hl 1 rfl) ?_
          refine lv_iconst hx hb dX12_startJob_92 (v := jI 3) rfl ?_
          refine lv_aload_n hx hb dX12_startJob_93 rfl (lv_at hl 1 rfl) ?_
          refine lv_iload_n hx hb dX12_startJob_94 rfl (lv_at hl 0 rfl) ?_
          refine lv_iconst hx hb dX12_startJob_95 (v := jI 2) rfl ?_
          refine kcI (n := 2) (c_term rv1 (by decide) h) G_term E_term X hw (Nat.le_trans (Nat.le_of_ble_eq_true rfl) hRf) (Nat.le_trans (Nat.le_of_ble_eq_true rfl) hRl) rfl hl.1 (Nat.le_of_ble_eq_true rfl) rfl dX12_startJob_96 (fun v12 u H locs rv12 h hw => ?_)
          refine lv_iconst hx hb dX12_startJob_99 (v := jI 1) rfl ?_
          refine lv_iconst hx hb dX12_startJob_100 (v := jI 0) rfl ?_
          refine kcI (n := 4) (c_made (by decide) rv12 (by decide) (by decide) h) G_made E_made X hw (Nat.le_trans (Nat.le_of_ble_eq_true rfl) hRf) (Nat.le_trans (Nat.le_of_ble_eq_true rfl) hRl) rfl hl.1 (Nat.le_of_ble_eq_true rfl) rfl dX12_startJob_101 (fun v13 u H locs rv13 h hw => ?_)
          refine lv_istore_n hx hb dX12_startJob_104 rfl hl (by decide) rfl (fun ls hl => ?_)
          have hl : lv_has ls 4 [(3, .int (jI v13)), (2, .int (jI v1)), (0, .ref (h0)), (1, .int (jI a0))] := hl
          refine lv_aload_n hx hb dX12_startJob_105 rfl (lv_at hl 2 rfl) ?_
          refine lv_aload_n hx hb dX12_startJob_106 rfl (lv_at hl 2 rfl) ?_
          refine lv_iconst hx hb dX12_startJob_107 (v := jI 3) rfl ?_
          refine lv_aload_n hx hb dX12_startJob_108 rfl (lv_at hl 2 rfl) ?_
          refine lv_iload_n hx hb dX12_startJob_109 rfl (lv_at hl 1 rfl) ?_
          refine lv_iconst hx hb dX12_startJob_110 (v := jI 1) rfl ?_
          refine kcI (n := 2) (c_term rv1 (by decide) h) G_term E_term X hw (Nat.le_trans (Nat.le_of_ble_eq_true rfl) hRf) (Nat.le_trans (Nat.le_of_ble_eq_true rfl) hRl) rfl hl.1 (Nat.le_of_ble_eq_true rfl) rfl dX12_startJob_111 (fun v14 u H locs rv14 h hw => ?_)
          refine lv_iload_n hx hb dX12_startJob_114 rfl (lv_at hl 0 rfl) ?_
          refine lv_iconst hx hb dX12_startJob_115 (v := jI 1) rfl ?_
          refine kcI (n := 4) (c_made (by decide) rv14 rv13 (by decide) h) G_made E_made X hw (Nat.le_trans (Nat.le_of_ble_eq_true rfl) hRf) (Nat.le_trans (Nat.le_of_ble_eq_true rfl) hRl) rfl hl.1 (Nat.le_of_ble_eq_true rfl) rfl dX12_startJob_116 (fun v15 u H locs rv15 h hw => ?_)
          refine kcV (n := 1) (c_passOn rv15 h) G_passOn E_passOn X hw (Nat.le_trans (Nat.le_of_ble_eq_true rfl) hRf) (Nat.le_trans (Nat.le_of_ble_eq_true rfl) hRl) rfl hl.1 (Nat.le_of_ble_eq_true rfl) rfl dX12_startJob_119 (fun u H locs h hw => ?_)
          refine lv_goto hx hb dX12_startJob_122 (tgt := 192) rfl ?_
          exact hret _ _ _ _ _ h hw dX12_startJob_192
      · refine lv_aload_n hx hb dX12_startJob_59 rfl (lv_at hl 1 rfl) ?_
        refine gA 94 196 (by decide) L_94 (fun _ _ => mF_94) rfl X hw dX12_startJob_60 ?_
        refine lv_iload_n hx hb dX12_startJob_63 rfl (lv_at hl 2 rfl) ?_
        refine lv_iconst hx hb dX12_startJob_64 (v := jI 1) rfl ?_
        refine aS 94 58 57 60 (fun _ _ _ _ => mG_94) (fun _ => rfl) (fun _ _ _ _ _ _ => mSA_94) (by decide) X hw ra0 (by decide) dX12_startJob_65 rfl h (fun H locs u hw h => ?_)
        refine lv_aload_n hx hb dX12_startJob_66 rfl (lv_at hl 1 rfl) ?_
        refine lv_aload_n hx hb dX12_startJob_67 rfl (lv_at hl 1 rfl) ?_
        refine lv_iload_n hx hb dX12_startJob_68 rfl (lv_at hl 0 rfl) ?_
        refine lv_iconst hx hb dX12_startJob_69 (v := jI 1) rfl ?_
        refine kcI (n := 2) (c_term rv1 (by decide) h) G_term E_term X hw (Nat.le_trans (Nat.le_of_ble_eq_true rfl) hRf) (Nat.le_trans (Nat.le_of_ble_eq_true rfl) hRl) rfl hl.1 (Nat.le_of_ble_eq_true rfl) rfl dX12_startJob_70 (fun v17 u H locs rv17 h hw => ?_)
        refine lv_iconst hx hb dX12_startJob_73 (v := jI 1) rfl ?_
        refine kcV (n := 2) (c_beginJob rv17 (by decide) h) G_beginJob E_beginJob X hw (Nat.le_trans (Nat.le_of_ble_eq_true rfl) hRf) (Nat.le_trans (Nat.le_of_ble_eq_true rfl) hRl) rfl hl.1 (Nat.le_of_ble_eq_true rfl) rfl dX12_startJob_74 (fun u H locs h hw => ?_)
        refine lv_goto hx hb dX12_startJob_77 (tgt := 192) rfl ?_
        exact hret _ _ _ _ _ h hw dX12_startJob_192
    · refine lv_aload_n hx hb dX12_startJob_31 rfl (lv_at hl 1 rfl) ?_
      refine lv_aload_n hx hb dX12_startJob_32 rfl (lv_at hl 1 rfl) ?_
      refine lv_iload_n hx hb dX12_startJob_33 rfl (lv_at hl 0 rfl) ?_
      refine lv_aload_n hx hb dX12_startJob_34 rfl (lv_at hl 1 rfl) ?_
      refine gA 93 193 (by decide) L_93 (fun _ _ => mF_93) rfl X hw dX12_startJob_35 ?_
      refine lv_iload_n hx hb dX12_startJob_38 rfl (lv_at hl 2 rfl) ?_
      refine aZ 93 57 56 60 (fun _ _ _ _ => mG_93) (fun _ => rfl) (by decide) X hw ra0 dX12_startJob_39 rfl h (fun v19 rv19 h => ?_)
      refine kcI (n := 2) (c_lookedUp rv1 (bz_in rv19) h) G_lookedUp E_lookedUp X hw (Nat.le_trans (Nat.le_of_ble_eq_true rfl) hRf) (Nat.le_trans (Nat.le_of_ble_eq_true rfl) hRl) rfl hl.1 (Nat.le_of_ble_eq_true rfl) rfl dX12_startJob_40 (fun v20 u H locs rv20 h hw => ?_)
      refine kcV (n := 1) (c_end0 rv20 h) G_end0 E_end0 X hw (Nat.le_trans (Nat.le_of_ble_eq_true rfl) hRf) (Nat.le_trans (Nat.le_of_ble_eq_true rfl) hRl) rfl hl.1 (Nat.le_of_ble_eq_true rfl) rfl dX12_startJob_43 (fun u H locs h hw => ?_)
      refine lv_goto hx hb dX12_startJob_46 (tgt := 192) rfl ?_
      exact hret _ _ _ _ _ h hw dX12_startJob_192
  · refine lv_aload_n hx hb dX12_startJob_15 rfl (lv_at hl 1 rfl) ?_
    refine lv_iload_n hx hb dX12_startJob_16 rfl (lv_at hl 0 rfl) ?_
    refine kcV (n := 1) (c_end0 rv1 h) G_end0 E_end0 X hw (Nat.le_trans (Nat.le_of_ble_eq_true rfl) hRf) (Nat.le_trans (Nat.le_of_ble_eq_true rfl) hRl) rfl hl.1 (Nat.le_of_ble_eq_true rfl) rfl dX12_startJob_17 (fun u H locs h hw => ?_)
    refine lv_goto hx hb dX12_startJob_20 (tgt := 192) rfl ?_
    exact hret _ _ _ _ _ h hw dX12_startJob_192

end
theorem c_startJob {l : Launch} {a0 : Int} (ra0 : inR a0) {Q : iST → Prop} {u : iST} (h : w_startJob a0 Q u) : kMV l yX12_startJob (.code yX12_startJob cX12_startJob 4 none :: wsM) { frames := 11, cells := 0, slots := 0, locals := 258 } [.int (jI a0)] Q u := kMV_of rfl (fun _ => Nat.le_of_ble_eq_true rfl) (fun X hRf hRl hret hw hl => b_startJob_s X hRf hRl hret ra0 hw hl h)
