/-! isSmaller -/
theorem dX12_isSmaller_0 : decode cX12_isSmaller 0 = .ok (.aload_n 0, 1) := by decide +kernel
theorem dX12_isSmaller_1 : decode cX12_isSmaller 1 = .ok (.iconst 1, 1) := by decide +kernel
theorem dX12_isSmaller_2 : decode cX12_isSmaller 2 = .ok (.putfield 435, 3) := by decide +kernel
theorem dX12_isSmaller_5 : decode cX12_isSmaller 5 = .ok (.aload_n 0, 1) := by decide +kernel
theorem dX12_isSmaller_6 : decode cX12_isSmaller 6 = .ok (.iconst 0, 1) := by decide +kernel
theorem dX12_isSmaller_7 : decode cX12_isSmaller 7 = .ok (.putfield 438, 3) := by decide +kernel
theorem dX12_isSmaller_10 : decode cX12_isSmaller 10 = .ok (.aload_n 0, 1) := by decide +kernel
theorem dX12_isSmaller_11 : decode cX12_isSmaller 11 = .ok (.iload_n 2, 1) := by decide +kernel
theorem dX12_isSmaller_12 : decode cX12_isSmaller 12 = .ok (.invokevirtual 465, 3) := by decide +kernel
theorem dX12_isSmaller_15 : decode cX12_isSmaller 15 = .ok (.aload_n 0, 1) := by decide +kernel
theorem dX12_isSmaller_16 : decode cX12_isSmaller 16 = .ok (.getfield 438, 3) := by decide +kernel
theorem dX12_isSmaller_19 : decode cX12_isSmaller 19 = .ok (.istore_n 3, 1) := by decide +kernel
theorem dX12_isSmaller_20 : decode cX12_isSmaller 20 = .ok (.iconst 0, 1) := by decide +kernel
theorem dX12_isSmaller_21 : decode cX12_isSmaller 21 = .ok (.istore 4, 2) := by decide +kernel
theorem dX12_isSmaller_23 : decode cX12_isSmaller 23 = .ok (.iload 4, 2) := by decide +kernel
theorem dX12_isSmaller_25 : decode cX12_isSmaller 25 = .ok (.iload_n 3, 1) := by decide +kernel
theorem dX12_isSmaller_26 : decode cX12_isSmaller 26 = .ok (.if_icmp .ge 23, 3) := by decide +kernel
theorem dX12_isSmaller_29 : decode cX12_isSmaller 29 = .ok (.aload_n 0, 1) := by decide +kernel
theorem dX12_isSmaller_30 : decode cX12_isSmaller 30 = .ok (.getfield 142, 3) := by decide +kernel
theorem dX12_isSmaller_33 : decode cX12_isSmaller 33 = .ok (.iload 4, 2) := by decide +kernel
theorem dX12_isSmaller_35 : decode cX12_isSmaller 35 = .ok (.aload_n 0, 1) := by decide +kernel
theorem dX12_isSmaller_36 : decode cX12_isSmaller 36 = .ok (.getfield 56, 3) := by decide +kernel
theorem dX12_isSmaller_39 : decode cX12_isSmaller 39 = .ok (.iload 4, 2) := by decide +kernel
theorem dX12_isSmaller_41 : decode cX12_isSmaller 41 = .ok (.iaload, 1) := by decide +kernel
theorem dX12_isSmaller_42 : decode cX12_isSmaller 42 = .ok (.iastore, 1) := by decide +kernel
theorem dX12_isSmaller_43 : decode cX12_isSmaller 43 = .ok (.iinc 4 1, 3) := by decide +kernel
theorem dX12_isSmaller_46 : decode cX12_isSmaller 46 = .ok (.goto (-23), 3) := by decide +kernel
theorem dX12_isSmaller_49 : decode cX12_isSmaller 49 = .ok (.aload_n 0, 1) := by decide +kernel
theorem dX12_isSmaller_50 : decode cX12_isSmaller 50 = .ok (.iconst 0, 1) := by decide +kernel
theorem dX12_isSmaller_51 : decode cX12_isSmaller 51 = .ok (.putfield 438, 3) := by decide +kernel
theorem dX12_isSmaller_54 : decode cX12_isSmaller 54 = .ok (.aload_n 0, 1) := by decide +kernel
theorem dX12_isSmaller_55 : decode cX12_isSmaller 55 = .ok (.iload_n 1, 1) := by decide +kernel
theorem dX12_isSmaller_56 : decode cX12_isSmaller 56 = .ok (.invokevirtual 465, 3) := by decide +kernel
theorem dX12_isSmaller_59 : decode cX12_isSmaller 59 = .ok (.aload_n 0, 1) := by decide +kernel
theorem dX12_isSmaller_60 : decode cX12_isSmaller 60 = .ok (.iconst 0, 1) := by decide +kernel
theorem dX12_isSmaller_61 : decode cX12_isSmaller 61 = .ok (.putfield 435, 3) := by decide +kernel
theorem dX12_isSmaller_64 : decode cX12_isSmaller 64 = .ok (.iconst 0, 1) := by decide +kernel
theorem dX12_isSmaller_65 : decode cX12_isSmaller 65 = .ok (.istore 4, 2) := by decide +kernel
theorem dX12_isSmaller_67 : decode cX12_isSmaller 67 = .ok (.iload 4, 2) := by decide +kernel
theorem dX12_isSmaller_69 : decode cX12_isSmaller 69 = .ok (.sipush 200, 3) := by decide +kernel
theorem dX12_isSmaller_72 : decode cX12_isSmaller 72 = .ok (.if_icmp .ge 70, 3) := by decide +kernel
theorem dX12_isSmaller_75 : decode cX12_isSmaller 75 = .ok (.iload 4, 2) := by decide +kernel
theorem dX12_isSmaller_77 : decode cX12_isSmaller 77 = .ok (.aload_n 0, 1) := by decide +kernel
theorem dX12_isSmaller_78 : decode cX12_isSmaller 78 = .ok (.getfield 438, 3) := by decide +kernel
theorem dX12_isSmaller_81 : decode cX12_isSmaller 81 = .ok (.if_icmp .ge 13, 3) := by decide +kernel
theorem dX12_isSmaller_84 : decode cX12_isSmaller 84 = .ok (.aload_n 0, 1) := by decide +kernel
theorem dX12_isSmaller_85 : decode cX12_isSmaller 85 = .ok (.getfield 56, 3) := by decide +kernel
theorem dX12_isSmaller_88 : decode cX12_isSmaller 88 = .ok (.iload 4, 2) := by decide +kernel
theorem dX12_isSmaller_90 : decode cX12_isSmaller 90 = .ok (.iaload, 1) := by decide +kernel
theorem dX12_isSmaller_91 : decode cX12_isSmaller 91 = .ok (.goto 4, 3) := by decide +kernel
theorem dX12_isSmaller_94 : decode cX12_isSmaller 94 = .ok (.iconst (-1), 1) := by decide +kernel
theorem dX12_isSmaller_95 : decode cX12_isSmaller 95 = .ok (.istore 5, 2) := by decide +kernel
theorem dX12_isSmaller_97 : decode cX12_isSmaller 97 = .ok (.iload 4, 2) := by decide +kernel
theorem dX12_isSmaller_99 : decode cX12_isSmaller 99 = .ok (.iload_n 3, 1) := by decide +kernel
theorem dX12_isSmaller_100 : decode cX12_isSmaller 100 = .ok (.if_icmp .ge 13, 3) := by decide +kernel
theorem dX12_isSmaller_103 : decode cX12_isSmaller 103 = .ok (.aload_n 0, 1) := by decide +kernel
theorem dX12_isSmaller_104 : decode cX12_isSmaller 104 = .ok (.getfield 142, 3) := by decide +kernel
theorem dX12_isSmaller_107 : decode cX12_isSmaller 107 = .ok (.iload 4, 2) := by decide +kernel
theorem dX12_isSmaller_109 : decode cX12_isSmaller 109 = .ok (.iaload, 1) := by decide +kernel
theorem dX12_isSmaller_110 : decode cX12_isSmaller 110 = .ok (.goto 4, 3) := by decide +kernel
theorem dX12_isSmaller_113 : decode cX12_isSmaller 113 = .ok (.iconst (-1), 1) := by decide +kernel
theorem dX12_isSmaller_114 : decode cX12_isSmaller 114 = .ok (.istore 6, 2) := by decide +kernel
theorem dX12_isSmaller_116 : decode cX12_isSmaller 116 = .ok (.iload 5, 2) := by decide +kernel
theorem dX12_isSmaller_118 : decode cX12_isSmaller 118 = .ok (.iload 6, 2) := by decide +kernel
theorem dX12_isSmaller_120 : decode cX12_isSmaller 120 = .ok (.if_icmp .eq 16, 3) := by decide +kernel
theorem dX12_isSmaller_123 : decode cX12_isSmaller 123 = .ok (.iload 5, 2) := by decide +kernel
theorem dX12_isSmaller_125 : decode cX12_isSmaller 125 = .ok (.iload 6, 2) := by decide +kernel
theorem dX12_isSmaller_127 : decode cX12_isSmaller 127 = .ok (.if_icmp .ge 7, 3) := by decide +kernel
theorem dX12_isSmaller_130 : decode cX12_isSmaller 130 = .ok (.iconst 1, 1) := by decide +kernel
theorem dX12_isSmaller_131 : decode cX12_isSmaller 131 = .ok (.goto 4, 3) := by decide +kernel
theorem dX12_isSmaller_134 : decode cX12_isSmaller 134 = .ok (.iconst 0, 1) := by decide +kernel
theorem dX12_isSmaller_135 : decode cX12_isSmaller 135 = .ok (.ireturn, 1) := by decide +kernel
theorem dX12_isSmaller_136 : decode cX12_isSmaller 136 = .ok (.iinc 4 1, 3) := by decide +kernel
theorem dX12_isSmaller_139 : decode cX12_isSmaller 139 = .ok (.goto (-72), 3) := by decide +kernel
theorem dX12_isSmaller_142 : decode cX12_isSmaller 142 = .ok (.iconst 0, 1) := by decide +kernel
theorem dX12_isSmaller_143 : decode cX12_isSmaller 143 = .ok (.ireturn, 1) := by decide +kernel

section
variable {p : Program} {l : Launch} {e : Env} {R : Room} {s : State} {m : MethodId} {args : Array Value} {below : List Frame} {meth : Method} {c : Code} {H : Heap} {locs : List Loc} {Qf : State → Prop}
variable {ls : Array Slot} {D : va_G} {ca : Nat → ClassId} {A : Nat → Prop} {h0 : Nat} {ad : Nat → Nat} {H0 : Heap} {u : iST}
def w_isSmaller_114 (R67 : Int → Int → iST → Prop) (Q : Int → iST → Prop) (x3 : Int) (x4 : Int) (x5 : Int) (y0 : Int) (u : iST) : Prop :=
  br (x5 = y0) (
    ov (x4 + 1) (
    R67 x3 (x4 + 1) u)) (
    br (y0 ≤ x5) (
      zt 0 (Q 0 u)) (
      zt 1 (Q 1 u)))
set_option maxRecDepth 20000 in
set_option maxHeartbeats 4000000 in
theorem b_isSmaller_114 (X : kX p m c cX12_isSmaller 7 s args D ca) (hRf : 3 ≤ R.frames) (hRl : 67 ≤ R.locals) {Q : Int → iST → Prop} (hret : ∀ (v : Int) (u : iST) (H : Heap) (locs : List Loc) (ls : Array Slot) (pc : Nat), bz v → Q v u → kW D ca A h0 ad H0 H locs u → decode cX12_isSmaller pc = .ok (.ireturn, 1) → W p l e R s m args below meth c H locs 0 0 Qf (F0 m pc ls [.int (jI v)])) {R67 : Int → Int → iST → Prop} (hR67 : ∀ (x3 : Int) (x4 : Int) (u : iST) (H : Heap) (locs : List Loc) (ls : Array Slot), inR x3 → inR x4 → kW D ca A h0 ad H0 H locs u → lv_has ls 7 [(0, .ref h0), (3, .int (jI x3)), (4, .int (jI x4))] → R67 x3 x4 u → W p l e R s m args below meth c H locs 0 0 Qf (F0 m 67 ls [])) {x3 x4 x5 y0 : Int} (rx3 : inR x3) (rx4 : inR x4) (rx5 : inR x5) (ry0 : inR y0) (hw : kW D ca A h0 ad H0 H locs u) (hl : lv_has ls 7 [(0, .ref h0), (3, .int (jI x3)), (4, .int (jI x4)), (5, .int (jI x5))]) (h : w_isSmaller_114 R67 Q x3 x4 x5 y0 u) : W p l e R s m args below meth c H locs 0 0 Qf (F0 m 114 ls [.int (jI y0)]) := by
  have hx := X.1.1
  have hb := X.1.2.1
  unfold w_isSmaller_114 at h
  refine lv_istore hx hb dX12_isSmaller_114 hl (by decide) rfl (fun ls hl => ?_)
  have hl : lv_has ls 7 [(6, .int (jI y0)), (0, .ref (h0)), (3, .int (jI x3)), (4, .int (jI x4)), (5, .int (jI x5))] := hl
  refine lv_iload hx hb dX12_isSmaller_116 (lv_at hl 4 rfl) ?_
  refine lv_iload hx hb dX12_isSmaller_118 (lv_at hl 0 rfl) ?_
  refine k_icmp_eq hx hb rx5 ry0 dX12_isSmaller_120 (tgt := 136) rfl h (fun h => ?_) (fun h => ?_)
  · refine k_iinc (k := 3) hx hb dX12_isSmaller_136 hl rfl (by decide) rfl h (fun ls r5 h hl => ?_)
    have hl : lv_has ls 7 [(4, .int (jI (x4 + 1))), (6, .int (jI y0)), (0, .ref (h0)), (3, .int (jI x3)), (5, .int (jI x5))] := hl
    refine lv_goto hx hb dX12_isSmaller_139 (tgt := 67) rfl ?_
    exact hR67 _ _ _ H locs ls rx3 r5 hw (lv_sub hl [2, 3, 0] rfl) h
  · refine lv_iload hx hb dX12_isSmaller_123 (lv_at hl 4 rfl) ?_
    refine lv_iload hx hb dX12_isSmaller_125 (lv_at hl 0 rfl) ?_
    refine k_icmp_ge hx hb rx5 ry0 dX12_isSmaller_127 (tgt := 134) rfl h (fun h => ?_) (fun h => ?_)
    · refine lv_iconst hx hb dX12_isSmaller_134 (v := jI 0) rfl ?_
      exact hret _ _ _ _ _ _ h.1 h.2 hw dX12_isSmaller_135
    · refine lv_iconst hx hb dX12_isSmaller_130 (v := jI 1) rfl ?_
      refine lv_goto hx hb dX12_isSmaller_131 (tgt := 135) rfl ?_
      exact hret _ _ _ _ _ _ h.1 h.2 hw dX12_isSmaller_135

def w_isSmaller_95 (R67 : Int → Int → iST → Prop) (Q : Int → iST → Prop) (x3 : Int) (x4 : Int) (y0 : Int) (u : iST) : Prop :=
  br (x3 ≤ x4) (
    w_isSmaller_114 R67 Q x3 x4 y0 (-1) u) (
    bd x4 200 (rd (u.2.1 65 x4) (fun v6 => 
    w_isSmaller_114 R67 Q x3 x4 y0 v6 u)))
set_option maxRecDepth 20000 in
set_option maxHeartbeats 4000000 in
theorem b_isSmaller_95 (X : kX p m c cX12_isSmaller 7 s args D ca) (hRf : 3 ≤ R.frames) (hRl : 67 ≤ R.locals) {Q : Int → iST → Prop} (hret : ∀ (v : Int) (u : iST) (H : Heap) (locs : List Loc) (ls : Array Slot) (pc : Nat), bz v → Q v u → kW D ca A h0 ad H0 H locs u → decode cX12_isSmaller pc = .ok (.ireturn, 1) → W p l e R s m args below meth c H locs 0 0 Qf (F0 m pc ls [.int (jI v)])) {R67 : Int → Int → iST → Prop} (hR67 : ∀ (x3 : Int) (x4 : Int) (u : iST) (H : Heap) (locs : List Loc) (ls : Array Slot), inR x3 → inR x4 → kW D ca A h0 ad H0 H locs u → lv_has ls 7 [(0, .ref h0), (3, .int (jI x3)), (4, .int (jI x4))] → R67 x3 x4 u → W p l e R s m args below meth c H locs 0 0 Qf (F0 m 67 ls [])) {x3 x4 y0 : Int} (rx3 : inR x3) (rx4 : inR x4) (ry0 : inR y0) (hw : kW D ca A h0 ad H0 H locs u) (hl : lv_has ls 7 [(0, .ref h0), (3, .int (jI x3)), (4, .int (jI x4))]) (h : w_isSmaller_95 R67 Q x3 x4 y0 u) : W p l e R s m args below meth c H locs 0 0 Qf (F0 m 95 ls [.int (jI y0)]) := by
  have hx := X.1.1
  have hb := X.1.2.1
  unfold w_isSmaller_95 at h
  refine lv_istore hx hb dX12_isSmaller_95 hl (by decide) rfl (fun ls hl => ?_)
  have hl : lv_has ls 7 [(5, .int (jI y0)), (0, .ref (h0)), (3, .int (jI x3)), (4, .int (jI x4))] := hl
  refine lv_iload hx hb dX12_isSmaller_97 (lv_at hl 3 rfl) ?_
  refine lv_iload_n hx hb dX12_isSmaller_99 rfl (lv_at hl 2 rfl) ?_
  refine k_icmp_ge hx hb rx4 rx3 dX12_isSmaller_100 (tgt := 113) rfl h (fun h => ?_) (fun h => ?_)
  · refine lv_iconst hx hb dX12_isSmaller_113 (v := jI (-1)) rfl ?_
    exact b_isSmaller_114 X hRf hRl hret hR67 rx3 rx4 ry0 (by decide) hw (lv_sub hl [1, 2, 3, 0] rfl) h
  · refine lv_aload_n hx hb dX12_isSmaller_103 rfl (lv_at hl 1 rfl) ?_
    refine gA 65 142 (by decide) L_65 (fun _ _ => mF_65) rfl X hw dX12_isSmaller_104 ?_
    refine lv_iload hx hb dX12_isSmaller_107 (lv_at hl 3 rfl) ?_
    refine aL 65 40 39 200 (fun _ _ _ _ => mG_65) (fun _ => rfl) X hw rx4 dX12_isSmaller_109 rfl h (fun v6 rv6 h => ?_)
    refine lv_goto hx hb dX12_isSmaller_110 (tgt := 114) rfl ?_
    exact b_isSmaller_114 X hRf hRl hret hR67 rx3 rx4 ry0 rv6 hw (lv_sub hl [1, 2, 3, 0] rfl) h

def w_isSmaller_67b (R67 : Int → Int → iST → Prop) (Q : Int → iST → Prop) (x3 : Int) (x4 : Int) (u : iST) : Prop :=
  br (200 ≤ x4) (
    zt 0 (Q 0 u)) (
    rd (u.1 22) (fun v4 => 
    br (v4 ≤ x4) (
      w_isSmaller_95 R67 Q x3 x4 (-1) u) (
      bd x4 200 (rd (u.2.1 21 x4) (fun v7 => 
      w_isSmaller_95 R67 Q x3 x4 v7 u)))))
def w_isSmaller_67 (Q : Int → iST → Prop) (x3 : Int) (x4 : Int) (u : iST) : Prop := ∀ R67 : Int → Int → iST → Prop, (∀ (x3 : Int) (x4 : Int) (u : iST), w_isSmaller_67b R67 Q x3 x4 u → R67 x3 x4 u) → R67 x3 x4 u
set_option maxRecDepth 20000 in
set_option maxHeartbeats 4000000 in
theorem b_isSmaller_67 (X : kX p m c cX12_isSmaller 7 s args D ca) (hRf : 3 ≤ R.frames) (hRl : 67 ≤ R.locals) {Q : Int → iST → Prop} (hret : ∀ (v : Int) (u : iST) (H : Heap) (locs : List Loc) (ls : Array Slot) (pc : Nat), bz v → Q v u → kW D ca A h0 ad H0 H locs u → decode cX12_isSmaller pc = .ok (.ireturn, 1) → W p l e R s m args below meth c H locs 0 0 Qf (F0 m pc ls [.int (jI v)])) {x3 x4 : Int} (rx3 : inR x3) (rx4 : inR x4) (hw : kW D ca A h0 ad H0 H locs u) (hl : lv_has ls 7 [(0, .ref h0), (3, .int (jI x3)), (4, .int (jI x4))]) (h : w_isSmaller_67 Q x3 x4 u) : W p l e R s m args below meth c H locs 0 0 Qf (F0 m 67 ls []) := by
  refine h (fun x3 x4 u => ∀ (H : Heap) (locs : List Loc) (ls : Array Slot), inR x3 → inR x4 → kW D ca A h0 ad H0 H locs u → lv_has ls 7 [(0, .ref h0), (3, .int (jI x3)), (4, .int (jI x4))] → W p l e R s m args below meth c H locs 0 0 Qf (F0 m 67 ls [])) ?_ H locs ls rx3 rx4 hw hl
  clear h hl hw rx3 rx4
  intro x3 x4 u h H locs ls rx3 rx4 hw hl
  have hR67 : ∀ (x3 : Int) (x4 : Int) (u : iST) (H : Heap) (locs : List Loc) (ls : Array Slot), inR x3 → inR x4 → kW D ca A h0 ad H0 H locs u → lv_has ls 7 [(0, .ref h0), (3, .int (jI x3)), (4, .int (jI x4))] → (fun (x3 : Int) (x4 : Int) u => ∀ (H : Heap) (locs : List Loc) (ls : Array Slot), inR x3 → inR x4 → kW D ca A h0 ad H0 H locs u → lv_has ls 7 [(0, .ref h0), (3, .int (jI x3)), (4, .int (jI x4))] → W p l e R s m args below meth c H locs 0 0 Qf (F0 m 67 ls [])) x3 x4 u → W p l e R s m args below meth c H locs 0 0 Qf (F0 m 67 ls []) := fun x3 x4 u H locs ls rx3 rx4 hw hl h => h H locs ls rx3 rx4 hw hl
  have hx := X.1.1
  have hb := X.1.2.1
  unfold w_isSmaller_67b at h
  refine lv_iload hx hb dX12_isSmaller_67 (lv_at hl 2 rfl) ?_
  refine lv_sipush hx hb dX12_isSmaller_69 (v := jI 200) rfl ?_
  refine k_icmp_ge hx hb rx4 (by decide) dX12_isSmaller_72 (tgt := 142) rfl h (fun h => ?_) (fun h => ?_)
  · refine lv_iconst hx hb dX12_isSmaller_142 (v := jI 0) rfl ?_
    exact hret _ _ _ _ _ _ h.1 h.2 hw dX12_isSmaller_143
  · refine lv_iload hx hb dX12_isSmaller_75 (lv_at hl 2 rfl) ?_
    refine lv_aload_n hx hb dX12_isSmaller_77 rfl (lv_at hl 0 rfl) ?_
    refine gS 22 438 (by decide) L_22 (fun _ _ => mF_22) rfl X hw dX12_isSmaller_78 h (fun v4 rv4 h => ?_)
    refine k_icmp_ge hx hb rx4 rv4 dX12_isSmaller_81 (tgt := 94) rfl h (fun h => ?_) (fun h => ?_)
    · refine lv_iconst hx hb dX12_isSmaller_94 (v := jI (-1)) rfl ?_
      exact b_isSmaller_95 X hRf hRl hret hR67 rx3 rx4 (by decide) hw hl h
    · refine lv_aload_n hx hb dX12_isSmaller_84 rfl (lv_at hl 0 rfl) ?_
      refine gA 21 56 (by decide) L_21 (fun _ _ => mF_21) rfl X hw dX12_isSmaller_85 ?_
      refine lv_iload hx hb dX12_isSmaller_88 (lv_at hl 2 rfl) ?_
      refine aL 21 15 14 200 (fun _ _ _ _ => mG_21) (fun _ => rfl) X hw rx4 dX12_isSmaller_90 rfl h (fun v7 rv7 h => ?_)
      refine lv_goto hx hb dX12_isSmaller_91 (tgt := 95) rfl ?_
      exact b_isSmaller_95 X hRf hRl hret hR67 rx3 rx4 rv7 hw hl h

def w_isSmaller_23b (R23 : Int → Int → Int → iST → Prop) (Q : Int → iST → Prop) (x1 : Int) (x3 : Int) (x4 : Int) (u : iST) : Prop :=
  br (x3 ≤ x4) (
    sw (iI u 22 0) (fun u => 
    w_tellObject x1 (fun u => 
    zt 0 (sw (iI u 64 0) (fun u => 
    w_isSmaller_67 Q x3 0 u))) u)) (
    bd x4 200 (rd (u.2.1 21 x4) (fun v8 => 
    bd x4 200 (sw (iA u 65 x4 v8) (fun u => 
    ov (x4 + 1) (
    R23 x1 x3 (x4 + 1) u))))))
def w_isSmaller_23 (Q : Int → iST → Prop) (x1 : Int) (x3 : Int) (x4 : Int) (u : iST) : Prop := ∀ R23 : Int → Int → Int → iST → Prop, (∀ (x1 : Int) (x3 : Int) (x4 : Int) (u : iST), w_isSmaller_23b R23 Q x1 x3 x4 u → R23 x1 x3 x4 u) → R23 x1 x3 x4 u
set_option maxRecDepth 20000 in
set_option maxHeartbeats 4000000 in
theorem b_isSmaller_23 (X : kX p m c cX12_isSmaller 7 s args D ca) (hRf : 3 ≤ R.frames) (hRl : 67 ≤ R.locals) {Q : Int → iST → Prop} (hret : ∀ (v : Int) (u : iST) (H : Heap) (locs : List Loc) (ls : Array Slot) (pc : Nat), bz v → Q v u → kW D ca A h0 ad H0 H locs u → decode cX12_isSmaller pc = .ok (.ireturn, 1) → W p l e R s m args below meth c H locs 0 0 Qf (F0 m pc ls [.int (jI v)])) {x1 x3 x4 : Int} (rx1 : inR x1) (rx3 : inR x3) (rx4 : inR x4) (hw : kW D ca A h0 ad H0 H locs u) (hl : lv_has ls 7 [(0, .ref h0), (1, .int (jI x1)), (3, .int (jI x3)), (4, .int (jI x4))]) (h : w_isSmaller_23 Q x1 x3 x4 u) : W p l e R s m args below meth c H locs 0 0 Qf (F0 m 23 ls []) := by
  refine h (fun x1 x3 x4 u => ∀ (H : Heap) (locs : List Loc) (ls : Array Slot), inR x1 → inR x3 → inR x4 → kW D ca A h0 ad H0 H locs u → lv_has ls 7 [(0, .ref h0), (1, .int (jI x1)), (3, .int (jI x3)), (4, .int (jI x4))] → W p l e R s m args below meth c H locs 0 0 Qf (F0 m 23 ls [])) ?_ H locs ls rx1 rx3 rx4 hw hl
  clear h hl hw rx1 rx3 rx4
  intro x1 x3 x4 u h H locs ls rx1 rx3 rx4 hw hl
  have hR23 : ∀ (x1 : Int) (x3 : Int) (x4 : Int) (u : iST) (H : Heap) (locs : List Loc) (ls : Array Slot), inR x1 → inR x3 → inR x4 → kW D ca A h0 ad H0 H locs u → lv_has ls 7 [(0, .ref h0), (1, .int (jI x1)), (3, .int (jI x3)), (4, .int (jI x4))] → (fun (x1 : Int) (x3 : Int) (x4 : Int) u => ∀ (H : Heap) (locs : List Loc) (ls : Array Slot), inR x1 → inR x3 → inR x4 → kW D ca A h0 ad H0 H locs u → lv_has ls 7 [(0, .ref h0), (1, .int (jI x1)), (3, .int (jI x3)), (4, .int (jI x4))] → W p l e R s m args below meth c H locs 0 0 Qf (F0 m 23 ls [])) x1 x3 x4 u → W p l e R s m args below meth c H locs 0 0 Qf (F0 m 23 ls []) := fun x1 x3 x4 u H locs ls rx1 rx3 rx4 hw hl h => h H locs ls rx1 rx3 rx4 hw hl
  have hx := X.1.1
  have hb := X.1.2.1
  unfold w_isSmaller_23b at h
  refine lv_iload hx hb dX12_isSmaller_23 (lv_at hl 3 rfl) ?_
  refine lv_iload_n hx hb dX12_isSmaller_25 rfl (lv_at hl 2 rfl) ?_
  refine k_icmp_ge hx hb rx4 rx3 dX12_isSmaller_26 (tgt := 49) rfl h (fun h => ?_) (fun h => ?_)
  · refine lv_aload_n hx hb dX12_isSmaller_49 rfl (lv_at hl 0 rfl) ?_
    refine lv_iconst hx hb dX12_isSmaller_50 (v := jI 0) rfl ?_
    refine pS 22 438 (by decide) L_22 rfl rfl rfl (fun _ _ _ _ _ => mSI_22) (by decide) X hw (by decide) dX12_isSmaller_51 h (fun H locs u hw h => ?_)
    refine lv_aload_n hx hb dX12_isSmaller_54 rfl (lv_at hl 0 rfl) ?_
    refine lv_iload_n hx hb dX12_isSmaller_55 rfl (lv_at hl 1 rfl) ?_
    refine kcV (n := 1) (c_tellObject rx1 h) G_tellObject E_tellObject X hw (Nat.le_trans (Nat.le_of_ble_eq_true rfl) hRf) (Nat.le_trans (Nat.le_of_ble_eq_true rfl) hRl) rfl hl.1 (Nat.le_of_ble_eq_true rfl) rfl dX12_isSmaller_56 (fun u H locs h hw => ?_)
    refine lv_aload_n hx hb dX12_isSmaller_59 rfl (lv_at hl 0 rfl) ?_
    refine lv_iconst hx hb dX12_isSmaller_60 (v := jI 0) rfl ?_
    refine pZ 64 435 (by decide) L_64 rfl rfl rfl (fun _ _ _ _ _ => mSI_64) X hw dX12_isSmaller_61 h (fun H locs u hw h => ?_)
    refine lv_iconst hx hb dX12_isSmaller_64 (v := jI 0) rfl ?_
    refine lv_istore hx hb dX12_isSmaller_65 hl (by decide) rfl (fun ls hl => ?_)
    have hl : lv_has ls 7 [(4, .int (jI 0)), (0, .ref (h0)), (1, .int (jI x1)), (3, .int (jI x3))] := hl
    exact b_isSmaller_67 X hRf hRl hret rx3 (by decide) hw (lv_sub hl [1, 3, 0] rfl) h
  · refine lv_aload_n hx hb dX12_isSmaller_29 rfl (lv_at hl 0 rfl) ?_
    refine gA 65 142 (by decide) L_65 (fun _ _ => mF_65) rfl X hw dX12_isSmaller_30 ?_
    refine lv_iload hx hb dX12_isSmaller_33 (lv_at hl 3 rfl) ?_
    refine lv_aload_n hx hb dX12_isSmaller_35 rfl (lv_at hl 0 rfl) ?_
    refine gA 21 56 (by decide) L_21 (fun _ _ => mF_21) rfl X hw dX12_isSmaller_36 ?_
    refine lv_iload hx hb dX12_isSmaller_39 (lv_at hl 3 rfl) ?_
    refine aL 21 15 14 200 (fun _ _ _ _ => mG_21) (fun _ => rfl) X hw rx4 dX12_isSmaller_41 rfl h (fun v8 rv8 h => ?_)
    refine aS 65 40 39 200 (fun _ _ _ _ => mG_65) (fun _ => rfl) (fun _ _ _ _ _ _ => mSA_65) (by decide) X hw rx4 rv8 dX12_isSmaller_42 rfl h (fun H locs u hw h => ?_)
    refine k_iinc (k := 3) hx hb dX12_isSmaller_43 hl rfl (by decide) rfl h (fun ls r9 h hl => ?_)
    have hl : lv_has ls 7 [(4, .int (jI (x4 + 1))), (0, .ref (h0)), (1, .int (jI x1)), (3, .int (jI x3))] := hl
    refine lv_goto hx hb dX12_isSmaller_46 (tgt := 23) rfl ?_
    exact hR23 _ _ _ _ H locs ls rx1 rx3 r9 hw (lv_sub hl [1, 2, 3, 0] rfl) h

def w_isSmaller (a0 : Int) (a1 : Int) (Q : Int → iST → Prop) (u : iST) : Prop :=
  zt 1 (sw (iI u 64 1) (fun u => 
  sw (iI u 22 0) (fun u => 
  w_tellObject a1 (fun u => 
  rd (u.1 22) (fun v2 => 
  w_isSmaller_23 Q a0 v2 0 u)) u)))
set_option maxRecDepth 20000 in
set_option maxHeartbeats 4000000 in
theorem b_isSmaller_s (X : kX p m c cX12_isSmaller 7 s args D ca) (hRf : 3 ≤ R.frames) (hRl : 67 ≤ R.locals) {Q : Int → iST → Prop} (hret : ∀ (v : Int) (u : iST) (H : Heap) (locs : List Loc) (ls : Array Slot) (pc : Nat), bz v → Q v u → kW D ca A h0 ad H0 H locs u → decode cX12_isSmaller pc = .ok (.ireturn, 1) → W p l e R s m args below meth c H locs 0 0 Qf (F0 m pc ls [.int (jI v)])) {a0 a1 : Int} (ra0 : inR a0) (ra1 : inR a1) (hw : kW D ca A h0 ad H0 H locs u) (hl : lv_has ls 7 [(0, .ref h0), (1, .int (jI a0)), (2, .int (jI a1))]) (h : w_isSmaller a0 a1 Q u) : W p l e R s m args below meth c H locs 0 0 Qf (F0 m 0 ls []) := by
  have hx := X.1.1
  have hb := X.1.2.1
  unfold w_isSmaller at h
  refine lv_aload_n hx hb dX12_isSmaller_0 rfl (lv_at hl 0 rfl) ?_
  refine lv_iconst hx hb dX12_isSmaller_1 (v := jI 1) rfl ?_
  refine pZ 64 435 (by decide) L_64 rfl rfl rfl (fun _ _ _ _ _ => mSI_64) X hw dX12_isSmaller_2 h (fun H locs u hw h => ?_)
  refine lv_aload_n hx hb dX12_isSmaller_5 rfl (lv_at hl 0 rfl) ?_
  refine lv_iconst hx hb dX12_isSmaller_6 (v := jI 0) rfl ?_
  refine pS 22 438 (by decide) L_22 rfl rfl rfl (fun _ _ _ _ _ => mSI_22) (by decide) X hw (by decide) dX12_isSmaller_7 h (fun H locs u hw h => ?_)
  refine lv_aload_n hx hb dX12_isSmaller_10 rfl (lv_at hl 0 rfl) ?_
  refine lv_iload_n hx hb dX12_isSmaller_11 rfl (lv_at hl 2 rfl) ?_
  refine kcV (n := 1) (c_tellObject ra1 h) G_tellObject E_tellObject X hw (Nat.le_trans (Nat.le_of_ble_eq_true rfl) hRf) (Nat.le_trans (Nat.le_of_ble_eq_true rfl) hRl) rfl hl.1 (Nat.le_of_ble_eq_true rfl) rfl dX12_isSmaller_12 (fun u H locs h hw => ?_)
  refine lv_aload_n hx hb dX12_isSmaller_15 rfl (lv_at hl 0 rfl) ?_
  refine gS 22 438 (by decide) L_22 (fun _ _ => mF_22) rfl X hw dX12_isSmaller_16 h (fun v2 rv2 h => ?_)
  refine lv_istore_n hx hb dX12_isSmaller_19 rfl hl (by decide) rfl (fun ls hl => ?_)
  have hl : lv_has ls 7 [(3, .int (jI v2)), (0, .ref (h0)), (1, .int (jI a0)), (2, .int (jI a1))] := hl
  refine lv_iconst hx hb dX12_isSmaller_20 (v := jI 0) rfl ?_
  refine lv_istore hx hb dX12_isSmaller_21 hl (by decide) rfl (fun ls hl => ?_)
  have hl : lv_has ls 7 [(4, .int (jI 0)), (3, .int (jI v2)), (0, .ref (h0)), (1, .int (jI a0)), (2, .int (jI a1))] := hl
  exact b_isSmaller_23 X hRf hRl hret ra0 rv2 (by decide) hw (lv_sub hl [2, 3, 1, 0] rfl) h

end
theorem c_isSmaller {l : Launch} {a0 : Int} {a1 : Int} (ra0 : inR a0) (ra1 : inR a1) {Q : Int → iST → Prop} {u : iST} (h : w_isSmaller a0 a1 Q u) : kMI l yX12_isSmaller (.code yX12_isSmaller cX12_isSmaller 7 (some .boolean) :: wsM) { frames := 3, cells := 0, slots := 0, locals := 67 } [.int (jI a0), .int (jI a1)] Q u := kMZ_of rfl (fun _ => Nat.le_of_ble_eq_true rfl) (fun X hRf hRl hret hw hl => b_isSmaller_s X hRf hRl hret ra0 ra1 hw hl h)

/-! isVariable -/
theorem dX12_isVariable_0 : decode cX12_isVariable 0 = .ok (.aload_n 0, 1) := by decide +kernel
theorem dX12_isVariable_1 : decode cX12_isVariable 1 = .ok (.iload_n 1, 1) := by decide +kernel
theorem dX12_isVariable_2 : decode cX12_isVariable 2 = .ok (.invokevirtual 444, 3) := by decide +kernel
theorem dX12_isVariable_5 : decode cX12_isVariable 5 = .ok (.ifCond .eq 16, 3) := by decide +kernel
theorem dX12_isVariable_8 : decode cX12_isVariable 8 = .ok (.iload_n 1, 1) := by decide +kernel
theorem dX12_isVariable_9 : decode cX12_isVariable 9 = .ok (.ifCond .eq 12, 3) := by decide +kernel
theorem dX12_isVariable_12 : decode cX12_isVariable 12 = .ok (.iload_n 1, 1) := by decide +kernel
theorem dX12_isVariable_13 : decode cX12_isVariable 13 = .ok (.iconst 1, 1) := by decide +kernel
theorem dX12_isVariable_14 : decode cX12_isVariable 14 = .ok (.if_icmp .eq 7, 3) := by decide +kernel
theorem dX12_isVariable_17 : decode cX12_isVariable 17 = .ok (.iconst 1, 1) := by decide +kernel
theorem dX12_isVariable_18 : decode cX12_isVariable 18 = .ok (.goto 4, 3) := by decide +kernel
theorem dX12_isVariable_21 : decode cX12_isVariable 21 = .ok (.iconst 0, 1) := by decide +kernel
theorem dX12_isVariable_22 : decode cX12_isVariable 22 = .ok (.ireturn, 1) := by decide +kernel

section
variable {p : Program} {l : Launch} {e : Env} {R : Room} {s : State} {m : MethodId} {args : Array Value} {below : List Frame} {meth : Method} {c : Code} {H : Heap} {locs : List Loc} {Qf : State → Prop}
variable {ls : Array Slot} {D : va_G} {ca : Nat → ClassId} {A : Nat → Prop} {h0 : Nat} {ad : Nat → Nat} {H0 : Heap} {u : iST}
def w_isVariable (a0 : Int) (Q : Int → iST → Prop) (u : iST) : Prop :=
  w_isSymbol a0 (fun v1 u => 
  br (v1 = 0) (
    zt 0 (Q 0 u)) (
    br (a0 = 0) (
      zt 0 (Q 0 u)) (
      br (a0 = 1) (
        zt 0 (Q 0 u)) (
        zt 1 (Q 1 u))))) u
set_option maxRecDepth 20000 in
set_option maxHeartbeats 4000000 in
theorem b_isVariable_s (X : kX p m c cX12_isVariable 2 s args D ca) (hRf : 1 ≤ R.frames) (hRl : 21 ≤ R.locals) {Q : Int → iST → Prop} (hret : ∀ (v : Int) (u : iST) (H : Heap) (locs : List Loc) (ls : Array Slot) (pc : Nat), bz v → Q v u → kW D ca A h0 ad H0 H locs u → decode cX12_isVariable pc = .ok (.ireturn, 1) → W p l e R s m args below meth c H locs 0 0 Qf (F0 m pc ls [.int (jI v)])) {a0 : Int} (ra0 : inR a0) (hw : kW D ca A h0 ad H0 H locs u) (hl : lv_has ls 2 [(0, .ref h0), (1, .int (jI a0))]) (h : w_isVariable a0 Q u) : W p l e R s m args below meth c H locs 0 0 Qf (F0 m 0 ls []) := by
  have hx := X.1.1
  have hb := X.1.2.1
  unfold w_isVariable at h
  refine lv_aload_n hx hb dX12_isVariable_0 rfl (lv_at hl 0 rfl) ?_
  refine lv_iload_n hx hb dX12_isVariable_1 rfl (lv_at hl 1 rfl) ?_
  refine kcI (n := 1) (c_isSymbol ra0 h) G_isSymbol E_isSymbol X hw (Nat.le_trans (Nat.le_of_ble_eq_true rfl) hRf) (Nat.le_trans (Nat.le_of_ble_eq_true rfl) hRl) rfl hl.1 (Nat.le_of_ble_eq_true rfl) rfl dX12_isVariable_2 (fun v1 u H locs rv1 h hw => ?_)
  refine k_if_eq hx hb rv1 dX12_isVariable_5 (tgt := 21) rfl h (fun h => ?_) (fun h => ?_)
  · refine lv_iconst hx hb dX12_isVariable_21 (v := jI 0) rfl ?_
    exact hret _ _ _ _ _ _ h.1 h.2 hw dX12_isVariable_22
  · refine lv_iload_n hx hb dX12_isVariable_8 rfl (lv_at hl 1 rfl) ?_
    refine k_if_eq hx hb ra0 dX12_isVariable_9 (tgt := 21) rfl h (fun h => ?_) (fun h => ?_)
    · refine lv_iconst hx hb dX12_isVariable_21 (v := jI 0) rfl ?_
      exact hret _ _ _ _ _ _ h.1 h.2 hw dX12_isVariable_22
    · refine lv_iload_n hx hb dX12_isVariable_12 rfl (lv_at hl 1 rfl) ?_
      refine lv_iconst hx hb dX12_isVariable_13 (v := jI 1) rfl ?_
      refine k_icmp_eq hx hb ra0 (by decide) dX12_isVariable_14 (tgt := 21) rfl h (fun h => ?_) (fun h => ?_)
      · refine lv_iconst hx hb dX12_isVariable_21 (v := jI 0) rfl ?_
        exact hret _ _ _ _ _ _ h.1 h.2 hw dX12_isVariable_22
      · refine lv_iconst hx hb dX12_isVariable_17 (v := jI 1) rfl ?_
        refine lv_goto hx hb dX12_isVariable_18 (tgt := 22) rfl ?_
        exact hret _ _ _ _ _ _ h.1 h.2 hw dX12_isVariable_22

end
theorem c_isVariable {l : Launch} {a0 : Int} (ra0 : inR a0) {Q : Int → iST → Prop} {u : iST} (h : w_isVariable a0 Q u) : kMI l yX12_isVariable (.code yX12_isVariable cX12_isVariable 2 (some .boolean) :: wsM) { frames := 1, cells := 0, slots := 0, locals := 21 } [.int (jI a0)] Q u := kMZ_of rfl (fun _ => Nat.le_of_ble_eq_true rfl) (fun X hRf hRl hret hw hl => b_isVariable_s X hRf hRl hret ra0 hw hl h)

/-! isConstant -/
theorem dX12_isConstant_0 : decode cX12_isConstant 0 = .ok (.aload_n 0, 1) := by decide +kernel
theorem dX12_isConstant_1 : decode cX12_isConstant 1 = .ok (.iload_n 1, 1) := by decide +kernel
theorem dX12_isConstant_2 : decode cX12_isConstant 2 = .ok (.invokevirtual 468, 3) := by decide +kernel
theorem dX12_isConstant_5 : decode cX12_isConstant 5 = .ok (.ifCond .ne 20, 3) := by decide +kernel
theorem dX12_isConstant_8 : decode cX12_isConstant 8 = .ok (.iload_n 1, 1) := by decide +kernel
theorem dX12_isConstant_9 : decode cX12_isConstant 9 = .ok (.ifCond .eq 16, 3) := by decide +kernel
theorem dX12_isConstant_12 : decode cX12_isConstant 12 = .ok (.iload_n 1, 1) := by decide +kernel
theorem dX12_isConstant_13 : decode cX12_isConstant 13 = .ok (.iconst 1, 1) := by decide +kernel
theorem dX12_isConstant_14 : decode cX12_isConstant 14 = .ok (.if_icmp .eq 11, 3) := by decide +kernel
theorem dX12_isConstant_17 : decode cX12_isConstant 17 = .ok (.aload_n 0, 1) := by decide +kernel
theorem dX12_isConstant_18 : decode cX12_isConstant 18 = .ok (.iload_n 1, 1) := by decide +kernel
theorem dX12_isConstant_19 : decode cX12_isConstant 19 = .ok (.invokevirtual 462, 3) := by decide +kernel
theorem dX12_isConstant_22 : decode cX12_isConstant 22 = .ok (.ifCond .eq 7, 3) := by decide +kernel
theorem dX12_isConstant_25 : decode cX12_isConstant 25 = .ok (.iconst 1, 1) := by decide +kernel
theorem dX12_isConstant_26 : decode cX12_isConstant 26 = .ok (.goto 4, 3) := by decide +kernel
theorem dX12_isConstant_29 : decode cX12_isConstant 29 = .ok (.iconst 0, 1) := by decide +kernel
theorem dX12_isConstant_30 : decode cX12_isConstant 30 = .ok (.ireturn, 1) := by decide +kernel

section
variable {p : Program} {l : Launch} {e : Env} {R : Room} {s : State} {m : MethodId} {args : Array Value} {below : List Frame} {meth : Method} {c : Code} {H : Heap} {locs : List Loc} {Qf : State → Prop}
variable {ls : Array Slot} {D : va_G} {ca : Nat → ClassId} {A : Nat → Prop} {h0 : Nat} {ad : Nat → Nat} {H0 : Heap} {u : iST}
def w_isConstant (a0 : Int) (Q : Int → iST → Prop) (u : iST) : Prop :=
  w_isNatural a0 (fun v1 u => 
  br (v1 ≠ 0) (
    zt 1 (Q 1 u)) (
    br (a0 = 0) (
      zt 1 (Q 1 u)) (
      br (a0 = 1) (
        zt 1 (Q 1 u)) (
        w_isQuoted a0 (fun v2 u => 
        br (v2 = 0) (
          zt 0 (Q 0 u)) (
          zt 1 (Q 1 u))) u)))) u
set_option maxRecDepth 20000 in
set_option maxHeartbeats 4000000 in
theorem b_isConstant_s (X : kX p m c cX12_isConstant 2 s args D ca) (hRf : 2 ≤ R.frames) (hRl : 42 ≤ R.locals) {Q : Int → iST → Prop} (hret : ∀ (v : Int) (u : iST) (H : Heap) (locs : List Loc) (ls : Array Slot) (pc : Nat), bz v → Q v u → kW D ca A h0 ad H0 H locs u → decode cX12_isConstant pc = .ok (.ireturn, 1) → W p l e R s m args below meth c H locs 0 0 Qf (F0 m pc ls [.int (jI v)])) {a0 : Int} (ra0 : inR a0) (hw : kW D ca A h0 ad H0 H locs u) (hl : lv_has ls 2 [(0, .ref h0), (1, .int (jI a0))]) (h : w_isConstant a0 Q u) : W p l e R s m args below meth c H locs 0 0 Qf (F0 m 0 ls []) := by
  have hx := X.1.1
  have hb := X.1.2.1
  unfold w_isConstant at h
  refine lv_aload_n hx hb dX12_isConstant_0 rfl (lv_at hl 0 rfl) ?_
  refine lv_iload_n hx hb dX12_isConstant_1 rfl (lv_at hl 1 rfl) ?_
  refine kcI (n := 1) (c_isNatural ra0 h) G_isNatural E_isNatural X hw (Nat.le_trans (Nat.le_of_ble_eq_true rfl) hRf) (Nat.le_trans (Nat.le_of_ble_eq_true rfl) hRl) rfl hl.1 (Nat.le_of_ble_eq_true rfl) rfl dX12_isConstant_2 (fun v1 u H locs rv1 h hw => ?_)
  refine k_if_ne hx hb rv1 dX12_isConstant_5 (tgt := 25) rfl h (fun h => ?_) (fun h => ?_)
  · refine lv_iconst hx hb dX12_isConstant_25 (v := jI 1) rfl ?_
    refine lv_goto hx hb dX12_isConstant_26 (tgt := 30) rfl ?_
    exact hret _ _ _ _ _ _ h.1 h.2 hw dX12_isConstant_30
  · refine lv_iload_n hx hb dX12_isConstant_8 rfl (lv_at hl 1 rfl) ?_
    refine k_if_eq hx hb ra0 dX12_isConstant_9 (tgt := 25) rfl h (fun h => ?_) (fun h => ?_)
    · refine lv_iconst hx hb dX12_isConstant_25 (v := jI 1) rfl ?_
      refine lv_goto hx hb dX12_isConstant_26 (tgt := 30) rfl ?_
      exact hret _ _ _ _ _ _ h.1 h.2 hw dX12_isConstant_30
    · refine lv_iload_n hx hb dX12_isConstant_12 rfl (lv_at hl 1 rfl) ?_
      refine lv_iconst hx hb dX12_isConstant_13 (v := jI 1) rfl ?_
      refine k_icmp_eq hx hb ra0 (by decide) dX12_isConstant_14 (tgt := 25) rfl h (fun h => ?_) (fun h => ?_)
      · refine lv_iconst hx hb dX12_isConstant_25 (v := jI 1) rfl ?_
        refine lv_goto hx hb dX12_isConstant_26 (tgt := 30) rfl ?_
        exact hret _ _ _ _ _ _ h.1 h.2 hw dX12_isConstant_30
      · refine lv_aload_n hx hb dX12_isConstant_17 rfl (lv_at hl 0 rfl) ?_
        refine lv_iload_n hx hb dX12_isConstant_18 rfl (lv_at hl 1 rfl) ?_
        refine kcI (n := 1) (c_isQuoted ra0 h) G_isQuoted E_isQuoted X hw (Nat.le_trans (Nat.le_of_ble_eq_true rfl) hRf) (Nat.le_trans (Nat.le_of_ble_eq_true rfl) hRl) rfl hl.1 (Nat.le_of_ble_eq_true rfl) rfl dX12_isConstant_19 (fun v2 u H locs rv2 h hw => ?_)
        refine k_if_eq hx hb rv2 dX12_isConstant_22 (tgt := 29) rfl h (fun h => ?_) (fun h => ?_)
        · refine lv_iconst hx hb dX12_isConstant_29 (v := jI 0) rfl ?_
          exact hret _ _ _ _ _ _ h.1 h.2 hw dX12_isConstant_30
        · refine lv_iconst hx hb dX12_isConstant_25 (v := jI 1) rfl ?_
          refine lv_goto hx hb dX12_isConstant_26 (tgt := 30) rfl ?_
          exact hret _ _ _ _ _ _ h.1 h.2 hw dX12_isConstant_30

end
theorem c_isConstant {l : Launch} {a0 : Int} (ra0 : inR a0) {Q : Int → iST → Prop} {u : iST} (h : w_isConstant a0 Q u) : kMI l yX12_isConstant (.code yX12_isConstant cX12_isConstant 2 (some .boolean) :: wsM) { frames := 2, cells := 0, slots := 0, locals := 42 } [.int (jI a0)] Q u := kMZ_of rfl (fun _ => Nat.le_of_ble_eq_true rfl) (fun X hRf hRl hret hw hl => b_isConstant_s X hRf hRl hret ra0 hw hl h)

/-! isCall -/
theorem dX12_isCall_0 : decode cX12_isCall 0 = .ok (.aload_n 0, 1) := by decide +kernel
theorem dX12_isCall_1 : decode cX12_isCall 1 = .ok (.iload_n 1, 1) := by decide +kernel
theorem dX12_isCall_2 : decode cX12_isCall 2 = .ok (.invokevirtual 365, 3) := by decide +kernel
theorem dX12_isCall_5 : decode cX12_isCall 5 = .ok (.ifCond .eq 17, 3) := by decide +kernel
theorem dX12_isCall_8 : decode cX12_isCall 8 = .ok (.aload_n 0, 1) := by decide +kernel
theorem dX12_isCall_9 : decode cX12_isCall 9 = .ok (.getfield 8, 3) := by decide +kernel
theorem dX12_isCall_12 : decode cX12_isCall 12 = .ok (.iload_n 1, 1) := by decide +kernel
theorem dX12_isCall_13 : decode cX12_isCall 13 = .ok (.iaload, 1) := by decide +kernel
theorem dX12_isCall_14 : decode cX12_isCall 14 = .ok (.iconst 2, 1) := by decide +kernel
theorem dX12_isCall_15 : decode cX12_isCall 15 = .ok (.if_icmp .eq 7, 3) := by decide +kernel
theorem dX12_isCall_18 : decode cX12_isCall 18 = .ok (.iconst 1, 1) := by decide +kernel
theorem dX12_isCall_19 : decode cX12_isCall 19 = .ok (.goto 4, 3) := by decide +kernel
theorem dX12_isCall_22 : decode cX12_isCall 22 = .ok (.iconst 0, 1) := by decide +kernel
theorem dX12_isCall_23 : decode cX12_isCall 23 = .ok (.ireturn, 1) := by decide +kernel

section
variable {p : Program} {l : Launch} {e : Env} {R : Room} {s : State} {m : MethodId} {args : Array Value} {below : List Frame} {meth : Method} {c : Code} {H : Heap} {locs : List Loc} {Qf : State → Prop}
variable {ls : Array Slot} {D : va_G} {ca : Nat → ClassId} {A : Nat → Prop} {h0 : Nat} {ad : Nat → Nat} {H0 : Heap} {u : iST}
def w_isCall (a0 : Int) (Q : Int → iST → Prop) (u : iST) : Prop :=
  w_isPair a0 (fun v1 u => 
  br (v1 = 0) (
    zt 0 (Q 0 u)) (
    bd a0 452000 (rd (u.2.1 0 a0) (fun v2 => 
    br (v2 = 2) (
      zt 0 (Q 0 u)) (
      zt 1 (Q 1 u)))))) u
set_option maxRecDepth 20000 in
set_option maxHeartbeats 4000000 in
theorem b_isCall_s (X : kX p m c cX12_isCall 2 s args D ca) (hRf : 1 ≤ R.frames) (hRl : 21 ≤ R.locals) {Q : Int → iST → Prop} (hret : ∀ (v : Int) (u : iST) (H : Heap) (locs : List Loc) (ls : Array Slot) (pc : Nat), bz v → Q v u → kW D ca A h0 ad H0 H locs u → decode cX12_isCall pc = .ok (.ireturn, 1) → W p l e R s m args below meth c H locs 0 0 Qf (F0 m pc ls [.int (jI v)])) {a0 : Int} (ra0 : inR a0) (hw : kW D ca A h0 ad H0 H locs u) (hl : lv_has ls 2 [(0, .ref h0), (1, .int (jI a0))]) (h : w_isCall a0 Q u) : W p l e R s m args below meth c H locs 0 0 Qf (F0 m 0 ls []) := by
  have hx := X.1.1
  have hb := X.1.2.1
  unfold w_isCall at h
  refine lv_aload_n hx hb dX12_isCall_0 rfl (lv_at hl 0 rfl) ?_
  refine lv_iload_n hx hb dX12_isCall_1 rfl (lv_at hl 1 rfl) ?_
  refine kcI (n := 1) (c_isPair ra0 h) G_isPair E_isPair X hw (Nat.le_trans (Nat.le_of_ble_eq_true rfl) hRf) (Nat.le_trans (Nat.le_of_ble_eq_true rfl) hRl) rfl hl.1 (Nat.le_of_ble_eq_true rfl) rfl dX12_isCall_2 (fun v1 u H locs rv1 h hw => ?_)
  refine k_if_eq hx hb rv1 dX12_isCall_5 (tgt := 22) rfl h (fun h => ?_) (fun h => ?_)
  · refine lv_iconst hx hb dX12_isCall_22 (v := jI 0) rfl ?_
    exact hret _ _ _ _ _ _ h.1 h.2 hw dX12_isCall_23
  · refine lv_aload_n hx hb dX12_isCall_8 rfl (lv_at hl 0 rfl) ?_
    refine gA 0 8 (by decide) L_0 (fun _ _ => mF_0) rfl X hw dX12_isCall_9 ?_
    refine lv_iload_n hx hb dX12_isCall_12 rfl (lv_at hl 1 rfl) ?_
    refine aL 0 1 0 452000 (fun _ _ _ _ => mG_0) (fun _ => rfl) X hw ra0 dX12_isCall_13 rfl h (fun v2 rv2 h => ?_)
    refine lv_iconst hx hb dX12_isCall_14 (v := jI 2) rfl ?_
    refine k_icmp_eq hx hb rv2 (by decide) dX12_isCall_15 (tgt := 22) rfl h (fun h => ?_) (fun h => ?_)
    · refine lv_iconst hx hb dX12_isCall_22 (v := jI 0) rfl ?_
      exact hret _ _ _ _ _ _ h.1 h.2 hw dX12_isCall_23
    · refine lv_iconst hx hb dX12_isCall_18 (v := jI 1) rfl ?_
      refine lv_goto hx hb dX12_isCall_19 (tgt := 23) rfl ?_
      exact hret _ _ _ _ _ _ h.1 h.2 hw dX12_isCall_23

end
theorem c_isCall {l : Launch} {a0 : Int} (ra0 : inR a0) {Q : Int → iST → Prop} {u : iST} (h : w_isCall a0 Q u) : kMI l yX12_isCall (.code yX12_isCall cX12_isCall 2 (some .boolean) :: wsM) { frames := 1, cells := 0, slots := 0, locals := 21 } [.int (jI a0)] Q u := kMZ_of rfl (fun _ => Nat.le_of_ble_eq_true rfl) (fun X hRf hRl hret hw hl => b_isCall_s X hRf hRl hret ra0 hw hl h)

/-! isCallOf -/
theorem dX12_isCallOf_0 : decode cX12_isCallOf 0 = .ok (.aload_n 0, 1) := by decide +kernel
theorem dX12_isCallOf_1 : decode cX12_isCallOf 1 = .ok (.iload_n 1, 1) := by decide +kernel
theorem dX12_isCallOf_2 : decode cX12_isCallOf 2 = .ok (.invokevirtual 365, 3) := by decide +kernel
theorem dX12_isCallOf_5 : decode cX12_isCallOf 5 = .ok (.ifCond .eq 17, 3) := by decide +kernel
theorem dX12_isCallOf_8 : decode cX12_isCallOf 8 = .ok (.aload_n 0, 1) := by decide +kernel
theorem dX12_isCallOf_9 : decode cX12_isCallOf 9 = .ok (.getfield 8, 3) := by decide +kernel
theorem dX12_isCallOf_12 : decode cX12_isCallOf 12 = .ok (.iload_n 1, 1) := by decide +kernel
theorem dX12_isCallOf_13 : decode cX12_isCallOf 13 = .ok (.iaload, 1) := by decide +kernel
theorem dX12_isCallOf_14 : decode cX12_isCallOf 14 = .ok (.iload_n 2, 1) := by decide +kernel
theorem dX12_isCallOf_15 : decode cX12_isCallOf 15 = .ok (.if_icmp .ne 7, 3) := by decide +kernel
theorem dX12_isCallOf_18 : decode cX12_isCallOf 18 = .ok (.iconst 1, 1) := by decide +kernel
theorem dX12_isCallOf_19 : decode cX12_isCallOf 19 = .ok (.goto 4, 3) := by decide +kernel
theorem dX12_isCallOf_22 : decode cX12_isCallOf 22 = .ok (.iconst 0, 1) := by decide +kernel
theorem dX12_isCallOf_23 : decode cX12_isCallOf 23 = .ok (.ireturn, 1) := by decide +kernel

section
variable {p : Program} {l : Launch} {e : Env} {R : Room} {s : State} {m : MethodId} {args : Array Value} {below : List Frame} {meth : Method} {c : Code} {H : Heap} {locs : List Loc} {Qf : State → Prop}
variable {ls : Array Slot} {D : va_G} {ca : Nat → ClassId} {A : Nat → Prop} {h0 : Nat} {ad : Nat → Nat} {H0 : Heap} {u : iST}
def w_isCallOf (a0 : Int) (a1 : Int) (Q : Int → iST → Prop) (u : iST) : Prop :=
  w_isPair a0 (fun v1 u => 
  br (v1 = 0) (
    zt 0 (Q 0 u)) (
    bd a0 452000 (rd (u.2.1 0 a0) (fun v2 => 
    br (v2 ≠ a1) (
      zt 0 (Q 0 u)) (
      zt 1 (Q 1 u)))))) u
set_option maxRecDepth 20000 in
set_option maxHeartbeats 4000000 in
theorem b_isCallOf_s (X : kX p m c cX12_isCallOf 3 s args D ca) (hRf : 1 ≤ R.frames) (hRl : 21 ≤ R.locals) {Q : Int → iST → Prop} (hret : ∀ (v : Int) (u : iST) (H : Heap) (locs : List Loc) (ls : Array Slot) (pc : Nat), bz v → Q v u → kW D ca A h0 ad H0 H locs u → decode cX12_isCallOf pc = .ok (.ireturn, 1) → W p l e R s m args below meth c H locs 0 0 Qf (F0 m pc ls [.int (jI v)])) {a0 a1 : Int} (ra0 : inR a0) (ra1 : inR a1) (hw : kW D ca A h0 ad H0 H locs u) (hl : lv_has ls 3 [(0, .ref h0), (1, .int (jI a0)), (2, .int (jI a1))]) (h : w_isCallOf a0 a1 Q u) : W p l e R s m args below meth c H locs 0 0 Qf (F0 m 0 ls []) := by
  have hx := X.1.1
  have hb := X.1.2.1
  unfold w_isCallOf at h
  refine lv_aload_n hx hb dX12_isCallOf_0 rfl (lv_at hl 0 rfl) ?_
  refine lv_iload_n hx hb dX12_isCallOf_1 rfl (lv_at hl 1 rfl) ?_
  refine kcI (n := 1) (c_isPair ra0 h) G_isPair E_isPair X hw (Nat.le_trans (Nat.le_of_ble_eq_true rfl) hRf) (Nat.le_trans (Nat.le_of_ble_eq_true rfl) hRl) rfl hl.1 (Nat.le_of_ble_eq_true rfl) rfl dX12_isCallOf_2 (fun v1 u H locs rv1 h hw => ?_)
  refine k_if_eq hx hb rv1 dX12_isCallOf_5 (tgt := 22) rfl h (fun h => ?_) (fun h => ?_)
  · refine lv_iconst hx hb dX12_isCallOf_22 (v := jI 0) rfl ?_
    exact hret _ _ _ _ _ _ h.1 h.2 hw dX12_isCallOf_23
  · refine lv_aload_n hx hb dX12_isCallOf_8 rfl (lv_at hl 0 rfl) ?_
    refine gA 0 8 (by decide) L_0 (fun _ _ => mF_0) rfl X hw dX12_isCallOf_9 ?_
    refine lv_iload_n hx hb dX12_isCallOf_12 rfl (lv_at hl 1 rfl) ?_
    refine aL 0 1 0 452000 (fun _ _ _ _ => mG_0) (fun _ => rfl) X hw ra0 dX12_isCallOf_13 rfl h (fun v2 rv2 h => ?_)
    refine lv_iload_n hx hb dX12_isCallOf_14 rfl (lv_at hl 2 rfl) ?_
    refine k_icmp_ne hx hb rv2 ra1 dX12_isCallOf_15 (tgt := 22) rfl h (fun h => ?_) (fun h => ?_)
    · refine lv_iconst hx hb dX12_isCallOf_22 (v := jI 0) rfl ?_
      exact hret _ _ _ _ _ _ h.1 h.2 hw dX12_isCallOf_23
    · refine lv_iconst hx hb dX12_isCallOf_18 (v := jI 1) rfl ?_
      refine lv_goto hx hb dX12_isCallOf_19 (tgt := 23) rfl ?_
      exact hret _ _ _ _ _ _ h.1 h.2 hw dX12_isCallOf_23

end
theorem c_isCallOf {l : Launch} {a0 : Int} {a1 : Int} (ra0 : inR a0) (ra1 : inR a1) {Q : Int → iST → Prop} {u : iST} (h : w_isCallOf a0 a1 Q u) : kMI l yX12_isCallOf (.code yX12_isCallOf cX12_isCallOf 3 (some .boolean) :: wsM) { frames := 1, cells := 0, slots := 0, locals := 21 } [.int (jI a0), .int (jI a1)] Q u := kMZ_of rfl (fun _ => Nat.le_of_ble_eq_true rfl) (fun X hRf hRl hret hw hl => b_isCallOf_s X hRf hRl hret ra0 ra1 hw hl h)

/-! constantOf -/
theorem dX12_constantOf_0 : decode cX12_constantOf 0 = .ok (.aload_n 0, 1) := by decide +kernel
theorem dX12_constantOf_1 : decode cX12_constantOf 1 = .ok (.iload_n 1, 1) := by decide +kernel
theorem dX12_constantOf_2 : decode cX12_constantOf 2 = .ok (.invokevirtual 468, 3) := by decide +kernel
theorem dX12_constantOf_5 : decode cX12_constantOf 5 = .ok (.ifCond .ne 12, 3) := by decide +kernel
theorem dX12_constantOf_8 : decode cX12_constantOf 8 = .ok (.iload_n 1, 1) := by decide +kernel
theorem dX12_constantOf_9 : decode cX12_constantOf 9 = .ok (.ifCond .eq 8, 3) := by decide +kernel
theorem dX12_constantOf_12 : decode cX12_constantOf 12 = .ok (.iload_n 1, 1) := by decide +kernel
theorem dX12_constantOf_13 : decode cX12_constantOf 13 = .ok (.iconst 1, 1) := by decide +kernel
theorem dX12_constantOf_14 : decode cX12_constantOf 14 = .ok (.if_icmp .ne 7, 3) := by decide +kernel
theorem dX12_constantOf_17 : decode cX12_constantOf 17 = .ok (.iload_n 1, 1) := by decide +kernel
theorem dX12_constantOf_18 : decode cX12_constantOf 18 = .ok (.goto 9, 3) := by decide +kernel
theorem dX12_constantOf_21 : decode cX12_constantOf 21 = .ok (.aload_n 0, 1) := by decide +kernel
theorem dX12_constantOf_22 : decode cX12_constantOf 22 = .ok (.iconst 2, 1) := by decide +kernel
theorem dX12_constantOf_23 : decode cX12_constantOf 23 = .ok (.iload_n 1, 1) := by decide +kernel
theorem dX12_constantOf_24 : decode cX12_constantOf 24 = .ok (.invokevirtual 359, 3) := by decide +kernel
theorem dX12_constantOf_27 : decode cX12_constantOf 27 = .ok (.ireturn, 1) := by decide +kernel

section
variable {p : Program} {l : Launch} {e : Env} {R : Room} {s : State} {m : MethodId} {args : Array Value} {below : List Frame} {meth : Method} {c : Code} {H : Heap} {locs : List Loc} {Qf : State → Prop}
variable {ls : Array Slot} {D : va_G} {ca : Nat → ClassId} {A : Nat → Prop} {h0 : Nat} {ad : Nat → Nat} {H0 : Heap} {u : iST}
def w_constantOf (a0 : Int) (Q : Int → iST → Prop) (u : iST) : Prop :=
  w_isNatural a0 (fun v1 u => 
  br (v1 ≠ 0) (
    Q a0 u) (
    br (a0 = 0) (
      Q a0 u) (
      br (a0 ≠ 1) (
        w_list2 2 a0 (fun v2 u => 
        Q v2 u) u) (
        Q a0 u)))) u
set_option maxRecDepth 20000 in
set_option maxHeartbeats 4000000 in
theorem b_constantOf_s (X : kX p m c cX12_constantOf 2 s args D ca) (hRf : 4 ≤ R.frames) (hRl : 90 ≤ R.locals) {Q : Int → iST → Prop} (hret : ∀ (v : Int) (u : iST) (H : Heap) (locs : List Loc) (ls : Array Slot) (pc : Nat), inR v → Q v u → kW D ca A h0 ad H0 H locs u → decode cX12_constantOf pc = .ok (.ireturn, 1) → W p l e R s m args below meth c H locs 0 0 Qf (F0 m pc ls [.int (jI v)])) {a0 : Int} (ra0 : inR a0) (hw : kW D ca A h0 ad H0 H locs u) (hl : lv_has ls 2 [(0, .ref h0), (1, .int (jI a0))]) (h : w_constantOf a0 Q u) : W p l e R s m args below meth c H locs 0 0 Qf (F0 m 0 ls []) := by
  have hx := X.1.1
  have hb := X.1.2.1
  unfold w_constantOf at h
  refine lv_aload_n hx hb dX12_constantOf_0 rfl (lv_at hl 0 rfl) ?_
  refine lv_iload_n hx hb dX12_constantOf_1 rfl (lv_at hl 1 rfl) ?_
  refine kcI (n := 1) (c_isNatural ra0 h) G_isNatural E_isNatural X hw (Nat.le_trans (Nat.le_of_ble_eq_true rfl) hRf) (Nat.le_trans (Nat.le_of_ble_eq_true rfl) hRl) rfl hl.1 (Nat.le_of_ble_eq_true rfl) rfl dX12_constantOf_2 (fun v1 u H locs rv1 h hw => ?_)
  refine k_if_ne hx hb rv1 dX12_constantOf_5 (tgt := 17) rfl h (fun h => ?_) (fun h => ?_)
  · refine lv_iload_n hx hb dX12_constantOf_17 rfl (lv_at hl 1 rfl) ?_
    refine lv_goto hx hb dX12_constantOf_18 (tgt := 27) rfl ?_
    exact hret _ _ _ _ _ _ ra0 h hw dX12_constantOf_27
  · refine lv_iload_n hx hb dX12_constantOf_8 rfl (lv_at hl 1 rfl) ?_
    refine k_if_eq hx hb ra0 dX12_constantOf_9 (tgt := 17) rfl h (fun h => ?_) (fun h => ?_)
    · refine lv_iload_n hx hb dX12_constantOf_17 rfl (lv_at hl 1 rfl) ?_
      refine lv_goto hx hb dX12_constantOf_18 (tgt := 27) rfl ?_
      exact hret _ _ _ _ _ _ ra0 h hw dX12_constantOf_27
    · refine lv_iload_n hx hb dX12_constantOf_12 rfl (lv_at hl 1 rfl) ?_
      refine lv_iconst hx hb dX12_constantOf_13 (v := jI 1) rfl ?_
      refine k_icmp_ne hx hb ra0 (by decide) dX12_constantOf_14 (tgt := 21) rfl h (fun h => ?_) (fun h => ?_)
      · refine lv_aload_n hx hb dX12_constantOf_21 rfl (lv_at hl 0 rfl) ?_
        refine lv_iconst hx hb dX12_constantOf_22 (v := jI 2) rfl ?_
        refine lv_iload_n hx hb dX12_constantOf_23 rfl (lv_at hl 1 rfl) ?_
        refine kcI (n := 2) (c_list2 (by decide) ra0 h) G_list2 E_list2 X hw (Nat.le_trans (Nat.le_of_ble_eq_true rfl) hRf) (Nat.le_trans (Nat.le_of_ble_eq_true rfl) hRl) rfl hl.1 (Nat.le_of_ble_eq_true rfl) rfl dX12_constantOf_24 (fun v2 u H locs rv2 h hw => ?_)
        exact hret _ _ _ _ _ _ rv2 h hw dX12_constantOf_27
      · refine lv_iload_n hx hb dX12_constantOf_17 rfl (lv_at hl 1 rfl) ?_
        refine lv_goto hx hb dX12_constantOf_18 (tgt := 27) rfl ?_
        exact hret _ _ _ _ _ _ ra0 h hw dX12_constantOf_27

end
theorem c_constantOf {l : Launch} {a0 : Int} (ra0 : inR a0) {Q : Int → iST → Prop} {u : iST} (h : w_constantOf a0 Q u) : kMI l yX12_constantOf (.code yX12_constantOf cX12_constantOf 2 (some .int) :: wsM) { frames := 4, cells := 0, slots := 0, locals := 90 } [.int (jI a0)] Q u := kMI_of rfl (fun _ => Nat.le_of_ble_eq_true rfl) (fun X hRf hRl hret hw hl => b_constantOf_s X hRf hRl hret ra0 hw hl h)

/-! valueOf -/
theorem dX12_valueOf_0 : decode cX12_valueOf 0 = .ok (.aload_n 0, 1) := by decide +kernel
theorem dX12_valueOf_1 : decode cX12_valueOf 1 = .ok (.iload_n 1, 1) := by decide +kernel
theorem dX12_valueOf_2 : decode cX12_valueOf 2 = .ok (.invokevirtual 365, 3) := by decide +kernel
theorem dX12_valueOf_5 : decode cX12_valueOf 5 = .ok (.ifCond .eq 17, 3) := by decide +kernel
theorem dX12_valueOf_8 : decode cX12_valueOf 8 = .ok (.aload_n 0, 1) := by decide +kernel
theorem dX12_valueOf_9 : decode cX12_valueOf 9 = .ok (.getfield 8, 3) := by decide +kernel
theorem dX12_valueOf_12 : decode cX12_valueOf 12 = .ok (.aload_n 0, 1) := by decide +kernel
theorem dX12_valueOf_13 : decode cX12_valueOf 13 = .ok (.getfield 14, 3) := by decide +kernel
theorem dX12_valueOf_16 : decode cX12_valueOf 16 = .ok (.iload_n 1, 1) := by decide +kernel
theorem dX12_valueOf_17 : decode cX12_valueOf 17 = .ok (.iaload, 1) := by decide +kernel
theorem dX12_valueOf_18 : decode cX12_valueOf 18 = .ok (.iaload, 1) := by decide +kernel
theorem dX12_valueOf_19 : decode cX12_valueOf 19 = .ok (.goto 4, 3) := by decide +kernel
theorem dX12_valueOf_22 : decode cX12_valueOf 22 = .ok (.iload_n 1, 1) := by decide +kernel
theorem dX12_valueOf_23 : decode cX12_valueOf 23 = .ok (.ireturn, 1) := by decide +kernel

section
variable {p : Program} {l : Launch} {e : Env} {R : Room} {s : State} {m : MethodId} {args : Array Value} {below : List Frame} {meth : Method} {c : Code} {H : Heap} {locs : List Loc} {Qf : State → Prop}
variable {ls : Array Slot} {D : va_G} {ca : Nat → ClassId} {A : Nat → Prop} {h0 : Nat} {ad : Nat → Nat} {H0 : Heap} {u : iST}
def w_valueOf (a0 : Int) (Q : Int → iST → Prop) (u : iST) : Prop :=
  w_isPair a0 (fun v1 u => 
  br (v1 = 0) (
    Q a0 u) (
    bd a0 452000 (rd (u.2.1 1 a0) (fun v2 => 
    bd v2 452000 (rd (u.2.1 0 v2) (fun v3 => 
    Q v3 u)))))) u
set_option maxRecDepth 20000 in
set_option maxHeartbeats 4000000 in
theorem b_valueOf_s (X : kX p m c cX12_valueOf 2 s args D ca) (hRf : 1 ≤ R.frames) (hRl : 21 ≤ R.locals) {Q : Int → iST → Prop} (hret : ∀ (v : Int) (u : iST) (H : Heap) (locs : List Loc) (ls : Array Slot) (pc : Nat), inR v → Q v u → kW D ca A h0 ad H0 H locs u → decode cX12_valueOf pc = .ok (.ireturn, 1) → W p l e R s m args below meth c H locs 0 0 Qf (F0 m pc ls [.int (jI v)])) {a0 : Int} (ra0 : inR a0) (hw : kW D ca A h0 ad H0 H locs u) (hl : lv_has ls 2 [(0, .ref h0), (1, .int (jI a0))]) (h : w_valueOf a0 Q u) : W p l e R s m args below meth c H locs 0 0 Qf (F0 m 0 ls []) := by
  have hx := X.1.1
  have hb := X.1.2.1
  unfold w_valueOf at h
  refine lv_aload_n hx hb dX12_valueOf_0 rfl (lv_at hl 0 rfl) ?_
  refine lv_iload_n hx hb dX12_valueOf_1 rfl (lv_at hl 1 rfl) ?_
  refine kcI (n := 1) (c_isPair ra0 h) G_isPair E_isPair X hw (Nat.le_trans (Nat.le_of_ble_eq_true rfl) hRf) (Nat.le_trans (Nat.le_of_ble_eq_true rfl) hRl) rfl hl.1 (Nat.le_of_ble_eq_true rfl) rfl dX12_valueOf_2 (fun v1 u H locs rv1 h hw => ?_)
  refine k_if_eq hx hb rv1 dX12_valueOf_5 (tgt := 22) rfl h (fun h => ?_) (fun h => ?_)
  · refine lv_iload_n hx hb dX12_valueOf_22 rfl (lv_at hl 1 rfl) ?_
    exact hret _ _ _ _ _ _ ra0 h hw dX12_valueOf_23
  · refine lv_aload_n hx hb dX12_valueOf_8 rfl (lv_at hl 0 rfl) ?_
    refine gA 0 8 (by decide) L_0 (fun _ _ => mF_0) rfl X hw dX12_valueOf_9 ?_
    refine lv_aload_n hx hb dX12_valueOf_12 rfl (lv_at hl 0 rfl) ?_
    refine gA 1 14 (by decide) L_1 (fun _ _ => mF_1) rfl X hw dX12_valueOf_13 ?_
    refine lv_iload_n hx hb dX12_valueOf_16 rfl (lv_at hl 1 rfl) ?_
    refine aL 1 2 1 452000 (fun _ _ _ _ => mG_1) (fun _ => rfl) X hw ra0 dX12_valueOf_17 rfl h (fun v2 rv2 h => ?_)
    refine aL 0 1 0 452000 (fun _ _ _ _ => mG_0) (fun _ => rfl) X hw rv2 dX12_valueOf_18 rfl h (fun v3 rv3 h => ?_)
    refine lv_goto hx hb dX12_valueOf_19 (tgt := 23) rfl ?_
    exact hret _ _ _ _ _ _ rv3 h hw dX12_valueOf_23

end
theorem c_valueOf {l : Launch} {a0 : Int} (ra0 : inR a0) {Q : Int → iST → Prop} {u : iST} (h : w_valueOf a0 Q u) : kMI l yX12_valueOf (.code yX12_valueOf cX12_valueOf 2 (some .int) :: wsM) { frames := 1, cells := 0, slots := 0, locals := 21 } [.int (jI a0)] Q u := kMI_of rfl (fun _ => Nat.le_of_ble_eq_true rfl) (fun X hRf hRl hret hw hl => b_valueOf_s X hRf hRl hret ra0 hw hl h)

/-! term -/
theorem dX12_term_0 : decode cX12_term 0 = .ok (.aload_n 0, 1) := by decide +kernel
theorem dX12_term_1 : decode cX12_term 1 = .ok (.iload_n 1, 1) := by decide +kernel
theorem dX12_term_2 : decode cX12_term 2 = .ok (.iload_n 2, 1) := by decide +kernel
theorem dX12_term_3 : decode cX12_term 3 = .ok (.invokevirtual 471, 3) := by decide +kernel
theorem dX12_term_6 : decode cX12_term 6 = .ok (.ireturn, 1) := by decide +kernel

section
variable {p : Program} {l : Launch} {e : Env} {R : Room} {s : State} {m : MethodId} {args : Array Value} {below : List Frame} {meth : Method} {c : Code} {H : Heap} {locs : List Loc} {Qf : State → Prop}
variable {ls : Array Slot} {D : va_G} {ca : Nat → ClassId} {A : Nat → Prop} {h0 : Nat} {ad : Nat → Nat} {H0 : Heap} {u : iST}
def w_term (a0 : Int) (a1 : Int) (Q : Int → iST → Prop) (u : iST) : Prop :=
  w_nth a0 a1 (fun v1 u => 
  Q v1 u) u
set_option maxRecDepth 20000 in
set_option maxHeartbeats 4000000 in
theorem b_term_s (X : kX p m c cX12_term 3 s args D ca) (hRf : 1 ≤ R.frames) (hRl : 24 ≤ R.locals) {Q : Int → iST → Prop} (hret : ∀ (v : Int) (u : iST) (H : Heap) (locs : List Loc) (ls : Array Slot) (pc : Nat), inR v → Q v u → kW D ca A h0 ad H0 H locs u → decode cX12_term pc = .ok (.ireturn, 1) → W p l e R s m args below meth c H locs 0 0 Qf (F0 m pc ls [.int (jI v)])) {a0 a1 : Int} (ra0 : inR a0) (ra1 : inR a1) (hw : kW D ca A h0 ad H0 H locs u) (hl : lv_has ls 3 [(0, .ref h0), (1, .int (jI a0)), (2, .int (jI a1))]) (h : w_term a0 a1 Q u) : W p l e R s m args below meth c H locs 0 0 Qf (F0 m 0 ls []) := by
  have hx := X.1.1
  have hb := X.1.2.1
  unfold w_term at h
  refine lv_aload_n hx hb dX12_term_0 rfl (lv_at hl 0 rfl) ?_
  refine lv_iload_n hx hb dX12_term_1 rfl (lv_at hl 1 rfl) ?_
  refine lv_iload_n hx hb dX12_term_2 rfl (lv_at hl 2 rfl) ?_
  refine kcI (n := 2) (c_nth ra0 ra1 h) G_nth E_nth X hw (Nat.le_trans (Nat.le_of_ble_eq_true rfl) hRf) (Nat.le_trans (Nat.le_of_ble_eq_true rfl) hRl) rfl hl.1 (Nat.le_of_ble_eq_true rfl) rfl dX12_term_3 (fun v1 u H locs rv1 h hw => ?_)
  exact hret _ _ _ _ _ _ rv1 h hw dX12_term_6

end
theorem c_term {l : Launch} {a0 : Int} {a1 : Int} (ra0 : inR a0) (ra1 : inR a1) {Q : Int → iST → Prop} {u : iST} (h : w_term a0 a1 Q u) : kMI l yX12_term (.code yX12_term cX12_term 3 (some .int) :: wsM) { frames := 1, cells := 0, slots := 0, locals := 24 } [.int (jI a0), .int (jI a1)] Q u := kMI_of rfl (fun _ => Nat.le_of_ble_eq_true rfl) (fun X hRf hRl hret hw hl => b_term_s X hRf hRl hret ra0 ra1 hw hl h)

/-! functionOf -/
theorem dX12_functionOf_0 : decode cX12_functionOf 0 = .ok (.iload_n 1, 1) := by decide +kernel
theorem dX12_functionOf_1 : decode cX12_functionOf 1 = .ok (.iconst 3, 1) := by decide +kernel
theorem dX12_functionOf_2 : decode cX12_functionOf 2 = .ok (.if_icmp .lt 11, 3) := by decide +kernel
theorem dX12_functionOf_5 : decode cX12_functionOf 5 = .ok (.iload_n 1, 1) := by decide +kernel
theorem dX12_functionOf_6 : decode cX12_functionOf 6 = .ok (.bipush 16, 2) := by decide +kernel
theorem dX12_functionOf_8 : decode cX12_functionOf 8 = .ok (.if_icmp .gt 5, 3) := by decide +kernel
theorem dX12_functionOf_11 : decode cX12_functionOf 11 = .ok (.iload_n 1, 1) := by decide +kernel
theorem dX12_functionOf_12 : decode cX12_functionOf 12 = .ok (.ireturn, 1) := by decide +kernel
theorem dX12_functionOf_13 : decode cX12_functionOf 13 = .ok (.iload_n 1, 1) := by decide +kernel
theorem dX12_functionOf_14 : decode cX12_functionOf 14 = .ok (.aload_n 0, 1) := by decide +kernel
theorem dX12_functionOf_15 : decode cX12_functionOf 15 = .ok (.getfield 136, 3) := by decide +kernel
theorem dX12_functionOf_18 : decode cX12_functionOf 18 = .ok (.if_icmp .ne 6, 3) := by decide +kernel
theorem dX12_functionOf_21 : decode cX12_functionOf 21 = .ok (.bipush 99, 2) := by decide +kernel
theorem dX12_functionOf_23 : decode cX12_functionOf 23 = .ok (.ireturn, 1) := by decide +kernel
theorem dX12_functionOf_24 : decode cX12_functionOf 24 = .ok (.iconst 0, 1) := by decide +kernel
theorem dX12_functionOf_25 : decode cX12_functionOf 25 = .ok (.istore_n 2, 1) := by decide +kernel
theorem dX12_functionOf_26 : decode cX12_functionOf 26 = .ok (.iload_n 2, 1) := by decide +kernel
theorem dX12_functionOf_27 : decode cX12_functionOf 27 = .ok (.aload_n 0, 1) := by decide +kernel
theorem dX12_functionOf_28 : decode cX12_functionOf 28 = .ok (.getfield 474, 3) := by decide +kernel
theorem dX12_functionOf_31 : decode cX12_functionOf 31 = .ok (.if_icmp .ge 24, 3) := by decide +kernel
theorem dX12_functionOf_34 : decode cX12_functionOf 34 = .ok (.aload_n 0, 1) := by decide +kernel
theorem dX12_functionOf_35 : decode cX12_functionOf 35 = .ok (.getfield 78, 3) := by decide +kernel
theorem dX12_functionOf_38 : decode cX12_functionOf 38 = .ok (.iload_n 2, 1) := by decide +kernel
theorem dX12_functionOf_39 : decode cX12_functionOf 39 = .ok (.iaload, 1) := by decide +kernel
theorem dX12_functionOf_40 : decode cX12_functionOf 40 = .ok (.iload_n 1, 1) := by decide +kernel
theorem dX12_functionOf_41 : decode cX12_functionOf 41 = .ok (.if_icmp .ne 8, 3) := by decide +kernel
theorem dX12_functionOf_44 : decode cX12_functionOf 44 = .ok (.bipush 100, 2) := by decide +kernel
theorem dX12_functionOf_46 : decode cX12_functionOf 46 = .ok (.iload_n 2, 1) := by decide +kernel
theorem dX12_functionOf_47 : decode cX12_functionOf 47 = .ok (.iadd, 1) := by decide +kernel
theorem dX12_functionOf_48 : decode cX12_functionOf 48 = .ok (.ireturn, 1) := by decide +kernel
theorem dX12_functionOf_49 : decode cX12_functionOf 49 = .ok (.iinc 2 1, 3) := by decide +kernel
theorem dX12_functionOf_52 : decode cX12_functionOf 52 = .ok (.goto (-26), 3) := by decide +kernel
theorem dX12_functionOf_55 : decode cX12_functionOf 55 = .ok (.iconst (-1), 1) := by decide +kernel
theorem dX12_functionOf_56 : decode cX12_functionOf 56 = .ok (.ireturn, 1) := by decide +kernel

section
variable {p : Program} {l : Launch} {e : Env} {R : Room} {s : State} {m : MethodId} {args : Array Value} {below : List Frame} {meth : Method} {c : Code} {H : Heap} {locs : List Loc} {Qf : State → Prop}
variable {ls : Array Slot} {D : va_G} {ca : Nat → ClassId} {A : Nat → Prop} {h0 : Nat} {ad : Nat → Nat} {H0 : Heap} {u : iST}
def w_functionOf_26b (R26 : Int → Int → iST → Prop) (Q : Int → iST → Prop) (x1 : Int) (x2 : Int) (u : iST) : Prop :=
  rd (u.1 35) (fun v2 => 
  br (v2 ≤ x2) (
    Q (-1) u) (
    bd x2 40 (rd (u.2.1 36 x2) (fun v3 => 
    br (v3 ≠ x1) (
      ov (x2 + 1) (
      R26 x1 (x2 + 1) u)) (
      ov (100 + x2) (
      Q (100 + x2) u))))))
def w_functionOf_26 (Q : Int → iST → Prop) (x1 : Int) (x2 : Int) (u : iST) : Prop := ∀ R26 : Int → Int → iST → Prop, (∀ (x1 : Int) (x2 : Int) (u : iST), w_functionOf_26b R26 Q x1 x2 u → R26 x1 x2 u) → R26 x1 x2 u
set_option maxRecDepth 20000 in
set_option maxHeartbeats 4000000 in
theorem b_functionOf_26 (X : kX p m c cX12_functionOf 3 s args D ca) (hRf : 0 ≤ R.frames) (hRl : 0 ≤ R.locals) {Q : Int → iST → Prop} (hret : ∀ (v : Int) (u : iST) (H : Heap) (locs : List Loc) (ls : Array Slot) (pc : Nat), inR v → Q v u → kW D ca A h0 ad H0 H locs u → decode cX12_functionOf pc = .ok (.ireturn, 1) → W p l e R s m args below meth c H locs 0 0 Qf (F0 m pc ls [.int (jI v)])) {x1 x2 : Int} (rx1 : inR x1) (rx2 : inR x2) (hw : kW D ca A h0 ad H0 H locs u) (hl : lv_has ls 3 [(0, .ref h0), (1, .int (jI x1)), (2, .int (jI x2))]) (h : w_functionOf_26 Q x1 x2 u) : W p l e R s m args below meth c H locs 0 0 Qf (F0 m 26 ls []) := by
  refine h (fun x1 x2 u => ∀ (H : Heap) (locs : List Loc) (ls : Array Slot), inR x1 → inR x2 → kW D ca A h0 ad H0 H locs u → lv_has ls 3 [(0, .ref h0), (1, .int (jI x1)), (2, .int (jI x2))] → W p l e R s m args below meth c H locs 0 0 Qf (F0 m 26 ls [])) ?_ H locs ls rx1 rx2 hw hl
  clear h hl hw rx1 rx2
  intro x1 x2 u h H locs ls rx1 rx2 hw hl
  have hR26 : ∀ (x1 : Int) (x2 : Int) (u : iST) (H : Heap) (locs : List Loc) (ls : Array Slot), inR x1 → inR x2 → kW D ca A h0 ad H0 H locs u → lv_has ls 3 [(0, .ref h0), (1, .int (jI x1)), (2, .int (jI x2))] → (fun (x1 : Int) (x2 : Int) u => ∀ (H : Heap) (locs : List Loc) (ls : Array Slot), inR x1 → inR x2 → kW D ca A h0 ad H0 H locs u → lv_has ls 3 [(0, .ref h0), (1, .int (jI x1)), (2, .int (jI x2))] → W p l e R s m args below meth c H locs 0 0 Qf (F0 m 26 ls [])) x1 x2 u → W p l e R s m args below meth c H locs 0 0 Qf (F0 m 26 ls []) := fun x1 x2 u H locs ls rx1 rx2 hw hl h => h H locs ls rx1 rx2 hw hl
  have hx := X.1.1
  have hb := X.1.2.1
  unfold w_functionOf_26b at h
  refine lv_iload_n hx hb dX12_functionOf_26 rfl (lv_at hl 2 rfl) ?_
  refine lv_aload_n hx hb dX12_functionOf_27 rfl (lv_at hl 0 rfl) ?_
  refine gS 35 474 (by decide) L_35 (fun _ _ => mF_35) rfl X hw dX12_functionOf_28 h (fun v2 rv2 h => ?_)
  refine k_icmp_ge hx hb rx2 rv2 dX12_functionOf_31 (tgt := 55) rfl h (fun h => ?_) (fun h => ?_)
  · refine lv_iconst hx hb dX12_functionOf_55 (v := jI (-1)) rfl ?_
    exact hret _ _ _ _ _ _ (by decide) h hw dX12_functionOf_56
  · refine lv_aload_n hx hb dX12_functionOf_34 rfl (lv_at hl 0 rfl) ?_
    refine gA 36 78 (by decide) L_36 (fun _ _ => mF_36) rfl X hw dX12_functionOf_35 ?_
    refine lv_iload_n hx hb dX12_functionOf_38 rfl (lv_at hl 2 rfl) ?_
    refine aL 36 21 20 40 (fun _ _ _ _ => mG_36) (fun _ => rfl) X hw rx2 dX12_functionOf_39 rfl h (fun v3 rv3 h => ?_)
    refine lv_iload_n hx hb dX12_functionOf_40 rfl (lv_at hl 1 rfl) ?_
    refine k_icmp_ne hx hb rv3 rx1 dX12_functionOf_41 (tgt := 49) rfl h (fun h => ?_) (fun h => ?_)
    · refine k_iinc (k := 2) hx hb dX12_functionOf_49 hl rfl (by decide) rfl h (fun ls r4 h hl => ?_)
      have hl : lv_has ls 3 [(2, .int (jI (x2 + 1))), (0, .ref (h0)), (1, .int (jI x1))] := hl
      refine lv_goto hx hb dX12_functionOf_52 (tgt := 26) rfl ?_
      exact hR26 _ _ _ H locs ls rx1 r4 hw (lv_sub hl [1, 2, 0] rfl) h
    · refine lv_bipush hx hb dX12_functionOf_44 (v := jI 100) rfl ?_
      refine lv_iload_n hx hb dX12_functionOf_46 rfl (lv_at hl 2 rfl) ?_
      refine k_iadd hx hb dX12_functionOf_47 h (fun r5 h => ?_)
      exact hret _ _ _ _ _ _ r5 h hw dX12_functionOf_48

def w_functionOf_13 (Q : Int → iST → Prop) (x1 : Int) (u : iST) : Prop :=
  rd (u.1 57) (fun v1 => 
  br (x1 ≠ v1) (
    w_functionOf_26 Q x1 0 u) (
    Q 99 u))
set_option maxRecDepth 20000 in
set_option maxHeartbeats 4000000 in
theorem b_functionOf_13 (X : kX p m c cX12_functionOf 3 s args D ca) (hRf : 0 ≤ R.frames) (hRl : 0 ≤ R.locals) {Q : Int → iST → Prop} (hret : ∀ (v : Int) (u : iST) (H : Heap) (locs : List Loc) (ls : Array Slot) (pc : Nat), inR v → Q v u → kW D ca A h0 ad H0 H locs u → decode cX12_functionOf pc = .ok (.ireturn, 1) → W p l e R s m args below meth c H locs 0 0 Qf (F0 m pc ls [.int (jI v)])) {x1 : Int} (rx1 : inR x1) (hw : kW D ca A h0 ad H0 H locs u) (hl : lv_has ls 3 [(0, .ref h0), (1, .int (jI x1))]) (h : w_functionOf_13 Q x1 u) : W p l e R s m args below meth c H locs 0 0 Qf (F0 m 13 ls []) := by
  have hx := X.1.1
  have hb := X.1.2.1
  unfold w_functionOf_13 at h
  refine lv_iload_n hx hb dX12_functionOf_13 rfl (lv_at hl 1 rfl) ?_
  refine lv_aload_n hx hb dX12_functionOf_14 rfl (lv_at hl 0 rfl) ?_
  refine gS 57 136 (by decide) L_57 (fun _ _ => mF_57) rfl X hw dX12_functionOf_15 h (fun v1 rv1 h => ?_)
  refine k_icmp_ne hx hb rx1 rv1 dX12_functionOf_18 (tgt := 24) rfl h (fun h => ?_) (fun h => ?_)
  · refine lv_iconst hx hb dX12_functionOf_24 (v := jI 0) rfl ?_
    refine lv_istore_n hx hb dX12_functionOf_25 rfl hl (by decide) rfl (fun ls hl => ?_)
    have hl : lv_has ls 3 [(2, .int (jI 0)), (0, .ref (h0)), (1, .int (jI x1))] := hl
    exact b_functionOf_26 X hRf hRl hret rx1 (by decide) hw (lv_sub hl [1, 2, 0] rfl) h
  · refine lv_bipush hx hb dX12_functionOf_21 (v := jI 99) rfl ?_
    exact hret _ _ _ _ _ _ (by decide) h hw dX12_functionOf_23

def w_functionOf (a0 : Int) (Q : Int → iST → Prop) (u : iST) : Prop :=
  br (a0 < 3) (
    w_functionOf_13 Q a0 u) (
    br (16 < a0) (
      w_functionOf_13 Q a0 u) (
      Q a0 u))
set_option maxRecDepth 20000 in
set_option maxHeartbeats 4000000 in
theorem b_functionOf_s (X : kX p m c cX12_functionOf 3 s args D ca) (hRf : 0 ≤ R.frames) (hRl : 0 ≤ R.locals) {Q : Int → iST → Prop} (hret : ∀ (v : Int) (u : iST) (H : Heap) (locs : List Loc) (ls : Array Slot) (pc : Nat), inR v → Q v u → kW D ca A h0 ad H0 H locs u → decode cX12_functionOf pc = .ok (.ireturn, 1) → W p l e R s m args below meth c H locs 0 0 Qf (F0 m pc ls [.int (jI v)])) {a0 : Int} (ra0 : inR a0) (hw : kW D ca A h0 ad H0 H locs u) (hl : lv_has ls 3 [(0, .ref h0), (1, .int (jI a0))]) (h : w_functionOf a0 Q u) : W p l e R s m args below meth c H locs 0 0 Qf (F0 m 0 ls []) := by
  have hx := X.1.1
  have hb := X.1.2.1
  unfold w_functionOf at h
  refine lv_iload_n hx hb dX12_functionOf_0 rfl (lv_at hl 1 rfl) ?_
  refine lv_iconst hx hb dX12_functionOf_1 (v := jI 3) rfl ?_
  refine k_icmp_lt hx hb ra0 (by decide) dX12_functionOf_2 (tgt := 13) rfl h (fun h => ?_) (fun h => ?_)
  · exact b_functionOf_13 X hRf hRl hret ra0 hw hl h
  · refine lv_iload_n hx hb dX12_functionOf_5 rfl (lv_at hl 1 rfl) ?_
    refine lv_bipush hx hb dX12_functionOf_6 (v := jI 16) rfl ?_
    refine k_icmp_gt hx hb ra0 (by decide) dX12_functionOf_8 (tgt := 13) rfl h (fun h => ?_) (fun h => ?_)
    · exact b_functionOf_13 X hRf hRl hret ra0 hw hl h
    · refine lv_iload_n hx hb dX12_functionOf_11 rfl (lv_at hl 1 rfl) ?_
      exact hret _ _ _ _ _ _ ra0 h hw dX12_functionOf_12

end
theorem c_functionOf {l : Launch} {a0 : Int} (ra0 : inR a0) {Q : Int → iST → Prop} {u : iST} (h : w_functionOf a0 Q u) : kMI l yX12_functionOf (.code yX12_functionOf cX12_functionOf 3 (some .int) :: wsM) { frames := 0, cells := 0, slots := 0, locals := 0 } [.int (jI a0)] Q u := kMI_of rfl (fun _ => Nat.le_of_ble_eq_true rfl) (fun X hRf hRl hret hw hl => b_functionOf_s X hRf hRl hret ra0 hw hl h)

/-! manyOf -/
theorem dX12_manyOf_0 : decode cX12_manyOf 0 = .ok (.iload_n 1, 1) := by decide +kernel
theorem dX12_manyOf_1 : decode cX12_manyOf 1 = .ok (.iconst 3, 1) := by decide +kernel
theorem dX12_manyOf_2 : decode cX12_manyOf 2 = .ok (.if_icmp .ne 5, 3) := by decide +kernel
theorem dX12_manyOf_5 : decode cX12_manyOf 5 = .ok (.iconst 3, 1) := by decide +kernel
theorem dX12_manyOf_6 : decode cX12_manyOf 6 = .ok (.ireturn, 1) := by decide +kernel
theorem dX12_manyOf_7 : decode cX12_manyOf 7 = .ok (.iload_n 1, 1) := by decide +kernel
theorem dX12_manyOf_8 : decode cX12_manyOf 8 = .ok (.bipush 9, 2) := by decide +kernel
theorem dX12_manyOf_10 : decode cX12_manyOf 10 = .ok (.if_icmp .gt 5, 3) := by decide +kernel
theorem dX12_manyOf_13 : decode cX12_manyOf 13 = .ok (.iconst 2, 1) := by decide +kernel
theorem dX12_manyOf_14 : decode cX12_manyOf 14 = .ok (.ireturn, 1) := by decide +kernel
theorem dX12_manyOf_15 : decode cX12_manyOf 15 = .ok (.iload_n 1, 1) := by decide +kernel
theorem dX12_manyOf_16 : decode cX12_manyOf 16 = .ok (.bipush 16, 2) := by decide +kernel
theorem dX12_manyOf_18 : decode cX12_manyOf 18 = .ok (.if_icmp .gt 5, 3) := by decide +kernel
theorem dX12_manyOf_21 : decode cX12_manyOf 21 = .ok (.iconst 1, 1) := by decide +kernel
theorem dX12_manyOf_22 : decode cX12_manyOf 22 = .ok (.ireturn, 1) := by decide +kernel
theorem dX12_manyOf_23 : decode cX12_manyOf 23 = .ok (.iload_n 1, 1) := by decide +kernel
theorem dX12_manyOf_24 : decode cX12_manyOf 24 = .ok (.bipush 99, 2) := by decide +kernel
theorem dX12_manyOf_26 : decode cX12_manyOf 26 = .ok (.if_icmp .ne 10, 3) := by decide +kernel
theorem dX12_manyOf_29 : decode cX12_manyOf 29 = .ok (.aload_n 0, 1) := by decide +kernel
theorem dX12_manyOf_30 : decode cX12_manyOf 30 = .ok (.getfield 477, 3) := by decide +kernel
theorem dX12_manyOf_33 : decode cX12_manyOf 33 = .ok (.goto 12, 3) := by decide +kernel
theorem dX12_manyOf_36 : decode cX12_manyOf 36 = .ok (.aload_n 0, 1) := by decide +kernel
theorem dX12_manyOf_37 : decode cX12_manyOf 37 = .ok (.getfield 81, 3) := by decide +kernel
theorem dX12_manyOf_40 : decode cX12_manyOf 40 = .ok (.iload_n 1, 1) := by decide +kernel
theorem dX12_manyOf_41 : decode cX12_manyOf 41 = .ok (.bipush 100, 2) := by decide +kernel
theorem dX12_manyOf_43 : decode cX12_manyOf 43 = .ok (.isub, 1) := by decide +kernel
theorem dX12_manyOf_44 : decode cX12_manyOf 44 = .ok (.iaload, 1) := by decide +kernel
theorem dX12_manyOf_45 : decode cX12_manyOf 45 = .ok (.ireturn, 1) := by decide +kernel

section
variable {p : Program} {l : Launch} {e : Env} {R : Room} {s : State} {m : MethodId} {args : Array Value} {below : List Frame} {meth : Method} {c : Code} {H : Heap} {locs : List Loc} {Qf : State → Prop}
variable {ls : Array Slot} {D : va_G} {ca : Nat → ClassId} {A : Nat → Prop} {h0 : Nat} {ad : Nat → Nat} {H0 : Heap} {u : iST}
def w_manyOf (a0 : Int) (Q : Int → iST → Prop) (u : iST) : Prop :=
  br (a0 ≠ 3) (
    br (9 < a0) (
      br (16 < a0) (
        br (a0 ≠ 99) (
          ov (a0 - 100) (
          bd (a0 - 100) 40 (rd (u.2.1 37 (a0 - 100)) (fun v2 => 
          Q v2 u)))) (
          rd (u.1 58) (fun v3 => 
          Q v3 u))) (
        Q 1 u)) (
      Q 2 u)) (
    Q 3 u)
set_option maxRecDepth 20000 in
set_option maxHeartbeats 4000000 in
theorem b_manyOf_s (X : kX p m c cX12_manyOf 2 s args D ca) (hRf : 0 ≤ R.frames) (hRl : 0 ≤ R.locals) {Q : Int → iST → Prop} (hret : ∀ (v : Int) (u : iST) (H : Heap) (locs : List Loc) (ls : Array Slot) (pc : Nat), inR v → Q v u → kW D ca A h0 ad H0 H locs u → decode cX12_manyOf pc = .ok (.ireturn, 1) → W p l e R s m args below meth c H locs 0 0 Qf (F0 m pc ls [.int (jI v)])) {a0 : Int} (ra0 : inR a0) (hw : kW D ca A h0 ad H0 H locs u) (hl : lv_has ls 2 [(0, .ref h0), (1, .int (jI a0))]) (h : w_manyOf a0 Q u) : W p l e R s m args below meth c H locs 0 0 Qf (F0 m 0 ls []) := by
  have hx := X.1.1
  have hb := X.1.2.1
  unfold w_manyOf at h
  refine lv_iload_n hx hb dX12_manyOf_0 rfl (lv_at hl 1 rfl) ?_
  refine lv_iconst hx hb dX12_manyOf_1 (v := jI 3) rfl ?_
  refine k_icmp_ne hx hb ra0 (by decide) dX12_manyOf_2 (tgt := 7) rfl h (fun h => ?_) (fun h => ?_)
  · refine lv_iload_n hx hb dX12_manyOf_7 rfl (lv_at hl 1 rfl) ?_
    refine lv_bipush hx hb dX12_manyOf_8 (v := jI 9) rfl ?_
    refine k_icmp_gt hx hb ra0 (by decide) dX12_manyOf_10 (tgt := 15) rfl h (fun h => ?_) (fun h => ?_)
    · refine lv_iload_n hx hb dX12_manyOf_15 rfl (lv_at hl 1 rfl) ?_
      refine lv_bipush hx hb dX12_manyOf_16 (v := jI 16) rfl ?_
      refine k_icmp_gt hx hb ra0 (by decide) dX12_manyOf_18 (tgt := 23) rfl h (fun h => ?_) (fun h => ?_)
      · refine lv_iload_n hx hb dX12_manyOf_23 rfl (lv_at hl 1 rfl) ?_
        refine lv_bipush hx hb dX12_manyOf_24 (v := jI 99) rfl ?_
        refine k_icmp_ne hx hb ra0 (by decide) dX12_manyOf_26 (tgt := 36) rfl h (fun h => ?_) (fun h => ?_)
        · refine lv_aload_n hx hb dX12_manyOf_36 rfl (lv_at hl 0 rfl) ?_
          refine gA 37 81 (by decide) L_37 (fun _ _ => mF_37) rfl X hw dX12_manyOf_37 ?_
          refine lv_iload_n hx hb dX12_manyOf_40 rfl (lv_at hl 1 rfl) ?_
          refine lv_bipush hx hb dX12_manyOf_41 (v := jI 100) rfl ?_
          refine k_isub hx hb dX12_manyOf_43 h (fun r1 h => ?_)
          refine aL 37 22 21 40 (fun _ _ _ _ => mG_37) (fun _ => rfl) X hw r1 dX12_manyOf_44 rfl h (fun v2 rv2 h => ?_)
          exact hret _ _ _ _ _ _ rv2 h hw dX12_manyOf_45
        · refine lv_aload_n hx hb dX12_manyOf_29 rfl (lv_at hl 0 rfl) ?_
          refine gS 58 477 (by decide) L_58 (fun _ _ => mF_58) rfl X hw dX12_manyOf_30 h (fun v3 rv3 h => ?_)
          refine lv_goto hx hb dX12_manyOf_33 (tgt := 45) rfl ?_
          exact hret _ _ _ _ _ _ rv3 h hw dX12_manyOf_45
      · refine lv_iconst hx hb dX12_manyOf_21 (v := jI 1) rfl ?_
        exact hret _ _ _ _ _ _ (by decide) h hw dX12_manyOf_22
    · refine lv_iconst hx hb dX12_manyOf_13 (v := jI 2) rfl ?_
      exact hret _ _ _ _ _ _ (by decide) h hw dX12_manyOf_14
  · refine lv_iconst hx hb dX12_manyOf_5 (v := jI 3) rfl ?_
    exact hret _ _ _ _ _ _ (by decide) h hw dX12_manyOf_6

end
theorem c_manyOf {l : Launch} {a0 : Int} (ra0 : inR a0) {Q : Int → iST → Prop} {u : iST} (h : w_manyOf a0 Q u) : kMI l yX12_manyOf (.code yX12_manyOf cX12_manyOf 2 (some .int) :: wsM) { frames := 0, cells := 0, slots := 0, locals := 0 } [.int (jI a0)] Q u := kMI_of rfl (fun _ => Nat.le_of_ble_eq_true rfl) (fun X hRf hRl hret hw hl => b_manyOf_s X hRf hRl hret ra0 hw hl h)

/-! isReserved -/
theorem dX12_isReserved_0 : decode cX12_isReserved 0 = .ok (.iload_n 0, 1) := by decide +kernel
theorem dX12_isReserved_1 : decode cX12_isReserved 1 = .ok (.ifCond .lt 13, 3) := by decide +kernel
theorem dX12_isReserved_4 : decode cX12_isReserved 4 = .ok (.iload_n 0, 1) := by decide +kernel
theorem dX12_isReserved_5 : decode cX12_isReserved 5 = .ok (.bipush 16, 2) := by decide +kernel
theorem dX12_isReserved_7 : decode cX12_isReserved 7 = .ok (.if_icmp .gt 7, 3) := by decide +kernel
theorem dX12_isReserved_10 : decode cX12_isReserved 10 = .ok (.iconst 1, 1) := by decide +kernel
theorem dX12_isReserved_11 : decode cX12_isReserved 11 = .ok (.goto 4, 3) := by decide +kernel
theorem dX12_isReserved_14 : decode cX12_isReserved 14 = .ok (.iconst 0, 1) := by decide +kernel
theorem dX12_isReserved_15 : decode cX12_isReserved 15 = .ok (.ireturn, 1) := by decide +kernel

section
variable {p : Program} {l : Launch} {e : Env} {R : Room} {s : State} {m : MethodId} {args : Array Value} {below : List Frame} {meth : Method} {c : Code} {H : Heap} {locs : List Loc} {Qf : State → Prop}
variable {ls : Array Slot} {D : va_G} {ca : Nat → ClassId} {A : Nat → Prop} {h0 : Nat} {ad : Nat → Nat} {H0 : Heap} {u : iST}
def w_isReserved (a0 : Int) (Q : Int → iST → Prop) (u : iST) : Prop :=
  br (a0 < 0) (
    zt 0 (Q 0 u)) (
    br (16 < a0) (
      zt 0 (Q 0 u)) (
      zt 1 (Q 1 u)))
set_option maxRecDepth 20000 in
set_option maxHeartbeats 4000000 in
theorem b_isReserved_s (X : kX p m c cX12_isReserved 1 s args D ca) (hRf : 0 ≤ R.frames) (hRl : 0 ≤ R.locals) {Q : Int → iST → Prop} (hret : ∀ (v : Int) (u : iST) (H : Heap) (locs : List Loc) (ls : Array Slot) (pc : Nat), bz v → Q v u → kW D ca A h0 ad H0 H locs u → decode cX12_isReserved pc = .ok (.ireturn, 1) → W p l e R s m args below meth c H locs 0 0 Qf (F0 m pc ls [.int (jI v)])) {a0 : Int} (ra0 : inR a0) (hw : kW D ca A h0 ad H0 H locs u) (hl : lv_has ls 1 [(0, .int (jI a0))]) (h : w_isReserved a0 Q u) : W p l e R s m args below meth c H locs 0 0 Qf (F0 m 0 ls []) := by
  have hx := X.1.1
  have hb := X.1.2.1
  unfold w_isReserved at h
  refine lv_iload_n hx hb dX12_isReserved_0 rfl (lv_at hl 0 rfl) ?_
  refine k_if_lt hx hb ra0 dX12_isReserved_1 (tgt := 14) rfl h (fun h => ?_) (fun h => ?_)
  · refine lv_iconst hx hb dX12_isReserved_14 (v := jI 0) rfl ?_
    exact hret _ _ _ _ _ _ h.1 h.2 hw dX12_isReserved_15
  · refine lv_iload_n hx hb dX12_isReserved_4 rfl (lv_at hl 0 rfl) ?_
    refine lv_bipush hx hb dX12_isReserved_5 (v := jI 16) rfl ?_
    refine k_icmp_gt hx hb ra0 (by decide) dX12_isReserved_7 (tgt := 14) rfl h (fun h => ?_) (fun h => ?_)
    · refine lv_iconst hx hb dX12_isReserved_14 (v := jI 0) rfl ?_
      exact hret _ _ _ _ _ _ h.1 h.2 hw dX12_isReserved_15
    · refine lv_iconst hx hb dX12_isReserved_10 (v := jI 1) rfl ?_
      refine lv_goto hx hb dX12_isReserved_11 (tgt := 15) rfl ?_
      exact hret _ _ _ _ _ _ h.1 h.2 hw dX12_isReserved_15

end
theorem c_isReserved {l : Launch} {a0 : Int} (ra0 : inR a0) {Q : Int → iST → Prop} {u : iST} (h : w_isReserved a0 Q u) : kSI l yX12_isReserved (.code yX12_isReserved cX12_isReserved 1 (some .boolean) :: wsM) { frames := 0, cells := 0, slots := 0, locals := 0 } [.int (jI a0)] Q u := kSZ_of rfl (fun _ => Nat.le_of_ble_eq_true rfl) (fun X hRf hRl hret hw hl => b_isReserved_s X hRf hRl hret ra0 hw hl h)

/-! fail -/
theorem dX12_fail_0 : decode cX12_fail 0 = .ok (.aload_n 0, 1) := by decide +kernel
theorem dX12_fail_1 : decode cX12_fail 1 = .ok (.getfield 480, 3) := by decide +kernel
theorem dX12_fail_4 : decode cX12_fail 4 = .ok (.ifCond .ne 8, 3) := by decide +kernel
theorem dX12_fail_7 : decode cX12_fail 7 = .ok (.aload_n 0, 1) := by decide +kernel
theorem dX12_fail_8 : decode cX12_fail 8 = .ok (.iload_n 1, 1) := by decide +kernel
theorem dX12_fail_9 : decode cX12_fail 9 = .ok (.putfield 480, 3) := by decide +kernel
theorem dX12_fail_12 : decode cX12_fail 12 = .ok (.return_, 1) := by decide +kernel

section
variable {p : Program} {l : Launch} {e : Env} {R : Room} {s : State} {m : MethodId} {args : Array Value} {below : List Frame} {meth : Method} {c : Code} {H : Heap} {locs : List Loc} {Qf : State → Prop}
variable {ls : Array Slot} {D : va_G} {ca : Nat → ClassId} {A : Nat → Prop} {h0 : Nat} {ad : Nat → Nat} {H0 : Heap} {u : iST}
def w_fail (a0 : Int) (Q : iST → Prop) (u : iST) : Prop :=
  rd (u.1 61) (fun v1 => 
  br (v1 ≠ 0) (
    Q u) (
    sw (iI u 61 a0) (fun u => 
    Q u)))
set_option maxRecDepth 20000 in
set_option maxHeartbeats 4000000 in
theorem b_fail_s (X : kX p m c cX12_fail 2 s args D ca) (hRf : 0 ≤ R.frames) (hRl : 0 ≤ R.locals) {Q : iST → Prop} (hret : ∀ (u : iST) (H : Heap) (locs : List Loc) (ls : Array Slot) (pc : Nat), Q u → kW D ca A h0 ad H0 H locs u → decode cX12_fail pc = .ok (.return_, 1) → W p l e R s m args below meth c H locs 0 0 Qf (F0 m pc ls [])) {a0 : Int} (ra0 : inR a0) (hw : kW D ca A h0 ad H0 H locs u) (hl : lv_has ls 2 [(0, .ref h0), (1, .int (jI a0))]) (h : w_fail a0 Q u) : W p l e R s m args below meth c H locs 0 0 Qf (F0 m 0 ls []) := by
  have hx := X.1.1
  have hb := X.1.2.1
  unfold w_fail at h
  refine lv_aload_n hx hb dX12_fail_0 rfl (lv_at hl 0 rfl) ?_
  refine gS 61 480 (by decide) L_61 (fun _ _ => mF_61) rfl X hw dX12_fail_1 h (fun v1 rv1 h => ?_)
  refine k_if_ne hx hb rv1 dX12_fail_4 (tgt := 12) rfl h (fun h => ?_) (fun h => ?_)
  · exact hret _ _ _ _ _ h hw dX12_fail_12
  · refine lv_aload_n hx hb dX12_fail_7 rfl (lv_at hl 0 rfl) ?_
    refine lv_iload_n hx hb dX12_fail_8 rfl (lv_at hl 1 rfl) ?_
    refine pS 61 480 (by decide) L_61 rfl rfl rfl (fun _ _ _ _ _ => mSI_61) (by decide) X hw ra0 dX12_fail_9 h (fun H locs u hw h => ?_)
    exact hret _ _ _ _ _ h hw dX12_fail_12

end
theorem c_fail {l : Launch} {a0 : Int} (ra0 : inR a0) {Q : iST → Prop} {u : iST} (h : w_fail a0 Q u) : kMV l yX12_fail (.code yX12_fail cX12_fail 2 none :: wsM) { frames := 0, cells := 0, slots := 0, locals := 0 } [.int (jI a0)] Q u := kMV_of rfl (fun _ => Nat.le_of_ble_eq_true rfl) (fun X hRf hRl hret hw hl => b_fail_s X hRf hRl hret ra0 hw hl h)

/-! sizeOf -/
theorem dX12_sizeOf_0 : decode cX12_sizeOf 0 = .ok (.aload_n 0, 1) := by decide +kernel
theorem dX12_sizeOf_1 : decode cX12_sizeOf 1 = .ok (.iload_n 1, 1) := by decide +kernel
theorem dX12_sizeOf_2 : decode cX12_sizeOf 2 = .ok (.invokevirtual 483, 3) := by decide +kernel
theorem dX12_sizeOf_5 : decode cX12_sizeOf 5 = .ok (.ifCond .eq 12, 3) := by decide +kernel
theorem dX12_sizeOf_8 : decode cX12_sizeOf 8 = .ok (.aload_n 0, 1) := by decide +kernel
theorem dX12_sizeOf_9 : decode cX12_sizeOf 9 = .ok (.getfield 20, 3) := by decide +kernel
theorem dX12_sizeOf_12 : decode cX12_sizeOf 12 = .ok (.iload_n 1, 1) := by decide +kernel
theorem dX12_sizeOf_13 : decode cX12_sizeOf 13 = .ok (.iaload, 1) := by decide +kernel
theorem dX12_sizeOf_14 : decode cX12_sizeOf 14 = .ok (.goto 4, 3) := by decide +kernel
theorem dX12_sizeOf_17 : decode cX12_sizeOf 17 = .ok (.iconst 1, 1) := by decide +kernel
theorem dX12_sizeOf_18 : decode cX12_sizeOf 18 = .ok (.ireturn, 1) := by decide +kernel

section
variable {p : Program} {l : Launch} {e : Env} {R : Room} {s : State} {m : MethodId} {args : Array Value} {below : List Frame} {meth : Method} {c : Code} {H : Heap} {locs : List Loc} {Qf : State → Prop}
variable {ls : Array Slot} {D : va_G} {ca : Nat → ClassId} {A : Nat → Prop} {h0 : Nat} {ad : Nat → Nat} {H0 : Heap} {u : iST}
def w_sizeOf (a0 : Int) (Q : Int → iST → Prop) (u : iST) : Prop :=
  w_isCall a0 (fun v1 u => 
  br (v1 = 0) (
    Q 1 u) (
    bd a0 452000 (rd (u.2.1 3 a0) (fun v2 => 
    Q v2 u)))) u
set_option maxRecDepth 20000 in
set_option maxHeartbeats 4000000 in
theorem b_sizeOf_s (X : kX p m c cX12_sizeOf 2 s args D ca) (hRf : 2 ≤ R.frames) (hRl : 42 ≤ R.locals) {Q : Int → iST → Prop} (hret : ∀ (v : Int) (u : iST) (H : Heap) (locs : List Loc) (ls : Array Slot) (pc : Nat), inR v → Q v u → kW D ca A h0 ad H0 H locs u → decode cX12_sizeOf pc = .ok (.ireturn, 1) → W p l e R s m args below meth c H locs 0 0 Qf (F0 m pc ls [.int (jI v)])) {a0 : Int} (ra0 : inR a0) (hw : kW D ca A h0 ad H0 H locs u) (hl : lv_has ls 2 [(0, .ref h0), (1, .int (jI a0))]) (h : w_sizeOf a0 Q u) : W p l e R s m args below meth c H locs 0 0 Qf (F0 m 0 ls []) := by
  have hx := X.1.1
  have hb := X.1.2.1
  unfold w_sizeOf at h
  refine lv_aload_n hx hb dX12_sizeOf_0 rfl (lv_at hl 0 rfl) ?_
  refine lv_iload_n hx hb dX12_sizeOf_1 rfl (lv_at hl 1 rfl) ?_
  refine kcI (n := 1) (c_isCall ra0 h) G_isCall E_isCall X hw (Nat.le_trans (Nat.le_of_ble_eq_true rfl) hRf) (Nat.le_trans (Nat.le_of_ble_eq_true rfl) hRl) rfl hl.1 (Nat.le_of_ble_eq_true rfl) rfl dX12_sizeOf_2 (fun v1 u H locs rv1 h hw => ?_)
  refine k_if_eq hx hb rv1 dX12_sizeOf_5 (tgt := 17) rfl h (fun h => ?_) (fun h => ?_)
  · refine lv_iconst hx hb dX12_sizeOf_17 (v := jI 1) rfl ?_
    exact hret _ _ _ _ _ _ (by decide) h hw dX12_sizeOf_18
  · refine lv_aload_n hx hb dX12_sizeOf_8 rfl (lv_at hl 0 rfl) ?_
    refine gA 3 20 (by decide) L_3 (fun _ _ => mF_3) rfl X hw dX12_sizeOf_9 ?_
    refine lv_iload_n hx hb dX12_sizeOf_12 rfl (lv_at hl 1 rfl) ?_
    refine aL 3 4 3 452000 (fun _ _ _ _ => mG_3) (fun _ => rfl) X hw ra0 dX12_sizeOf_13 rfl h (fun v2 rv2 h => ?_)
    refine lv_goto hx hb dX12_sizeOf_14 (tgt := 18) rfl ?_
    exact hret _ _ _ _ _ _ rv2 h hw dX12_sizeOf_18

end
theorem c_sizeOf {l : Launch} {a0 : Int} (ra0 : inR a0) {Q : Int → iST → Prop} {u : iST} (h : w_sizeOf a0 Q u) : kMI l yX12_sizeOf (.code yX12_sizeOf cX12_sizeOf 2 (some .int) :: wsM) { frames := 2, cells := 0, slots := 0, locals := 42 } [.int (jI a0)] Q u := kMI_of rfl (fun _ => Nat.le_of_ble_eq_true rfl) (fun X hRf hRl hret hw hl => b_sizeOf_s X hRf hRl hret ra0 hw hl h)

/-! callFrom -/
theorem dX12_callFrom_0 : decode cX12_callFrom 0 = .ok (.iconst 0, 1) := by decide +kernel
theorem dX12_callFrom_1 : decode cX12_callFrom 1 = .ok (.istore_n 3, 1) := by decide +kernel
theorem dX12_callFrom_2 : decode cX12_callFrom 2 = .ok (.iconst 1, 1) := by decide +kernel
theorem dX12_callFrom_3 : decode cX12_callFrom 3 = .ok (.istore 4, 2) := by decide +kernel
theorem dX12_callFrom_5 : decode cX12_callFrom 5 = .ok (.aload_n 0, 1) := by decide +kernel
theorem dX12_callFrom_6 : decode cX12_callFrom 6 = .ok (.getfield 486, 3) := by decide +kernel
theorem dX12_callFrom_9 : decode cX12_callFrom 9 = .ok (.iconst 1, 1) := by decide +kernel
theorem dX12_callFrom_10 : decode cX12_callFrom 10 = .ok (.isub, 1) := by decide +kernel
theorem dX12_callFrom_11 : decode cX12_callFrom 11 = .ok (.istore 5, 2) := by decide +kernel
theorem dX12_callFrom_13 : decode cX12_callFrom 13 = .ok (.iload 5, 2) := by decide +kernel
theorem dX12_callFrom_15 : decode cX12_callFrom 15 = .ok (.iload_n 2, 1) := by decide +kernel
theorem dX12_callFrom_16 : decode cX12_callFrom 16 = .ok (.if_icmp .lt 38, 3) := by decide +kernel
theorem dX12_callFrom_19 : decode cX12_callFrom 19 = .ok (.iload 4, 2) := by decide +kernel
theorem dX12_callFrom_21 : decode cX12_callFrom 21 = .ok (.aload_n 0, 1) := by decide +kernel
theorem dX12_callFrom_22 : decode cX12_callFrom 22 = .ok (.aload_n 0, 1) := by decide +kernel
theorem dX12_callFrom_23 : decode cX12_callFrom 23 = .ok (.getfield 154, 3) := by decide +kernel
theorem dX12_callFrom_26 : decode cX12_callFrom 26 = .ok (.iload 5, 2) := by decide +kernel
theorem dX12_callFrom_28 : decode cX12_callFrom 28 = .ok (.iaload, 1) := by decide +kernel
theorem dX12_callFrom_29 : decode cX12_callFrom 29 = .ok (.invokevirtual 489, 3) := by decide +kernel
theorem dX12_callFrom_32 : decode cX12_callFrom 32 = .ok (.iadd, 1) := by decide +kernel
theorem dX12_callFrom_33 : decode cX12_callFrom 33 = .ok (.istore 4, 2) := by decide +kernel
theorem dX12_callFrom_35 : decode cX12_callFrom 35 = .ok (.aload_n 0, 1) := by decide +kernel
theorem dX12_callFrom_36 : decode cX12_callFrom 36 = .ok (.aload_n 0, 1) := by decide +kernel
theorem dX12_callFrom_37 : decode cX12_callFrom 37 = .ok (.getfield 154, 3) := by decide +kernel
theorem dX12_callFrom_40 : decode cX12_callFrom 40 = .ok (.iload 5, 2) := by decide +kernel
theorem dX12_callFrom_42 : decode cX12_callFrom 42 = .ok (.iaload, 1) := by decide +kernel
theorem dX12_callFrom_43 : decode cX12_callFrom 43 = .ok (.iload_n 3, 1) := by decide +kernel
theorem dX12_callFrom_44 : decode cX12_callFrom 44 = .ok (.invokevirtual 353, 3) := by decide +kernel
theorem dX12_callFrom_47 : decode cX12_callFrom 47 = .ok (.istore_n 3, 1) := by decide +kernel
theorem dX12_callFrom_48 : decode cX12_callFrom 48 = .ok (.iinc 5 (-1), 3) := by decide +kernel
theorem dX12_callFrom_51 : decode cX12_callFrom 51 = .ok (.goto (-38), 3) := by decide +kernel
theorem dX12_callFrom_54 : decode cX12_callFrom 54 = .ok (.aload_n 0, 1) := by decide +kernel
theorem dX12_callFrom_55 : decode cX12_callFrom 55 = .ok (.iload_n 1, 1) := by decide +kernel
theorem dX12_callFrom_56 : decode cX12_callFrom 56 = .ok (.iload_n 3, 1) := by decide +kernel
theorem dX12_callFrom_57 : decode cX12_callFrom 57 = .ok (.invokevirtual 353, 3) := by decide +kernel
theorem dX12_callFrom_60 : decode cX12_callFrom 60 = .ok (.istore 5, 2) := by decide +kernel
theorem dX12_callFrom_62 : decode cX12_callFrom 62 = .ok (.aload_n 0, 1) := by decide +kernel
theorem dX12_callFrom_63 : decode cX12_callFrom 63 = .ok (.getfield 20, 3) := by decide +kernel
theorem dX12_callFrom_66 : decode cX12_callFrom 66 = .ok (.iload 5, 2) := by decide +kernel
theorem dX12_callFrom_68 : decode cX12_callFrom 68 = .ok (.iload 4, 2) := by decide +kernel
theorem dX12_callFrom_70 : decode cX12_callFrom 70 = .ok (.sipush 30000, 3) := by decide +kernel
theorem dX12_callFrom_73 : decode cX12_callFrom 73 = .ok (.if_icmp .le 9, 3) := by decide +kernel
theorem dX12_callFrom_76 : decode cX12_callFrom 76 = .ok (.sipush 30000, 3) := by decide +kernel
theorem dX12_callFrom_79 : decode cX12_callFrom 79 = .ok (.goto 5, 3) := by decide +kernel
theorem dX12_callFrom_82 : decode cX12_callFrom 82 = .ok (.iload 4, 2) := by decide +kernel
theorem dX12_callFrom_84 : decode cX12_callFrom 84 = .ok (.iastore, 1) := by decide +kernel
theorem dX12_callFrom_85 : decode cX12_callFrom 85 = .ok (.iload 5, 2) := by decide +kernel
theorem dX12_callFrom_87 : decode cX12_callFrom 87 = .ok (.ireturn, 1) := by decide +kernel

section
variable {p : Program} {l : Launch} {e : Env} {R : Room} {s : State} {m : MethodId} {args : Array Value} {below : List Frame} {meth : Method} {c : Code} {H : Heap} {locs : List Loc} {Qf : State → Prop}
variable {ls : Array Slot} {D : va_G} {ca : Nat → ClassId} {A : Nat → Prop} {h0 : Nat} {ad : Nat → Nat} {H0 : Heap} {u : iST}
def w_callFrom_84 (Q : Int → iST → Prop) (x5 : Int) (y1 : Int) (y2 : Int) (u : iST) : Prop :=
  bd y1 452000 (sw (iA u 3 y1 y2) (fun u => 
  Q x5 u))
set_option maxRecDepth 20000 in
set_option maxHeartbeats 4000000 in
theorem b_callFrom_84 (X : kX p m c cX12_callFrom 6 s args D ca) (hRf : 3 ≤ R.frames) (hRl : 63 ≤ R.locals) {Q : Int → iST → Prop} (hret : ∀ (v : Int) (u : iST) (H : Heap) (locs : List Loc) (ls : Array Slot) (pc : Nat), inR v → Q v u → kW D ca A h0 ad H0 H locs u → decode cX12_callFrom pc = .ok (.ireturn, 1) → W p l e R s m args below meth c H locs 0 0 Qf (F0 m pc ls [.int (jI v)])) {x5 y1 y2 : Int} (rx5 : inR x5) (ry1 : inR y1) (ry2 : inR y2) (hw : kW D ca A h0 ad H0 H locs u) (hl : lv_has ls 6 [(0, .ref h0), (5, .int (jI x5))]) (h : w_callFrom_84 Q x5 y1 y2 u) : W p l e R s m args below meth c H locs 0 0 Qf (F0 m 84 ls [.int (jI y2), .int (jI y1), .ref (ad 3)]) := by
  have hx := X.1.1
  have hb := X.1.2.1
  unfold w_callFrom_84 at h
  refine aS 3 4 3 452000 (fun _ _ _ _ => mG_3) (fun _ => rfl) (fun _ _ _ _ _ _ => mSA_3) (by decide) X hw ry1 ry2 dX12_callFrom_84 rfl h (fun H locs u hw h => ?_)
  refine lv_iload hx hb dX12_callFrom_85 (lv_at hl 1 rfl) ?_
  exact hret _ _ _ _ _ _ rx5 h hw dX12_callFrom_87

def w_callFrom_13b (R13 : Int → Int → Int → Int → Int → iST → Prop) (Q : Int → iST → Prop) (x1 : Int) (x2 : Int) (x3 : Int) (x4 : Int) (x5 : Int) (u : iST) : Prop :=
  br (x5 < x2) (
    w_pair x1 x3 (fun v3 u => 
    br (x4 ≤ 30000) (
      w_callFrom_84 Q v3 v3 x4 u) (
      w_callFrom_84 Q v3 v3 30000 u)) u) (
    bd x5 2400 (rd (u.2.1 70 x5) (fun v4 => 
    w_sizeOf v4 (fun v5 u => 
    ov (x4 + v5) (
    bd x5 2400 (rd (u.2.1 70 x5) (fun v7 => 
    w_pair v7 x3 (fun v8 u => 
    ov (x5 + (-1)) (
    R13 x1 x2 v8 (x4 + v5) (x5 + (-1)) u)) u)))) u)))
def w_callFrom_13 (Q : Int → iST → Prop) (x1 : Int) (x2 : Int) (x3 : Int) (x4 : Int) (x5 : Int) (u : iST) : Prop := ∀ R13 : Int → Int → Int → Int → Int → iST → Prop, (∀ (x1 : Int) (x2 : Int) (x3 : Int) (x4 : Int) (x5 : Int) (u : iST), w_callFrom_13b R13 Q x1 x2 x3 x4 x5 u → R13 x1 x2 x3 x4 x5 u) → R13 x1 x2 x3 x4 x5 u
set_option maxRecDepth 20000 in
set_option maxHeartbeats 4000000 in
theorem b_callFrom_13 (X : kX p m c cX12_callFrom 6 s args D ca) (hRf : 3 ≤ R.frames) (hRl : 63 ≤ R.locals) {Q : Int → iST → Prop} (hret : ∀ (v : Int) (u : iST) (H : Heap) (locs : List Loc) (ls : Array Slot) (pc : Nat), inR v → Q v u → kW D ca A h0 ad H0 H locs u → decode cX12_callFrom pc = .ok (.ireturn, 1) → W p l e R s m args below meth c H locs 0 0 Qf (F0 m pc ls [.int (jI v)])) {x1 x2 x3 x4 x5 : Int} (rx1 : inR x1) (rx2 : inR x2) (rx3 : inR x3) (rx4 : inR x4) (rx5 : inR x5) (hw : kW D ca A h0 ad H0 H locs u) (hl : lv_has ls 6 [(0, .ref h0), (1, .int (jI x1)), (2, .int (jI x2)), (3, .int (jI x3)), (4, .int (jI x4)), (5, .int (jI x5))]) (h : w_callFrom_13 Q x1 x2 x3 x4 x5 u) : W p l e R s m args below meth c H locs 0 0 Qf (F0 m 13 ls []) := by
  refine h (fun x1 x2 x3 x4 x5 u => ∀ (H : Heap) (locs : List Loc) (ls : Array Slot), inR x1 → inR x2 → inR x3 → inR x4 → inR x5 → kW D ca A h0 ad H0 H locs u → lv_has ls 6 [(0, .ref h0), (1, .int (jI x1)), (2, .int (jI x2)), (3, .int (jI x3)), (4, .int (jI x4)), (5, .int (jI x5))] → W p l e R s m args below meth c H locs 0 0 Qf (F0 m 13 ls [])) ?_ H locs ls rx1 rx2 rx3 rx4 rx5 hw hl
  clear h hl hw rx1 rx2 rx3 rx4 rx5
  intro x1 x2 x3 x4 x5 u h H locs ls rx1 rx2 rx3 rx4 rx5 hw hl
  have hR13 : ∀ (x1 : Int) (x2 : Int) (x3 : Int) (x4 : Int) (x5 : Int) (u : iST) (H : Heap) (locs : List Loc) (ls : Array Slot), inR x1 → inR x2 → inR x3 → inR x4 → inR x5 → kW D ca A h0 ad H0 H locs u → lv_has ls 6 [(0, .ref h0), (1, .int (jI x1)), (2, .int (jI x2)), (3, .int (jI x3)), (4, .int (jI x4)), (5, .int (jI x5))] → (fun (x1 : Int) (x2 : Int) (x3 : Int) (x4 : Int) (x5 : Int) u => ∀ (H : Heap) (locs : List Loc) (ls : Array Slot), inR x1 → inR x2 → inR x3 → inR x4 → inR x5 → kW D ca A h0 ad H0 H locs u → lv_has ls 6 [(0, .ref h0), (1, .int (jI x1)), (2, .int (jI x2)), (3, .int (jI x3)), (4, .int (jI x4)), (5, .int (jI x5))] → W p l e R s m args below meth c H locs 0 0 Qf (F0 m 13 ls [])) x1 x2 x3 x4 x5 u → W p l e R s m args below meth c H locs 0 0 Qf (F0 m 13 ls []) := fun x1 x2 x3 x4 x5 u H locs ls rx1 rx2 rx3 rx4 rx5 hw hl h => h H locs ls rx1 rx2 rx3 rx4 rx5 hw hl
  have hx := X.1.1
  have hb := X.1.2.1
  unfold w_callFrom_13b at h
  refine lv_iload hx hb dX12_callFrom_13 (lv_at hl 5 rfl) ?_
  refine lv_iload_n hx hb dX12_callFrom_15 rfl (lv_at hl 2 rfl) ?_
  refine k_icmp_lt hx hb rx5 rx2 dX12_callFrom_16 (tgt := 54) rfl h (fun h => ?_) (fun h => ?_)
  · refine lv_aload_n hx hb dX12_callFrom_54 rfl (lv_at hl 0 rfl) ?_
    refine lv_iload_n hx hb dX12_callFrom_55 rfl (lv_at hl 1 rfl) ?_
    refine lv_iload_n hx hb dX12_callFrom_56 rfl (lv_at hl 3 rfl) ?_
    refine kcI (n := 2) (c_pair rx1 rx3 h) G_pair E_pair X hw (Nat.le_trans (Nat.le_of_ble_eq_true rfl) hRf) (Nat.le_trans (Nat.le_of_ble_eq_true rfl) hRl) rfl hl.1 (Nat.le_of_ble_eq_true rfl) rfl dX12_callFrom_57 (fun v3 u H locs rv3 h hw => ?_)
    refine lv_istore hx hb dX12_callFrom_60 hl (by decide) rfl (fun ls hl => ?_)
    have hl : lv_has ls 6 [(5, .int (jI v3)), (0, .ref (h0)), (1, .int (jI x1)), (2, .int (jI x2)), (3, .int (jI x3)), (4, .int (jI x4))] := hl
    refine lv_aload_n hx hb dX12_callFrom_62 rfl (lv_at hl 1 rfl) ?_
    refine gA 3 20 (by decide) L_3 (fun _ _ => mF_3) rfl X hw dX12_callFrom_63 ?_
    refine lv_iload hx hb dX12_callFrom_66 (lv_at hl 0 rfl) ?_
    refine lv_iload hx hb dX12_callFrom_68 (lv_at hl 5 rfl) ?_
    refine lv_sipush hx hb dX12_callFrom_70 (v := jI 30000) rfl ?_
    refine k_icmp_le hx hb rx4 (by decide) dX12_callFrom_73 (tgt := 82) rfl h (fun h => ?_) (fun h => ?_)
    · refine lv_iload hx hb dX12_callFrom_82 (lv_at hl 5 rfl) ?_
      exact b_callFrom_84 X hRf hRl hret rv3 rv3 rx4 hw (lv_sub hl [1, 0] rfl) h
    · refine lv_sipush hx hb dX12_callFrom_76 (v := jI 30000) rfl ?_
      refine lv_goto hx hb dX12_callFrom_79 (tgt := 84) rfl ?_
      exact b_callFrom_84 X hRf hRl hret rv3 rv3 (by decide) hw (lv_sub hl [1, 0] rfl) h
  · refine lv_iload hx hb dX12_callFrom_19 (lv_at hl 4 rfl) ?_
    refine lv_aload_n hx hb dX12_callFrom_21 rfl (lv_at hl 0 rfl) ?_
    refine lv_aload_n hx hb dX12_callFrom_22 rfl (lv_at hl 0 rfl) ?_
    refine gA 70 154 (by decide) L_70 (fun _ _ => mF_70) rfl X hw dX12_callFrom_23 ?_
    refine lv_iload hx hb dX12_callFrom_26 (lv_at hl 5 rfl) ?_
    refine aL 70 44 43 2400 (fun _ _ _ _ => mG_70) (fun _ => rfl) X hw rx5 dX12_callFrom_28 rfl h (fun v4 rv4 h => ?_)
    refine kcI (n := 1) (c_sizeOf rv4 h) G_sizeOf E_sizeOf X hw (Nat.le_trans (Nat.le_of_ble_eq_true rfl) hRf) (Nat.le_trans (Nat.le_of_ble_eq_true rfl) hRl) rfl hl.1 (Nat.le_of_ble_eq_true rfl) rfl dX12_callFrom_29 (fun v5 u H locs rv5 h hw => ?_)
    refine k_iadd hx hb dX12_callFrom_32 h (fun r6 h => ?_)
    refine lv_istore hx hb dX12_callFrom_33 hl (by decide) rfl (fun ls hl => ?_)
    have hl : lv_has ls 6 [(4, .int (jI (x4 + v5))), (0, .ref (h0)), (1, .int (jI x1)), (2, .int (jI x2)), (3, .int (jI x3)), (5, .int (jI x5))] := hl
    refine lv_aload_n hx hb dX12_callFrom_35 rfl (lv_at hl 1 rfl) ?_
    refine lv_aload_n hx hb dX12_callFrom_36 rfl (lv_at hl 1 rfl) ?_
    refine gA 70 154 (by decide) L_70 (fun _ _ => mF_70) rfl X hw dX12_callFrom_37 ?_
    refine lv_iload hx hb dX12_callFrom_40 (lv_at hl 5 rfl) ?_
    refine aL 70 44 43 2400 (fun _ _ _ _ => mG_70) (fun _ => rfl) X hw rx5 dX12_callFrom_42 rfl h (fun v7 rv7 h => ?_)
    refine lv_iload_n hx hb dX12_callFrom_43 rfl (lv_at hl 4 rfl) ?_
    refine kcI (n := 2) (c_pair rv7 rx3 h) G_pair E_pair X hw (Nat.le_trans (Nat.le_of_ble_eq_true rfl) hRf) (Nat.le_trans (Nat.le_of_ble_eq_true rfl) hRl) rfl hl.1 (Nat.le_of_ble_eq_true rfl) rfl dX12_callFrom_44 (fun v8 u H locs rv8 h hw => ?_)
    refine lv_istore_n hx hb dX12_callFrom_47 rfl hl (by decide) rfl (fun ls hl => ?_)
    have hl : lv_has ls 6 [(3, .int (jI v8)), (4, .int (jI (x4 + v5))), (0, .ref (h0)), (1, .int (jI x1)), (2, .int (jI x2)), (5, .int (jI x5))] := hl
    refine k_iinc (k := 5) hx hb dX12_callFrom_48 hl rfl (by decide) rfl h (fun ls r9 h hl => ?_)
    have hl : lv_has ls 6 [(5, .int (jI (x5 + (-1)))), (3, .int (jI v8)), (4, .int (jI (x4 + v5))), (0, .ref (h0)), (1, .int (jI x1)), (2, .int (jI x2))] := hl
    refine lv_goto hx hb dX12_callFrom_51 (tgt := 13) rfl ?_
    exact hR13 _ _ _ _ _ _ H locs ls rx1 rx2 rv8 r6 r9 hw (lv_sub hl [3, 4, 5, 1, 2, 0] rfl) h

def w_callFrom (a0 : Int) (a1 : Int) (Q : Int → iST → Prop) (u : iST) : Prop :=
  rd (u.1 71) (fun v1 => 
  ov (v1 - 1) (
  w_callFrom_13 Q a0 a1 0 1 (v1 - 1) u))
set_option maxRecDepth 20000 in
set_option maxHeartbeats 4000000 in
theorem b_callFrom_s (X : kX p m c cX12_callFrom 6 s args D ca) (hRf : 3 ≤ R.frames) (hRl : 63 ≤ R.locals) {Q : Int → iST → Prop} (hret : ∀ (v : Int) (u : iST) (H : Heap) (locs : List Loc) (ls : Array Slot) (pc : Nat), inR v → Q v u → kW D ca A h0 ad H0 H locs u → decode cX12_callFrom pc = .ok (.ireturn, 1) → W p l e R s m args below meth c H locs 0 0 Qf (F0 m pc ls [.int (jI v)])) {a0 a1 : Int} (ra0 : inR a0) (ra1 : inR a1) (hw : kW D ca A h0 ad H0 H locs u) (hl : lv_has ls 6 [(0, .ref h0), (1, .int (jI a0)), (2, .int (jI a1))]) (h : w_callFrom a0 a1 Q u) : W p l e R s m args below meth c H locs 0 0 Qf (F0 m 0 ls []) := by
  have hx := X.1.1
  have hb := X.1.2.1
  unfold w_callFrom at h
  refine lv_iconst hx hb dX12_callFrom_0 (v := jI 0) rfl ?_
  refine lv_istore_n hx hb dX12_callFrom_1 rfl hl (by decide) rfl (fun ls hl => ?_)
  have hl : lv_has ls 6 [(3, .int (jI 0)), (0, .ref (h0)), (1, .int (jI a0)), (2, .int (jI a1))] := hl
  refine lv_iconst hx hb dX12_callFrom_2 (v := jI 1) rfl ?_
  refine lv_istore hx hb dX12_callFrom_3 hl (by decide) rfl (fun ls hl => ?_)
  have hl : lv_has ls 6 [(4, .int (jI 1)), (3, .int (jI 0)), (0, .ref (h0)), (1, .int (jI a0)), (2, .int (jI a1))] := hl
  refine lv_aload_n hx hb dX12_callFrom_5 rfl (lv_at hl 2 rfl) ?_
  refine gS 71 486 (by decide) L_71 (fun _ _ => mF_71) rfl X hw dX12_callFrom_6 h (fun v1 rv1 h => ?_)
  refine lv_iconst hx hb dX12_callFrom_9 (v := jI 1) rfl ?_
  refine k_isub hx hb dX12_callFrom_10 h (fun r2 h => ?_)
  refine lv_istore hx hb dX12_callFrom_11 hl (by decide) rfl (fun ls hl => ?_)
  have hl : lv_has ls 6 [(5, .int (jI (v1 - 1))), (4, .int (jI 1)), (3, .int (jI 0)), (0, .ref (h0)), (1, .int (jI a0)), (2, .int (jI a1))] := hl
  exact b_callFrom_13 X hRf hRl hret ra0 ra1 (by decide) (by decide) r2 hw (lv_sub hl [3, 4, 5, 2, 1, 0] rfl) h

end
theorem c_callFrom {l : Launch} {a0 : Int} {a1 : Int} (ra0 : inR a0) (ra1 : inR a1) {Q : Int → iST → Prop} {u : iST} (h : w_callFrom a0 a1 Q u) : kMI l yX12_callFrom (.code yX12_callFrom cX12_callFrom 6 (some .int) :: wsM) { frames := 3, cells := 0, slots := 0, locals := 63 } [.int (jI a0), .int (jI a1)] Q u := kMI_of rfl (fun _ => Nat.le_of_ble_eq_true rfl) (fun X hRf hRl hret hw hl => b_callFrom_s X hRf hRl hret ra0 ra1 hw hl h)

/-! build -/
theorem dX12_build_0 : decode cX12_build 0 = .ok (.aload_n 0, 1) := by decide +kernel
theorem dX12_build_1 : decode cX12_build 1 = .ok (.getfield 154, 3) := by decide +kernel
theorem dX12_build_4 : decode cX12_build 4 = .ok (.aload_n 0, 1) := by decide +kernel
theorem dX12_build_5 : decode cX12_build 5 = .ok (.getfield 486, 3) := by decide +kernel
theorem dX12_build_8 : decode cX12_build 8 = .ok (.iload_n 1, 1) := by decide +kernel
theorem dX12_build_9 : decode cX12_build 9 = .ok (.iastore, 1) := by decide +kernel
theorem dX12_build_10 : decode cX12_build 10 = .ok (.aload_n 0, 1) := by decide +kernel
theorem dX12_build_11 : decode cX12_build 11 = .ok (.dup, 1) := by decide +kernel
theorem dX12_build_12 : decode cX12_build 12 = .ok (.getfield 486, 3) := by decide +kernel
theorem dX12_build_15 : decode cX12_build 15 = .ok (.iconst 1, 1) := by decide +kernel
theorem dX12_build_16 : decode cX12_build 16 = .ok (.iadd, 1) := by decide +kernel
theorem dX12_build_17 : decode cX12_build 17 = .ok (.putfield 486, 3) := by decide +kernel
theorem dX12_build_20 : decode cX12_build 20 = .ok (.return_, 1) := by decide +kernel

section
variable {p : Program} {l : Launch} {e : Env} {R : Room} {s : State} {m : MethodId} {args : Array Value} {below : List Frame} {meth : Method} {c : Code} {H : Heap} {locs : List Loc} {Qf : State → Prop}
variable {ls : Array Slot} {D : va_G} {ca : Nat → ClassId} {A : Nat → Prop} {h0 : Nat} {ad : Nat → Nat} {H0 : Heap} {u : iST}
def w_build (a0 : Int) (Q : iST → Prop) (u : iST) : Prop :=
  rd (u.1 71) (fun v1 => 
  bd v1 2400 (sw (iA u 70 v1 a0) (fun u => 
  rd (u.1 71) (fun v2 => 
  ov (v2 + 1) (
  sw (iI u 71 (v2 + 1)) (fun u => 
  Q u))))))
set_option maxRecDepth 20000 in
set_option maxHeartbeats 4000000 in
theorem b_build_s (X : kX p m c cX12_build 2 s args D ca) (hRf : 0 ≤ R.frames) (hRl : 0 ≤ R.locals) {Q : iST → Prop} (hret : ∀ (u : iST) (H : Heap) (locs : List Loc) (ls : Array Slot) (pc : Nat), Q u → kW D ca A h0 ad H0 H locs u → decode cX12_build pc = .ok (.return_, 1) → W p l e R s m args below meth c H locs 0 0 Qf (F0 m pc ls [])) {a0 : Int} (ra0 : inR a0) (hw : kW D ca A h0 ad H0 H locs u) (hl : lv_has ls 2 [(0, .ref h0), (1, .int (jI a0))]) (h : w_build a0 Q u) : W p l e R s m args below meth c H locs 0 0 Qf (F0 m 0 ls []) := by
  have hx := X.1.1
  have hb := X.1.2.1
  unfold w_build at h
  refine lv_aload_n hx hb dX12_build_0 rfl (lv_at hl 0 rfl) ?_
  refine gA 70 154 (by decide) L_70 (fun _ _ => mF_70) rfl X hw dX12_build_1 ?_
  refine lv_aload_n hx hb dX12_build_4 rfl (lv_at hl 0 rfl) ?_
  refine gS 71 486 (by decide) L_71 (fun _ _ => mF_71) rfl X hw dX12_build_5 h (fun v1 rv1 h => ?_)
  refine lv_iload_n hx hb dX12_build_8 rfl (lv_at hl 1 rfl) ?_
  refine aS 70 44 43 2400 (fun _ _ _ _ => mG_70) (fun _ => rfl) (fun _ _ _ _ _ _ => mSA_70) (by decide) X hw rv1 ra0 dX12_build_9 rfl h (fun H locs u hw h => ?_)
  refine lv_aload_n hx hb dX12_build_10 rfl (lv_at hl 0 rfl) ?_
  refine lv_dup hx hb dX12_build_11 rfl ?_
  refine gS 71 486 (by decide) L_71 (fun _ _ => mF_71) rfl X hw dX12_build_12 h (fun v2 rv2 h => ?_)
  refine lv_iconst hx hb dX12_build_15 (v := jI 1) rfl ?_
  refine k_iadd hx hb dX12_build_16 h (fun r3 h => ?_)
  refine pS 71 486 (by decide) L_71 rfl rfl rfl (fun _ _ _ _ _ => mSI_71) (by decide) X hw r3 dX12_build_17 h (fun H locs u hw h => ?_)
  exact hret _ _ _ _ _ h hw dX12_build_20

end
theorem c_build {l : Launch} {a0 : Int} (ra0 : inR a0) {Q : iST → Prop} {u : iST} (h : w_build a0 Q u) : kMV l yX12_build (.code yX12_build cX12_build 2 none :: wsM) { frames := 0, cells := 0, slots := 0, locals := 0 } [.int (jI a0)] Q u := kMV_of rfl (fun _ => Nat.le_of_ble_eq_true rfl) (fun X hRf hRl hret hw hl => b_build_s X hRf hRl hret ra0 hw hl h)

/-! openCall -/
theorem dX12_openCall_0 : decode cX12_openCall 0 = .ok (.aload_n 0, 1) := by decide +kernel
theorem dX12_openCall_1 : decode cX12_openCall 1 = .ok (.getfield 145, 3) := by decide +kernel
theorem dX12_openCall_4 : decode cX12_openCall 4 = .ok (.aload_n 0, 1) := by decide +kernel
theorem dX12_openCall_5 : decode cX12_openCall 5 = .ok (.getfield 492, 3) := by decide +kernel
theorem dX12_openCall_8 : decode cX12_openCall 8 = .ok (.iload_n 1, 1) := by decide +kernel
theorem dX12_openCall_9 : decode cX12_openCall 9 = .ok (.iastore, 1) := by decide +kernel
theorem dX12_openCall_10 : decode cX12_openCall 10 = .ok (.aload_n 0, 1) := by decide +kernel
theorem dX12_openCall_11 : decode cX12_openCall 11 = .ok (.getfield 148, 3) := by decide +kernel
theorem dX12_openCall_14 : decode cX12_openCall 14 = .ok (.aload_n 0, 1) := by decide +kernel
theorem dX12_openCall_15 : decode cX12_openCall 15 = .ok (.getfield 492, 3) := by decide +kernel
theorem dX12_openCall_18 : decode cX12_openCall 18 = .ok (.aload_n 0, 1) := by decide +kernel
theorem dX12_openCall_19 : decode cX12_openCall 19 = .ok (.getfield 14, 3) := by decide +kernel
theorem dX12_openCall_22 : decode cX12_openCall 22 = .ok (.iload_n 1, 1) := by decide +kernel
theorem dX12_openCall_23 : decode cX12_openCall 23 = .ok (.iaload, 1) := by decide +kernel
theorem dX12_openCall_24 : decode cX12_openCall 24 = .ok (.iastore, 1) := by decide +kernel
theorem dX12_openCall_25 : decode cX12_openCall 25 = .ok (.aload_n 0, 1) := by decide +kernel
theorem dX12_openCall_26 : decode cX12_openCall 26 = .ok (.getfield 151, 3) := by decide +kernel
theorem dX12_openCall_29 : decode cX12_openCall 29 = .ok (.aload_n 0, 1) := by decide +kernel
theorem dX12_openCall_30 : decode cX12_openCall 30 = .ok (.getfield 492, 3) := by decide +kernel
theorem dX12_openCall_33 : decode cX12_openCall 33 = .ok (.aload_n 0, 1) := by decide +kernel
theorem dX12_openCall_34 : decode cX12_openCall 34 = .ok (.getfield 486, 3) := by decide +kernel
theorem dX12_openCall_37 : decode cX12_openCall 37 = .ok (.iastore, 1) := by decide +kernel
theorem dX12_openCall_38 : decode cX12_openCall 38 = .ok (.aload_n 0, 1) := by decide +kernel
theorem dX12_openCall_39 : decode cX12_openCall 39 = .ok (.dup, 1) := by decide +kernel
theorem dX12_openCall_40 : decode cX12_openCall 40 = .ok (.getfield 492, 3) := by decide +kernel
theorem dX12_openCall_43 : decode cX12_openCall 43 = .ok (.iconst 1, 1) := by decide +kernel
theorem dX12_openCall_44 : decode cX12_openCall 44 = .ok (.iadd, 1) := by decide +kernel
theorem dX12_openCall_45 : decode cX12_openCall 45 = .ok (.putfield 492, 3) := by decide +kernel
theorem dX12_openCall_48 : decode cX12_openCall 48 = .ok (.return_, 1) := by decide +kernel

section
variable {p : Program} {l : Launch} {e : Env} {R : Room} {s : State} {m : MethodId} {args : Array Value} {below : List Frame} {meth : Method} {c : Code} {H : Heap} {locs : List Loc} {Qf : State → Prop}
variable {ls : Array Slot} {D : va_G} {ca : Nat → ClassId} {A : Nat → Prop} {h0 : Nat} {ad : Nat → Nat} {H0 : Heap} {u : iST}
def w_openCall (a0 : Int) (Q : iST → Prop) (u : iST) : Prop :=
  rd (u.1 69) (fun v1 => 
  bd v1 1200 (sw (iA u 66 v1 a0) (fun u => 
  rd (u.1 69) (fun v2 => 
  bd a0 452000 (rd (u.2.1 1 a0) (fun v3 => 
  bd v2 1200 (sw (iA u 67 v2 v3) (fun u => 
  rd (u.1 69) (fun v4 => 
  rd (u.1 71) (fun v5 => 
  bd v4 1200 (sw (iA u 68 v4 v5) (fun u => 
  rd (u.1 69) (fun v6 => 
  ov (v6 + 1) (
  sw (iI u 69 (v6 + 1)) (fun u => 
  Q u)))))))))))))))
set_option maxRecDepth 20000 in
set_option maxHeartbeats 4000000 in
theorem b_openCall_s (X : kX p m c cX12_openCall 2 s args D ca) (hRf : 0 ≤ R.frames) (hRl : 0 ≤ R.locals) {Q : iST → Prop} (hret : ∀ (u : iST) (H : Heap) (locs : List Loc) (ls : Array Slot) (pc : Nat), Q u → kW D ca A h0 ad H0 H locs u → decode cX12_openCall pc = .ok (.return_, 1) → W p l e R s m args below meth c H locs 0 0 Qf (F0 m pc ls [])) {a0 : Int} (ra0 : inR a0) (hw : kW D ca A h0 ad H0 H locs u) (hl : lv_has ls 2 [(0, .ref h0), (1, .int (jI a0))]) (h : w_openCall a0 Q u) : W p l e R s m args below meth c H locs 0 0 Qf (F0 m 0 ls []) := by
  have hx := X.1.1
  have hb := X.1.2.1
  unfold w_openCall at h
  refine lv_aload_n hx hb dX12_openCall_0 rfl (lv_at hl 0 rfl) ?_
  refine gA 66 145 (by decide) L_66 (fun _ _ => mF_66) rfl X hw dX12_openCall_1 ?_
  refine lv_aload_n hx hb dX12_openCall_4 rfl (lv_at hl 0 rfl) ?_
  refine gS 69 492 (by decide) L_69 (fun _ _ => mF_69) rfl X hw dX12_openCall_5 h (fun v1 rv1 h => ?_)
  refine lv_iload_n hx hb dX12_openCall_8 rfl (lv_at hl 1 rfl) ?_
  refine aS 66 41 40 1200 (fun _ _ _ _ => mG_66) (fun _ => rfl) (fun _ _ _ _ _ _ => mSA_66) (by decide) X hw rv1 ra0 dX12_openCall_9 rfl h (fun H locs u hw h => ?_)
  refine lv_aload_n hx hb dX12_openCall_10 rfl (lv_at hl 0 rfl) ?_
  refine gA 67 148 (by decide) L_67 (fun _ _ => mF_67) rfl X hw dX12_openCall_11 ?_
  refine lv_aload_n hx hb dX12_openCall_14 rfl (lv_at hl 0 rfl) ?_
  refine gS 69 492 (by decide) L_69 (fun _ _ => mF_69) rfl X hw dX12_openCall_15 h (fun v2 rv2 h => ?_)
  refine lv_aload_n hx hb dX12_openCall_18 rfl (lv_at hl 0 rfl) ?_
  refine gA 1 14 (by decide) L_1 (fun _ _ => mF_1) rfl X hw dX12_openCall_19 ?_
  refine lv_iload_n hx hb dX12_openCall_22 rfl (lv_at hl 1 rfl) ?_
  refine aL 1 2 1 452000 (fun _ _ _ _ => mG_1) (fun _ => rfl) X hw ra0 dX12_openCall_23 rfl h (fun v3 rv3 h => ?_)
  refine aS 67 42 41 1200 (fun _ _ _ _ => mG_67) (fun _ => rfl) (fun _ _ _ _ _ _ => mSA_67) (by decide) X hw rv2 rv3 dX12_openCall_24 rfl h (fun H locs u hw h => ?_)
  refine lv_aload_n hx hb dX12_openCall_25 rfl (lv_at hl 0 rfl) ?_
  refine gA 68 151 (by decide) L_68 (fun _ _ => mF_68) rfl X hw dX12_openCall_26 ?_
  refine lv_aload_n hx hb dX12_openCall_29 rfl (lv_at hl 0 rfl) ?_
  refine gS 69 492 (by decide) L_69 (fun _ _ => mF_69) rfl X hw dX12_openCall_30 h (fun v4 rv4 h => ?_)
  refine lv_aload_n hx hb dX12_openCall_33 rfl (lv_at hl 0 rfl) ?_
  refine gS 71 486 (by decide) L_71 (fun _ _ => mF_71) rfl X hw dX12_openCall_34 h (fun v5 rv5 h => ?_)
  refine aS 68 43 42 1200 (fun _ _ _ _ => mG_68) (fun _ => rfl) (fun _ _ _ _ _ _ => mSA_68) (by decide) X hw rv4 rv5 dX12_openCall_37 rfl h (fun H locs u hw h => ?_)
  refine lv_aload_n hx hb dX12_openCall_38 rfl (lv_at hl 0 rfl) ?_
  refine lv_dup hx hb dX12_openCall_39 rfl ?_
  refine gS 69 492 (by decide) L_69 (fun _ _ => mF_69) rfl X hw dX12_openCall_40 h (fun v6 rv6 h => ?_)
  refine lv_iconst hx hb dX12_openCall_43 (v := jI 1) rfl ?_
  refine k_iadd hx hb dX12_openCall_44 h (fun r7 h => ?_)
  refine pS 69 492 (by decide) L_69 rfl rfl rfl (fun _ _ _ _ _ => mSI_69) (by decide) X hw r7 dX12_openCall_45 h (fun H locs u hw h => ?_)
  exact hret _ _ _ _ _ h hw dX12_openCall_48

end
theorem c_openCall {l : Launch} {a0 : Int} (ra0 : inR a0) {Q : iST → Prop} {u : iST} (h : w_openCall a0 Q u) : kMV l yX12_openCall (.code yX12_openCall cX12_openCall 2 none :: wsM) { frames := 0, cells := 0, slots := 0, locals := 0 } [.int (jI a0)] Q u := kMV_of rfl (fun _ => Nat.le_of_ble_eq_true rfl) (fun X hRf hRl hret hw hl => b_openCall_s X hRf hRl hret ra0 hw hl h)

/-! substituted -/
theorem dX12_substituted_0 : decode cX12_substituted 0 = .ok (.iconst 0, 1) := by decide +kernel
theorem dX12_substituted_1 : decode cX12_substituted 1 = .ok (.istore_n 2, 1) := by decide +kernel
theorem dX12_substituted_2 : decode cX12_substituted 2 = .ok (.iload_n 2, 1) := by decide +kernel
theorem dX12_substituted_3 : decode cX12_substituted 3 = .ok (.aload_n 0, 1) := by decide +kernel
theorem dX12_substituted_4 : decode cX12_substituted 4 = .ok (.getfield 495, 3) := by decide +kernel
theorem dX12_substituted_7 : decode cX12_substituted 7 = .ok (.if_icmp .ge 26, 3) := by decide +kernel
theorem dX12_substituted_10 : decode cX12_substituted 10 = .ok (.aload_n 0, 1) := by decide +kernel
theorem dX12_substituted_11 : decode cX12_substituted 11 = .ok (.getfield 157, 3) := by decide +kernel
theorem dX12_substituted_14 : decode cX12_substituted 14 = .ok (.iload_n 2, 1) := by decide +kernel
theorem dX12_substituted_15 : decode cX12_substituted 15 = .ok (.iaload, 1) := by decide +kernel
theorem dX12_substituted_16 : decode cX12_substituted 16 = .ok (.iload_n 1, 1) := by decide +kernel
theorem dX12_substituted_17 : decode cX12_substituted 17 = .ok (.if_icmp .ne 10, 3) := by decide +kernel
theorem dX12_substituted_20 : decode cX12_substituted 20 = .ok (.aload_n 0, 1) := by decide +kernel
theorem dX12_substituted_21 : decode cX12_substituted 21 = .ok (.getfield 160, 3) := by decide +kernel
theorem dX12_substituted_24 : decode cX12_substituted 24 = .ok (.iload_n 2, 1) := by decide +kernel
theorem dX12_substituted_25 : decode cX12_substituted 25 = .ok (.iaload, 1) := by decide +kernel
theorem dX12_substituted_26 : decode cX12_substituted 26 = .ok (.ireturn, 1) := by decide +kernel
theorem dX12_substituted_27 : decode cX12_substituted 27 = .ok (.iinc 2 1, 3) := by decide +kernel
theorem dX12_substituted_30 : decode cX12_substituted 30 = .ok (.goto (-28), 3) := by decide +kernel
theorem dX12_substituted_33 : decode cX12_substituted 33 = .ok (.iload_n 1, 1) := by decide +kernel
theorem dX12_substituted_34 : decode cX12_substituted 34 = .ok (.ireturn, 1) := by decide +kernel

section
variable {p : Program} {l : Launch} {e : Env} {R : Room} {s : State} {m : MethodId} {args : Array Value} {below : List Frame} {meth : Method} {c : Code} {H : Heap} {locs : List Loc} {Qf : State → Prop}
variable {ls : Array Slot} {D : va_G} {ca : Nat → ClassId} {A : Nat → Prop} {h0 : Nat} {ad : Nat → Nat} {H0 : Heap} {u : iST}
def w_substituted_2b (R2 : Int → Int → iST → Prop) (Q : Int → iST → Prop) (x1 : Int) (x2 : Int) (u : iST) : Prop :=
  rd (u.1 74) (fun v1 => 
  br (v1 ≤ x2) (
    Q x1 u) (
    bd x2 400 (rd (u.2.1 72 x2) (fun v2 => 
    br (v2 ≠ x1) (
      ov (x2 + 1) (
      R2 x1 (x2 + 1) u)) (
      bd x2 400 (rd (u.2.1 73 x2) (fun v4 => 
      Q v4 u)))))))
def w_substituted_2 (Q : Int → iST → Prop) (x1 : Int) (x2 : Int) (u : iST) : Prop := ∀ R2 : Int → Int → iST → Prop, (∀ (x1 : Int) (x2 : Int) (u : iST), w_substituted_2b R2 Q x1 x2 u → R2 x1 x2 u) → R2 x1 x2 u
set_option maxRecDepth 20000 in
set_option maxHeartbeats 4000000 in
theorem b_substituted_2 (X : kX p m c cX12_substituted 3 s args D ca) (hRf : 0 ≤ R.frames) (hRl : 0 ≤ R.locals) {Q : Int → iST → Prop} (hret : ∀ (v : Int) (u : iST) (H : Heap) (locs : List Loc) (ls : Array Slot) (pc : Nat), inR v → Q v u → kW D ca A h0 ad H0 H locs u → decode cX12_substituted pc = .ok (.ireturn, 1) → W p l e R s m args below meth c H locs 0 0 Qf (F0 m pc ls [.int (jI v)])) {x1 x2 : Int} (rx1 : inR x1) (rx2 : inR x2) (hw : kW D ca A h0 ad H0 H locs u) (hl : lv_has ls 3 [(0, .ref h0), (1, .int (jI x1)), (2, .int (jI x2))]) (h : w_substituted_2 Q x1 x2 u) : W p l e R s m args below meth c H locs 0 0 Qf (F0 m 2 ls []) := by
  refine h (fun x1 x2 u => ∀ (H : Heap) (locs : List Loc) (ls : Array Slot), inR x1 → inR x2 → kW D ca A h0 ad H0 H locs u → lv_has ls 3 [(0, .ref h0), (1, .int (jI x1)), (2, .int (jI x2))] → W p l e R s m args below meth c H locs 0 0 Qf (F0 m 2 ls [])) ?_ H locs ls rx1 rx2 hw hl
  clear h hl hw rx1 rx2
  intro x1 x2 u h H locs ls rx1 rx2 hw hl
  have hR2 : ∀ (x1 : Int) (x2 : Int) (u : iST) (H : Heap) (locs : List Loc) (ls : Array Slot), inR x1 → inR x2 → kW D ca A h0 ad H0 H locs u → lv_has ls 3 [(0, .ref h0), (1, .int (jI x1)), (2, .int (jI x2))] → (fun (x1 : Int) (x2 : Int) u => ∀ (H : Heap) (locs : List Loc) (ls : Array Slot), inR x1 → inR x2 → kW D ca A h0 ad H0 H locs u → lv_has ls 3 [(0, .ref h0), (1, .int (jI x1)), (2, .int (jI x2))] → W p l e R s m args below meth c H locs 0 0 Qf (F0 m 2 ls [])) x1 x2 u → W p l e R s m args below meth c H locs 0 0 Qf (F0 m 2 ls []) := fun x1 x2 u H locs ls rx1 rx2 hw hl h => h H locs ls rx1 rx2 hw hl
  have hx := X.1.1
  have hb := X.1.2.1
  unfold w_substituted_2b at h
  refine lv_iload_n hx hb dX12_substituted_2 rfl (lv_at hl 2 rfl) ?_
  refine lv_aload_n hx hb dX12_substituted_3 rfl (lv_at hl 0 rfl) ?_
  refine gS 74 495 (by decide) L_74 (fun _ _ => mF_74) rfl X hw dX12_substituted_4 h (fun v1 rv1 h => ?_)
  refine k_icmp_ge hx hb rx2 rv1 dX12_substituted_7 (tgt := 33) rfl h (fun h => ?_) (fun h => ?_)
  · refine lv_iload_n hx hb dX12_substituted_33 rfl (lv_at hl 1 rfl) ?_
    exact hret _ _ _ _ _ _ rx1 h hw dX12_substituted_34
  · refine lv_aload_n hx hb dX12_substituted_10 rfl (lv_at hl 0 rfl) ?_
    refine gA 72 157 (by decide) L_72 (fun _ _ => mF_72) rfl X hw dX12_substituted_11 ?_
    refine lv_iload_n hx hb dX12_substituted_14 rfl (lv_at hl 2 rfl) ?_
    refine aL 72 45 44 400 (fun _ _ _ _ => mG_72) (fun _ => rfl) X hw rx2 dX12_substituted_15 rfl h (fun v2 rv2 h => ?_)
    refine lv_iload_n hx hb dX12_substituted_16 rfl (lv_at hl 1 rfl) ?_
    refine k_icmp_ne hx hb rv2 rx1 dX12_substituted_17 (tgt := 27) rfl h (fun h => ?_) (fun h => ?_)
    · refine k_iinc (k := 2) hx hb dX12_substituted_27 hl rfl (by decide) rfl h (fun ls r3 h hl => ?_)
      have hl : lv_has ls 3 [(2, .int (jI (x2 + 1))), (0, .ref (h0)), (1, .int (jI x1))] := hl
      refine lv_goto hx hb dX12_substituted_30 (tgt := 2) rfl ?_
      exact hR2 _ _ _ H locs ls rx1 r3 hw (lv_sub hl [1, 2, 0] rfl) h
    · refine lv_aload_n hx hb dX12_substituted_20 rfl (lv_at hl 0 rfl) ?_
      refine gA 73 160 (by decide) L_73 (fun _ _ => mF_73) rfl X hw dX12_substituted_21 ?_
      refine lv_iload_n hx hb dX12_substituted_24 rfl (lv_at hl 2 rfl) ?_
      refine aL 73 46 45 400 (fun _ _ _ _ => mG_73) (fun _ => rfl) X hw rx2 dX12_substituted_25 rfl h (fun v4 rv4 h => ?_)
      exact hret _ _ _ _ _ _ rv4 h hw dX12_substituted_26

def w_substituted (a0 : Int) (Q : Int → iST → Prop) (u : iST) : Prop :=
  w_substituted_2 Q a0 0 u
set_option maxRecDepth 20000 in
set_option maxHeartbeats 4000000 in
theorem b_substituted_s (X : kX p m c cX12_substituted 3 s args D ca) (hRf : 0 ≤ R.frames) (hRl : 0 ≤ R.locals) {Q : Int → iST → Prop} (hret : ∀ (v : Int) (u : iST) (H : Heap) (locs : List Loc) (ls : Array Slot) (pc : Nat), inR v → Q v u → kW D ca A h0 ad H0 H locs u → decode cX12_substituted pc = .ok (.ireturn, 1) → W p l e R s m args below meth c H locs 0 0 Qf (F0 m pc ls [.int (jI v)])) {a0 : Int} (ra0 : inR a0) (hw : kW D ca A h0 ad H0 H locs u) (hl : lv_has ls 3 [(0, .ref h0), (1, .int (jI a0))]) (h : w_substituted a0 Q u) : W p l e R s m args below meth c H locs 0 0 Qf (F0 m 0 ls []) := by
  have hx := X.1.1
  have hb := X.1.2.1
  unfold w_substituted at h
  refine lv_iconst hx hb dX12_substituted_0 (v := jI 0) rfl ?_
  refine lv_istore_n hx hb dX12_substituted_1 rfl hl (by decide) rfl (fun ls hl => ?_)
  have hl : lv_has ls 3 [(2, .int (jI 0)), (0, .ref (h0)), (1, .int (jI a0))] := hl
  exact b_substituted_2 X hRf hRl hret ra0 (by decide) hw (lv_sub hl [1, 2, 0] rfl) h

end
theorem c_substituted {l : Launch} {a0 : Int} (ra0 : inR a0) {Q : Int → iST → Prop} {u : iST} (h : w_substituted a0 Q u) : kMI l yX12_substituted (.code yX12_substituted cX12_substituted 3 (some .int) :: wsM) { frames := 0, cells := 0, slots := 0, locals := 0 } [.int (jI a0)] Q u := kMI_of rfl (fun _ => Nat.le_of_ble_eq_true rfl) (fun X hRf hRl hret hw hl => b_substituted_s X hRf hRl hret ra0 hw hl h)

/-! beginInstance -/
theorem dX12_beginInstance_0 : decode cX12_beginInstance 0 = .ok (.iload_n 1, 1) := by decide +kernel
theorem dX12_beginInstance_1 : decode cX12_beginInstance 1 = .ok (.iload_n 2, 1) := by decide +kernel
theorem dX12_beginInstance_2 : decode cX12_beginInstance 2 = .ok (.if_icmp .ne 11, 3) := by decide +kernel
theorem dX12_beginInstance_5 : decode cX12_beginInstance 5 = .ok (.aload_n 0, 1) := by decide +kernel
theorem dX12_beginInstance_6 : decode cX12_beginInstance 6 = .ok (.iload_n 3, 1) := by decide +kernel
theorem dX12_beginInstance_7 : decode cX12_beginInstance 7 = .ok (.invokevirtual 498, 3) := by decide +kernel
theorem dX12_beginInstance_10 : decode cX12_beginInstance 10 = .ok (.goto 40, 3) := by decide +kernel
theorem dX12_beginInstance_13 : decode cX12_beginInstance 13 = .ok (.aload_n 0, 1) := by decide +kernel
theorem dX12_beginInstance_14 : decode cX12_beginInstance 14 = .ok (.iload_n 1, 1) := by decide +kernel
theorem dX12_beginInstance_15 : decode cX12_beginInstance 15 = .ok (.invokevirtual 483, 3) := by decide +kernel
theorem dX12_beginInstance_18 : decode cX12_beginInstance 18 = .ok (.ifCond .eq 11, 3) := by decide +kernel
theorem dX12_beginInstance_21 : decode cX12_beginInstance 21 = .ok (.aload_n 0, 1) := by decide +kernel
theorem dX12_beginInstance_22 : decode cX12_beginInstance 22 = .ok (.iload_n 1, 1) := by decide +kernel
theorem dX12_beginInstance_23 : decode cX12_beginInstance 23 = .ok (.invokevirtual 501, 3) := by decide +kernel
theorem dX12_beginInstance_26 : decode cX12_beginInstance 26 = .ok (.goto 24, 3) := by decide +kernel
theorem dX12_beginInstance_29 : decode cX12_beginInstance 29 = .ok (.aload_n 0, 1) := by decide +kernel
theorem dX12_beginInstance_30 : decode cX12_beginInstance 30 = .ok (.aload_n 0, 1) := by decide +kernel
theorem dX12_beginInstance_31 : decode cX12_beginInstance 31 = .ok (.iload_n 1, 1) := by decide +kernel
theorem dX12_beginInstance_32 : decode cX12_beginInstance 32 = .ok (.invokevirtual 504, 3) := by decide +kernel
theorem dX12_beginInstance_35 : decode cX12_beginInstance 35 = .ok (.ifCond .eq 11, 3) := by decide +kernel
theorem dX12_beginInstance_38 : decode cX12_beginInstance 38 = .ok (.aload_n 0, 1) := by decide +kernel
theorem dX12_beginInstance_39 : decode cX12_beginInstance 39 = .ok (.iload_n 1, 1) := by decide +kernel
theorem dX12_beginInstance_40 : decode cX12_beginInstance 40 = .ok (.invokevirtual 507, 3) := by decide +kernel
theorem dX12_beginInstance_43 : decode cX12_beginInstance 43 = .ok (.goto 4, 3) := by decide +kernel
theorem dX12_beginInstance_46 : decode cX12_beginInstance 46 = .ok (.iload_n 1, 1) := by decide +kernel
theorem dX12_beginInstance_47 : decode cX12_beginInstance 47 = .ok (.invokevirtual 498, 3) := by decide +kernel
theorem dX12_beginInstance_50 : decode cX12_beginInstance 50 = .ok (.return_, 1) := by decide +kernel

section
variable {p : Program} {l : Launch} {e : Env} {R : Room} {s : State} {m : MethodId} {args : Array Value} {below : List Frame} {meth : Method} {c : Code} {H : Heap} {locs : List Loc} {Qf : State → Prop}
variable {ls : Array Slot} {D : va_G} {ca : Nat → ClassId} {A : Nat → Prop} {h0 : Nat} {ad : Nat → Nat} {H0 : Heap} {u : iST}
def w_beginInstance_47 (Q : iST → Prop) (y1 : Int) (u : iST) : Prop :=
  w_build y1 (fun u => 
  Q u) u
set_option maxRecDepth 20000 in
set_option maxHeartbeats 4000000 in
theorem b_beginInstance_47 (X : kX p m c cX12_beginInstance 4 s args D ca) (hRf : 2 ≤ R.frames) (hRl : 42 ≤ R.locals) {Q : iST → Prop} (hret : ∀ (u : iST) (H : Heap) (locs : List Loc) (ls : Array Slot) (pc : Nat), Q u → kW D ca A h0 ad H0 H locs u → decode cX12_beginInstance pc = .ok (.return_, 1) → W p l e R s m args below meth c H locs 0 0 Qf (F0 m pc ls [])) {y1 : Int} (ry1 : inR y1) (hw : kW D ca A h0 ad H0 H locs u) (hl : lv_has ls 4 [(0, .ref h0)]) (h : w_beginInstance_47 Q y1 u) : W p l e R s m args below meth c H locs 0 0 Qf (F0 m 47 ls [.int (jI y1), .ref (h0)]) := by
  have hx := X.1.1
  have hb := X.1.2.1
  unfold w_beginInstance_47 at h
  refine kcV (n := 1) (c_build ry1 h) G_build E_build X hw (Nat.le_trans (Nat.le_of_ble_eq_true rfl) hRf) (Nat.le_trans (Nat.le_of_ble_eq_true rfl) hRl) rfl hl.1 (Nat.le_of_ble_eq_true rfl) rfl dX12_beginInstance_47 (fun u H locs h hw => ?_)
  exact hret _ _ _ _ _ h hw dX12_beginInstance_50

def w_beginInstance (a0 : Int) (a1 : Int) (a2 : Int) (Q : iST → Prop) (u : iST) : Prop :=
  br (a0 ≠ a1) (
    w_isCall a0 (fun v1 u => 
    br (v1 = 0) (
      w_isVariable a0 (fun v2 u => 
      br (v2 = 0) (
        w_beginInstance_47 Q a0 u) (
        w_substituted a0 (fun v4 u => 
        w_beginInstance_47 Q v4 u) u)) u) (
      w_openCall a0 (fun u => 
      Q u) u)) u) (
    w_build a2 (fun u => 
    Q u) u)
set_option maxRecDepth 20000 in
set_option maxHeartbeats 4000000 in
theorem b_beginInstance_s (X : kX p m c cX12_beginInstance 4 s args D ca) (hRf : 2 ≤ R.frames) (hRl : 42 ≤ R.locals) {Q : iST → Prop} (hret : ∀ (u : iST) (H : Heap) (locs : List Loc) (ls : Array Slot) (pc : Nat), Q u → kW D ca A h0 ad H0 H locs u → decode cX12_beginInstance pc = .ok (.return_, 1) → W p l e R s m args below meth c H locs 0 0 Qf (F0 m pc ls [])) {a0 a1 a2 : Int} (ra0 : inR a0) (ra1 : inR a1) (ra2 : inR a2) (hw : kW D ca A h0 ad H0 H locs u) (hl : lv_has ls 4 [(0, .ref h0), (1, .int (jI a0)), (2, .int (jI a1)), (3, .int (jI a2))]) (h : w_beginInstance a0 a1 a2 Q u) : W p l e R s m args below meth c H locs 0 0 Qf (F0 m 0 ls []) := by
  have hx := X.1.1
  have hb := X.1.2.1
  unfold w_beginInstance at h
  refine lv_iload_n hx hb dX12_beginInstance_0 rfl (lv_at hl 1 rfl) ?_
  refine lv_iload_n hx hb dX12_beginInstance_1 rfl (lv_at hl 2 rfl) ?_
  refine k_icmp_ne hx hb ra0 ra1 dX12_beginInstance_2 (tgt := 13) rfl h (fun h => ?_) (fun h => ?_)
  · refine lv_aload_n hx hb dX12_beginInstance_13 rfl (lv_at hl 0 rfl) ?_
    refine lv_iload_n hx hb dX12_beginInstance_14 rfl (lv_at hl 1 rfl) ?_
    refine kcI (n := 1) (c_isCall ra0 h) G_isCall E_isCall X hw (Nat.le_trans (Nat.le_of_ble_eq_true rfl) hRf) (Nat.le_trans (Nat.le_of_ble_eq_true rfl) hRl) rfl hl.1 (Nat.le_of_ble_eq_true rfl) rfl dX12_beginInstance_15 (fun v1 u H locs rv1 h hw => ?_)
    refine k_if_eq hx hb rv1 dX12_beginInstance_18 (tgt := 29) rfl h (fun h => ?_) (fun h => ?_)
    · refine lv_aload_n hx hb dX12_beginInstance_29 rfl (lv_at hl 0 rfl) ?_
      refine lv_aload_n hx hb dX12_beginInstance_30 rfl (lv_at hl 0 rfl) ?_
      refine lv_iload_n hx hb dX12_beginInstance_31 rfl (lv_at hl 1 rfl) ?_
      refine kcI (n := 1) (c_isVariable ra0 h) G_isVariable E_isVariable X hw (Nat.le_trans (Nat.le_of_ble_eq_true rfl) hRf) (Nat.le_trans (Nat.le_of_ble_eq_true rfl) hRl) rfl hl.1 (Nat.le_of_ble_eq_true rfl) rfl dX12_beginInstance_32 (fun v2 u H locs rv2 h hw => ?_)
      refine k_if_eq hx hb rv2 dX12_beginInstance_35 (tgt := 46) rfl h (fun h => ?_) (fun h => ?_)
      · refine lv_iload_n hx hb dX12_beginInstance_46 rfl (lv_at hl 1 rfl) ?_
        exact b_beginInstance_47 X hRf hRl hret ra0 hw (lv_sub hl [0] rfl) h
      · refine lv_aload_n hx hb dX12_beginInstance_38 rfl (lv_at hl 0 rfl) ?_
        refine lv_iload_n hx hb dX12_beginInstance_39 rfl (lv_at hl 1 rfl) ?_
        refine kcI (n := 1) (c_substituted ra0 h) G_substituted E_substituted X hw (Nat.le_trans (Nat.le_of_ble_eq_true rfl) hRf) (Nat.le_trans (Nat.le_of_ble_eq_true rfl) hRl) rfl hl.1 (Nat.le_of_ble_eq_true rfl) rfl dX12_beginInstance_40 (fun v4 u H locs rv4 h hw => ?_)
        refine lv_goto hx hb dX12_beginInstance_43 (tgt := 47) rfl ?_
        exact b_beginInstance_47 X hRf hRl hret rv4 hw (lv_sub hl [0] rfl) h
    · refine lv_aload_n hx hb dX12_beginInstance_21 rfl (lv_at hl 0 rfl) ?_
      refine lv_iload_n hx hb dX12_beginInstance_22 rfl (lv_at hl 1 rfl) ?_
      refine kcV (n := 1) (c_openCall ra0 h) G_openCall E_openCall X hw (Nat.le_trans (Nat.le_of_ble_eq_true rfl) hRf) (Nat.le_trans (Nat.le_of_ble_eq_true rfl) hRl) rfl hl.1 (Nat.le_of_ble_eq_true rfl) rfl dX12_beginInstance_23 (fun u H locs h hw => ?_)
      refine lv_goto hx hb dX12_beginInstance_26 (tgt := 50) rfl ?_
      exact hret _ _ _ _ _ h hw dX12_beginInstance_50
  · refine lv_aload_n hx hb dX12_beginInstance_5 rfl (lv_at hl 0 rfl) ?_
    refine lv_iload_n hx hb dX12_beginInstance_6 rfl (lv_at hl 3 rfl) ?_
    refine kcV (n := 1) (c_build ra2 h) G_build E_build X hw (Nat.le_trans (Nat.le_of_ble_eq_true rfl) hRf) (Nat.le_trans (Nat.le_of_ble_eq_true rfl) hRl) rfl hl.1 (Nat.le_of_ble_eq_true rfl) rfl dX12_beginInstance_7 (fun u H locs h hw => ?_)
    refine lv_goto hx hb dX12_beginInstance_10 (tgt := 50) rfl ?_
    exact hret _ _ _ _ _ h hw dX12_beginInstance_50

end
theorem c_beginInstance {l : Launch} {a0 : Int} {a1 : Int} {a2 : Int} (ra0 : inR a0) (ra1 : inR a1) (ra2 : inR a2) {Q : iST → Prop} {u : iST} (h : w_beginInstance a0 a1 a2 Q u) : kMV l yX12_beginInstance (.code yX12_beginInstance cX12_beginInstance 4 none :: wsM) { frames := 2, cells := 0, slots := 0, locals := 42 } [.int (jI a0), .int (jI a1), .int (jI a2)] Q u := kMV_of rfl (fun _ => Nat.le_of_ble_eq_true rfl) (fun X hRf hRl hret hw hl => b_beginInstance_s X hRf hRl hret ra0 ra1 ra2 hw hl h)

/-! anew -/
theorem dX12_anew_0 : decode cX12_anew 0 = .ok (.aload_n 0, 1) := by decide +kernel
theorem dX12_anew_1 : decode cX12_anew 1 = .ok (.getfield 492, 3) := by decide +kernel
theorem dX12_anew_4 : decode cX12_anew 4 = .ok (.istore 4, 2) := by decide +kernel
theorem dX12_anew_6 : decode cX12_anew 6 = .ok (.aload_n 0, 1) := by decide +kernel
theorem dX12_anew_7 : decode cX12_anew 7 = .ok (.getfield 486, 3) := by decide +kernel
theorem dX12_anew_10 : decode cX12_anew 10 = .ok (.istore 5, 2) := by decide +kernel
theorem dX12_anew_12 : decode cX12_anew 12 = .ok (.aload_n 0, 1) := by decide +kernel
theorem dX12_anew_13 : decode cX12_anew 13 = .ok (.iload_n 1, 1) := by decide +kernel
theorem dX12_anew_14 : decode cX12_anew 14 = .ok (.iload_n 2, 1) := by decide +kernel
theorem dX12_anew_15 : decode cX12_anew 15 = .ok (.iload_n 3, 1) := by decide +kernel
theorem dX12_anew_16 : decode cX12_anew 16 = .ok (.invokevirtual 510, 3) := by decide +kernel
theorem dX12_anew_19 : decode cX12_anew 19 = .ok (.aload_n 0, 1) := by decide +kernel
theorem dX12_anew_20 : decode cX12_anew 20 = .ok (.getfield 492, 3) := by decide +kernel
theorem dX12_anew_23 : decode cX12_anew 23 = .ok (.iload 4, 2) := by decide +kernel
theorem dX12_anew_25 : decode cX12_anew 25 = .ok (.if_icmp .le 120, 3) := by decide +kernel
theorem dX12_anew_28 : decode cX12_anew 28 = .ok (.aload_n 0, 1) := by decide +kernel
theorem dX12_anew_29 : decode cX12_anew 29 = .ok (.getfield 492, 3) := by decide +kernel
theorem dX12_anew_32 : decode cX12_anew 32 = .ok (.iconst 1, 1) := by decide +kernel
theorem dX12_anew_33 : decode cX12_anew 33 = .ok (.isub, 1) := by decide +kernel
theorem dX12_anew_34 : decode cX12_anew 34 = .ok (.istore 6, 2) := by decide +kernel
theorem dX12_anew_36 : decode cX12_anew 36 = .ok (.aload_n 0, 1) := by decide +kernel
theorem dX12_anew_37 : decode cX12_anew 37 = .ok (.getfield 148, 3) := by decide +kernel
theorem dX12_anew_40 : decode cX12_anew 40 = .ok (.iload 6, 2) := by decide +kernel
theorem dX12_anew_42 : decode cX12_anew 42 = .ok (.iaload, 1) := by decide +kernel
theorem dX12_anew_43 : decode cX12_anew 43 = .ok (.ifCond .ne 58, 3) := by decide +kernel
theorem dX12_anew_46 : decode cX12_anew 46 = .ok (.aload_n 0, 1) := by decide +kernel
theorem dX12_anew_47 : decode cX12_anew 47 = .ok (.dup, 1) := by decide +kernel
theorem dX12_anew_48 : decode cX12_anew 48 = .ok (.getfield 492, 3) := by decide +kernel
theorem dX12_anew_51 : decode cX12_anew 51 = .ok (.iconst 1, 1) := by decide +kernel
theorem dX12_anew_52 : decode cX12_anew 52 = .ok (.isub, 1) := by decide +kernel
theorem dX12_anew_53 : decode cX12_anew 53 = .ok (.putfield 492, 3) := by decide +kernel
theorem dX12_anew_56 : decode cX12_anew 56 = .ok (.aload_n 0, 1) := by decide +kernel
theorem dX12_anew_57 : decode cX12_anew 57 = .ok (.aload_n 0, 1) := by decide +kernel
theorem dX12_anew_58 : decode cX12_anew 58 = .ok (.getfield 8, 3) := by decide +kernel
theorem dX12_anew_61 : decode cX12_anew 61 = .ok (.aload_n 0, 1) := by decide +kernel
theorem dX12_anew_62 : decode cX12_anew 62 = .ok (.getfield 145, 3) := by decide +kernel
theorem dX12_anew_65 : decode cX12_anew 65 = .ok (.iload 6, 2) := by decide +kernel
theorem dX12_anew_67 : decode cX12_anew 67 = .ok (.iaload, 1) := by decide +kernel
theorem dX12_anew_68 : decode cX12_anew 68 = .ok (.iaload, 1) := by decide +kernel
theorem dX12_anew_69 : decode cX12_anew 69 = .ok (.aload_n 0, 1) := by decide +kernel
theorem dX12_anew_70 : decode cX12_anew 70 = .ok (.getfield 151, 3) := by decide +kernel
theorem dX12_anew_73 : decode cX12_anew 73 = .ok (.iload 6, 2) := by decide +kernel
theorem dX12_anew_75 : decode cX12_anew 75 = .ok (.iaload, 1) := by decide +kernel
theorem dX12_anew_76 : decode cX12_anew 76 = .ok (.invokevirtual 514, 3) := by decide +kernel
theorem dX12_anew_79 : decode cX12_anew 79 = .ok (.istore 7, 2) := by decide +kernel
theorem dX12_anew_81 : decode cX12_anew 81 = .ok (.aload_n 0, 1) := by decide +kernel
theorem dX12_anew_82 : decode cX12_anew 82 = .ok (.aload_n 0, 1) := by decide +kernel
theorem dX12_anew_83 : decode cX12_anew 83 = .ok (.getfield 151, 3) := by decide +kernel
theorem dX12_anew_86 : decode cX12_anew 86 = .ok (.iload 6, 2) := by decide +kernel
theorem dX12_anew_88 : decode cX12_anew 88 = .ok (.iaload, 1) := by decide +kernel
theorem dX12_anew_89 : decode cX12_anew 89 = .ok (.putfield 486, 3) := by decide +kernel
theorem dX12_anew_92 : decode cX12_anew 92 = .ok (.aload_n 0, 1) := by decide +kernel
theorem dX12_anew_93 : decode cX12_anew 93 = .ok (.iload 7, 2) := by decide +kernel
theorem dX12_anew_95 : decode cX12_anew 95 = .ok (.invokevirtual 498, 3) := by decide +kernel
theorem dX12_anew_98 : decode cX12_anew 98 = .ok (.goto 44, 3) := by decide +kernel
theorem dX12_anew_101 : decode cX12_anew 101 = .ok (.aload_n 0, 1) := by decide +kernel
theorem dX12_anew_102 : decode cX12_anew 102 = .ok (.getfield 8, 3) := by decide +kernel
theorem dX12_anew_105 : decode cX12_anew 105 = .ok (.aload_n 0, 1) := by decide +kernel
theorem dX12_anew_106 : decode cX12_anew 106 = .ok (.getfield 148, 3) := by decide +kernel
theorem dX12_anew_109 : decode cX12_anew 109 = .ok (.iload 6, 2) := by decide +kernel
theorem dX12_anew_111 : decode cX12_anew 111 = .ok (.iaload, 1) := by decide +kernel
theorem dX12_anew_112 : decode cX12_anew 112 = .ok (.iaload, 1) := by decide +kernel
theorem dX12_anew_113 : decode cX12_anew 113 = .ok (.istore 7, 2) := by decide +kernel
theorem dX12_anew_115 : decode cX12_anew 115 = .ok (.aload_n 0, 1) := by decide +kernel
theorem dX12_anew_116 : decode cX12_anew 116 = .ok (.getfield 148, 3) := by decide +kernel
theorem dX12_anew_119 : decode cX12_anew 119 = .ok (.iload 6, 2) := by decide +kernel
theorem dX12_anew_121 : decode cX12_anew 121 = .ok (.aload_n 0, 1) := by decide +kernel
theorem dX12_anew_122 : decode cX12_anew 122 = .ok (.getfield 14, 3) := by decide +kernel
theorem dX12_anew_125 : decode cX12_anew 125 = .ok (.aload_n 0, 1) := by decide +kernel
theorem dX12_anew_126 : decode cX12_anew 126 = .ok (.getfield 148, 3) := by decide +kernel
theorem dX12_anew_129 : decode cX12_anew 129 = .ok (.iload 6, 2) := by decide +kernel
theorem dX12_anew_131 : decode cX12_anew 131 = .ok (.iaload, 1) := by decide +kernel
theorem dX12_anew_132 : decode cX12_anew 132 = .ok (.iaload, 1) := by decide +kernel
theorem dX12_anew_133 : decode cX12_anew 133 = .ok (.iastore, 1) := by decide +kernel
theorem dX12_anew_134 : decode cX12_anew 134 = .ok (.aload_n 0, 1) := by decide +kernel
theorem dX12_anew_135 : decode cX12_anew 135 = .ok (.iload 7, 2) := by decide +kernel
theorem dX12_anew_137 : decode cX12_anew 137 = .ok (.iload_n 2, 1) := by decide +kernel
theorem dX12_anew_138 : decode cX12_anew 138 = .ok (.iload_n 3, 1) := by decide +kernel
theorem dX12_anew_139 : decode cX12_anew 139 = .ok (.invokevirtual 510, 3) := by decide +kernel
theorem dX12_anew_142 : decode cX12_anew 142 = .ok (.goto (-123), 3) := by decide +kernel
theorem dX12_anew_145 : decode cX12_anew 145 = .ok (.aload_n 0, 1) := by decide +kernel
theorem dX12_anew_146 : decode cX12_anew 146 = .ok (.iload 5, 2) := by decide +kernel
theorem dX12_anew_148 : decode cX12_anew 148 = .ok (.putfield 486, 3) := by decide +kernel
theorem dX12_anew_151 : decode cX12_anew 151 = .ok (.aload_n 0, 1) := by decide +kernel
theorem dX12_anew_152 : decode cX12_anew 152 = .ok (.aload_n 0, 1) := by decide +kernel
theorem dX12_anew_153 : decode cX12_anew 153 = .ok (.getfield 154, 3) := by decide +kernel
theorem dX12_anew_156 : decode cX12_anew 156 = .ok (.iload 5, 2) := by decide +kernel
theorem dX12_anew_158 : decode cX12_anew 158 = .ok (.iaload, 1) := by decide +kernel
theorem dX12_anew_159 : decode cX12_anew 159 = .ok (.invokevirtual 489, 3) := by decide +kernel
theorem dX12_anew_162 : decode cX12_anew 162 = .ok (.bipush 120, 2) := by decide +kernel
theorem dX12_anew_164 : decode cX12_anew 164 = .ok (.if_icmp .le 8, 3) := by decide +kernel
theorem dX12_anew_167 : decode cX12_anew 167 = .ok (.aload_n 0, 1) := by decide +kernel
theorem dX12_anew_168 : decode cX12_anew 168 = .ok (.iconst 4, 1) := by decide +kernel
theorem dX12_anew_169 : decode cX12_anew 169 = .ok (.invokevirtual 517, 3) := by decide +kernel
theorem dX12_anew_172 : decode cX12_anew 172 = .ok (.aload_n 0, 1) := by decide +kernel
theorem dX12_anew_173 : decode cX12_anew 173 = .ok (.getfield 154, 3) := by decide +kernel
theorem dX12_anew_176 : decode cX12_anew 176 = .ok (.iload 5, 2) := by decide +kernel
theorem dX12_anew_178 : decode cX12_anew 178 = .ok (.iaload, 1) := by decide +kernel
theorem dX12_anew_179 : decode cX12_anew 179 = .ok (.ireturn, 1) := by decide +kernel

section
variable {p : Program} {l : Launch} {e : Env} {R : Room} {s : State} {m : MethodId} {args : Array Value} {below : List Frame} {meth : Method} {c : Code} {H : Heap} {locs : List Loc} {Qf : State → Prop}
variable {ls : Array Slot} {D : va_G} {ca : Nat → ClassId} {A : Nat → Prop} {h0 : Nat} {ad : Nat → Nat} {H0 : Heap} {u : iST}
def w_anew_172 (Q : Int → iST → Prop) (x5 : Int) (u : iST) : Prop :=
  bd x5 2400 (rd (u.2.1 70 x5) (fun v7 => 
  Q v7 u))
set_option maxRecDepth 20000 in
set_option maxHeartbeats 4000000 in
theorem b_anew_172 (X : kX p m c cX12_anew 8 s args D ca) (hRf : 4 ≤ R.frames) (hRl : 88 ≤ R.locals) {Q : Int → iST → Prop} (hret : ∀ (v : Int) (u : iST) (H : Heap) (locs : List Loc) (ls : Array Slot) (pc : Nat), inR v → Q v u → kW D ca A h0 ad H0 H locs u → decode cX12_anew pc = .ok (.ireturn, 1) → W p l e R s m args below meth c H locs 0 0 Qf (F0 m pc ls [.int (jI v)])) {x5 : Int} (rx5 : inR x5) (hw : kW D ca A h0 ad H0 H locs u) (hl : lv_has ls 8 [(0, .ref h0), (5, .int (jI x5))]) (h : w_anew_172 Q x5 u) : W p l e R s m args below meth c H locs 0 0 Qf (F0 m 172 ls []) := by
  have hx := X.1.1
  have hb := X.1.2.1
  unfold w_anew_172 at h
  refine lv_aload_n hx hb dX12_anew_172 rfl (lv_at hl 0 rfl) ?_
  refine gA 70 154 (by decide) L_70 (fun _ _ => mF_70) rfl X hw dX12_anew_173 ?_
  refine lv_iload hx hb dX12_anew_176 (lv_at hl 1 rfl) ?_
  refine aL 70 44 43 2400 (fun _ _ _ _ => mG_70) (fun _ => rfl) X hw rx5 dX12_anew_178 rfl h (fun v7 rv7 h => ?_)
  exact hret _ _ _ _ _ _ rv7 h hw dX12_anew_179

def w_anew_19b (R19 : Int → Int → Int → Int → iST → Prop) (Q : Int → iST → Prop) (x2 : Int) (x3 : Int) (x4 : Int) (x5 : Int) (u : iST) : Prop :=
  rd (u.1 69) (fun v4 => 
  br (v4 ≤ x4) (
    sw (iI u 71 x5) (fun u => 
    bd x5 2400 (rd (u.2.1 70 x5) (fun v5 => 
    w_sizeOf v5 (fun v6 u => 
    br (v6 ≤ 120) (
      w_anew_172 Q x5 u) (
      w_fail 4 (fun u => 
      w_anew_172 Q x5 u) u)) u)))) (
    rd (u.1 69) (fun v9 => 
    ov (v9 - 1) (
    bd (v9 - 1) 1200 (rd (u.2.1 67 (v9 - 1)) (fun v11 => 
    br (v11 ≠ 0) (
      bd (v9 - 1) 1200 (rd (u.2.1 67 (v9 - 1)) (fun v12 => 
      bd v12 452000 (rd (u.2.1 0 v12) (fun v13 => 
      bd (v9 - 1) 1200 (rd (u.2.1 67 (v9 - 1)) (fun v14 => 
      bd v14 452000 (rd (u.2.1 1 v14) (fun v15 => 
      bd (v9 - 1) 1200 (sw (iA u 67 (v9 - 1) v15) (fun u => 
      w_beginInstance v13 x2 x3 (fun u => 
      R19 x2 x3 x4 x5 u) u))))))))))) (
      rd (u.1 69) (fun v17 => 
      ov (v17 - 1) (
      sw (iI u 69 (v17 - 1)) (fun u => 
      bd (v9 - 1) 1200 (rd (u.2.1 66 (v9 - 1)) (fun v19 => 
      bd v19 452000 (rd (u.2.1 0 v19) (fun v20 => 
      bd (v9 - 1) 1200 (rd (u.2.1 68 (v9 - 1)) (fun v21 => 
      w_callFrom v20 v21 (fun v22 u => 
      bd (v9 - 1) 1200 (rd (u.2.1 68 (v9 - 1)) (fun v23 => 
      sw (iI u 71 v23) (fun u => 
      w_build v22 (fun u => 
      R19 x2 x3 x4 x5 u) u)))) u))))))))))))))))
def w_anew_19 (Q : Int → iST → Prop) (x2 : Int) (x3 : Int) (x4 : Int) (x5 : Int) (u : iST) : Prop := ∀ R19 : Int → Int → Int → Int → iST → Prop, (∀ (x2 : Int) (x3 : Int) (x4 : Int) (x5 : Int) (u : iST), w_anew_19b R19 Q x2 x3 x4 x5 u → R19 x2 x3 x4 x5 u) → R19 x2 x3 x4 x5 u
set_option maxRecDepth 20000 in
set_option maxHeartbeats 4000000 in
theorem b_anew_19 (X : kX p m c cX12_anew 8 s args D ca) (hRf : 4 ≤ R.frames) (hRl : 88 ≤ R.locals) {Q : Int → iST → Prop} (hret : ∀ (v : Int) (u : iST) (H : Heap) (locs : List Loc) (ls : Array Slot) (pc : Nat), inR v → Q v u → kW D ca A h0 ad H0 H locs u → decode cX12_anew pc = .ok (.ireturn, 1) → W p l e R s m args below meth c H locs 0 0 Qf (F0 m pc ls [.int (jI v)])) {x2 x3 x4 x5 : Int} (rx2 : inR x2) (rx3 : inR x3) (rx4 : inR x4) (rx5 : inR x5) (hw : kW D ca A h0 ad H0 H locs u) (hl : lv_has ls 8 [(0, .ref h0), (2, .int (jI x2)), (3, .int (jI x3)), (4, .int (jI x4)), (5, .int (jI x5))]) (h : w_anew_19 Q x2 x3 x4 x5 u) : W p l e R s m args below meth c H locs 0 0 Qf (F0 m 19 ls []) := by
  refine h (fun x2 x3 x4 x5 u => ∀ (H : Heap) (locs : List Loc) (ls : Array Slot), inR x2 → inR x3 → inR x4 → inR x5 → kW D ca A h0 ad H0 H locs u → lv_has ls 8 [(0, .ref h0), (2, .int (jI x2)), (3, .int (jI x3)), (4, .int (jI x4)), (5, .int (jI x5))] → W p l e R s m args below meth c H locs 0 0 Qf (F0 m 19 ls [])) ?_ H locs ls rx2 rx3 rx4 rx5 hw hl
  clear h hl hw rx2 rx3 rx4 rx5
  intro x2 x3 x4 x5 u h H locs ls rx2 rx3 rx4 rx5 hw hl
  have hR19 : ∀ (x2 : Int) (x3 : Int) (x4 : Int) (x5 : Int) (u : iST) (H : Heap) (locs : List Loc) (ls : Array Slot), inR x2 → inR x3 → inR x4 → inR x5 → kW D ca A h0 ad H0 H locs u → lv_has ls 8 [(0, .ref h0), (2, .int (jI x2)), (3, .int (jI x3)), (4, .int (jI x4)), (5, .int (jI x5))] → (fun (x2 : Int) (x3 : Int) (x4 : Int) (x5 : Int) u => ∀ (H : Heap) (locs : List Loc) (ls : Array Slot), inR x2 → inR x3 → inR x4 → inR x5 → kW D ca A h0 ad H0 H locs u → lv_has ls 8 [(0, .ref h0), (2, .int (jI x2)), (3, .int (jI x3)), (4, .int (jI x4)), (5, .int (jI x5))] → W p l e R s m args below meth c H locs 0 0 Qf (F0 m 19 ls [])) x2 x3 x4 x5 u → W p l e R s m args below meth c H locs 0 0 Qf (F0 m 19 ls []) := fun x2 x3 x4 x5 u H locs ls rx2 rx3 rx4 rx5 hw hl h => h H locs ls rx2 rx3 rx4 rx5 hw hl
  have hx := X.1.1
  have hb := X.1.2.1
  unfold w_anew_19b at h
  refine lv_aload_n hx hb dX12_anew_19 rfl (lv_at hl 0 rfl) ?_
  refine gS 69 492 (by decide) L_69 (fun _ _ => mF_69) rfl X hw dX12_anew_20 h (fun v4 rv4 h => ?_)
  refine lv_iload hx hb dX12_anew_23 (lv_at hl 3 rfl) ?_
  refine k_icmp_le hx hb rv4 rx4 dX12_anew_25 (tgt := 145) rfl h (fun h => ?_) (fun h => ?_)
  · refine lv_aload_n hx hb dX12_anew_145 rfl (lv_at hl 0 rfl) ?_
    refine lv_iload hx hb dX12_anew_146 (lv_at hl 4 rfl) ?_
    refine pS 71 486 (by decide) L_71 rfl rfl rfl (fun _ _ _ _ _ => mSI_71) (by decide) X hw rx5 dX12_anew_148 h (fun H locs u hw h => ?_)
    refine lv_aload_n hx hb dX12_anew_151 rfl (lv_at hl 0 rfl) ?_
    refine lv_aload_n hx hb dX12_anew_152 rfl (lv_at hl 0 rfl) ?_
    refine gA 70 154 (by decide) L_70 (fun _ _ => mF_70) rfl X hw dX12_anew_153 ?_
    refine lv_iload hx hb dX12_anew_156 (lv_at hl 4 rfl) ?_
    refine aL 70 44 43 2400 (fun _ _ _ _ => mG_70) (fun _ => rfl) X hw rx5 dX12_anew_158 rfl h (fun v5 rv5 h => ?_)
    refine kcI (n := 1) (c_sizeOf rv5 h) G_sizeOf E_sizeOf X hw (Nat.le_trans (Nat.le_of_ble_eq_true rfl) hRf) (Nat.le_trans (Nat.le_of_ble_eq_true rfl) hRl) rfl hl.1 (Nat.le_of_ble_eq_true rfl) rfl dX12_anew_159 (fun v6 u H locs rv6 h hw => ?_)
    refine lv_bipush hx hb dX12_anew_162 (v := jI 120) rfl ?_
    refine k_icmp_le hx hb rv6 (by decide) dX12_anew_164 (tgt := 172) rfl h (fun h => ?_) (fun h => ?_)
    · exact b_anew_172 X hRf hRl hret rx5 hw (lv_sub hl [0, 4] rfl) h
    · refine lv_aload_n hx hb dX12_anew_167 rfl (lv_at hl 0 rfl) ?_
      refine lv_iconst hx hb dX12_anew_168 (v := jI 4) rfl ?_
      refine kcV (n := 1) (c_fail (by decide) h) G_fail E_fail X hw (Nat.le_trans (Nat.le_of_ble_eq_true rfl) hRf) (Nat.le_trans (Nat.le_of_ble_eq_true rfl) hRl) rfl hl.1 (Nat.le_of_ble_eq_true rfl) rfl dX12_anew_169 (fun u H locs h hw => ?_)
      exact b_anew_172 X hRf hRl hret rx5 hw (lv_sub hl [0, 4] rfl) h
  · refine lv_aload_n hx hb dX12_anew_28 rfl (lv_at hl 0 rfl) ?_
    refine gS 69 492 (by decide) L_69 (fun _ _ => mF_69) rfl X hw dX12_anew_29 h (fun v9 rv9 h => ?_)
    refine lv_iconst hx hb dX12_anew_32 (v := jI 1) rfl ?_
    refine k_isub hx hb dX12_anew_33 h (fun r10 h => ?_)
    refine lv_istore hx hb dX12_anew_34 hl (by decide) rfl (fun ls hl => ?_)
    have hl : lv_has ls 8 [(6, .int (jI (v9 - 1))), (0, .ref (h0)), (2, .int (jI x2)), (3, .int (jI x3)), (4, .int (jI x4)), (5, .int (jI x5))] := hl
    refine lv_aload_n hx hb dX12_anew_36 rfl (lv_at hl 1 rfl) ?_
    refine gA 67 148 (by decide) L_67 (fun _ _ => mF_67) rfl X hw dX12_anew_37 ?_
    refine lv_iload hx hb dX12_anew_40 (lv_at hl 0 rfl) ?_
    refine aL 67 42 41 1200 (fun _ _ _ _ => mG_67) (fun _ => rfl) X hw r10 dX12_anew_42 rfl h (fun v11 rv11 h => ?_)
    refine k_if_ne hx hb rv11 dX12_anew_43 (tgt := 101) rfl h (fun h => ?_) (fun h => ?_)
    · refine lv_aload_n hx hb dX12_anew_101 rfl (lv_at hl 1 rfl) ?_
      refine gA 0 8 (by decide) L_0 (fun _ _ => mF_0) rfl X hw dX12_anew_102 ?_
      refine lv_aload_n hx hb dX12_anew_105 rfl (lv_at hl 1 rfl) ?_
      refine gA 67 148 (by decide) L_67 (fun _ _ => mF_67) rfl X hw dX12_anew_106 ?_
      refine lv_iload hx hb dX12_anew_109 (lv_at hl 0 rfl) ?_
      refine aL 67 42 41 1200 (fun _ _ _ _ => mG_67) (fun _ => rfl) X hw r10 dX12_anew_111 rfl h (fun v12 rv12 h => ?_)
      refine aL 0 1 0 452000 (fun _ _ _ _ => mG_0) (fun _ => rfl) X hw rv12 dX12_anew_112 rfl h (fun v13 rv13 h => ?_)
      refine lv_istore hx hb dX12_anew_113 hl (by decide) rfl (fun ls hl => ?_)
      have hl : lv_has ls 8 [(7, .int (jI v13)), (6, .int (jI (v9 - 1))), (0, .ref (h0)), (2, .int (jI x2)), (3, .int (jI x3)), (4, .int (jI x4)), (5, .int (jI x5))] := hl
      refine lv_aload_n hx hb dX12_anew_115 rfl (lv_at hl 2 rfl) ?_
      refine gA 67 148 (by decide) L_67 (fun _ _ => mF_67) rfl X hw dX12_anew_116 ?_
      refine lv_iload hx hb dX12_anew_119 (lv_at hl 1 rfl) ?_
      refine lv_aload_n hx hb dX12_anew_121 rfl (lv_at hl 2 rfl) ?_
      refine gA 1 14 (by decide) L_1 (fun _ _ => mF_1) rfl X hw dX12_anew_122 ?_
      refine lv_aload_n hx hb dX12_anew_125 rfl (lv_at hl 2 rfl) ?_
      refine gA 67 148 (by decide) L_67 (fun _ _ => mF_67) rfl X hw dX12_anew_126 ?_
      refine lv_iload hx hb dX12_anew_129 (lv_at hl 1 rfl) ?_
      refine aL 67 42 41 1200 (fun _ _ _ _ => mG_67) (fun _ => rfl) X hw r10 dX12_anew_131 rfl h (fun v14 rv14 h => ?_)
      refine aL 1 2 1 452000 (fun _ _ _ _ => mG_1) (fun _ => rfl) X hw rv14 dX12_anew_132 rfl h (fun v15 rv15 h => ?_)
      refine aS 67 42 41 1200 (fun _ _ _ _ => mG_67) (fun _ => rfl) (fun _ _ _ _ _ _ => mSA_67) (by decide) X hw r10 rv15 dX12_anew_133 rfl h (fun H locs u hw h => ?_)
      refine lv_aload_n hx hb dX12_anew_134 rfl (lv_at hl 2 rfl) ?_
      refine lv_iload hx hb dX12_anew_135 (lv_at hl 0 rfl) ?_
      refine lv_iload_n hx hb dX12_anew_137 rfl (lv_at hl 3 rfl) ?_
      refine lv_iload_n hx hb dX12_anew_138 rfl (lv_at hl 4 rfl) ?_
      refine kcV (n := 3) (c_beginInstance rv13 rx2 rx3 h) G_beginInstance E_beginInstance X hw (Nat.le_trans (Nat.le_of_ble_eq_true rfl) hRf) (Nat.le_trans (Nat.le_of_ble_eq_true rfl) hRl) rfl hl.1 (Nat.le_of_ble_eq_true rfl) rfl dX12_anew_139 (fun u H locs h hw => ?_)
      refine lv_goto hx hb dX12_anew_142 (tgt := 19) rfl ?_
      exact hR19 _ _ _ _ _ H locs ls rx2 rx3 rx4 rx5 hw (lv_sub hl [2, 3, 4, 5, 6] rfl) h
    · refine lv_aload_n hx hb dX12_anew_46 rfl (lv_at hl 1 rfl) ?_
      refine lv_dup hx hb dX12_anew_47 rfl ?_
      refine gS 69 492 (by decide) L_69 (fun _ _ => mF_69) rfl X hw dX12_anew_48 h (fun v17 rv17 h => ?_)
      refine lv_iconst hx hb dX12_anew_51 (v := jI 1) rfl ?_
      refine k_isub hx hb dX12_anew_52 h (fun r18 h => ?_)
      refine pS 69 492 (by decide) L_69 rfl rfl rfl (fun _ _ _ _ _ => mSI_69) (by decide) X hw r18 dX12_anew_53 h (fun H locs u hw h => ?_)
      refine lv_aload_n hx hb dX12_anew_56 rfl (lv_at hl 1 rfl) ?_
      refine lv_aload_n hx hb dX12_anew_57 rfl (lv_at hl 1 rfl) ?_
      refine gA 0 8 (by decide) L_0 (fun _ _ => mF_0) rfl X hw dX12_anew_58 ?_
      refine lv_aload_n hx hb dX12_anew_61 rfl (lv_at hl 1 rfl) ?_
      refine gA 66 145 (by decide) L_66 (fun _ _ => mF_66) rfl X hw dX12_anew_62 ?_
      refine lv_iload hx hb dX12_anew_65 (lv_at hl 0 rfl) ?_
      refine aL 66 41 40 1200 (fun _ _ _ _ => mG_66) (fun _ => rfl) X hw r10 dX12_anew_67 rfl h (fun v19 rv19 h => ?_)
      refine aL 0 1 0 452000 (fun _ _ _ _ => mG_0) (fun _ => rfl) X hw rv19 dX12_anew_68 rfl h (fun v20 rv20 h => ?_)
      refine lv_aload_n hx hb dX12_anew_69 rfl (lv_at hl 1 rfl) ?_
      refine gA 68 151 (by decide) L_68 (fun _ _ => mF_68) rfl X hw dX12_anew_70 ?_
      refine lv_iload hx hb dX12_anew_73 (lv_at hl 0 rfl) ?_
      refine aL 68 43 42 1200 (fun _ _ _ _ => mG_68) (fun _ => rfl) X hw r10 dX12_anew_75 rfl h (fun v21 rv21 h => ?_)
      refine kcI (n := 2) (c_callFrom rv20 rv21 h) G_callFrom E_callFrom X hw (Nat.le_trans (Nat.le_of_ble_eq_true rfl) hRf) (Nat.le_trans (Nat.le_of_ble_eq_true rfl) hRl) rfl hl.1 (Nat.le_of_ble_eq_true rfl) rfl dX12_anew_76 (fun v22 u H locs rv22 h hw => ?_)
      refine lv_istore hx hb dX12_anew_79 hl (by decide) rfl (fun ls hl => ?_)
      have hl : lv_has ls 8 [(7, .int (jI v22)), (6, .int (jI (v9 - 1))), (0, .ref (h0)), (2, .int (jI x2)), (3, .int (jI x3)), (4, .int (jI x4)), (5, .int (jI x5))] := hl
      refine lv_aload_n hx hb dX12_anew_81 rfl (lv_at hl 2 rfl) ?_
      refine lv_aload_n hx hb dX12_anew_82 rfl (lv_at hl 2 rfl) ?_
      refine gA 68 151 (by decide) L_68 (fun _ _ => mF_68) rfl X hw dX12_anew_83 ?_
      refine lv_iload hx hb dX12_anew_86 (lv_at hl 1 rfl) ?_
      refine aL 68 43 42 1200 (fun _ _ _ _ => mG_68) (fun _ => rfl) X hw r10 dX12_anew_88 rfl h (fun v23 rv23 h => ?_)
      refine pS 71 486 (by decide) L_71 rfl rfl rfl (fun _ _ _ _ _ => mSI_71) (by decide) X hw rv23 dX12_anew_89 h (fun H locs u hw h => ?_)
      refine lv_aload_n hx hb dX12_anew_92 rfl (lv_at hl 2 rfl) ?_
      refine lv_iload hx hb dX12_anew_93 (lv_at hl 0 rfl) ?_
      refine kcV (n := 1) (c_build rv22 h) G_build E_build X hw (Nat.le_trans (Nat.le_of_ble_eq_true rfl) hRf) (Nat.le_trans (Nat.le_of_ble_eq_true rfl) hRl) rfl hl.1 (Nat.le_of_ble_eq_true rfl) rfl dX12_anew_95 (fun u H locs h hw => ?_)
      refine lv_goto hx hb dX12_anew_98 (tgt := 142) rfl ?_
      refine lv_goto hx hb dX12_anew_142 (tgt := 19) rfl ?_
      exact hR19 _ _ _ _ _ H locs ls rx2 rx3 rx4 rx5 hw (lv_sub hl [2, 3, 4, 5, 6] rfl) h

def w_anew (a0 : Int) (a1 : Int) (a2 : Int) (Q : Int → iST → Prop) (u : iST) : Prop :=
  rd (u.1 69) (fun v1 => 
  rd (u.1 71) (fun v2 => 
  w_beginInstance a0 a1 a2 (fun u => 
  w_anew_19 Q a1 a2 v1 v2 u) u))
set_option maxRecDepth 20000 in
set_option maxHeartbeats 4000000 in
theorem b_anew_s (X : kX p m c cX12_anew 8 s args D ca) (hRf : 4 ≤ R.frames) (hRl : 88 ≤ R.locals) {Q : Int → iST → Prop} (hret : ∀ (v : Int) (u : iST) (H : Heap) (locs : List Loc) (ls : Array Slot) (pc : Nat), inR v → Q v u → kW D ca A h0 ad H0 H locs u → decode cX12_anew pc = .ok (.ireturn, 1) → W p l e R s m args below meth c H locs 0 0 Qf (F0 m pc ls [.int (jI v)])) {a0 a1 a2 : Int} (ra0 : inR a0) (ra1 : inR a1) (ra2 : inR a2) (hw : kW D ca A h0 ad H0 H locs u) (hl : lv_has ls 8 [(0, .ref h0), (1, .int (jI a0)), (2, .int (jI a1)), (3, .int (jI a2))]) (h : w_anew a0 a1 a2 Q u) : W p l e R s m args below meth c H locs 0 0 Qf (F0 m 0 ls []) := by
  have hx := X.1.1
  have hb := X.1.2.1
  unfold w_anew at h
  refine lv_aload_n hx hb dX12_anew_0 rfl (lv_at hl 0 rfl) ?_
  refine gS 69 492 (by decide) L_69 (fun _ _ => mF_69) rfl X hw dX12_anew_1 h (fun v1 rv1 h => ?_)
  refine lv_istore hx hb dX12_anew_4 hl (by decide) rfl (fun ls hl => ?_)
  have hl : lv_has ls 8 [(4, .int (jI v1)), (0, .ref (h0)), (1, .int (jI a0)), (2, .int (jI a1)), (3, .int (jI a2))] := hl
  refine lv_aload_n hx hb dX12_anew_6 rfl (lv_at hl 1 rfl) ?_
  refine gS 71 486 (by decide) L_71 (fun _ _ => mF_71) rfl X hw dX12_anew_7 h (fun v2 rv2 h => ?_)
  refine lv_istore hx hb dX12_anew_10 hl (by decide) rfl (fun ls hl => ?_)
  have hl : lv_has ls 8 [(5, .int (jI v2)), (4, .int (jI v1)), (0, .ref (h0)), (1, .int (jI a0)), (2, .int (jI a1)), (3, .int (jI a2))] := hl
  refine lv_aload_n hx hb dX12_anew_12 rfl (lv_at hl 2 rfl) ?_
  refine lv_iload_n hx hb dX12_anew_13 rfl (lv_at hl 3 rfl) ?_
  refine lv_iload_n hx hb dX12_anew_14 rfl (lv_at hl 4 rfl) ?_
  refine lv_iload_n hx hb dX12_anew_15 rfl (lv_at hl 5 rfl) ?_
  refine kcV (n := 3) (c_beginInstance ra0 ra1 ra2 h) G_beginInstance E_beginInstance X hw (Nat.le_trans (Nat.le_of_ble_eq_true rfl) hRf) (Nat.le_trans (Nat.le_of_ble_eq_true rfl) hRl) rfl hl.1 (Nat.le_of_ble_eq_true rfl) rfl dX12_anew_16 (fun u H locs h hw => ?_)
  exact b_anew_19 X hRf hRl hret ra1 ra2 rv1 rv2 hw (lv_sub hl [2, 4, 5, 1, 0] rfl) h

end
theorem c_anew {l : Launch} {a0 : Int} {a1 : Int} {a2 : Int} (ra0 : inR a0) (ra1 : inR a1) (ra2 : inR a2) {Q : Int → iST → Prop} {u : iST} (h : w_anew a0 a1 a2 Q u) : kMI l yX12_anew (.code yX12_anew cX12_anew 8 (some .int) :: wsM) { frames := 4, cells := 0, slots := 0, locals := 88 } [.int (jI a0), .int (jI a1), .int (jI a2)] Q u := kMI_of rfl (fun _ => Nat.le_of_ble_eq_true rfl) (fun X hRf hRl hret hw hl => b_anew_s X hRf hRl hret ra0 ra1 ra2 hw hl h)
