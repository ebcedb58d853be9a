/-! ProofHouse$Rewriter.addHypotheses -/
theorem dX6_addHypotheses_0 : decode cX6_addHypotheses 0 = .ok (.aload_n 0, 1) := by decide +kernel
theorem dX6_addHypotheses_1 : decode cX6_addHypotheses 1 = .ok (.getfield 47, 3) := by decide +kernel
theorem dX6_addHypotheses_4 : decode cX6_addHypotheses 4 = .ok (.getfield 317, 3) := by decide +kernel
theorem dX6_addHypotheses_7 : decode cX6_addHypotheses 7 = .ok (.astore_n 3, 1) := by decide +kernel
theorem dX6_addHypotheses_8 : decode cX6_addHypotheses 8 = .ok (.aload_n 3, 1) := by decide +kernel
theorem dX6_addHypotheses_9 : decode cX6_addHypotheses 9 = .ok (.iconst 0, 1) := by decide +kernel
theorem dX6_addHypotheses_10 : decode cX6_addHypotheses 10 = .ok (.iload_n 2, 1) := by decide +kernel
theorem dX6_addHypotheses_11 : decode cX6_addHypotheses 11 = .ok (.iastore, 1) := by decide +kernel
theorem dX6_addHypotheses_12 : decode cX6_addHypotheses 12 = .ok (.iconst 1, 1) := by decide +kernel
theorem dX6_addHypotheses_13 : decode cX6_addHypotheses 13 = .ok (.istore 4, 2) := by decide +kernel
theorem dX6_addHypotheses_15 : decode cX6_addHypotheses 15 = .ok (.iconst 0, 1) := by decide +kernel
theorem dX6_addHypotheses_16 : decode cX6_addHypotheses 16 = .ok (.istore 5, 2) := by decide +kernel
theorem dX6_addHypotheses_18 : decode cX6_addHypotheses 18 = .ok (.iload 5, 2) := by decide +kernel
theorem dX6_addHypotheses_20 : decode cX6_addHypotheses 20 = .ok (.ldc 76, 2) := by decide +kernel
theorem dX6_addHypotheses_22 : decode cX6_addHypotheses 22 = .ok (.if_icmp .ge 139, 3) := by decide +kernel
theorem dX6_addHypotheses_25 : decode cX6_addHypotheses 25 = .ok (.iload 4, 2) := by decide +kernel
theorem dX6_addHypotheses_27 : decode cX6_addHypotheses 27 = .ok (.ifCond .le 134, 3) := by decide +kernel
theorem dX6_addHypotheses_30 : decode cX6_addHypotheses 30 = .ok (.iinc 4 (-1), 3) := by decide +kernel
theorem dX6_addHypotheses_33 : decode cX6_addHypotheses 33 = .ok (.aload_n 3, 1) := by decide +kernel
theorem dX6_addHypotheses_34 : decode cX6_addHypotheses 34 = .ok (.iload 4, 2) := by decide +kernel
theorem dX6_addHypotheses_36 : decode cX6_addHypotheses 36 = .ok (.iaload, 1) := by decide +kernel
theorem dX6_addHypotheses_37 : decode cX6_addHypotheses 37 = .ok (.istore 6, 2) := by decide +kernel
theorem dX6_addHypotheses_39 : decode cX6_addHypotheses 39 = .ok (.aload_n 0, 1) := by decide +kernel
theorem dX6_addHypotheses_40 : decode cX6_addHypotheses 40 = .ok (.getfield 43, 3) := by decide +kernel
theorem dX6_addHypotheses_43 : decode cX6_addHypotheses 43 = .ok (.getfield 273, 3) := by decide +kernel
theorem dX6_addHypotheses_46 : decode cX6_addHypotheses 46 = .ok (.iload_n 1, 1) := by decide +kernel
theorem dX6_addHypotheses_47 : decode cX6_addHypotheses 47 = .ok (.iaload, 1) := by decide +kernel
theorem dX6_addHypotheses_48 : decode cX6_addHypotheses 48 = .ok (.istore 7, 2) := by decide +kernel
theorem dX6_addHypotheses_50 : decode cX6_addHypotheses 50 = .ok (.aload_n 0, 1) := by decide +kernel
theorem dX6_addHypotheses_51 : decode cX6_addHypotheses 51 = .ok (.getfield 39, 3) := by decide +kernel
theorem dX6_addHypotheses_54 : decode cX6_addHypotheses 54 = .ok (.iload 6, 2) := by decide +kernel
theorem dX6_addHypotheses_56 : decode cX6_addHypotheses 56 = .ok (.iconst 3, 1) := by decide +kernel
theorem dX6_addHypotheses_57 : decode cX6_addHypotheses 57 = .ok (.invokevirtual 175, 3) := by decide +kernel
theorem dX6_addHypotheses_60 : decode cX6_addHypotheses 60 = .ok (.ifCond .eq 61, 3) := by decide +kernel
theorem dX6_addHypotheses_63 : decode cX6_addHypotheses 63 = .ok (.aload_n 0, 1) := by decide +kernel
theorem dX6_addHypotheses_64 : decode cX6_addHypotheses 64 = .ok (.getfield 39, 3) := by decide +kernel
theorem dX6_addHypotheses_67 : decode cX6_addHypotheses 67 = .ok (.iload 6, 2) := by decide +kernel
theorem dX6_addHypotheses_69 : decode cX6_addHypotheses 69 = .ok (.iconst 3, 1) := by decide +kernel
theorem dX6_addHypotheses_70 : decode cX6_addHypotheses 70 = .ok (.invokevirtual 109, 3) := by decide +kernel
theorem dX6_addHypotheses_73 : decode cX6_addHypotheses 73 = .ok (.ifCond .ne 48, 3) := by decide +kernel
theorem dX6_addHypotheses_76 : decode cX6_addHypotheses 76 = .ok (.iload 4, 2) := by decide +kernel
theorem dX6_addHypotheses_78 : decode cX6_addHypotheses 78 = .ok (.iconst 1, 1) := by decide +kernel
theorem dX6_addHypotheses_79 : decode cX6_addHypotheses 79 = .ok (.iadd, 1) := by decide +kernel
theorem dX6_addHypotheses_80 : decode cX6_addHypotheses 80 = .ok (.aload_n 3, 1) := by decide +kernel
theorem dX6_addHypotheses_81 : decode cX6_addHypotheses 81 = .ok (.arraylength, 1) := by decide +kernel
theorem dX6_addHypotheses_82 : decode cX6_addHypotheses 82 = .ok (.if_icmp .ge 39, 3) := by decide +kernel
theorem dX6_addHypotheses_85 : decode cX6_addHypotheses 85 = .ok (.aload_n 3, 1) := by decide +kernel
theorem dX6_addHypotheses_86 : decode cX6_addHypotheses 86 = .ok (.iload 4, 2) := by decide +kernel
theorem dX6_addHypotheses_88 : decode cX6_addHypotheses 88 = .ok (.aload_n 0, 1) := by decide +kernel
theorem dX6_addHypotheses_89 : decode cX6_addHypotheses 89 = .ok (.getfield 39, 3) := by decide +kernel
theorem dX6_addHypotheses_92 : decode cX6_addHypotheses 92 = .ok (.iload 6, 2) := by decide +kernel
theorem dX6_addHypotheses_94 : decode cX6_addHypotheses 94 = .ok (.iconst 2, 1) := by decide +kernel
theorem dX6_addHypotheses_95 : decode cX6_addHypotheses 95 = .ok (.invokevirtual 109, 3) := by decide +kernel
theorem dX6_addHypotheses_98 : decode cX6_addHypotheses 98 = .ok (.iastore, 1) := by decide +kernel
theorem dX6_addHypotheses_99 : decode cX6_addHypotheses 99 = .ok (.aload_n 3, 1) := by decide +kernel
theorem dX6_addHypotheses_100 : decode cX6_addHypotheses 100 = .ok (.iload 4, 2) := by decide +kernel
theorem dX6_addHypotheses_102 : decode cX6_addHypotheses 102 = .ok (.iconst 1, 1) := by decide +kernel
theorem dX6_addHypotheses_103 : decode cX6_addHypotheses 103 = .ok (.iadd, 1) := by decide +kernel
theorem dX6_addHypotheses_104 : decode cX6_addHypotheses 104 = .ok (.aload_n 0, 1) := by decide +kernel
theorem dX6_addHypotheses_105 : decode cX6_addHypotheses 105 = .ok (.getfield 39, 3) := by decide +kernel
theorem dX6_addHypotheses_108 : decode cX6_addHypotheses 108 = .ok (.iload 6, 2) := by decide +kernel
theorem dX6_addHypotheses_110 : decode cX6_addHypotheses 110 = .ok (.iconst 1, 1) := by decide +kernel
theorem dX6_addHypotheses_111 : decode cX6_addHypotheses 111 = .ok (.invokevirtual 109, 3) := by decide +kernel
theorem dX6_addHypotheses_114 : decode cX6_addHypotheses 114 = .ok (.iastore, 1) := by decide +kernel
theorem dX6_addHypotheses_115 : decode cX6_addHypotheses 115 = .ok (.iinc 4 2, 3) := by decide +kernel
theorem dX6_addHypotheses_118 : decode cX6_addHypotheses 118 = .ok (.goto 37, 3) := by decide +kernel
theorem dX6_addHypotheses_121 : decode cX6_addHypotheses 121 = .ok (.iload 7, 2) := by decide +kernel
theorem dX6_addHypotheses_123 : decode cX6_addHypotheses 123 = .ok (.bipush 60, 2) := by decide +kernel
theorem dX6_addHypotheses_125 : decode cX6_addHypotheses 125 = .ok (.if_icmp .ge 30, 3) := by decide +kernel
theorem dX6_addHypotheses_128 : decode cX6_addHypotheses 128 = .ok (.aload_n 0, 1) := by decide +kernel
theorem dX6_addHypotheses_129 : decode cX6_addHypotheses 129 = .ok (.getfield 43, 3) := by decide +kernel
theorem dX6_addHypotheses_132 : decode cX6_addHypotheses 132 = .ok (.getfield 276, 3) := by decide +kernel
theorem dX6_addHypotheses_135 : decode cX6_addHypotheses 135 = .ok (.iload_n 1, 1) := by decide +kernel
theorem dX6_addHypotheses_136 : decode cX6_addHypotheses 136 = .ok (.aaload, 1) := by decide +kernel
theorem dX6_addHypotheses_137 : decode cX6_addHypotheses 137 = .ok (.iload 7, 2) := by decide +kernel
theorem dX6_addHypotheses_139 : decode cX6_addHypotheses 139 = .ok (.iload 6, 2) := by decide +kernel
theorem dX6_addHypotheses_141 : decode cX6_addHypotheses 141 = .ok (.iastore, 1) := by decide +kernel
theorem dX6_addHypotheses_142 : decode cX6_addHypotheses 142 = .ok (.aload_n 0, 1) := by decide +kernel
theorem dX6_addHypotheses_143 : decode cX6_addHypotheses 143 = .ok (.getfield 43, 3) := by decide +kernel
theorem dX6_addHypotheses_146 : decode cX6_addHypotheses 146 = .ok (.getfield 273, 3) := by decide +kernel
theorem dX6_addHypotheses_149 : decode cX6_addHypotheses 149 = .ok (.iload_n 1, 1) := by decide +kernel
theorem dX6_addHypotheses_150 : decode cX6_addHypotheses 150 = .ok (.dup2, 1) := by decide +kernel
theorem dX6_addHypotheses_151 : decode cX6_addHypotheses 151 = .ok (.iaload, 1) := by decide +kernel
theorem dX6_addHypotheses_152 : decode cX6_addHypotheses 152 = .ok (.iconst 1, 1) := by decide +kernel
theorem dX6_addHypotheses_153 : decode cX6_addHypotheses 153 = .ok (.iadd, 1) := by decide +kernel
theorem dX6_addHypotheses_154 : decode cX6_addHypotheses 154 = .ok (.iastore, 1) := by decide +kernel
theorem dX6_addHypotheses_155 : decode cX6_addHypotheses 155 = .ok (.iinc 5 1, 3) := by decide +kernel
theorem dX6_addHypotheses_158 : decode cX6_addHypotheses 158 = .ok (.goto (-140), 3) := by decide +kernel
theorem dX6_addHypotheses_161 : decode cX6_addHypotheses 161 = .ok (.return_, 1) := by decide +kernel

section
variable {p : Program} {l : Launch} {e : Env} {R : Room} {s : State} {m : MethodId} {args : Array Value} {below : List Frame} {meth : Method} {c : Code} {H : Heap} {locs : List Loc} {Qf : State → Prop}
variable {ls : Array Slot} {D : va_G} {ca : Nat → ClassId} {A : Nat → Prop} {ad : Nat → Nat → Nat} {u : iST}
def v_6_addHypotheses_121 (R18 : Int → Int → Int → iST → Prop) (Q : iST → Prop) (x1 : Int) (x4 : Int) (x5 : Int) (x6 : Int) (x7 : Int) (u : iST) : Prop :=
  br (60 ≤ x7) (
    ov (x5 + 1) (
    R18 x1 x4 (x5 + 1) u)) (
    bd x1 60 (
    bd x7 60 (sw (iA u 50 (60 * x1 + x7) x6) (fun u => 
    bd x1 60 (rd (u.2.1 9 x1) (fun v8 => 
    ov (v8 + 1) (
    bd x1 60 (sw (iA u 9 x1 (v8 + 1)) (fun u => 
    ov (x5 + 1) (
    R18 x1 x4 (x5 + 1) u))))))))))
set_option maxRecDepth 20000 in
set_option maxHeartbeats 4000000 in
theorem f_6_addHypotheses_121 (X : yX RX6 p m c cX6_addHypotheses 8 s args D ca ad A) (hRf : 1 ≤ R.frames) (hRl : 24 ≤ R.locals) {Q : iST → Prop} (hret : ∀ (u : iST) (H : Heap) (locs : List Loc) (ls : Array Slot) (pc : Nat), Q u → yW D ca A ad s H locs u → decode cX6_addHypotheses pc = .ok (.return_, 1) → W p l e R s m args below meth c H locs 0 0 Qf (F0 m pc ls [])) {R18 : Int → Int → Int → iST → Prop} (hR18 : ∀ (x1 : Int) (x4 : Int) (x5 : Int) (u : iST) (H : Heap) (locs : List Loc) (ls : Array Slot), inR x1 → inR x4 → inR x5 → yW D ca A ad s H locs u → lv_has ls 8 [(0, .ref (ad 0 5)), (1, .int (jI x1)), (3, .ref (ad 1 41)), (4, .int (jI x4)), (5, .int (jI x5))] → R18 x1 x4 x5 u → W p l e R s m args below meth c H locs 0 0 Qf (F0 m 18 ls [])) {x1 x4 x5 x6 x7 : Int} (rx1 : inR x1) (rx4 : inR x4) (rx5 : inR x5) (rx6 : inR x6) (rx7 : inR x7) (hw : yW D ca A ad s H locs u) (hl : lv_has ls 8 [(0, .ref (ad 0 5)), (1, .int (jI x1)), (3, .ref (ad 1 41)), (4, .int (jI x4)), (5, .int (jI x5)), (6, .int (jI x6)), (7, .int (jI x7))]) (h : v_6_addHypotheses_121 R18 Q x1 x4 x5 x6 x7 u) : W p l e R s m args below meth c H locs 0 0 Qf (F0 m 121 ls []) := by
  have hx := X.1.1
  have hb := X.1.2.1
  unfold v_6_addHypotheses_121 at h
  refine lv_iload hx hb dX6_addHypotheses_121 (lv_at hl 6 rfl) ?_
  refine lv_bipush hx hb dX6_addHypotheses_123 (v := jI 60) rfl ?_
  refine k_icmp_ge hx hb rx7 (by decide) dX6_addHypotheses_125 (tgt := 155) rfl h (fun h => ?_) (fun h => ?_)
  · refine k_iinc (k := 4) hx hb dX6_addHypotheses_155 hl rfl (by decide) rfl h (fun ls r5 h hl => ?_)
    have hl : lv_has ls 8 [(5, .int (jI (x5 + 1))), (0, .ref (ad 0 5)), (1, .int (jI x1)), (3, .ref (ad 1 41)), (4, .int (jI x4)), (6, .int (jI x6)), (7, .int (jI x7))] := hl
    refine lv_goto hx hb dX6_addHypotheses_158 (tgt := 18) rfl ?_
    exact hR18 _ _ _ _ H locs ls rx1 rx4 r5 hw (lv_sub hl [1, 2, 3, 4, 0] rfl) h
  · refine lv_aload_n hx hb dX6_addHypotheses_128 rfl (lv_at hl 0 rfl) ?_
    refine yg_6_43 X hw dX6_addHypotheses_129 ?_
    refine yg_6_276 X hw dX6_addHypotheses_132 ?_
    refine lv_iload_n hx hb dX6_addHypotheses_135 rfl (lv_at hl 1 rfl) ?_
    have q6 := h
    have r7 : (0 ≤ x1 ∧ x1 < 60) := ⟨q6.1, by have := q6.2.1; omega⟩
    refine yx_0 X hw rx1 dX6_addHypotheses_136 h (fun h => ?_)
    refine lv_iload hx hb dX6_addHypotheses_137 (lv_at hl 6 rfl) ?_
    refine lv_iload hx hb dX6_addHypotheses_139 (lv_at hl 5 rfl) ?_
    refine yft_hyps X hw r7 rx7 rx6 dX6_addHypotheses_141 h (fun H locs u hw h => ?_)
    refine lv_aload_n hx hb dX6_addHypotheses_142 rfl (lv_at hl 0 rfl) ?_
    refine yg_6_43 X hw dX6_addHypotheses_143 ?_
    refine yg_6_273 X hw dX6_addHypotheses_146 ?_
    refine lv_iload_n hx hb dX6_addHypotheses_149 rfl (lv_at hl 1 rfl) ?_
    refine lv_dup2_11 hx hb dX6_addHypotheses_150 rfl rfl ?_
    refine yl_9 X hw rx1 dX6_addHypotheses_151 h (fun v8 rv8 h => ?_)
    refine lv_iconst hx hb dX6_addHypotheses_152 (v := jI 1) rfl ?_
    refine k_iadd hx hb dX6_addHypotheses_153 h (fun r9 h => ?_)
    refine yt_9 X hw rx1 r9 dX6_addHypotheses_154 h (fun H locs u hw h => ?_)
    refine k_iinc (k := 4) hx hb dX6_addHypotheses_155 hl rfl (by decide) rfl h (fun ls r10 h hl => ?_)
    have hl : lv_has ls 8 [(5, .int (jI (x5 + 1))), (0, .ref (ad 0 5)), (1, .int (jI x1)), (3, .ref (ad 1 41)), (4, .int (jI x4)), (6, .int (jI x6)), (7, .int (jI x7))] := hl
    refine lv_goto hx hb dX6_addHypotheses_158 (tgt := 18) rfl ?_
    exact hR18 _ _ _ _ H locs ls rx1 rx4 r10 hw (lv_sub hl [1, 2, 3, 4, 0] rfl) h

def v_6_addHypotheses_18b (R18 : Int → Int → Int → iST → Prop) (Q : iST → Prop) (x1 : Int) (x4 : Int) (x5 : Int) (u : iST) : Prop :=
  br (1000000 ≤ x5) (
    Q u) (
    br (x4 ≤ 0) (
      Q u) (
      ov (x4 + (-1)) (
      bd (x4 + (-1)) 128 (rd (u.2.1 41 (x4 + (-1))) (fun v2 => 
      bd x1 60 (rd (u.2.1 9 x1) (fun v3 => 
      v_7_isCallOf v2 3 (fun v4 u => 
      br (v4 = 0) (
        v_6_addHypotheses_121 R18 Q x1 (x4 + (-1)) x5 v2 v3 u) (
        v_7_item v2 3 (fun v11 u => 
        br (v11 ≠ 0) (
          v_6_addHypotheses_121 R18 Q x1 (x4 + (-1)) x5 v2 v3 u) (
          ov ((x4 + (-1)) + 1) (
          br (128 ≤ ((x4 + (-1)) + 1)) (
            v_6_addHypotheses_121 R18 Q x1 (x4 + (-1)) x5 v2 v3 u) (
            v_7_item v2 2 (fun v13 u => 
            bd (x4 + (-1)) 128 (sw (iA u 41 (x4 + (-1)) v13) (fun u => 
            ov ((x4 + (-1)) + 1) (
            v_7_item v2 1 (fun v15 u => 
            bd ((x4 + (-1)) + 1) 128 (sw (iA u 41 ((x4 + (-1)) + 1) v15) (fun u => 
            ov ((x4 + (-1)) + 2) (
            ov (x5 + 1) (
            R18 x1 ((x4 + (-1)) + 2) (x5 + 1) u))))) u)))) u)))) u)) u)))))))
def v_6_addHypotheses_18 (Q : iST → Prop) (x1 : Int) (x4 : Int) (x5 : Int) (u : iST) : Prop := ∀ R18 : Int → Int → Int → iST → Prop, (∀ (x1 : Int) (x4 : Int) (x5 : Int) (u : iST), v_6_addHypotheses_18b R18 Q x1 x4 x5 u → R18 x1 x4 x5 u) → R18 x1 x4 x5 u
set_option maxRecDepth 20000 in
set_option maxHeartbeats 4000000 in
theorem f_6_addHypotheses_18 (X : yX RX6 p m c cX6_addHypotheses 8 s args D ca ad A) (hRf : 1 ≤ R.frames) (hRl : 24 ≤ R.locals) {Q : iST → Prop} (hret : ∀ (u : iST) (H : Heap) (locs : List Loc) (ls : Array Slot) (pc : Nat), Q u → yW D ca A ad s H locs u → decode cX6_addHypotheses pc = .ok (.return_, 1) → W p l e R s m args below meth c H locs 0 0 Qf (F0 m pc ls [])) {x1 x4 x5 : Int} (rx1 : inR x1) (rx4 : inR x4) (rx5 : inR x5) (hw : yW D ca A ad s H locs u) (hl : lv_has ls 8 [(0, .ref (ad 0 5)), (1, .int (jI x1)), (3, .ref (ad 1 41)), (4, .int (jI x4)), (5, .int (jI x5))]) (h : v_6_addHypotheses_18 Q x1 x4 x5 u) : W p l e R s m args below meth c H locs 0 0 Qf (F0 m 18 ls []) := by
  refine h (fun x1 x4 x5 u => ∀ (H : Heap) (locs : List Loc) (ls : Array Slot), inR x1 → inR x4 → inR x5 → yW D ca A ad s H locs u → lv_has ls 8 [(0, .ref (ad 0 5)), (1, .int (jI x1)), (3, .ref (ad 1 41)), (4, .int (jI x4)), (5, .int (jI x5))] → W p l e R s m args below meth c H locs 0 0 Qf (F0 m 18 ls [])) ?_ H locs ls rx1 rx4 rx5 hw hl
  clear h hl hw rx1 rx4 rx5
  intro x1 x4 x5 u h H locs ls rx1 rx4 rx5 hw hl
  have hR18 : ∀ (x1 : Int) (x4 : Int) (x5 : Int) (u : iST) (H : Heap) (locs : List Loc) (ls : Array Slot), inR x1 → inR x4 → inR x5 → yW D ca A ad s H locs u → lv_has ls 8 [(0, .ref (ad 0 5)), (1, .int (jI x1)), (3, .ref (ad 1 41)), (4, .int (jI x4)), (5, .int (jI x5))] → (fun (x1 : Int) (x4 : Int) (x5 : Int) u => ∀ (H : Heap) (locs : List Loc) (ls : Array Slot), inR x1 → inR x4 → inR x5 → yW D ca A ad s H locs u → lv_has ls 8 [(0, .ref (ad 0 5)), (1, .int (jI x1)), (3, .ref (ad 1 41)), (4, .int (jI x4)), (5, .int (jI x5))] → W p l e R s m args below meth c H locs 0 0 Qf (F0 m 18 ls [])) x1 x4 x5 u → W p l e R s m args below meth c H locs 0 0 Qf (F0 m 18 ls []) := fun x1 x4 x5 u H locs ls rx1 rx4 rx5 hw hl h => h H locs ls rx1 rx4 rx5 hw hl
  have hx := X.1.1
  have hb := X.1.2.1
  unfold v_6_addHypotheses_18b at h
  refine lv_iload hx hb dX6_addHypotheses_18 (lv_at hl 4 rfl) ?_
  refine yld 76 yK_6_76 X dX6_addHypotheses_20 ?_
  refine k_icmp_ge hx hb rx5 (by decide) dX6_addHypotheses_22 (tgt := 161) rfl h (fun h => ?_) (fun h => ?_)
  · exact hret _ _ _ _ _ h hw dX6_addHypotheses_161
  · refine lv_iload hx hb dX6_addHypotheses_25 (lv_at hl 3 rfl) ?_
    refine k_if_le hx hb rx4 dX6_addHypotheses_27 (tgt := 161) rfl h (fun h => ?_) (fun h => ?_)
    · exact hret _ _ _ _ _ h hw dX6_addHypotheses_161
    · refine k_iinc (k := 3) hx hb dX6_addHypotheses_30 hl rfl (by decide) rfl h (fun ls r1 h hl => ?_)
      have hl : lv_has ls 8 [(4, .int (jI (x4 + (-1)))), (0, .ref (ad 0 5)), (1, .int (jI x1)), (3, .ref (ad 1 41)), (5, .int (jI x5))] := hl
      refine lv_aload_n hx hb dX6_addHypotheses_33 rfl (lv_at hl 3 rfl) ?_
      refine lv_iload hx hb dX6_addHypotheses_34 (lv_at hl 0 rfl) ?_
      refine yl_41 X hw r1 dX6_addHypotheses_36 h (fun v2 rv2 h => ?_)
      refine lv_istore hx hb dX6_addHypotheses_37 hl (by decide) rfl (fun ls hl => ?_)
      have hl : lv_has ls 8 [(6, .int (jI v2)), (4, .int (jI (x4 + (-1)))), (0, .ref (ad 0 5)), (1, .int (jI x1)), (3, .ref (ad 1 41)), (5, .int (jI x5))] := hl
      refine lv_aload_n hx hb dX6_addHypotheses_39 rfl (lv_at hl 2 rfl) ?_
      refine yg_6_43 X hw dX6_addHypotheses_40 ?_
      refine yg_6_273 X hw dX6_addHypotheses_43 ?_
      refine lv_iload_n hx hb dX6_addHypotheses_46 rfl (lv_at hl 3 rfl) ?_
      refine yl_9 X hw rx1 dX6_addHypotheses_47 h (fun v3 rv3 h => ?_)
      refine lv_istore hx hb dX6_addHypotheses_48 hl (by decide) rfl (fun ls hl => ?_)
      have hl : lv_has ls 8 [(7, .int (jI v3)), (6, .int (jI v2)), (4, .int (jI (x4 + (-1)))), (0, .ref (ad 0 5)), (1, .int (jI x1)), (3, .ref (ad 1 41)), (5, .int (jI x5))] := hl
      refine lv_aload_n hx hb dX6_addHypotheses_50 rfl (lv_at hl 3 rfl) ?_
      refine yg_6_39 X hw dX6_addHypotheses_51 ?_
      refine lv_iload hx hb dX6_addHypotheses_54 (lv_at hl 1 rfl) ?_
      refine lv_iconst hx hb dX6_addHypotheses_56 (v := jI 3) rfl ?_
      refine ycI (n := 2) (e_7_isCallOf rv2 (by decide) h) 7 6 (r := (RX7, TX7, 9)) rfl yG_6_175 yD_7_isCallOf X hw rfl yGo_7 (Nat.le_trans (Nat.le_of_ble_eq_true rfl) hRf) (Nat.le_trans (Nat.le_of_ble_eq_true rfl) hRl) rfl hl.1 (Nat.le_of_ble_eq_true rfl) rfl dX6_addHypotheses_57 (fun v4 u H locs rv4 h hw => ?_)
      refine k_if_eq hx hb rv4 dX6_addHypotheses_60 (tgt := 121) rfl h (fun h => ?_) (fun h => ?_)
      · exact f_6_addHypotheses_121 X hRf hRl hret hR18 rx1 r1 rx5 rv2 rv3 hw (lv_sub hl [3, 4, 5, 2, 6, 1, 0] rfl) h
      · refine lv_aload_n hx hb dX6_addHypotheses_63 rfl (lv_at hl 3 rfl) ?_
        refine yg_6_39 X hw dX6_addHypotheses_64 ?_
        refine lv_iload hx hb dX6_addHypotheses_67 (lv_at hl 1 rfl) ?_
        refine lv_iconst hx hb dX6_addHypotheses_69 (v := jI 3) rfl ?_
        refine ycI (n := 2) (e_7_item rv2 (by decide) h) 7 6 (r := (RX7, TX7, 9)) rfl yG_6_109 yD_7_item X hw rfl yGo_7 (Nat.le_trans (Nat.le_of_ble_eq_true rfl) hRf) (Nat.le_trans (Nat.le_of_ble_eq_true rfl) hRl) rfl hl.1 (Nat.le_of_ble_eq_true rfl) rfl dX6_addHypotheses_70 (fun v11 u H locs rv11 h hw => ?_)
        refine k_if_ne hx hb rv11 dX6_addHypotheses_73 (tgt := 121) rfl h (fun h => ?_) (fun h => ?_)
        · exact f_6_addHypotheses_121 X hRf hRl hret hR18 rx1 r1 rx5 rv2 rv3 hw (lv_sub hl [3, 4, 5, 2, 6, 1, 0] rfl) h
        · refine lv_iload hx hb dX6_addHypotheses_76 (lv_at hl 2 rfl) ?_
          refine lv_iconst hx hb dX6_addHypotheses_78 (v := jI 1) rfl ?_
          refine k_iadd hx hb dX6_addHypotheses_79 h (fun r12 h => ?_)
          refine lv_aload_n hx hb dX6_addHypotheses_80 rfl (lv_at hl 5 rfl) ?_
          refine yn_41 X hw dX6_addHypotheses_81 ?_
          refine k_icmp_ge hx hb r12 (by decide) dX6_addHypotheses_82 (tgt := 121) rfl h (fun h => ?_) (fun h => ?_)
          · exact f_6_addHypotheses_121 X hRf hRl hret hR18 rx1 r1 rx5 rv2 rv3 hw (lv_sub hl [3, 4, 5, 2, 6, 1, 0] rfl) h
          · refine lv_aload_n hx hb dX6_addHypotheses_85 rfl (lv_at hl 5 rfl) ?_
            refine lv_iload hx hb dX6_addHypotheses_86 (lv_at hl 2 rfl) ?_
            refine lv_aload_n hx hb dX6_addHypotheses_88 rfl (lv_at hl 3 rfl) ?_
            refine yg_6_39 X hw dX6_addHypotheses_89 ?_
            refine lv_iload hx hb dX6_addHypotheses_92 (lv_at hl 1 rfl) ?_
            refine lv_iconst hx hb dX6_addHypotheses_94 (v := jI 2) rfl ?_
            refine ycI (n := 2) (e_7_item rv2 (by decide) h) 7 6 (r := (RX7, TX7, 9)) rfl yG_6_109 yD_7_item X hw rfl yGo_7 (Nat.le_trans (Nat.le_of_ble_eq_true rfl) hRf) (Nat.le_trans (Nat.le_of_ble_eq_true rfl) hRl) rfl hl.1 (Nat.le_of_ble_eq_true rfl) rfl dX6_addHypotheses_95 (fun v13 u H locs rv13 h hw => ?_)
            refine yt_41 X hw r1 rv13 dX6_addHypotheses_98 h (fun H locs u hw h => ?_)
            refine lv_aload_n hx hb dX6_addHypotheses_99 rfl (lv_at hl 5 rfl) ?_
            refine lv_iload hx hb dX6_addHypotheses_100 (lv_at hl 2 rfl) ?_
            refine lv_iconst hx hb dX6_addHypotheses_102 (v := jI 1) rfl ?_
            refine k_iadd hx hb dX6_addHypotheses_103 h (fun r14 h => ?_)
            refine lv_aload_n hx hb dX6_addHypotheses_104 rfl (lv_at hl 3 rfl) ?_
            refine yg_6_39 X hw dX6_addHypotheses_105 ?_
            refine lv_iload hx hb dX6_addHypotheses_108 (lv_at hl 1 rfl) ?_
            refine lv_iconst hx hb dX6_addHypotheses_110 (v := jI 1) rfl ?_
            refine ycI (n := 2) (e_7_item rv2 (by decide) h) 7 6 (r := (RX7, TX7, 9)) rfl yG_6_109 yD_7_item X hw rfl yGo_7 (Nat.le_trans (Nat.le_of_ble_eq_true rfl) hRf) (Nat.le_trans (Nat.le_of_ble_eq_true rfl) hRl) rfl hl.1 (Nat.le_of_ble_eq_true rfl) rfl dX6_addHypotheses_111 (fun v15 u H locs rv15 h hw => ?_)
            refine yt_41 X hw r14 rv15 dX6_addHypotheses_114 h (fun H locs u hw h => ?_)
            refine k_iinc (k := 2) hx hb dX6_addHypotheses_115 hl rfl (by decide) rfl h (fun ls r16 h hl => ?_)
            have hl : lv_has ls 8 [(4, .int (jI ((x4 + (-1)) + 2))), (7, .int (jI v3)), (6, .int (jI v2)), (0, .ref (ad 0 5)), (1, .int (jI x1)), (3, .ref (ad 1 41)), (5, .int (jI x5))] := hl
            refine lv_goto hx hb dX6_addHypotheses_118 (tgt := 155) rfl ?_
            refine k_iinc (k := 6) hx hb dX6_addHypotheses_155 hl rfl (by decide) rfl h (fun ls r17 h hl => ?_)
            have hl : lv_has ls 8 [(5, .int (jI (x5 + 1))), (4, .int (jI ((x4 + (-1)) + 2))), (7, .int (jI v3)), (6, .int (jI v2)), (0, .ref (ad 0 5)), (1, .int (jI x1)), (3, .ref (ad 1 41))] := hl
            refine lv_goto hx hb dX6_addHypotheses_158 (tgt := 18) rfl ?_
            exact hR18 _ _ _ _ H locs ls rx1 r16 r17 hw (lv_sub hl [4, 5, 6, 1, 0] rfl) h

def v_6_addHypotheses (a0 : Int) (a1 : Int) (Q : iST → Prop) (u : iST) : Prop :=
  bd 0 128 (sw (iA u 41 0 a1) (fun u => 
  v_6_addHypotheses_18 Q a0 1 0 u))
set_option maxRecDepth 20000 in
set_option maxHeartbeats 4000000 in
theorem f_6_addHypotheses_s (X : yX RX6 p m c cX6_addHypotheses 8 s args D ca ad A) (hRf : 1 ≤ R.frames) (hRl : 24 ≤ R.locals) {Q : iST → Prop} (hret : ∀ (u : iST) (H : Heap) (locs : List Loc) (ls : Array Slot) (pc : Nat), Q u → yW D ca A ad s H locs u → decode cX6_addHypotheses pc = .ok (.return_, 1) → W p l e R s m args below meth c H locs 0 0 Qf (F0 m pc ls [])) {a0 a1 : Int} (ra0 : inR a0) (ra1 : inR a1) (hw : yW D ca A ad s H locs u) (hl : lv_has ls 8 [(0, .ref (ad 0 5)), (1, .int (jI a0)), (2, .int (jI a1))]) (h : v_6_addHypotheses a0 a1 Q u) : W p l e R s m args below meth c H locs 0 0 Qf (F0 m 0 ls []) := by
  have hx := X.1.1
  have hb := X.1.2.1
  unfold v_6_addHypotheses at h
  refine lv_aload_n hx hb dX6_addHypotheses_0 rfl (lv_at hl 0 rfl) ?_
  refine yg_6_47 X hw dX6_addHypotheses_1 ?_
  refine yg_6_317 X hw dX6_addHypotheses_4 ?_
  refine lv_astore_n hx hb dX6_addHypotheses_7 rfl hl (by decide) rfl (fun ls hl => ?_)
  have hl : lv_has ls 8 [(3, .ref (ad 1 41)), (0, .ref (ad 0 5)), (1, .int (jI a0)), (2, .int (jI a1))] := hl
  refine lv_aload_n hx hb dX6_addHypotheses_8 rfl (lv_at hl 0 rfl) ?_
  refine lv_iconst hx hb dX6_addHypotheses_9 (v := jI 0) rfl ?_
  refine lv_iload_n hx hb dX6_addHypotheses_10 rfl (lv_at hl 3 rfl) ?_
  refine yt_41 X hw (by decide) ra1 dX6_addHypotheses_11 h (fun H locs u hw h => ?_)
  refine lv_iconst hx hb dX6_addHypotheses_12 (v := jI 1) rfl ?_
  refine lv_istore hx hb dX6_addHypotheses_13 hl (by decide) rfl (fun ls hl => ?_)
  have hl : lv_has ls 8 [(4, .int (jI 1)), (3, .ref (ad 1 41)), (0, .ref (ad 0 5)), (1, .int (jI a0)), (2, .int (jI a1))] := hl
  refine lv_iconst hx hb dX6_addHypotheses_15 (v := jI 0) rfl ?_
  refine lv_istore hx hb dX6_addHypotheses_16 hl (by decide) rfl (fun ls hl => ?_)
  have hl : lv_has ls 8 [(5, .int (jI 0)), (4, .int (jI 1)), (3, .ref (ad 1 41)), (0, .ref (ad 0 5)), (1, .int (jI a0)), (2, .int (jI a1))] := hl
  exact f_6_addHypotheses_18 X hRf hRl hret ra0 (by decide) (by decide) hw (lv_sub hl [3, 4, 2, 1, 0] rfl) h

end
theorem e_6_addHypotheses {l : Launch} {a0 : Int} {a1 : Int} (ra0 : inR a0) (ra1 : inR a1) {Q : iST → Prop} {u : iST} (h : v_6_addHypotheses a0 a1 Q u) : yMV l yX6_addHypotheses (.code yX6_addHypotheses cX6_addHypotheses 8 none :: wsN) { frames := 1, cells := 0, slots := 0, locals := 24 } (fun ad => [.ref (ad 0 5), .int (jI a0), .int (jI a1)]) Q u := yMV_of (own := RX6) rfl (by decide +kernel) (fun _ => Nat.le_of_ble_eq_true rfl) (fun X hRf hRl hret hw hl => f_6_addHypotheses_s X hRf hRl hret ra0 ra1 hw hl h)

/-! ProofHouse$Terms.bindVariablesOf -/
theorem dX10_bindVariablesOf_0 : decode cX10_bindVariablesOf 0 = .ok (.aload_n 0, 1) := by decide +kernel
theorem dX10_bindVariablesOf_1 : decode cX10_bindVariablesOf 1 = .ok (.iconst 0, 1) := by decide +kernel
theorem dX10_bindVariablesOf_2 : decode cX10_bindVariablesOf 2 = .ok (.putfield 25, 3) := by decide +kernel
theorem dX10_bindVariablesOf_5 : decode cX10_bindVariablesOf 5 = .ok (.aload_n 0, 1) := by decide +kernel
theorem dX10_bindVariablesOf_6 : decode cX10_bindVariablesOf 6 = .ok (.iload_n 1, 1) := by decide +kernel
theorem dX10_bindVariablesOf_7 : decode cX10_bindVariablesOf 7 = .ok (.invokevirtual 149, 3) := by decide +kernel
theorem dX10_bindVariablesOf_10 : decode cX10_bindVariablesOf 10 = .ok (.istore_n 2, 1) := by decide +kernel
theorem dX10_bindVariablesOf_11 : decode cX10_bindVariablesOf 11 = .ok (.iconst 0, 1) := by decide +kernel
theorem dX10_bindVariablesOf_12 : decode cX10_bindVariablesOf 12 = .ok (.istore_n 3, 1) := by decide +kernel
theorem dX10_bindVariablesOf_13 : decode cX10_bindVariablesOf 13 = .ok (.iload_n 3, 1) := by decide +kernel
theorem dX10_bindVariablesOf_14 : decode cX10_bindVariablesOf 14 = .ok (.iload_n 2, 1) := by decide +kernel
theorem dX10_bindVariablesOf_15 : decode cX10_bindVariablesOf 15 = .ok (.if_icmp .ge 55, 3) := by decide +kernel
theorem dX10_bindVariablesOf_18 : decode cX10_bindVariablesOf 18 = .ok (.aload_n 0, 1) := by decide +kernel
theorem dX10_bindVariablesOf_19 : decode cX10_bindVariablesOf 19 = .ok (.getfield 55, 3) := by decide +kernel
theorem dX10_bindVariablesOf_22 : decode cX10_bindVariablesOf 22 = .ok (.aload_n 0, 1) := by decide +kernel
theorem dX10_bindVariablesOf_23 : decode cX10_bindVariablesOf 23 = .ok (.getfield 52, 3) := by decide +kernel
theorem dX10_bindVariablesOf_26 : decode cX10_bindVariablesOf 26 = .ok (.iload_n 3, 1) := by decide +kernel
theorem dX10_bindVariablesOf_27 : decode cX10_bindVariablesOf 27 = .ok (.iaload, 1) := by decide +kernel
theorem dX10_bindVariablesOf_28 : decode cX10_bindVariablesOf 28 = .ok (.invokevirtual 106, 3) := by decide +kernel
theorem dX10_bindVariablesOf_31 : decode cX10_bindVariablesOf 31 = .ok (.ifCond .eq 33, 3) := by decide +kernel
theorem dX10_bindVariablesOf_34 : decode cX10_bindVariablesOf 34 = .ok (.aload_n 0, 1) := by decide +kernel
theorem dX10_bindVariablesOf_35 : decode cX10_bindVariablesOf 35 = .ok (.aload_n 0, 1) := by decide +kernel
theorem dX10_bindVariablesOf_36 : decode cX10_bindVariablesOf 36 = .ok (.getfield 52, 3) := by decide +kernel
theorem dX10_bindVariablesOf_39 : decode cX10_bindVariablesOf 39 = .ok (.iload_n 3, 1) := by decide +kernel
theorem dX10_bindVariablesOf_40 : decode cX10_bindVariablesOf 40 = .ok (.iaload, 1) := by decide +kernel
theorem dX10_bindVariablesOf_41 : decode cX10_bindVariablesOf 41 = .ok (.invokevirtual 109, 3) := by decide +kernel
theorem dX10_bindVariablesOf_44 : decode cX10_bindVariablesOf 44 = .ok (.iconst (-1), 1) := by decide +kernel
theorem dX10_bindVariablesOf_45 : decode cX10_bindVariablesOf 45 = .ok (.if_icmp .ne 19, 3) := by decide +kernel
theorem dX10_bindVariablesOf_48 : decode cX10_bindVariablesOf 48 = .ok (.aload_n 0, 1) := by decide +kernel
theorem dX10_bindVariablesOf_49 : decode cX10_bindVariablesOf 49 = .ok (.aload_n 0, 1) := by decide +kernel
theorem dX10_bindVariablesOf_50 : decode cX10_bindVariablesOf 50 = .ok (.getfield 52, 3) := by decide +kernel
theorem dX10_bindVariablesOf_53 : decode cX10_bindVariablesOf 53 = .ok (.iload_n 3, 1) := by decide +kernel
theorem dX10_bindVariablesOf_54 : decode cX10_bindVariablesOf 54 = .ok (.iaload, 1) := by decide +kernel
theorem dX10_bindVariablesOf_55 : decode cX10_bindVariablesOf 55 = .ok (.aload_n 0, 1) := by decide +kernel
theorem dX10_bindVariablesOf_56 : decode cX10_bindVariablesOf 56 = .ok (.getfield 52, 3) := by decide +kernel
theorem dX10_bindVariablesOf_59 : decode cX10_bindVariablesOf 59 = .ok (.iload_n 3, 1) := by decide +kernel
theorem dX10_bindVariablesOf_60 : decode cX10_bindVariablesOf 60 = .ok (.iaload, 1) := by decide +kernel
theorem dX10_bindVariablesOf_61 : decode cX10_bindVariablesOf 61 = .ok (.invokevirtual 129, 3) := by decide +kernel
theorem dX10_bindVariablesOf_64 : decode cX10_bindVariablesOf 64 = .ok (.iinc 3 1, 3) := by decide +kernel
theorem dX10_bindVariablesOf_67 : decode cX10_bindVariablesOf 67 = .ok (.goto (-54), 3) := by decide +kernel
theorem dX10_bindVariablesOf_70 : decode cX10_bindVariablesOf 70 = .ok (.return_, 1) := by decide +kernel

section
variable {p : Program} {l : Launch} {e : Env} {R : Room} {s : State} {m : MethodId} {args : Array Value} {below : List Frame} {meth : Method} {c : Code} {H : Heap} {locs : List Loc} {Qf : State → Prop}
variable {ls : Array Slot} {D : va_G} {ca : Nat → ClassId} {A : Nat → Prop} {ad : Nat → Nat → Nat} {u : iST}
def v_10_bindVariablesOf_13b (R13 : Int → Int → iST → Prop) (Q : iST → Prop) (x2 : Int) (x3 : Int) (u : iST) : Prop :=
  br (x2 ≤ x3) (
    Q u) (
    bd x3 128 (rd (u.2.1 43 x3) (fun v2 => 
    v_7_isVariable v2 (fun v3 u => 
    br (v3 = 0) (
      ov (x3 + 1) (
      R13 x2 (x3 + 1) u)) (
      bd x3 128 (rd (u.2.1 43 x3) (fun v5 => 
      v_10_standsFor v5 (fun v6 u => 
      br (v6 ≠ (-1)) (
        ov (x3 + 1) (
        R13 x2 (x3 + 1) u)) (
        bd x3 128 (rd (u.2.1 43 x3) (fun v8 => 
        bd x3 128 (rd (u.2.1 43 x3) (fun v9 => 
        v_10_bind v8 v9 (fun u => 
        ov (x3 + 1) (
        R13 x2 (x3 + 1) u)) u)))))) u)))) u)))
def v_10_bindVariablesOf_13 (Q : iST → Prop) (x2 : Int) (x3 : Int) (u : iST) : Prop := ∀ R13 : Int → Int → iST → Prop, (∀ (x2 : Int) (x3 : Int) (u : iST), v_10_bindVariablesOf_13b R13 Q x2 x3 u → R13 x2 x3 u) → R13 x2 x3 u
set_option maxRecDepth 20000 in
set_option maxHeartbeats 4000000 in
theorem f_10_bindVariablesOf_13 (X : yX RX10 p m c cX10_bindVariablesOf 4 s args D ca ad A) (hRf : 2 ≤ R.frames) (hRl : 50 ≤ R.locals) {Q : iST → Prop} (hret : ∀ (u : iST) (H : Heap) (locs : List Loc) (ls : Array Slot) (pc : Nat), Q u → yW D ca A ad s H locs u → decode cX10_bindVariablesOf pc = .ok (.return_, 1) → W p l e R s m args below meth c H locs 0 0 Qf (F0 m pc ls [])) {x2 x3 : Int} (rx2 : inR x2) (rx3 : inR x3) (hw : yW D ca A ad s H locs u) (hl : lv_has ls 4 [(0, .ref (ad 0 8)), (2, .int (jI x2)), (3, .int (jI x3))]) (h : v_10_bindVariablesOf_13 Q x2 x3 u) : W p l e R s m args below meth c H locs 0 0 Qf (F0 m 13 ls []) := by
  refine h (fun x2 x3 u => ∀ (H : Heap) (locs : List Loc) (ls : Array Slot), inR x2 → inR x3 → yW D ca A ad s H locs u → lv_has ls 4 [(0, .ref (ad 0 8)), (2, .int (jI x2)), (3, .int (jI x3))] → W p l e R s m args below meth c H locs 0 0 Qf (F0 m 13 ls [])) ?_ H locs ls rx2 rx3 hw hl
  clear h hl hw rx2 rx3
  intro x2 x3 u h H locs ls rx2 rx3 hw hl
  have hR13 : ∀ (x2 : Int) (x3 : Int) (u : iST) (H : Heap) (locs : List Loc) (ls : Array Slot), inR x2 → inR x3 → yW D ca A ad s H locs u → lv_has ls 4 [(0, .ref (ad 0 8)), (2, .int (jI x2)), (3, .int (jI x3))] → (fun (x2 : Int) (x3 : Int) u => ∀ (H : Heap) (locs : List Loc) (ls : Array Slot), inR x2 → inR x3 → yW D ca A ad s H locs u → lv_has ls 4 [(0, .ref (ad 0 8)), (2, .int (jI x2)), (3, .int (jI x3))] → W p l e R s m args below meth c H locs 0 0 Qf (F0 m 13 ls [])) x2 x3 u → W p l e R s m args below meth c H locs 0 0 Qf (F0 m 13 ls []) := fun x2 x3 u H locs ls rx2 rx3 hw hl h => h H locs ls rx2 rx3 hw hl
  have hx := X.1.1
  have hb := X.1.2.1
  unfold v_10_bindVariablesOf_13b at h
  refine lv_iload_n hx hb dX10_bindVariablesOf_13 rfl (lv_at hl 2 rfl) ?_
  refine lv_iload_n hx hb dX10_bindVariablesOf_14 rfl (lv_at hl 1 rfl) ?_
  refine k_icmp_ge hx hb rx3 rx2 dX10_bindVariablesOf_15 (tgt := 70) rfl h (fun h => ?_) (fun h => ?_)
  · exact hret _ _ _ _ _ h hw dX10_bindVariablesOf_70
  · refine lv_aload_n hx hb dX10_bindVariablesOf_18 rfl (lv_at hl 0 rfl) ?_
    refine yg_10_55 X hw dX10_bindVariablesOf_19 ?_
    refine lv_aload_n hx hb dX10_bindVariablesOf_22 rfl (lv_at hl 0 rfl) ?_
    refine yg_10_52 X hw dX10_bindVariablesOf_23 ?_
    refine lv_iload_n hx hb dX10_bindVariablesOf_26 rfl (lv_at hl 2 rfl) ?_
    refine yl_43 X hw rx3 dX10_bindVariablesOf_27 h (fun v2 rv2 h => ?_)
    refine ycI (n := 1) (e_7_isVariable rv2 h) 7 6 (r := (RX7, TX7, 9)) rfl yG_10_106 yD_7_isVariable X hw rfl yGo_7 (Nat.le_trans (Nat.le_of_ble_eq_true rfl) hRf) (Nat.le_trans (Nat.le_of_ble_eq_true rfl) hRl) rfl hl.1 (Nat.le_of_ble_eq_true rfl) rfl dX10_bindVariablesOf_28 (fun v3 u H locs rv3 h hw => ?_)
    refine k_if_eq hx hb rv3 dX10_bindVariablesOf_31 (tgt := 64) rfl h (fun h => ?_) (fun h => ?_)
    · refine k_iinc (k := 2) hx hb dX10_bindVariablesOf_64 hl rfl (by decide) rfl h (fun ls r4 h hl => ?_)
      have hl : lv_has ls 4 [(3, .int (jI (x3 + 1))), (0, .ref (ad 0 8)), (2, .int (jI x2))] := hl
      refine lv_goto hx hb dX10_bindVariablesOf_67 (tgt := 13) rfl ?_
      exact hR13 _ _ _ H locs ls rx2 r4 hw (lv_sub hl [1, 2, 0] rfl) h
    · refine lv_aload_n hx hb dX10_bindVariablesOf_34 rfl (lv_at hl 0 rfl) ?_
      refine lv_aload_n hx hb dX10_bindVariablesOf_35 rfl (lv_at hl 0 rfl) ?_
      refine yg_10_52 X hw dX10_bindVariablesOf_36 ?_
      refine lv_iload_n hx hb dX10_bindVariablesOf_39 rfl (lv_at hl 2 rfl) ?_
      refine yl_43 X hw rx3 dX10_bindVariablesOf_40 h (fun v5 rv5 h => ?_)
      refine ycI (n := 1) (e_10_standsFor rv5 h) 10 8 (r := (RX10, TX10, 16)) rfl yG_10_109 yD_10_standsFor X hw rfl yGo_10 (Nat.le_trans (Nat.le_of_ble_eq_true rfl) hRf) (Nat.le_trans (Nat.le_of_ble_eq_true rfl) hRl) rfl hl.1 (Nat.le_of_ble_eq_true rfl) rfl dX10_bindVariablesOf_41 (fun v6 u H locs rv6 h hw => ?_)
      refine lv_iconst hx hb dX10_bindVariablesOf_44 (v := jI (-1)) rfl ?_
      refine k_icmp_ne hx hb rv6 (by decide) dX10_bindVariablesOf_45 (tgt := 64) rfl h (fun h => ?_) (fun h => ?_)
      · refine k_iinc (k := 2) hx hb dX10_bindVariablesOf_64 hl rfl (by decide) rfl h (fun ls r7 h hl => ?_)
        have hl : lv_has ls 4 [(3, .int (jI (x3 + 1))), (0, .ref (ad 0 8)), (2, .int (jI x2))] := hl
        refine lv_goto hx hb dX10_bindVariablesOf_67 (tgt := 13) rfl ?_
        exact hR13 _ _ _ H locs ls rx2 r7 hw (lv_sub hl [1, 2, 0] rfl) h
      · refine lv_aload_n hx hb dX10_bindVariablesOf_48 rfl (lv_at hl 0 rfl) ?_
        refine lv_aload_n hx hb dX10_bindVariablesOf_49 rfl (lv_at hl 0 rfl) ?_
        refine yg_10_52 X hw dX10_bindVariablesOf_50 ?_
        refine lv_iload_n hx hb dX10_bindVariablesOf_53 rfl (lv_at hl 2 rfl) ?_
        refine yl_43 X hw rx3 dX10_bindVariablesOf_54 h (fun v8 rv8 h => ?_)
        refine lv_aload_n hx hb dX10_bindVariablesOf_55 rfl (lv_at hl 0 rfl) ?_
        refine yg_10_52 X hw dX10_bindVariablesOf_56 ?_
        refine lv_iload_n hx hb dX10_bindVariablesOf_59 rfl (lv_at hl 2 rfl) ?_
        refine yl_43 X hw rx3 dX10_bindVariablesOf_60 h (fun v9 rv9 h => ?_)
        refine ycV (n := 2) (e_10_bind rv8 rv9 h) 10 8 (r := (RX10, TX10, 16)) rfl yG_10_129 yD_10_bind X hw rfl yGo_10 (Nat.le_trans (Nat.le_of_ble_eq_true rfl) hRf) (Nat.le_trans (Nat.le_of_ble_eq_true rfl) hRl) rfl hl.1 (Nat.le_of_ble_eq_true rfl) rfl dX10_bindVariablesOf_61 (fun u H locs h hw => ?_)
        refine k_iinc (k := 2) hx hb dX10_bindVariablesOf_64 hl rfl (by decide) rfl h (fun ls r11 h hl => ?_)
        have hl : lv_has ls 4 [(3, .int (jI (x3 + 1))), (0, .ref (ad 0 8)), (2, .int (jI x2))] := hl
        refine lv_goto hx hb dX10_bindVariablesOf_67 (tgt := 13) rfl ?_
        exact hR13 _ _ _ H locs ls rx2 r11 hw (lv_sub hl [1, 2, 0] rfl) h

def v_10_bindVariablesOf (a0 : Int) (Q : iST → Prop) (u : iST) : Prop :=
  sw (iI u 39 0) (fun u => 
  v_10_listParts a0 (fun v1 u => 
  v_10_bindVariablesOf_13 Q v1 0 u) u)
set_option maxRecDepth 20000 in
set_option maxHeartbeats 4000000 in
theorem f_10_bindVariablesOf_s (X : yX RX10 p m c cX10_bindVariablesOf 4 s args D ca ad A) (hRf : 2 ≤ R.frames) (hRl : 50 ≤ R.locals) {Q : iST → Prop} (hret : ∀ (u : iST) (H : Heap) (locs : List Loc) (ls : Array Slot) (pc : Nat), Q u → yW D ca A ad s H locs u → decode cX10_bindVariablesOf pc = .ok (.return_, 1) → W p l e R s m args below meth c H locs 0 0 Qf (F0 m pc ls [])) {a0 : Int} (ra0 : inR a0) (hw : yW D ca A ad s H locs u) (hl : lv_has ls 4 [(0, .ref (ad 0 8)), (1, .int (jI a0))]) (h : v_10_bindVariablesOf a0 Q u) : W p l e R s m args below meth c H locs 0 0 Qf (F0 m 0 ls []) := by
  have hx := X.1.1
  have hb := X.1.2.1
  unfold v_10_bindVariablesOf at h
  refine lv_aload_n hx hb dX10_bindVariablesOf_0 rfl (lv_at hl 0 rfl) ?_
  refine lv_iconst hx hb dX10_bindVariablesOf_1 (v := jI 0) rfl ?_
  refine yp_10_25 X hw (by decide) dX10_bindVariablesOf_2 h (fun H locs u hw h => ?_)
  refine lv_aload_n hx hb dX10_bindVariablesOf_5 rfl (lv_at hl 0 rfl) ?_
  refine lv_iload_n hx hb dX10_bindVariablesOf_6 rfl (lv_at hl 1 rfl) ?_
  refine ycI (n := 1) (e_10_listParts ra0 h) 10 8 (r := (RX10, TX10, 16)) rfl yG_10_149 yD_10_listParts X hw rfl yGo_10 (Nat.le_trans (Nat.le_of_ble_eq_true rfl) hRf) (Nat.le_trans (Nat.le_of_ble_eq_true rfl) hRl) rfl hl.1 (Nat.le_of_ble_eq_true rfl) rfl dX10_bindVariablesOf_7 (fun v1 u H locs rv1 h hw => ?_)
  refine lv_istore_n hx hb dX10_bindVariablesOf_10 rfl hl (by decide) rfl (fun ls hl => ?_)
  have hl : lv_has ls 4 [(2, .int (jI v1)), (0, .ref (ad 0 8)), (1, .int (jI a0))] := hl
  refine lv_iconst hx hb dX10_bindVariablesOf_11 (v := jI 0) rfl ?_
  refine lv_istore_n hx hb dX10_bindVariablesOf_12 rfl hl (by decide) rfl (fun ls hl => ?_)
  have hl : lv_has ls 4 [(3, .int (jI 0)), (2, .int (jI v1)), (0, .ref (ad 0 8)), (1, .int (jI a0))] := hl
  exact f_10_bindVariablesOf_13 X hRf hRl hret rv1 (by decide) hw (lv_sub hl [2, 1, 0] rfl) h

end
theorem e_10_bindVariablesOf {l : Launch} {a0 : Int} (ra0 : inR a0) {Q : iST → Prop} {u : iST} (h : v_10_bindVariablesOf a0 Q u) : yMV l yX10_bindVariablesOf (.code yX10_bindVariablesOf cX10_bindVariablesOf 4 none :: wsN) { frames := 2, cells := 0, slots := 0, locals := 50 } (fun ad => [.ref (ad 0 8), .int (jI a0)]) Q u := yMV_of (own := RX10) rfl (by decide +kernel) (fun _ => Nat.le_of_ble_eq_true rfl) (fun X hRf hRl hret hw hl => f_10_bindVariablesOf_s X hRf hRl hret ra0 hw hl h)

/-! ProofHouse$Terms.hasBound -/
theorem dX10_hasBound_0 : decode cX10_hasBound 0 = .ok (.aload_n 0, 1) := by decide +kernel
theorem dX10_hasBound_1 : decode cX10_hasBound 1 = .ok (.iload_n 1, 1) := by decide +kernel
theorem dX10_hasBound_2 : decode cX10_hasBound 2 = .ok (.invokevirtual 149, 3) := by decide +kernel
theorem dX10_hasBound_5 : decode cX10_hasBound 5 = .ok (.istore_n 2, 1) := by decide +kernel
theorem dX10_hasBound_6 : decode cX10_hasBound 6 = .ok (.iconst 0, 1) := by decide +kernel
theorem dX10_hasBound_7 : decode cX10_hasBound 7 = .ok (.istore_n 3, 1) := by decide +kernel
theorem dX10_hasBound_8 : decode cX10_hasBound 8 = .ok (.iconst 0, 1) := by decide +kernel
theorem dX10_hasBound_9 : decode cX10_hasBound 9 = .ok (.istore 4, 2) := by decide +kernel
theorem dX10_hasBound_11 : decode cX10_hasBound 11 = .ok (.iload 4, 2) := by decide +kernel
theorem dX10_hasBound_13 : decode cX10_hasBound 13 = .ok (.aload_n 0, 1) := by decide +kernel
theorem dX10_hasBound_14 : decode cX10_hasBound 14 = .ok (.getfield 25, 3) := by decide +kernel
theorem dX10_hasBound_17 : decode cX10_hasBound 17 = .ok (.if_icmp .ge 69, 3) := by decide +kernel
theorem dX10_hasBound_20 : decode cX10_hasBound 20 = .ok (.iconst 0, 1) := by decide +kernel
theorem dX10_hasBound_21 : decode cX10_hasBound 21 = .ok (.istore 5, 2) := by decide +kernel
theorem dX10_hasBound_23 : decode cX10_hasBound 23 = .ok (.iconst 0, 1) := by decide +kernel
theorem dX10_hasBound_24 : decode cX10_hasBound 24 = .ok (.istore 6, 2) := by decide +kernel
theorem dX10_hasBound_26 : decode cX10_hasBound 26 = .ok (.iload 6, 2) := by decide +kernel
theorem dX10_hasBound_28 : decode cX10_hasBound 28 = .ok (.iload_n 2, 1) := by decide +kernel
theorem dX10_hasBound_29 : decode cX10_hasBound 29 = .ok (.if_icmp .ge 38, 3) := by decide +kernel
theorem dX10_hasBound_32 : decode cX10_hasBound 32 = .ok (.iload 5, 2) := by decide +kernel
theorem dX10_hasBound_34 : decode cX10_hasBound 34 = .ok (.ifCond .ne 33, 3) := by decide +kernel
theorem dX10_hasBound_37 : decode cX10_hasBound 37 = .ok (.aload_n 0, 1) := by decide +kernel
theorem dX10_hasBound_38 : decode cX10_hasBound 38 = .ok (.getfield 52, 3) := by decide +kernel
theorem dX10_hasBound_41 : decode cX10_hasBound 41 = .ok (.iload 6, 2) := by decide +kernel
theorem dX10_hasBound_43 : decode cX10_hasBound 43 = .ok (.iaload, 1) := by decide +kernel
theorem dX10_hasBound_44 : decode cX10_hasBound 44 = .ok (.aload_n 0, 1) := by decide +kernel
theorem dX10_hasBound_45 : decode cX10_hasBound 45 = .ok (.getfield 18, 3) := by decide +kernel
theorem dX10_hasBound_48 : decode cX10_hasBound 48 = .ok (.iload 4, 2) := by decide +kernel
theorem dX10_hasBound_50 : decode cX10_hasBound 50 = .ok (.iaload, 1) := by decide +kernel
theorem dX10_hasBound_51 : decode cX10_hasBound 51 = .ok (.if_icmp .ne 7, 3) := by decide +kernel
theorem dX10_hasBound_54 : decode cX10_hasBound 54 = .ok (.iconst 1, 1) := by decide +kernel
theorem dX10_hasBound_55 : decode cX10_hasBound 55 = .ok (.goto 4, 3) := by decide +kernel
theorem dX10_hasBound_58 : decode cX10_hasBound 58 = .ok (.iconst 0, 1) := by decide +kernel
theorem dX10_hasBound_59 : decode cX10_hasBound 59 = .ok (.istore 5, 2) := by decide +kernel
theorem dX10_hasBound_61 : decode cX10_hasBound 61 = .ok (.iinc 6 1, 3) := by decide +kernel
theorem dX10_hasBound_64 : decode cX10_hasBound 64 = .ok (.goto (-38), 3) := by decide +kernel
theorem dX10_hasBound_67 : decode cX10_hasBound 67 = .ok (.iload_n 3, 1) := by decide +kernel
theorem dX10_hasBound_68 : decode cX10_hasBound 68 = .ok (.iload 5, 2) := by decide +kernel
theorem dX10_hasBound_70 : decode cX10_hasBound 70 = .ok (.ifCond .eq 7, 3) := by decide +kernel
theorem dX10_hasBound_73 : decode cX10_hasBound 73 = .ok (.iconst 1, 1) := by decide +kernel
theorem dX10_hasBound_74 : decode cX10_hasBound 74 = .ok (.goto 4, 3) := by decide +kernel
theorem dX10_hasBound_77 : decode cX10_hasBound 77 = .ok (.iconst 0, 1) := by decide +kernel
theorem dX10_hasBound_78 : decode cX10_hasBound 78 = .ok (.iadd, 1) := by decide +kernel
theorem dX10_hasBound_79 : decode cX10_hasBound 79 = .ok (.istore_n 3, 1) := by decide +kernel
theorem dX10_hasBound_80 : decode cX10_hasBound 80 = .ok (.iinc 4 1, 3) := by decide +kernel
theorem dX10_hasBound_83 : decode cX10_hasBound 83 = .ok (.goto (-72), 3) := by decide +kernel
theorem dX10_hasBound_86 : decode cX10_hasBound 86 = .ok (.iload_n 3, 1) := by decide +kernel
theorem dX10_hasBound_87 : decode cX10_hasBound 87 = .ok (.aload_n 0, 1) := by decide +kernel
theorem dX10_hasBound_88 : decode cX10_hasBound 88 = .ok (.getfield 25, 3) := by decide +kernel
theorem dX10_hasBound_91 : decode cX10_hasBound 91 = .ok (.if_icmp .ne 7, 3) := by decide +kernel
theorem dX10_hasBound_94 : decode cX10_hasBound 94 = .ok (.iconst 1, 1) := by decide +kernel
theorem dX10_hasBound_95 : decode cX10_hasBound 95 = .ok (.goto 4, 3) := by decide +kernel
theorem dX10_hasBound_98 : decode cX10_hasBound 98 = .ok (.iconst 0, 1) := by decide +kernel
theorem dX10_hasBound_99 : decode cX10_hasBound 99 = .ok (.ireturn, 1) := by decide +kernel

section
variable {p : Program} {l : Launch} {e : Env} {R : Room} {s : State} {m : MethodId} {args : Array Value} {below : List Frame} {meth : Method} {c : Code} {H : Heap} {locs : List Loc} {Qf : State → Prop}
variable {ls : Array Slot} {D : va_G} {ca : Nat → ClassId} {A : Nat → Prop} {ad : Nat → Nat → Nat} {u : iST}
def v_10_hasBound_67 (R11 : Int → Int → Int → iST → Prop) (Q : Int → iST → Prop) (x2 : Int) (x3 : Int) (x4 : Int) (x5 : Int) (u : iST) : Prop :=
  br (x5 = 0) (
    ov (x3 + 0) (
    ov (x4 + 1) (
    R11 x2 (x3 + 0) (x4 + 1) u))) (
    ov (x3 + 1) (
    ov (x4 + 1) (
    R11 x2 (x3 + 1) (x4 + 1) u)))
set_option maxRecDepth 20000 in
set_option maxHeartbeats 4000000 in
theorem f_10_hasBound_67 (X : yX RX10 p m c cX10_hasBound 7 s args D ca ad A) (hRf : 2 ≤ R.frames) (hRl : 50 ≤ R.locals) {Q : Int → iST → Prop} (hret : ∀ (v : Int) (u : iST) (H : Heap) (locs : List Loc) (ls : Array Slot) (pc : Nat), bz v → Q v u → yW D ca A ad s H locs u → decode cX10_hasBound pc = .ok (.ireturn, 1) → W p l e R s m args below meth c H locs 0 0 Qf (F0 m pc ls [.int (jI v)])) {R11 : Int → Int → Int → iST → Prop} (hR11 : ∀ (x2 : Int) (x3 : Int) (x4 : Int) (u : iST) (H : Heap) (locs : List Loc) (ls : Array Slot), inR x2 → inR x3 → inR x4 → yW D ca A ad s H locs u → lv_has ls 7 [(0, .ref (ad 0 8)), (2, .int (jI x2)), (3, .int (jI x3)), (4, .int (jI x4))] → R11 x2 x3 x4 u → W p l e R s m args below meth c H locs 0 0 Qf (F0 m 11 ls [])) {x2 x3 x4 x5 : Int} (rx2 : inR x2) (rx3 : inR x3) (rx4 : inR x4) (rx5 : inR x5) (hw : yW D ca A ad s H locs u) (hl : lv_has ls 7 [(0, .ref (ad 0 8)), (2, .int (jI x2)), (3, .int (jI x3)), (4, .int (jI x4)), (5, .int (jI x5))]) (h : v_10_hasBound_67 R11 Q x2 x3 x4 x5 u) : W p l e R s m args below meth c H locs 0 0 Qf (F0 m 67 ls []) := by
  have hx := X.1.1
  have hb := X.1.2.1
  unfold v_10_hasBound_67 at h
  refine lv_iload_n hx hb dX10_hasBound_67 rfl (lv_at hl 2 rfl) ?_
  refine lv_iload hx hb dX10_hasBound_68 (lv_at hl 4 rfl) ?_
  refine k_if_eq hx hb rx5 dX10_hasBound_70 (tgt := 77) rfl h (fun h => ?_) (fun h => ?_)
  · refine lv_iconst hx hb dX10_hasBound_77 (v := jI 0) rfl ?_
    refine k_iadd hx hb dX10_hasBound_78 h (fun r4 h => ?_)
    refine lv_istore_n hx hb dX10_hasBound_79 rfl hl (by decide) rfl (fun ls hl => ?_)
    have hl : lv_has ls 7 [(3, .int (jI (x3 + 0))), (0, .ref (ad 0 8)), (2, .int (jI x2)), (4, .int (jI x4)), (5, .int (jI x5))] := hl
    refine k_iinc (k := 3) hx hb dX10_hasBound_80 hl rfl (by decide) rfl h (fun ls r5 h hl => ?_)
    have hl : lv_has ls 7 [(4, .int (jI (x4 + 1))), (3, .int (jI (x3 + 0))), (0, .ref (ad 0 8)), (2, .int (jI x2)), (5, .int (jI x5))] := hl
    refine lv_goto hx hb dX10_hasBound_83 (tgt := 11) rfl ?_
    exact hR11 _ _ _ _ H locs ls rx2 r4 r5 hw (lv_sub hl [2, 3, 1, 0] rfl) h
  · refine lv_iconst hx hb dX10_hasBound_73 (v := jI 1) rfl ?_
    refine lv_goto hx hb dX10_hasBound_74 (tgt := 78) rfl ?_
    refine k_iadd hx hb dX10_hasBound_78 h (fun r6 h => ?_)
    refine lv_istore_n hx hb dX10_hasBound_79 rfl hl (by decide) rfl (fun ls hl => ?_)
    have hl : lv_has ls 7 [(3, .int (jI (x3 + 1))), (0, .ref (ad 0 8)), (2, .int (jI x2)), (4, .int (jI x4)), (5, .int (jI x5))] := hl
    refine k_iinc (k := 3) hx hb dX10_hasBound_80 hl rfl (by decide) rfl h (fun ls r7 h hl => ?_)
    have hl : lv_has ls 7 [(4, .int (jI (x4 + 1))), (3, .int (jI (x3 + 1))), (0, .ref (ad 0 8)), (2, .int (jI x2)), (5, .int (jI x5))] := hl
    refine lv_goto hx hb dX10_hasBound_83 (tgt := 11) rfl ?_
    exact hR11 _ _ _ _ H locs ls rx2 r6 r7 hw (lv_sub hl [2, 3, 1, 0] rfl) h

def v_10_hasBound_26b (R11 : Int → Int → Int → iST → Prop) (R26 : Int → Int → Int → Int → Int → iST → Prop) (Q : Int → iST → Prop) (x2 : Int) (x3 : Int) (x4 : Int) (x5 : Int) (x6 : Int) (u : iST) : Prop :=
  br (x2 ≤ x6) (
    v_10_hasBound_67 R11 Q x2 x3 x4 x5 u) (
    br (x5 ≠ 0) (
      v_10_hasBound_67 R11 Q x2 x3 x4 x5 u) (
      bd x6 128 (rd (u.2.1 43 x6) (fun v8 => 
      bd x4 256 (rd (u.2.1 35 x4) (fun v9 => 
      br (v8 ≠ v9) (
        ov (x6 + 1) (
        R26 x2 x3 x4 0 (x6 + 1) u)) (
        ov (x6 + 1) (
        R26 x2 x3 x4 1 (x6 + 1) u))))))))
def v_10_hasBound_26 (R11 : Int → Int → Int → iST → Prop) (Q : Int → iST → Prop) (x2 : Int) (x3 : Int) (x4 : Int) (x5 : Int) (x6 : Int) (u : iST) : Prop := ∀ R26 : Int → Int → Int → Int → Int → iST → Prop, (∀ (x2 : Int) (x3 : Int) (x4 : Int) (x5 : Int) (x6 : Int) (u : iST), v_10_hasBound_26b R11 R26 Q x2 x3 x4 x5 x6 u → R26 x2 x3 x4 x5 x6 u) → R26 x2 x3 x4 x5 x6 u
set_option maxRecDepth 20000 in
set_option maxHeartbeats 4000000 in
theorem f_10_hasBound_26 (X : yX RX10 p m c cX10_hasBound 7 s args D ca ad A) (hRf : 2 ≤ R.frames) (hRl : 50 ≤ R.locals) {Q : Int → iST → Prop} (hret : ∀ (v : Int) (u : iST) (H : Heap) (locs : List Loc) (ls : Array Slot) (pc : Nat), bz v → Q v u → yW D ca A ad s H locs u → decode cX10_hasBound pc = .ok (.ireturn, 1) → W p l e R s m args below meth c H locs 0 0 Qf (F0 m pc ls [.int (jI v)])) {R11 : Int → Int → Int → iST → Prop} (hR11 : ∀ (x2 : Int) (x3 : Int) (x4 : Int) (u : iST) (H : Heap) (locs : List Loc) (ls : Array Slot), inR x2 → inR x3 → inR x4 → yW D ca A ad s H locs u → lv_has ls 7 [(0, .ref (ad 0 8)), (2, .int (jI x2)), (3, .int (jI x3)), (4, .int (jI x4))] → R11 x2 x3 x4 u → W p l e R s m args below meth c H locs 0 0 Qf (F0 m 11 ls [])) {x2 x3 x4 x5 x6 : Int} (rx2 : inR x2) (rx3 : inR x3) (rx4 : inR x4) (rx5 : inR x5) (rx6 : inR x6) (hw : yW D ca A ad s H locs u) (hl : lv_has ls 7 [(0, .ref (ad 0 8)), (2, .int (jI x2)), (3, .int (jI x3)), (4, .int (jI x4)), (5, .int (jI x5)), (6, .int (jI x6))]) (h : v_10_hasBound_26 R11 Q x2 x3 x4 x5 x6 u) : W p l e R s m args below meth c H locs 0 0 Qf (F0 m 26 ls []) := by
  refine h (fun x2 x3 x4 x5 x6 u => ∀ (H : Heap) (locs : List Loc) (ls : Array Slot), inR x2 → inR x3 → inR x4 → inR x5 → inR x6 → yW D ca A ad s H locs u → lv_has ls 7 [(0, .ref (ad 0 8)), (2, .int (jI x2)), (3, .int (jI x3)), (4, .int (jI x4)), (5, .int (jI x5)), (6, .int (jI x6))] → W p l e R s m args below meth c H locs 0 0 Qf (F0 m 26 ls [])) ?_ H locs ls rx2 rx3 rx4 rx5 rx6 hw hl
  clear h hl hw rx2 rx3 rx4 rx5 rx6
  intro x2 x3 x4 x5 x6 u h H locs ls rx2 rx3 rx4 rx5 rx6 hw hl
  have hR26 : ∀ (x2 : Int) (x3 : Int) (x4 : Int) (x5 : Int) (x6 : Int) (u : iST) (H : Heap) (locs : List Loc) (ls : Array Slot), inR x2 → inR x3 → inR x4 → inR x5 → inR x6 → yW D ca A ad s H locs u → lv_has ls 7 [(0, .ref (ad 0 8)), (2, .int (jI x2)), (3, .int (jI x3)), (4, .int (jI x4)), (5, .int (jI x5)), (6, .int (jI x6))] → (fun (x2 : Int) (x3 : Int) (x4 : Int) (x5 : Int) (x6 : Int) u => ∀ (H : Heap) (locs : List Loc) (ls : Array Slot), inR x2 → inR x3 → inR x4 → inR x5 → inR x6 → yW D ca A ad s H locs u → lv_has ls 7 [(0, .ref (ad 0 8)), (2, .int (jI x2)), (3, .int (jI x3)), (4, .int (jI x4)), (5, .int (jI x5)), (6, .int (jI x6))] → W p l e R s m args below meth c H locs 0 0 Qf (F0 m 26 ls [])) x2 x3 x4 x5 x6 u → W p l e R s m args below meth c H locs 0 0 Qf (F0 m 26 ls []) := fun x2 x3 x4 x5 x6 u H locs ls rx2 rx3 rx4 rx5 rx6 hw hl h => h H locs ls rx2 rx3 rx4 rx5 rx6 hw hl
  have hx := X.1.1
  have hb := X.1.2.1
  unfold v_10_hasBound_26b at h
  refine lv_iload hx hb dX10_hasBound_26 (lv_at hl 5 rfl) ?_
  refine lv_iload_n hx hb dX10_hasBound_28 rfl (lv_at hl 1 rfl) ?_
  refine k_icmp_ge hx hb rx6 rx2 dX10_hasBound_29 (tgt := 67) rfl h (fun h => ?_) (fun h => ?_)
  · exact f_10_hasBound_67 X hRf hRl hret hR11 rx2 rx3 rx4 rx5 hw (lv_sub hl [0, 1, 2, 3, 4] rfl) h
  · refine lv_iload hx hb dX10_hasBound_32 (lv_at hl 4 rfl) ?_
    refine k_if_ne hx hb rx5 dX10_hasBound_34 (tgt := 67) rfl h (fun h => ?_) (fun h => ?_)
    · exact f_10_hasBound_67 X hRf hRl hret hR11 rx2 rx3 rx4 rx5 hw (lv_sub hl [0, 1, 2, 3, 4] rfl) h
    · refine lv_aload_n hx hb dX10_hasBound_37 rfl (lv_at hl 0 rfl) ?_
      refine yg_10_52 X hw dX10_hasBound_38 ?_
      refine lv_iload hx hb dX10_hasBound_41 (lv_at hl 5 rfl) ?_
      refine yl_43 X hw rx6 dX10_hasBound_43 h (fun v8 rv8 h => ?_)
      refine lv_aload_n hx hb dX10_hasBound_44 rfl (lv_at hl 0 rfl) ?_
      refine yg_10_18 X hw dX10_hasBound_45 ?_
      refine lv_iload hx hb dX10_hasBound_48 (lv_at hl 3 rfl) ?_
      refine yl_35 X hw rx4 dX10_hasBound_50 h (fun v9 rv9 h => ?_)
      refine k_icmp_ne hx hb rv8 rv9 dX10_hasBound_51 (tgt := 58) rfl h (fun h => ?_) (fun h => ?_)
      · refine lv_iconst hx hb dX10_hasBound_58 (v := jI 0) rfl ?_
        refine lv_istore hx hb dX10_hasBound_59 hl (by decide) rfl (fun ls hl => ?_)
        have hl : lv_has ls 7 [(5, .int (jI 0)), (0, .ref (ad 0 8)), (2, .int (jI x2)), (3, .int (jI x3)), (4, .int (jI x4)), (6, .int (jI x6))] := hl
        refine k_iinc (k := 5) hx hb dX10_hasBound_61 hl rfl (by decide) rfl h (fun ls r10 h hl => ?_)
        have hl : lv_has ls 7 [(6, .int (jI (x6 + 1))), (5, .int (jI 0)), (0, .ref (ad 0 8)), (2, .int (jI x2)), (3, .int (jI x3)), (4, .int (jI x4))] := hl
        refine lv_goto hx hb dX10_hasBound_64 (tgt := 26) rfl ?_
        exact hR26 _ _ _ _ _ _ H locs ls rx2 rx3 rx4 (by decide) r10 hw (lv_sub hl [2, 3, 4, 5, 1, 0] rfl) h
      · refine lv_iconst hx hb dX10_hasBound_54 (v := jI 1) rfl ?_
        refine lv_goto hx hb dX10_hasBound_55 (tgt := 59) rfl ?_
        refine lv_istore hx hb dX10_hasBound_59 hl (by decide) rfl (fun ls hl => ?_)
        have hl : lv_has ls 7 [(5, .int (jI 1)), (0, .ref (ad 0 8)), (2, .int (jI x2)), (3, .int (jI x3)), (4, .int (jI x4)), (6, .int (jI x6))] := hl
        refine k_iinc (k := 5) hx hb dX10_hasBound_61 hl rfl (by decide) rfl h (fun ls r11 h hl => ?_)
        have hl : lv_has ls 7 [(6, .int (jI (x6 + 1))), (5, .int (jI 1)), (0, .ref (ad 0 8)), (2, .int (jI x2)), (3, .int (jI x3)), (4, .int (jI x4))] := hl
        refine lv_goto hx hb dX10_hasBound_64 (tgt := 26) rfl ?_
        exact hR26 _ _ _ _ _ _ H locs ls rx2 rx3 rx4 (by decide) r11 hw (lv_sub hl [2, 3, 4, 5, 1, 0] rfl) h

def v_10_hasBound_11b (R11 : Int → Int → Int → iST → Prop) (Q : Int → iST → Prop) (x2 : Int) (x3 : Int) (x4 : Int) (u : iST) : Prop :=
  rd (u.1 39) (fun v2 => 
  br (v2 ≤ x4) (
    rd (u.1 39) (fun v3 => 
    br (x3 ≠ v3) (
      zt 0 (Q 0 u)) (
      zt 1 (Q 1 u)))) (
    v_10_hasBound_26 R11 Q x2 x3 x4 0 0 u))
def v_10_hasBound_11 (Q : Int → iST → Prop) (x2 : Int) (x3 : Int) (x4 : Int) (u : iST) : Prop := ∀ R11 : Int → Int → Int → iST → Prop, (∀ (x2 : Int) (x3 : Int) (x4 : Int) (u : iST), v_10_hasBound_11b R11 Q x2 x3 x4 u → R11 x2 x3 x4 u) → R11 x2 x3 x4 u
set_option maxRecDepth 20000 in
set_option maxHeartbeats 4000000 in
theorem f_10_hasBound_11 (X : yX RX10 p m c cX10_hasBound 7 s args D ca ad A) (hRf : 2 ≤ R.frames) (hRl : 50 ≤ R.locals) {Q : Int → iST → Prop} (hret : ∀ (v : Int) (u : iST) (H : Heap) (locs : List Loc) (ls : Array Slot) (pc : Nat), bz v → Q v u → yW D ca A ad s H locs u → decode cX10_hasBound pc = .ok (.ireturn, 1) → W p l e R s m args below meth c H locs 0 0 Qf (F0 m pc ls [.int (jI v)])) {x2 x3 x4 : Int} (rx2 : inR x2) (rx3 : inR x3) (rx4 : inR x4) (hw : yW D ca A ad s H locs u) (hl : lv_has ls 7 [(0, .ref (ad 0 8)), (2, .int (jI x2)), (3, .int (jI x3)), (4, .int (jI x4))]) (h : v_10_hasBound_11 Q x2 x3 x4 u) : W p l e R s m args below meth c H locs 0 0 Qf (F0 m 11 ls []) := by
  refine h (fun x2 x3 x4 u => ∀ (H : Heap) (locs : List Loc) (ls : Array Slot), inR x2 → inR x3 → inR x4 → yW D ca A ad s H locs u → lv_has ls 7 [(0, .ref (ad 0 8)), (2, .int (jI x2)), (3, .int (jI x3)), (4, .int (jI x4))] → W p l e R s m args below meth c H locs 0 0 Qf (F0 m 11 ls [])) ?_ H locs ls rx2 rx3 rx4 hw hl
  clear h hl hw rx2 rx3 rx4
  intro x2 x3 x4 u h H locs ls rx2 rx3 rx4 hw hl
  have hR11 : ∀ (x2 : Int) (x3 : Int) (x4 : Int) (u : iST) (H : Heap) (locs : List Loc) (ls : Array Slot), inR x2 → inR x3 → inR x4 → yW D ca A ad s H locs u → lv_has ls 7 [(0, .ref (ad 0 8)), (2, .int (jI x2)), (3, .int (jI x3)), (4, .int (jI x4))] → (fun (x2 : Int) (x3 : Int) (x4 : Int) u => ∀ (H : Heap) (locs : List Loc) (ls : Array Slot), inR x2 → inR x3 → inR x4 → yW D ca A ad s H locs u → lv_has ls 7 [(0, .ref (ad 0 8)), (2, .int (jI x2)), (3, .int (jI x3)), (4, .int (jI x4))] → W p l e R s m args below meth c H locs 0 0 Qf (F0 m 11 ls [])) x2 x3 x4 u → W p l e R s m args below meth c H locs 0 0 Qf (F0 m 11 ls []) := fun x2 x3 x4 u H locs ls rx2 rx3 rx4 hw hl h => h H locs ls rx2 rx3 rx4 hw hl
  have hx := X.1.1
  have hb := X.1.2.1
  unfold v_10_hasBound_11b at h
  refine lv_iload hx hb dX10_hasBound_11 (lv_at hl 3 rfl) ?_
  refine lv_aload_n hx hb dX10_hasBound_13 rfl (lv_at hl 0 rfl) ?_
  refine yg_10_25 X hw dX10_hasBound_14 h (fun v2 rv2 h => ?_)
  refine k_icmp_ge hx hb rx4 rv2 dX10_hasBound_17 (tgt := 86) rfl h (fun h => ?_) (fun h => ?_)
  · refine lv_iload_n hx hb dX10_hasBound_86 rfl (lv_at hl 2 rfl) ?_
    refine lv_aload_n hx hb dX10_hasBound_87 rfl (lv_at hl 0 rfl) ?_
    refine yg_10_25 X hw dX10_hasBound_88 h (fun v3 rv3 h => ?_)
    refine k_icmp_ne hx hb rx3 rv3 dX10_hasBound_91 (tgt := 98) rfl h (fun h => ?_) (fun h => ?_)
    · refine lv_iconst hx hb dX10_hasBound_98 (v := jI 0) rfl ?_
      exact hret _ _ _ _ _ _ h.1 h.2 hw dX10_hasBound_99
    · refine lv_iconst hx hb dX10_hasBound_94 (v := jI 1) rfl ?_
      refine lv_goto hx hb dX10_hasBound_95 (tgt := 99) rfl ?_
      exact hret _ _ _ _ _ _ h.1 h.2 hw dX10_hasBound_99
  · refine lv_iconst hx hb dX10_hasBound_20 (v := jI 0) rfl ?_
    refine lv_istore hx hb dX10_hasBound_21 hl (by decide) rfl (fun ls hl => ?_)
    have hl : lv_has ls 7 [(5, .int (jI 0)), (0, .ref (ad 0 8)), (2, .int (jI x2)), (3, .int (jI x3)), (4, .int (jI x4))] := hl
    refine lv_iconst hx hb dX10_hasBound_23 (v := jI 0) rfl ?_
    refine lv_istore hx hb dX10_hasBound_24 hl (by decide) rfl (fun ls hl => ?_)
    have hl : lv_has ls 7 [(6, .int (jI 0)), (5, .int (jI 0)), (0, .ref (ad 0 8)), (2, .int (jI x2)), (3, .int (jI x3)), (4, .int (jI x4))] := hl
    exact f_10_hasBound_26 X hRf hRl hret hR11 rx2 rx3 rx4 (by decide) (by decide) hw (lv_sub hl [2, 3, 4, 5, 1, 0] rfl) h

def v_10_hasBound (a0 : Int) (Q : Int → iST → Prop) (u : iST) : Prop :=
  v_10_listParts a0 (fun v1 u => 
  v_10_hasBound_11 Q v1 0 0 u) u
set_option maxRecDepth 20000 in
set_option maxHeartbeats 4000000 in
theorem f_10_hasBound_s (X : yX RX10 p m c cX10_hasBound 7 s args D ca ad A) (hRf : 2 ≤ R.frames) (hRl : 50 ≤ R.locals) {Q : Int → iST → Prop} (hret : ∀ (v : Int) (u : iST) (H : Heap) (locs : List Loc) (ls : Array Slot) (pc : Nat), bz v → Q v u → yW D ca A ad s H locs u → decode cX10_hasBound pc = .ok (.ireturn, 1) → W p l e R s m args below meth c H locs 0 0 Qf (F0 m pc ls [.int (jI v)])) {a0 : Int} (ra0 : inR a0) (hw : yW D ca A ad s H locs u) (hl : lv_has ls 7 [(0, .ref (ad 0 8)), (1, .int (jI a0))]) (h : v_10_hasBound a0 Q u) : W p l e R s m args below meth c H locs 0 0 Qf (F0 m 0 ls []) := by
  have hx := X.1.1
  have hb := X.1.2.1
  unfold v_10_hasBound at h
  refine lv_aload_n hx hb dX10_hasBound_0 rfl (lv_at hl 0 rfl) ?_
  refine lv_iload_n hx hb dX10_hasBound_1 rfl (lv_at hl 1 rfl) ?_
  refine ycI (n := 1) (e_10_listParts ra0 h) 10 8 (r := (RX10, TX10, 16)) rfl yG_10_149 yD_10_listParts X hw rfl yGo_10 (Nat.le_trans (Nat.le_of_ble_eq_true rfl) hRf) (Nat.le_trans (Nat.le_of_ble_eq_true rfl) hRl) rfl hl.1 (Nat.le_of_ble_eq_true rfl) rfl dX10_hasBound_2 (fun v1 u H locs rv1 h hw => ?_)
  refine lv_istore_n hx hb dX10_hasBound_5 rfl hl (by decide) rfl (fun ls hl => ?_)
  have hl : lv_has ls 7 [(2, .int (jI v1)), (0, .ref (ad 0 8)), (1, .int (jI a0))] := hl
  refine lv_iconst hx hb dX10_hasBound_6 (v := jI 0) rfl ?_
  refine lv_istore_n hx hb dX10_hasBound_7 rfl hl (by decide) rfl (fun ls hl => ?_)
  have hl : lv_has ls 7 [(3, .int (jI 0)), (2, .int (jI v1)), (0, .ref (ad 0 8)), (1, .int (jI a0))] := hl
  refine lv_iconst hx hb dX10_hasBound_8 (v := jI 0) rfl ?_
  refine lv_istore hx hb dX10_hasBound_9 hl (by decide) rfl (fun ls hl => ?_)
  have hl : lv_has ls 7 [(4, .int (jI 0)), (3, .int (jI 0)), (2, .int (jI v1)), (0, .ref (ad 0 8)), (1, .int (jI a0))] := hl
  exact f_10_hasBound_11 X hRf hRl hret rv1 (by decide) (by decide) hw (lv_sub hl [3, 2, 1, 0] rfl) h

end
theorem e_10_hasBound {l : Launch} {a0 : Int} (ra0 : inR a0) {Q : Int → iST → Prop} {u : iST} (h : v_10_hasBound a0 Q u) : yMI l yX10_hasBound (.code yX10_hasBound cX10_hasBound 7 (some .boolean) :: wsN) { frames := 2, cells := 0, slots := 0, locals := 50 } (fun ad => [.ref (ad 0 8), .int (jI a0)]) Q u := yMZ_of (own := RX10) rfl (by decide +kernel) (fun _ => Nat.le_of_ble_eq_true rfl) (fun X hRf hRl hret hw hl => f_10_hasBound_s X hRf hRl hret ra0 hw hl h)

/-! ProofHouse$Rewriter.isRule -/
theorem dX6_isRule_0 : decode cX6_isRule 0 = .ok (.aload_n 0, 1) := by decide +kernel
theorem dX6_isRule_1 : decode cX6_isRule 1 = .ok (.getfield 39, 3) := by decide +kernel
theorem dX6_isRule_4 : decode cX6_isRule 4 = .ok (.iload_n 2, 1) := by decide +kernel
theorem dX6_isRule_5 : decode cX6_isRule 5 = .ok (.invokevirtual 169, 3) := by decide +kernel
theorem dX6_isRule_8 : decode cX6_isRule 8 = .ok (.ifCond .eq 50, 3) := by decide +kernel
theorem dX6_isRule_11 : decode cX6_isRule 11 = .ok (.aload_n 0, 1) := by decide +kernel
theorem dX6_isRule_12 : decode cX6_isRule 12 = .ok (.getfield 39, 3) := by decide +kernel
theorem dX6_isRule_15 : decode cX6_isRule 15 = .ok (.iload_n 2, 1) := by decide +kernel
theorem dX6_isRule_16 : decode cX6_isRule 16 = .ok (.iconst 3, 1) := by decide +kernel
theorem dX6_isRule_17 : decode cX6_isRule 17 = .ok (.invokevirtual 175, 3) := by decide +kernel
theorem dX6_isRule_20 : decode cX6_isRule 20 = .ok (.ifCond .ne 38, 3) := by decide +kernel
theorem dX6_isRule_23 : decode cX6_isRule 23 = .ok (.aload_n 0, 1) := by decide +kernel
theorem dX6_isRule_24 : decode cX6_isRule 24 = .ok (.getfield 39, 3) := by decide +kernel
theorem dX6_isRule_27 : decode cX6_isRule 27 = .ok (.iload_n 2, 1) := by decide +kernel
theorem dX6_isRule_28 : decode cX6_isRule 28 = .ok (.bipush 16, 2) := by decide +kernel
theorem dX6_isRule_30 : decode cX6_isRule 30 = .ok (.invokevirtual 175, 3) := by decide +kernel
theorem dX6_isRule_33 : decode cX6_isRule 33 = .ok (.ifCond .ne 25, 3) := by decide +kernel
theorem dX6_isRule_36 : decode cX6_isRule 36 = .ok (.aload_n 0, 1) := by decide +kernel
theorem dX6_isRule_37 : decode cX6_isRule 37 = .ok (.getfield 39, 3) := by decide +kernel
theorem dX6_isRule_40 : decode cX6_isRule 40 = .ok (.iload_n 2, 1) := by decide +kernel
theorem dX6_isRule_41 : decode cX6_isRule 41 = .ok (.bipush 6, 2) := by decide +kernel
theorem dX6_isRule_43 : decode cX6_isRule 43 = .ok (.invokevirtual 175, 3) := by decide +kernel
theorem dX6_isRule_46 : decode cX6_isRule 46 = .ok (.ifCond .ne 12, 3) := by decide +kernel
theorem dX6_isRule_49 : decode cX6_isRule 49 = .ok (.iload_n 3, 1) := by decide +kernel
theorem dX6_isRule_50 : decode cX6_isRule 50 = .ok (.iload_n 2, 1) := by decide +kernel
theorem dX6_isRule_51 : decode cX6_isRule 51 = .ok (.if_icmp .eq 7, 3) := by decide +kernel
theorem dX6_isRule_54 : decode cX6_isRule 54 = .ok (.iconst 1, 1) := by decide +kernel
theorem dX6_isRule_55 : decode cX6_isRule 55 = .ok (.goto 4, 3) := by decide +kernel
theorem dX6_isRule_58 : decode cX6_isRule 58 = .ok (.iconst 0, 1) := by decide +kernel
theorem dX6_isRule_59 : decode cX6_isRule 59 = .ok (.istore 4, 2) := by decide +kernel
theorem dX6_isRule_61 : decode cX6_isRule 61 = .ok (.aload_n 0, 1) := by decide +kernel
theorem dX6_isRule_62 : decode cX6_isRule 62 = .ok (.getfield 47, 3) := by decide +kernel
theorem dX6_isRule_65 : decode cX6_isRule 65 = .ok (.iload_n 3, 1) := by decide +kernel
theorem dX6_isRule_66 : decode cX6_isRule 66 = .ok (.invokevirtual 320, 3) := by decide +kernel
theorem dX6_isRule_69 : decode cX6_isRule 69 = .ok (.iload 4, 2) := by decide +kernel
theorem dX6_isRule_71 : decode cX6_isRule 71 = .ok (.ifCond .eq 18, 3) := by decide +kernel
theorem dX6_isRule_74 : decode cX6_isRule 74 = .ok (.aload_n 0, 1) := by decide +kernel
theorem dX6_isRule_75 : decode cX6_isRule 75 = .ok (.getfield 47, 3) := by decide +kernel
theorem dX6_isRule_78 : decode cX6_isRule 78 = .ok (.iload_n 2, 1) := by decide +kernel
theorem dX6_isRule_79 : decode cX6_isRule 79 = .ok (.invokevirtual 323, 3) := by decide +kernel
theorem dX6_isRule_82 : decode cX6_isRule 82 = .ok (.ifCond .eq 7, 3) := by decide +kernel
theorem dX6_isRule_85 : decode cX6_isRule 85 = .ok (.iconst 1, 1) := by decide +kernel
theorem dX6_isRule_86 : decode cX6_isRule 86 = .ok (.goto 4, 3) := by decide +kernel
theorem dX6_isRule_89 : decode cX6_isRule 89 = .ok (.iconst 0, 1) := by decide +kernel
theorem dX6_isRule_90 : decode cX6_isRule 90 = .ok (.istore 5, 2) := by decide +kernel
theorem dX6_isRule_92 : decode cX6_isRule 92 = .ok (.iconst 0, 1) := by decide +kernel
theorem dX6_isRule_93 : decode cX6_isRule 93 = .ok (.istore 6, 2) := by decide +kernel
theorem dX6_isRule_95 : decode cX6_isRule 95 = .ok (.iload 6, 2) := by decide +kernel
theorem dX6_isRule_97 : decode cX6_isRule 97 = .ok (.aload_n 0, 1) := by decide +kernel
theorem dX6_isRule_98 : decode cX6_isRule 98 = .ok (.getfield 43, 3) := by decide +kernel
theorem dX6_isRule_101 : decode cX6_isRule 101 = .ok (.getfield 273, 3) := by decide +kernel
theorem dX6_isRule_104 : decode cX6_isRule 104 = .ok (.iload_n 1, 1) := by decide +kernel
theorem dX6_isRule_105 : decode cX6_isRule 105 = .ok (.iaload, 1) := by decide +kernel
theorem dX6_isRule_106 : decode cX6_isRule 106 = .ok (.if_icmp .ge 43, 3) := by decide +kernel
theorem dX6_isRule_109 : decode cX6_isRule 109 = .ok (.iload 5, 2) := by decide +kernel
theorem dX6_isRule_111 : decode cX6_isRule 111 = .ok (.ifCond .eq 38, 3) := by decide +kernel
theorem dX6_isRule_114 : decode cX6_isRule 114 = .ok (.aload_n 0, 1) := by decide +kernel
theorem dX6_isRule_115 : decode cX6_isRule 115 = .ok (.getfield 47, 3) := by decide +kernel
theorem dX6_isRule_118 : decode cX6_isRule 118 = .ok (.aload_n 0, 1) := by decide +kernel
theorem dX6_isRule_119 : decode cX6_isRule 119 = .ok (.getfield 43, 3) := by decide +kernel
theorem dX6_isRule_122 : decode cX6_isRule 122 = .ok (.getfield 276, 3) := by decide +kernel
theorem dX6_isRule_125 : decode cX6_isRule 125 = .ok (.iload_n 1, 1) := by decide +kernel
theorem dX6_isRule_126 : decode cX6_isRule 126 = .ok (.aaload, 1) := by decide +kernel
theorem dX6_isRule_127 : decode cX6_isRule 127 = .ok (.iload 6, 2) := by decide +kernel
theorem dX6_isRule_129 : decode cX6_isRule 129 = .ok (.iaload, 1) := by decide +kernel
theorem dX6_isRule_130 : decode cX6_isRule 130 = .ok (.invokevirtual 320, 3) := by decide +kernel
theorem dX6_isRule_133 : decode cX6_isRule 133 = .ok (.aload_n 0, 1) := by decide +kernel
theorem dX6_isRule_134 : decode cX6_isRule 134 = .ok (.getfield 47, 3) := by decide +kernel
theorem dX6_isRule_137 : decode cX6_isRule 137 = .ok (.iload_n 2, 1) := by decide +kernel
theorem dX6_isRule_138 : decode cX6_isRule 138 = .ok (.invokevirtual 323, 3) := by decide +kernel
theorem dX6_isRule_141 : decode cX6_isRule 141 = .ok (.istore 5, 2) := by decide +kernel
theorem dX6_isRule_143 : decode cX6_isRule 143 = .ok (.iinc 6 1, 3) := by decide +kernel
theorem dX6_isRule_146 : decode cX6_isRule 146 = .ok (.goto (-51), 3) := by decide +kernel
theorem dX6_isRule_149 : decode cX6_isRule 149 = .ok (.iload 5, 2) := by decide +kernel
theorem dX6_isRule_151 : decode cX6_isRule 151 = .ok (.ireturn, 1) := by decide +kernel

section
variable {p : Program} {l : Launch} {e : Env} {R : Room} {s : State} {m : MethodId} {args : Array Value} {below : List Frame} {meth : Method} {c : Code} {H : Heap} {locs : List Loc} {Qf : State → Prop}
variable {ls : Array Slot} {D : va_G} {ca : Nat → ClassId} {A : Nat → Prop} {ad : Nat → Nat → Nat} {u : iST}
def v_6_isRule_95b (R95 : Int → Int → Int → Int → iST → Prop) (Q : Int → iST → Prop) (x1 : Int) (x2 : Int) (x5 : Int) (x6 : Int) (u : iST) : Prop :=
  bd x1 60 (rd (u.2.1 9 x1) (fun v3 => 
  br (v3 ≤ x6) (
    zt x5 (Q x5 u)) (
    br (x5 = 0) (
      zt x5 (Q x5 u)) (
      bd x1 60 (
      bd x6 60 (rd (u.2.1 50 (60 * x1 + x6)) (fun v6 => 
      v_10_bindVariablesOf v6 (fun u => 
      v_10_hasBound x2 (fun v8 u => 
      ov (x6 + 1) (
      R95 x1 x2 v8 (x6 + 1) u)) u) u)))))))
def v_6_isRule_95 (Q : Int → iST → Prop) (x1 : Int) (x2 : Int) (x5 : Int) (x6 : Int) (u : iST) : Prop := ∀ R95 : Int → Int → Int → Int → iST → Prop, (∀ (x1 : Int) (x2 : Int) (x5 : Int) (x6 : Int) (u : iST), v_6_isRule_95b R95 Q x1 x2 x5 x6 u → R95 x1 x2 x5 x6 u) → R95 x1 x2 x5 x6 u
set_option maxRecDepth 20000 in
set_option maxHeartbeats 4000000 in
theorem f_6_isRule_95 (X : yX RX6 p m c cX6_isRule 7 s args D ca ad A) (hRf : 3 ≤ R.frames) (hRl : 76 ≤ R.locals) {Q : Int → iST → Prop} (hret : ∀ (v : Int) (u : iST) (H : Heap) (locs : List Loc) (ls : Array Slot) (pc : Nat), bz v → Q v u → yW D ca A ad s H locs u → decode cX6_isRule pc = .ok (.ireturn, 1) → W p l e R s m args below meth c H locs 0 0 Qf (F0 m pc ls [.int (jI v)])) {x1 x2 x5 x6 : Int} (rx1 : inR x1) (rx2 : inR x2) (rx5 : inR x5) (rx6 : inR x6) (hw : yW D ca A ad s H locs u) (hl : lv_has ls 7 [(0, .ref (ad 0 5)), (1, .int (jI x1)), (2, .int (jI x2)), (5, .int (jI x5)), (6, .int (jI x6))]) (h : v_6_isRule_95 Q x1 x2 x5 x6 u) : W p l e R s m args below meth c H locs 0 0 Qf (F0 m 95 ls []) := by
  refine h (fun x1 x2 x5 x6 u => ∀ (H : Heap) (locs : List Loc) (ls : Array Slot), inR x1 → inR x2 → inR x5 → inR x6 → yW D ca A ad s H locs u → lv_has ls 7 [(0, .ref (ad 0 5)), (1, .int (jI x1)), (2, .int (jI x2)), (5, .int (jI x5)), (6, .int (jI x6))] → W p l e R s m args below meth c H locs 0 0 Qf (F0 m 95 ls [])) ?_ H locs ls rx1 rx2 rx5 rx6 hw hl
  clear h hl hw rx1 rx2 rx5 rx6
  intro x1 x2 x5 x6 u h H locs ls rx1 rx2 rx5 rx6 hw hl
  have hR95 : ∀ (x1 : Int) (x2 : Int) (x5 : Int) (x6 : Int) (u : iST) (H : Heap) (locs : List Loc) (ls : Array Slot), inR x1 → inR x2 → inR x5 → inR x6 → yW D ca A ad s H locs u → lv_has ls 7 [(0, .ref (ad 0 5)), (1, .int (jI x1)), (2, .int (jI x2)), (5, .int (jI x5)), (6, .int (jI x6))] → (fun (x1 : Int) (x2 : Int) (x5 : Int) (x6 : Int) u => ∀ (H : Heap) (locs : List Loc) (ls : Array Slot), inR x1 → inR x2 → inR x5 → inR x6 → yW D ca A ad s H locs u → lv_has ls 7 [(0, .ref (ad 0 5)), (1, .int (jI x1)), (2, .int (jI x2)), (5, .int (jI x5)), (6, .int (jI x6))] → W p l e R s m args below meth c H locs 0 0 Qf (F0 m 95 ls [])) x1 x2 x5 x6 u → W p l e R s m args below meth c H locs 0 0 Qf (F0 m 95 ls []) := fun x1 x2 x5 x6 u H locs ls rx1 rx2 rx5 rx6 hw hl h => h H locs ls rx1 rx2 rx5 rx6 hw hl
  have hx := X.1.1
  have hb := X.1.2.1
  unfold v_6_isRule_95b at h
  refine lv_iload hx hb dX6_isRule_95 (lv_at hl 4 rfl) ?_
  refine lv_aload_n hx hb dX6_isRule_97 rfl (lv_at hl 0 rfl) ?_
  refine yg_6_43 X hw dX6_isRule_98 ?_
  refine yg_6_273 X hw dX6_isRule_101 ?_
  refine lv_iload_n hx hb dX6_isRule_104 rfl (lv_at hl 1 rfl) ?_
  refine yl_9 X hw rx1 dX6_isRule_105 h (fun v3 rv3 h => ?_)
  refine k_icmp_ge hx hb rx6 rv3 dX6_isRule_106 (tgt := 149) rfl h (fun h => ?_) (fun h => ?_)
  · refine lv_iload hx hb dX6_isRule_149 (lv_at hl 3 rfl) ?_
    exact hret _ _ _ _ _ _ h.1 h.2 hw dX6_isRule_151
  · refine lv_iload hx hb dX6_isRule_109 (lv_at hl 3 rfl) ?_
    refine k_if_eq hx hb rx5 dX6_isRule_111 (tgt := 149) rfl h (fun h => ?_) (fun h => ?_)
    · refine lv_iload hx hb dX6_isRule_149 (lv_at hl 3 rfl) ?_
      exact hret _ _ _ _ _ _ h.1 h.2 hw dX6_isRule_151
    · refine lv_aload_n hx hb dX6_isRule_114 rfl (lv_at hl 0 rfl) ?_
      refine yg_6_47 X hw dX6_isRule_115 ?_
      refine lv_aload_n hx hb dX6_isRule_118 rfl (lv_at hl 0 rfl) ?_
      refine yg_6_43 X hw dX6_isRule_119 ?_
      refine yg_6_276 X hw dX6_isRule_122 ?_
      refine lv_iload_n hx hb dX6_isRule_125 rfl (lv_at hl 1 rfl) ?_
      have q4 := h
      have r5 : (0 ≤ x1 ∧ x1 < 60) := ⟨q4.1, by have := q4.2.1; omega⟩
      refine yx_0 X hw rx1 dX6_isRule_126 h (fun h => ?_)
      refine lv_iload hx hb dX6_isRule_127 (lv_at hl 4 rfl) ?_
      refine yfl_hyps X hw r5 rx6 dX6_isRule_129 h (fun v6 rv6 h => ?_)
      refine ycV (n := 1) (e_10_bindVariablesOf rv6 h) 10 8 (r := (RX10, TX10, 16)) rfl yG_6_320 yD_10_bindVariablesOf X hw rfl yGo_10 (Nat.le_trans (Nat.le_of_ble_eq_true rfl) hRf) (Nat.le_trans (Nat.le_of_ble_eq_true rfl) hRl) rfl hl.1 (Nat.le_of_ble_eq_true rfl) rfl dX6_isRule_130 (fun u H locs h hw => ?_)
      refine lv_aload_n hx hb dX6_isRule_133 rfl (lv_at hl 0 rfl) ?_
      refine yg_6_47 X hw dX6_isRule_134 ?_
      refine lv_iload_n hx hb dX6_isRule_137 rfl (lv_at hl 2 rfl) ?_
      refine ycI (n := 1) (e_10_hasBound rx2 h) 10 8 (r := (RX10, TX10, 16)) rfl yG_6_323 yD_10_hasBound X hw rfl yGo_10 (Nat.le_trans (Nat.le_of_ble_eq_true rfl) hRf) (Nat.le_trans (Nat.le_of_ble_eq_true rfl) hRl) rfl hl.1 (Nat.le_of_ble_eq_true rfl) rfl dX6_isRule_138 (fun v8 u H locs rv8 h hw => ?_)
      refine lv_istore hx hb dX6_isRule_141 hl (by decide) rfl (fun ls hl => ?_)
      have hl : lv_has ls 7 [(5, .int (jI v8)), (0, .ref (ad 0 5)), (1, .int (jI x1)), (2, .int (jI x2)), (6, .int (jI x6))] := hl
      refine k_iinc (k := 4) hx hb dX6_isRule_143 hl rfl (by decide) rfl h (fun ls r9 h hl => ?_)
      have hl : lv_has ls 7 [(6, .int (jI (x6 + 1))), (5, .int (jI v8)), (0, .ref (ad 0 5)), (1, .int (jI x1)), (2, .int (jI x2))] := hl
      refine lv_goto hx hb dX6_isRule_146 (tgt := 95) rfl ?_
      exact hR95 _ _ _ _ _ H locs ls rx1 rx2 rv8 r9 hw (lv_sub hl [2, 3, 4, 1, 0] rfl) h

def v_6_isRule_90 (Q : Int → iST → Prop) (x1 : Int) (x2 : Int) (y0 : Int) (u : iST) : Prop :=
  v_6_isRule_95 Q x1 x2 y0 0 u
set_option maxRecDepth 20000 in
set_option maxHeartbeats 4000000 in
theorem f_6_isRule_90 (X : yX RX6 p m c cX6_isRule 7 s args D ca ad A) (hRf : 3 ≤ R.frames) (hRl : 76 ≤ R.locals) {Q : Int → iST → Prop} (hret : ∀ (v : Int) (u : iST) (H : Heap) (locs : List Loc) (ls : Array Slot) (pc : Nat), bz v → Q v u → yW D ca A ad s H locs u → decode cX6_isRule pc = .ok (.ireturn, 1) → W p l e R s m args below meth c H locs 0 0 Qf (F0 m pc ls [.int (jI v)])) {x1 x2 y0 : Int} (rx1 : inR x1) (rx2 : inR x2) (ry0 : inR y0) (hw : yW D ca A ad s H locs u) (hl : lv_has ls 7 [(0, .ref (ad 0 5)), (1, .int (jI x1)), (2, .int (jI x2))]) (h : v_6_isRule_90 Q x1 x2 y0 u) : W p l e R s m args below meth c H locs 0 0 Qf (F0 m 90 ls [.int (jI y0)]) := by
  have hx := X.1.1
  have hb := X.1.2.1
  unfold v_6_isRule_90 at h
  refine lv_istore hx hb dX6_isRule_90 hl (by decide) rfl (fun ls hl => ?_)
  have hl : lv_has ls 7 [(5, .int (jI y0)), (0, .ref (ad 0 5)), (1, .int (jI x1)), (2, .int (jI x2))] := hl
  refine lv_iconst hx hb dX6_isRule_92 (v := jI 0) rfl ?_
  refine lv_istore hx hb dX6_isRule_93 hl (by decide) rfl (fun ls hl => ?_)
  have hl : lv_has ls 7 [(6, .int (jI 0)), (5, .int (jI y0)), (0, .ref (ad 0 5)), (1, .int (jI x1)), (2, .int (jI x2))] := hl
  exact f_6_isRule_95 X hRf hRl hret rx1 rx2 ry0 (by decide) hw (lv_sub hl [2, 3, 4, 1, 0] rfl) h

def v_6_isRule_89 (Q : Int → iST → Prop) (x1 : Int) (x2 : Int) (u : iST) : Prop :=
  v_6_isRule_90 Q x1 x2 0 u
set_option maxRecDepth 20000 in
set_option maxHeartbeats 4000000 in
theorem f_6_isRule_89 (X : yX RX6 p m c cX6_isRule 7 s args D ca ad A) (hRf : 3 ≤ R.frames) (hRl : 76 ≤ R.locals) {Q : Int → iST → Prop} (hret : ∀ (v : Int) (u : iST) (H : Heap) (locs : List Loc) (ls : Array Slot) (pc : Nat), bz v → Q v u → yW D ca A ad s H locs u → decode cX6_isRule pc = .ok (.ireturn, 1) → W p l e R s m args below meth c H locs 0 0 Qf (F0 m pc ls [.int (jI v)])) {x1 x2 : Int} (rx1 : inR x1) (rx2 : inR x2) (hw : yW D ca A ad s H locs u) (hl : lv_has ls 7 [(0, .ref (ad 0 5)), (1, .int (jI x1)), (2, .int (jI x2))]) (h : v_6_isRule_89 Q x1 x2 u) : W p l e R s m args below meth c H locs 0 0 Qf (F0 m 89 ls []) := by
  have hx := X.1.1
  have hb := X.1.2.1
  unfold v_6_isRule_89 at h
  refine lv_iconst hx hb dX6_isRule_89 (v := jI 0) rfl ?_
  exact f_6_isRule_90 X hRf hRl hret rx1 rx2 (by decide) hw hl h

def v_6_isRule_59 (Q : Int → iST → Prop) (x1 : Int) (x2 : Int) (x3 : Int) (y0 : Int) (u : iST) : Prop :=
  v_10_bindVariablesOf x3 (fun u => 
  br (y0 = 0) (
    v_6_isRule_89 Q x1 x2 u) (
    v_10_hasBound x2 (fun v10 u => 
    br (v10 = 0) (
      v_6_isRule_89 Q x1 x2 u) (
      v_6_isRule_90 Q x1 x2 1 u)) u)) u
set_option maxRecDepth 20000 in
set_option maxHeartbeats 4000000 in
theorem f_6_isRule_59 (X : yX RX6 p m c cX6_isRule 7 s args D ca ad A) (hRf : 3 ≤ R.frames) (hRl : 76 ≤ R.locals) {Q : Int → iST → Prop} (hret : ∀ (v : Int) (u : iST) (H : Heap) (locs : List Loc) (ls : Array Slot) (pc : Nat), bz v → Q v u → yW D ca A ad s H locs u → decode cX6_isRule pc = .ok (.ireturn, 1) → W p l e R s m args below meth c H locs 0 0 Qf (F0 m pc ls [.int (jI v)])) {x1 x2 x3 y0 : Int} (rx1 : inR x1) (rx2 : inR x2) (rx3 : inR x3) (ry0 : inR y0) (hw : yW D ca A ad s H locs u) (hl : lv_has ls 7 [(0, .ref (ad 0 5)), (1, .int (jI x1)), (2, .int (jI x2)), (3, .int (jI x3))]) (h : v_6_isRule_59 Q x1 x2 x3 y0 u) : W p l e R s m args below meth c H locs 0 0 Qf (F0 m 59 ls [.int (jI y0)]) := by
  have hx := X.1.1
  have hb := X.1.2.1
  unfold v_6_isRule_59 at h
  refine lv_istore hx hb dX6_isRule_59 hl (by decide) rfl (fun ls hl => ?_)
  have hl : lv_has ls 7 [(4, .int (jI y0)), (0, .ref (ad 0 5)), (1, .int (jI x1)), (2, .int (jI x2)), (3, .int (jI x3))] := hl
  refine lv_aload_n hx hb dX6_isRule_61 rfl (lv_at hl 1 rfl) ?_
  refine yg_6_47 X hw dX6_isRule_62 ?_
  refine lv_iload_n hx hb dX6_isRule_65 rfl (lv_at hl 4 rfl) ?_
  refine ycV (n := 1) (e_10_bindVariablesOf rx3 h) 10 8 (r := (RX10, TX10, 16)) rfl yG_6_320 yD_10_bindVariablesOf X hw rfl yGo_10 (Nat.le_trans (Nat.le_of_ble_eq_true rfl) hRf) (Nat.le_trans (Nat.le_of_ble_eq_true rfl) hRl) rfl hl.1 (Nat.le_of_ble_eq_true rfl) rfl dX6_isRule_66 (fun u H locs h hw => ?_)
  refine lv_iload hx hb dX6_isRule_69 (lv_at hl 0 rfl) ?_
  refine k_if_eq hx hb ry0 dX6_isRule_71 (tgt := 89) rfl h (fun h => ?_) (fun h => ?_)
  · exact f_6_isRule_89 X hRf hRl hret rx1 rx2 hw (lv_sub hl [1, 2, 3] rfl) h
  · refine lv_aload_n hx hb dX6_isRule_74 rfl (lv_at hl 1 rfl) ?_
    refine yg_6_47 X hw dX6_isRule_75 ?_
    refine lv_iload_n hx hb dX6_isRule_78 rfl (lv_at hl 3 rfl) ?_
    refine ycI (n := 1) (e_10_hasBound rx2 h) 10 8 (r := (RX10, TX10, 16)) rfl yG_6_323 yD_10_hasBound X hw rfl yGo_10 (Nat.le_trans (Nat.le_of_ble_eq_true rfl) hRf) (Nat.le_trans (Nat.le_of_ble_eq_true rfl) hRl) rfl hl.1 (Nat.le_of_ble_eq_true rfl) rfl dX6_isRule_79 (fun v10 u H locs rv10 h hw => ?_)
    refine k_if_eq hx hb rv10 dX6_isRule_82 (tgt := 89) rfl h (fun h => ?_) (fun h => ?_)
    · exact f_6_isRule_89 X hRf hRl hret rx1 rx2 hw (lv_sub hl [1, 2, 3] rfl) h
    · refine lv_iconst hx hb dX6_isRule_85 (v := jI 1) rfl ?_
      refine lv_goto hx hb dX6_isRule_86 (tgt := 90) rfl ?_
      exact f_6_isRule_90 X hRf hRl hret rx1 rx2 (by decide) hw (lv_sub hl [1, 2, 3] rfl) h

def v_6_isRule_58 (Q : Int → iST → Prop) (x1 : Int) (x2 : Int) (x3 : Int) (u : iST) : Prop :=
  v_6_isRule_59 Q x1 x2 x3 0 u
set_option maxRecDepth 20000 in
set_option maxHeartbeats 4000000 in
theorem f_6_isRule_58 (X : yX RX6 p m c cX6_isRule 7 s args D ca ad A) (hRf : 3 ≤ R.frames) (hRl : 76 ≤ R.locals) {Q : Int → iST → Prop} (hret : ∀ (v : Int) (u : iST) (H : Heap) (locs : List Loc) (ls : Array Slot) (pc : Nat), bz v → Q v u → yW D ca A ad s H locs u → decode cX6_isRule pc = .ok (.ireturn, 1) → W p l e R s m args below meth c H locs 0 0 Qf (F0 m pc ls [.int (jI v)])) {x1 x2 x3 : Int} (rx1 : inR x1) (rx2 : inR x2) (rx3 : inR x3) (hw : yW D ca A ad s H locs u) (hl : lv_has ls 7 [(0, .ref (ad 0 5)), (1, .int (jI x1)), (2, .int (jI x2)), (3, .int (jI x3))]) (h : v_6_isRule_58 Q x1 x2 x3 u) : W p l e R s m args below meth c H locs 0 0 Qf (F0 m 58 ls []) := by
  have hx := X.1.1
  have hb := X.1.2.1
  unfold v_6_isRule_58 at h
  refine lv_iconst hx hb dX6_isRule_58 (v := jI 0) rfl ?_
  exact f_6_isRule_59 X hRf hRl hret rx1 rx2 rx3 (by decide) hw hl h

def v_6_isRule (a0 : Int) (a1 : Int) (a2 : Int) (Q : Int → iST → Prop) (u : iST) : Prop :=
  v_7_isCall a1 (fun v1 u => 
  br (v1 = 0) (
    v_6_isRule_58 Q a0 a1 a2 u) (
    v_7_isCallOf a1 3 (fun v11 u => 
    br (v11 ≠ 0) (
      v_6_isRule_58 Q a0 a1 a2 u) (
      v_7_isCallOf a1 16 (fun v12 u => 
      br (v12 ≠ 0) (
        v_6_isRule_58 Q a0 a1 a2 u) (
        v_7_isCallOf a1 6 (fun v13 u => 
        br (v13 ≠ 0) (
          v_6_isRule_58 Q a0 a1 a2 u) (
          br (a2 = a1) (
            v_6_isRule_58 Q a0 a1 a2 u) (
            v_6_isRule_59 Q a0 a1 a2 1 u))) u)) u)) u)) u
set_option maxRecDepth 20000 in
set_option maxHeartbeats 4000000 in
theorem f_6_isRule_s (X : yX RX6 p m c cX6_isRule 7 s args D ca ad A) (hRf : 3 ≤ R.frames) (hRl : 76 ≤ R.locals) {Q : Int → iST → Prop} (hret : ∀ (v : Int) (u : iST) (H : Heap) (locs : List Loc) (ls : Array Slot) (pc : Nat), bz v → Q v u → yW D ca A ad s H locs u → decode cX6_isRule pc = .ok (.ireturn, 1) → W p l e R s m args below meth c H locs 0 0 Qf (F0 m pc ls [.int (jI v)])) {a0 a1 a2 : Int} (ra0 : inR a0) (ra1 : inR a1) (ra2 : inR a2) (hw : yW D ca A ad s H locs u) (hl : lv_has ls 7 [(0, .ref (ad 0 5)), (1, .int (jI a0)), (2, .int (jI a1)), (3, .int (jI a2))]) (h : v_6_isRule a0 a1 a2 Q u) : W p l e R s m args below meth c H locs 0 0 Qf (F0 m 0 ls []) := by
  have hx := X.1.1
  have hb := X.1.2.1
  unfold v_6_isRule at h
  refine lv_aload_n hx hb dX6_isRule_0 rfl (lv_at hl 0 rfl) ?_
  refine yg_6_39 X hw dX6_isRule_1 ?_
  refine lv_iload_n hx hb dX6_isRule_4 rfl (lv_at hl 2 rfl) ?_
  refine ycI (n := 1) (e_7_isCall ra1 h) 7 6 (r := (RX7, TX7, 9)) rfl yG_6_169 yD_7_isCall X hw rfl yGo_7 (Nat.le_trans (Nat.le_of_ble_eq_true rfl) hRf) (Nat.le_trans (Nat.le_of_ble_eq_true rfl) hRl) rfl hl.1 (Nat.le_of_ble_eq_true rfl) rfl dX6_isRule_5 (fun v1 u H locs rv1 h hw => ?_)
  refine k_if_eq hx hb rv1 dX6_isRule_8 (tgt := 58) rfl h (fun h => ?_) (fun h => ?_)
  · exact f_6_isRule_58 X hRf hRl hret ra0 ra1 ra2 hw hl h
  · refine lv_aload_n hx hb dX6_isRule_11 rfl (lv_at hl 0 rfl) ?_
    refine yg_6_39 X hw dX6_isRule_12 ?_
    refine lv_iload_n hx hb dX6_isRule_15 rfl (lv_at hl 2 rfl) ?_
    refine lv_iconst hx hb dX6_isRule_16 (v := jI 3) rfl ?_
    refine ycI (n := 2) (e_7_isCallOf ra1 (by decide) h) 7 6 (r := (RX7, TX7, 9)) rfl yG_6_175 yD_7_isCallOf X hw rfl yGo_7 (Nat.le_trans (Nat.le_of_ble_eq_true rfl) hRf) (Nat.le_trans (Nat.le_of_ble_eq_true rfl) hRl) rfl hl.1 (Nat.le_of_ble_eq_true rfl) rfl dX6_isRule_17 (fun v11 u H locs rv11 h hw => ?_)
    refine k_if_ne hx hb rv11 dX6_isRule_20 (tgt := 58) rfl h (fun h => ?_) (fun h => ?_)
    · exact f_6_isRule_58 X hRf hRl hret ra0 ra1 ra2 hw hl h
    · refine lv_aload_n hx hb dX6_isRule_23 rfl (lv_at hl 0 rfl) ?_
      refine yg_6_39 X hw dX6_isRule_24 ?_
      refine lv_iload_n hx hb dX6_isRule_27 rfl (lv_at hl 2 rfl) ?_
      refine lv_bipush hx hb dX6_isRule_28 (v := jI 16) rfl ?_
      refine ycI (n := 2) (e_7_isCallOf ra1 (by decide) h) 7 6 (r := (RX7, TX7, 9)) rfl yG_6_175 yD_7_isCallOf X hw rfl yGo_7 (Nat.le_trans (Nat.le_of_ble_eq_true rfl) hRf) (Nat.le_trans (Nat.le_of_ble_eq_true rfl) hRl) rfl hl.1 (Nat.le_of_ble_eq_true rfl) rfl dX6_isRule_30 (fun v12 u H locs rv12 h hw => ?_)
      refine k_if_ne hx hb rv12 dX6_isRule_33 (tgt := 58) rfl h (fun h => ?_) (fun h => ?_)
      · exact f_6_isRule_58 X hRf hRl hret ra0 ra1 ra2 hw hl h
      · refine lv_aload_n hx hb dX6_isRule_36 rfl (lv_at hl 0 rfl) ?_
        refine yg_6_39 X hw dX6_isRule_37 ?_
        refine lv_iload_n hx hb dX6_isRule_40 rfl (lv_at hl 2 rfl) ?_
        refine lv_bipush hx hb dX6_isRule_41 (v := jI 6) rfl ?_
        refine ycI (n := 2) (e_7_isCallOf ra1 (by decide) h) 7 6 (r := (RX7, TX7, 9)) rfl yG_6_175 yD_7_isCallOf X hw rfl yGo_7 (Nat.le_trans (Nat.le_of_ble_eq_true rfl) hRf) (Nat.le_trans (Nat.le_of_ble_eq_true rfl) hRl) rfl hl.1 (Nat.le_of_ble_eq_true rfl) rfl dX6_isRule_43 (fun v13 u H locs rv13 h hw => ?_)
        refine k_if_ne hx hb rv13 dX6_isRule_46 (tgt := 58) rfl h (fun h => ?_) (fun h => ?_)
        · exact f_6_isRule_58 X hRf hRl hret ra0 ra1 ra2 hw hl h
        · refine lv_iload_n hx hb dX6_isRule_49 rfl (lv_at hl 3 rfl) ?_
          refine lv_iload_n hx hb dX6_isRule_50 rfl (lv_at hl 2 rfl) ?_
          refine k_icmp_eq hx hb ra2 ra1 dX6_isRule_51 (tgt := 58) rfl h (fun h => ?_) (fun h => ?_)
          · exact f_6_isRule_58 X hRf hRl hret ra0 ra1 ra2 hw hl h
          · refine lv_iconst hx hb dX6_isRule_54 (v := jI 1) rfl ?_
            refine lv_goto hx hb dX6_isRule_55 (tgt := 59) rfl ?_
            exact f_6_isRule_59 X hRf hRl hret ra0 ra1 ra2 (by decide) hw hl h

end
theorem e_6_isRule {l : Launch} {a0 : Int} {a1 : Int} {a2 : Int} (ra0 : inR a0) (ra1 : inR a1) (ra2 : inR a2) {Q : Int → iST → Prop} {u : iST} (h : v_6_isRule a0 a1 a2 Q u) : yMI l yX6_isRule (.code yX6_isRule cX6_isRule 7 (some .boolean) :: wsN) { frames := 3, cells := 0, slots := 0, locals := 76 } (fun ad => [.ref (ad 0 5), .int (jI a0), .int (jI a1), .int (jI a2)]) Q u := yMZ_of (own := RX6) rfl (by decide +kernel) (fun _ => Nat.le_of_ble_eq_true rfl) (fun X hRf hRl hret hw hl => f_6_isRule_s X hRf hRl hret ra0 ra1 ra2 hw hl h)

/-! ProofHouse$Terms.isBoundToVariables -/
theorem dX10_isBoundToVariables_0 : decode cX10_isBoundToVariables 0 = .ok (.iconst 0, 1) := by decide +kernel
theorem dX10_isBoundToVariables_1 : decode cX10_isBoundToVariables 1 = .ok (.istore_n 1, 1) := by decide +kernel
theorem dX10_isBoundToVariables_2 : decode cX10_isBoundToVariables 2 = .ok (.iload_n 1, 1) := by decide +kernel
theorem dX10_isBoundToVariables_3 : decode cX10_isBoundToVariables 3 = .ok (.aload_n 0, 1) := by decide +kernel
theorem dX10_isBoundToVariables_4 : decode cX10_isBoundToVariables 4 = .ok (.getfield 25, 3) := by decide +kernel
theorem dX10_isBoundToVariables_7 : decode cX10_isBoundToVariables 7 = .ok (.if_icmp .ge 57, 3) := by decide +kernel
theorem dX10_isBoundToVariables_10 : decode cX10_isBoundToVariables 10 = .ok (.aload_n 0, 1) := by decide +kernel
theorem dX10_isBoundToVariables_11 : decode cX10_isBoundToVariables 11 = .ok (.getfield 55, 3) := by decide +kernel
theorem dX10_isBoundToVariables_14 : decode cX10_isBoundToVariables 14 = .ok (.aload_n 0, 1) := by decide +kernel
theorem dX10_isBoundToVariables_15 : decode cX10_isBoundToVariables 15 = .ok (.getfield 22, 3) := by decide +kernel
theorem dX10_isBoundToVariables_18 : decode cX10_isBoundToVariables 18 = .ok (.iload_n 1, 1) := by decide +kernel
theorem dX10_isBoundToVariables_19 : decode cX10_isBoundToVariables 19 = .ok (.iaload, 1) := by decide +kernel
theorem dX10_isBoundToVariables_20 : decode cX10_isBoundToVariables 20 = .ok (.invokevirtual 106, 3) := by decide +kernel
theorem dX10_isBoundToVariables_23 : decode cX10_isBoundToVariables 23 = .ok (.ifCond .ne 5, 3) := by decide +kernel
theorem dX10_isBoundToVariables_26 : decode cX10_isBoundToVariables 26 = .ok (.iconst 0, 1) := by decide +kernel
theorem dX10_isBoundToVariables_27 : decode cX10_isBoundToVariables 27 = .ok (.ireturn, 1) := by decide +kernel
theorem dX10_isBoundToVariables_28 : decode cX10_isBoundToVariables 28 = .ok (.iconst 0, 1) := by decide +kernel
theorem dX10_isBoundToVariables_29 : decode cX10_isBoundToVariables 29 = .ok (.istore_n 2, 1) := by decide +kernel
theorem dX10_isBoundToVariables_30 : decode cX10_isBoundToVariables 30 = .ok (.iload_n 2, 1) := by decide +kernel
theorem dX10_isBoundToVariables_31 : decode cX10_isBoundToVariables 31 = .ok (.iload_n 1, 1) := by decide +kernel
theorem dX10_isBoundToVariables_32 : decode cX10_isBoundToVariables 32 = .ok (.if_icmp .ge 26, 3) := by decide +kernel
theorem dX10_isBoundToVariables_35 : decode cX10_isBoundToVariables 35 = .ok (.aload_n 0, 1) := by decide +kernel
theorem dX10_isBoundToVariables_36 : decode cX10_isBoundToVariables 36 = .ok (.getfield 22, 3) := by decide +kernel
theorem dX10_isBoundToVariables_39 : decode cX10_isBoundToVariables 39 = .ok (.iload_n 2, 1) := by decide +kernel
theorem dX10_isBoundToVariables_40 : decode cX10_isBoundToVariables 40 = .ok (.iaload, 1) := by decide +kernel
theorem dX10_isBoundToVariables_41 : decode cX10_isBoundToVariables 41 = .ok (.aload_n 0, 1) := by decide +kernel
theorem dX10_isBoundToVariables_42 : decode cX10_isBoundToVariables 42 = .ok (.getfield 22, 3) := by decide +kernel
theorem dX10_isBoundToVariables_45 : decode cX10_isBoundToVariables 45 = .ok (.iload_n 1, 1) := by decide +kernel
theorem dX10_isBoundToVariables_46 : decode cX10_isBoundToVariables 46 = .ok (.iaload, 1) := by decide +kernel
theorem dX10_isBoundToVariables_47 : decode cX10_isBoundToVariables 47 = .ok (.if_icmp .ne 5, 3) := by decide +kernel
theorem dX10_isBoundToVariables_50 : decode cX10_isBoundToVariables 50 = .ok (.iconst 0, 1) := by decide +kernel
theorem dX10_isBoundToVariables_51 : decode cX10_isBoundToVariables 51 = .ok (.ireturn, 1) := by decide +kernel
theorem dX10_isBoundToVariables_52 : decode cX10_isBoundToVariables 52 = .ok (.iinc 2 1, 3) := by decide +kernel
theorem dX10_isBoundToVariables_55 : decode cX10_isBoundToVariables 55 = .ok (.goto (-25), 3) := by decide +kernel
theorem dX10_isBoundToVariables_58 : decode cX10_isBoundToVariables 58 = .ok (.iinc 1 1, 3) := by decide +kernel
theorem dX10_isBoundToVariables_61 : decode cX10_isBoundToVariables 61 = .ok (.goto (-59), 3) := by decide +kernel
theorem dX10_isBoundToVariables_64 : decode cX10_isBoundToVariables 64 = .ok (.iconst 1, 1) := by decide +kernel
theorem dX10_isBoundToVariables_65 : decode cX10_isBoundToVariables 65 = .ok (.ireturn, 1) := by decide +kernel

section
variable {p : Program} {l : Launch} {e : Env} {R : Room} {s : State} {m : MethodId} {args : Array Value} {below : List Frame} {meth : Method} {c : Code} {H : Heap} {locs : List Loc} {Qf : State → Prop}
variable {ls : Array Slot} {D : va_G} {ca : Nat → ClassId} {A : Nat → Prop} {ad : Nat → Nat → Nat} {u : iST}
def v_10_isBoundToVariables_30b (R2 : Int → iST → Prop) (R30 : Int → Int → iST → Prop) (Q : Int → iST → Prop) (x1 : Int) (x2 : Int) (u : iST) : Prop :=
  br (x1 ≤ x2) (
    ov (x1 + 1) (
    R2 (x1 + 1) u)) (
    bd x2 256 (rd (u.2.1 36 x2) (fun v5 => 
    bd x1 256 (rd (u.2.1 36 x1) (fun v6 => 
    br (v5 ≠ v6) (
      ov (x2 + 1) (
      R30 x1 (x2 + 1) u)) (
      zt 0 (Q 0 u)))))))
def v_10_isBoundToVariables_30 (R2 : Int → iST → Prop) (Q : Int → iST → Prop) (x1 : Int) (x2 : Int) (u : iST) : Prop := ∀ R30 : Int → Int → iST → Prop, (∀ (x1 : Int) (x2 : Int) (u : iST), v_10_isBoundToVariables_30b R2 R30 Q x1 x2 u → R30 x1 x2 u) → R30 x1 x2 u
set_option maxRecDepth 20000 in
set_option maxHeartbeats 4000000 in
theorem f_10_isBoundToVariables_30 (X : yX RX10 p m c cX10_isBoundToVariables 3 s args D ca ad A) (hRf : 1 ≤ R.frames) (hRl : 21 ≤ R.locals) {Q : Int → iST → Prop} (hret : ∀ (v : Int) (u : iST) (H : Heap) (locs : List Loc) (ls : Array Slot) (pc : Nat), bz v → Q v u → yW D ca A ad s H locs u → decode cX10_isBoundToVariables pc = .ok (.ireturn, 1) → W p l e R s m args below meth c H locs 0 0 Qf (F0 m pc ls [.int (jI v)])) {R2 : Int → iST → Prop} (hR2 : ∀ (x1 : Int) (u : iST) (H : Heap) (locs : List Loc) (ls : Array Slot), inR x1 → yW D ca A ad s H locs u → lv_has ls 3 [(0, .ref (ad 0 8)), (1, .int (jI x1))] → R2 x1 u → W p l e R s m args below meth c H locs 0 0 Qf (F0 m 2 ls [])) {x1 x2 : Int} (rx1 : inR x1) (rx2 : inR x2) (hw : yW D ca A ad s H locs u) (hl : lv_has ls 3 [(0, .ref (ad 0 8)), (1, .int (jI x1)), (2, .int (jI x2))]) (h : v_10_isBoundToVariables_30 R2 Q x1 x2 u) : W p l e R s m args below meth c H locs 0 0 Qf (F0 m 30 ls []) := by
  refine h (fun x1 x2 u => ∀ (H : Heap) (locs : List Loc) (ls : Array Slot), inR x1 → inR x2 → yW D ca A ad s H locs u → lv_has ls 3 [(0, .ref (ad 0 8)), (1, .int (jI x1)), (2, .int (jI x2))] → W p l e R s m args below meth c H locs 0 0 Qf (F0 m 30 ls [])) ?_ H locs ls rx1 rx2 hw hl
  clear h hl hw rx1 rx2
  intro x1 x2 u h H locs ls rx1 rx2 hw hl
  have hR30 : ∀ (x1 : Int) (x2 : Int) (u : iST) (H : Heap) (locs : List Loc) (ls : Array Slot), inR x1 → inR x2 → yW D ca A ad s H locs u → lv_has ls 3 [(0, .ref (ad 0 8)), (1, .int (jI x1)), (2, .int (jI x2))] → (fun (x1 : Int) (x2 : Int) u => ∀ (H : Heap) (locs : List Loc) (ls : Array Slot), inR x1 → inR x2 → yW D ca A ad s H locs u → lv_has ls 3 [(0, .ref (ad 0 8)), (1, .int (jI x1)), (2, .int (jI x2))] → W p l e R s m args below meth c H locs 0 0 Qf (F0 m 30 ls [])) x1 x2 u → W p l e R s m args below meth c H locs 0 0 Qf (F0 m 30 ls []) := fun x1 x2 u H locs ls rx1 rx2 hw hl h => h H locs ls rx1 rx2 hw hl
  have hx := X.1.1
  have hb := X.1.2.1
  unfold v_10_isBoundToVariables_30b at h
  refine lv_iload_n hx hb dX10_isBoundToVariables_30 rfl (lv_at hl 2 rfl) ?_
  refine lv_iload_n hx hb dX10_isBoundToVariables_31 rfl (lv_at hl 1 rfl) ?_
  refine k_icmp_ge hx hb rx2 rx1 dX10_isBoundToVariables_32 (tgt := 58) rfl h (fun h => ?_) (fun h => ?_)
  · refine k_iinc (k := 1) hx hb dX10_isBoundToVariables_58 hl rfl (by decide) rfl h (fun ls r4 h hl => ?_)
    have hl : lv_has ls 3 [(1, .int (jI (x1 + 1))), (0, .ref (ad 0 8)), (2, .int (jI x2))] := hl
    refine lv_goto hx hb dX10_isBoundToVariables_61 (tgt := 2) rfl ?_
    exact hR2 _ _ H locs ls r4 hw (lv_sub hl [1, 0] rfl) h
  · refine lv_aload_n hx hb dX10_isBoundToVariables_35 rfl (lv_at hl 0 rfl) ?_
    refine yg_10_22 X hw dX10_isBoundToVariables_36 ?_
    refine lv_iload_n hx hb dX10_isBoundToVariables_39 rfl (lv_at hl 2 rfl) ?_
    refine yl_36 X hw rx2 dX10_isBoundToVariables_40 h (fun v5 rv5 h => ?_)
    refine lv_aload_n hx hb dX10_isBoundToVariables_41 rfl (lv_at hl 0 rfl) ?_
    refine yg_10_22 X hw dX10_isBoundToVariables_42 ?_
    refine lv_iload_n hx hb dX10_isBoundToVariables_45 rfl (lv_at hl 1 rfl) ?_
    refine yl_36 X hw rx1 dX10_isBoundToVariables_46 h (fun v6 rv6 h => ?_)
    refine k_icmp_ne hx hb rv5 rv6 dX10_isBoundToVariables_47 (tgt := 52) rfl h (fun h => ?_) (fun h => ?_)
    · refine k_iinc (k := 2) hx hb dX10_isBoundToVariables_52 hl rfl (by decide) rfl h (fun ls r7 h hl => ?_)
      have hl : lv_has ls 3 [(2, .int (jI (x2 + 1))), (0, .ref (ad 0 8)), (1, .int (jI x1))] := hl
      refine lv_goto hx hb dX10_isBoundToVariables_55 (tgt := 30) rfl ?_
      exact hR30 _ _ _ H locs ls rx1 r7 hw (lv_sub hl [1, 2, 0] rfl) h
    · refine lv_iconst hx hb dX10_isBoundToVariables_50 (v := jI 0) rfl ?_
      exact hret _ _ _ _ _ _ h.1 h.2 hw dX10_isBoundToVariables_51

def v_10_isBoundToVariables_2b (R2 : Int → iST → Prop) (Q : Int → iST → Prop) (x1 : Int) (u : iST) : Prop :=
  rd (u.1 39) (fun v1 => 
  br (v1 ≤ x1) (
    zt 1 (Q 1 u)) (
    bd x1 256 (rd (u.2.1 36 x1) (fun v2 => 
    v_7_isVariable v2 (fun v3 u => 
    br (v3 ≠ 0) (
      v_10_isBoundToVariables_30 R2 Q x1 0 u) (
      zt 0 (Q 0 u))) u))))
def v_10_isBoundToVariables_2 (Q : Int → iST → Prop) (x1 : Int) (u : iST) : Prop := ∀ R2 : Int → iST → Prop, (∀ (x1 : Int) (u : iST), v_10_isBoundToVariables_2b R2 Q x1 u → R2 x1 u) → R2 x1 u
set_option maxRecDepth 20000 in
set_option maxHeartbeats 4000000 in
theorem f_10_isBoundToVariables_2 (X : yX RX10 p m c cX10_isBoundToVariables 3 s args D ca ad A) (hRf : 1 ≤ R.frames) (hRl : 21 ≤ R.locals) {Q : Int → iST → Prop} (hret : ∀ (v : Int) (u : iST) (H : Heap) (locs : List Loc) (ls : Array Slot) (pc : Nat), bz v → Q v u → yW D ca A ad s H locs u → decode cX10_isBoundToVariables pc = .ok (.ireturn, 1) → W p l e R s m args below meth c H locs 0 0 Qf (F0 m pc ls [.int (jI v)])) {x1 : Int} (rx1 : inR x1) (hw : yW D ca A ad s H locs u) (hl : lv_has ls 3 [(0, .ref (ad 0 8)), (1, .int (jI x1))]) (h : v_10_isBoundToVariables_2 Q x1 u) : W p l e R s m args below meth c H locs 0 0 Qf (F0 m 2 ls []) := by
  refine h (fun x1 u => ∀ (H : Heap) (locs : List Loc) (ls : Array Slot), inR x1 → yW D ca A ad s H locs u → lv_has ls 3 [(0, .ref (ad 0 8)), (1, .int (jI x1))] → W p l e R s m args below meth c H locs 0 0 Qf (F0 m 2 ls [])) ?_ H locs ls rx1 hw hl
  clear h hl hw rx1
  intro x1 u h H locs ls rx1 hw hl
  have hR2 : ∀ (x1 : Int) (u : iST) (H : Heap) (locs : List Loc) (ls : Array Slot), inR x1 → yW D ca A ad s H locs u → lv_has ls 3 [(0, .ref (ad 0 8)), (1, .int (jI x1))] → (fun (x1 : Int) u => ∀ (H : Heap) (locs : List Loc) (ls : Array Slot), inR x1 → yW D ca A ad s H locs u → lv_has ls 3 [(0, .ref (ad 0 8)), (1, .int (jI x1))] → W p l e R s m args below meth c H locs 0 0 Qf (F0 m 2 ls [])) x1 u → W p l e R s m args below meth c H locs 0 0 Qf (F0 m 2 ls []) := fun x1 u H locs ls rx1 hw hl h => h H locs ls rx1 hw hl
  have hx := X.1.1
  have hb := X.1.2.1
  unfold v_10_isBoundToVariables_2b at h
  refine lv_iload_n hx hb dX10_isBoundToVariables_2 rfl (lv_at hl 1 rfl) ?_
  refine lv_aload_n hx hb dX10_isBoundToVariables_3 rfl (lv_at hl 0 rfl) ?_
  refine yg_10_25 X hw dX10_isBoundToVariables_4 h (fun v1 rv1 h => ?_)
  refine k_icmp_ge hx hb rx1 rv1 dX10_isBoundToVariables_7 (tgt := 64) rfl h (fun h => ?_) (fun h => ?_)
  · refine lv_iconst hx hb dX10_isBoundToVariables_64 (v := jI 1) rfl ?_
    exact hret _ _ _ _ _ _ h.1 h.2 hw dX10_isBoundToVariables_65
  · refine lv_aload_n hx hb dX10_isBoundToVariables_10 rfl (lv_at hl 0 rfl) ?_
    refine yg_10_55 X hw dX10_isBoundToVariables_11 ?_
    refine lv_aload_n hx hb dX10_isBoundToVariables_14 rfl (lv_at hl 0 rfl) ?_
    refine yg_10_22 X hw dX10_isBoundToVariables_15 ?_
    refine lv_iload_n hx hb dX10_isBoundToVariables_18 rfl (lv_at hl 1 rfl) ?_
    refine yl_36 X hw rx1 dX10_isBoundToVariables_19 h (fun v2 rv2 h => ?_)
    refine ycI (n := 1) (e_7_isVariable rv2 h) 7 6 (r := (RX7, TX7, 9)) rfl yG_10_106 yD_7_isVariable X hw rfl yGo_7 (Nat.le_trans (Nat.le_of_ble_eq_true rfl) hRf) (Nat.le_trans (Nat.le_of_ble_eq_true rfl) hRl) rfl hl.1 (Nat.le_of_ble_eq_true rfl) rfl dX10_isBoundToVariables_20 (fun v3 u H locs rv3 h hw => ?_)
    refine k_if_ne hx hb rv3 dX10_isBoundToVariables_23 (tgt := 28) rfl h (fun h => ?_) (fun h => ?_)
    · refine lv_iconst hx hb dX10_isBoundToVariables_28 (v := jI 0) rfl ?_
      refine lv_istore_n hx hb dX10_isBoundToVariables_29 rfl hl (by decide) rfl (fun ls hl => ?_)
      have hl : lv_has ls 3 [(2, .int (jI 0)), (0, .ref (ad 0 8)), (1, .int (jI x1))] := hl
      exact f_10_isBoundToVariables_30 X hRf hRl hret hR2 rx1 (by decide) hw (lv_sub hl [1, 2, 0] rfl) h
    · refine lv_iconst hx hb dX10_isBoundToVariables_26 (v := jI 0) rfl ?_
      exact hret _ _ _ _ _ _ h.1 h.2 hw dX10_isBoundToVariables_27

def v_10_isBoundToVariables (Q : Int → iST → Prop) (u : iST) : Prop :=
  v_10_isBoundToVariables_2 Q 0 u
set_option maxRecDepth 20000 in
set_option maxHeartbeats 4000000 in
theorem f_10_isBoundToVariables_s (X : yX RX10 p m c cX10_isBoundToVariables 3 s args D ca ad A) (hRf : 1 ≤ R.frames) (hRl : 21 ≤ R.locals) {Q : Int → iST → Prop} (hret : ∀ (v : Int) (u : iST) (H : Heap) (locs : List Loc) (ls : Array Slot) (pc : Nat), bz v → Q v u → yW D ca A ad s H locs u → decode cX10_isBoundToVariables pc = .ok (.ireturn, 1) → W p l e R s m args below meth c H locs 0 0 Qf (F0 m pc ls [.int (jI v)])) (hw : yW D ca A ad s H locs u) (hl : lv_has ls 3 [(0, .ref (ad 0 8))]) (h : v_10_isBoundToVariables Q u) : W p l e R s m args below meth c H locs 0 0 Qf (F0 m 0 ls []) := by
  have hx := X.1.1
  have hb := X.1.2.1
  unfold v_10_isBoundToVariables at h
  refine lv_iconst hx hb dX10_isBoundToVariables_0 (v := jI 0) rfl ?_
  refine lv_istore_n hx hb dX10_isBoundToVariables_1 rfl hl (by decide) rfl (fun ls hl => ?_)
  have hl : lv_has ls 3 [(1, .int (jI 0)), (0, .ref (ad 0 8))] := hl
  exact f_10_isBoundToVariables_2 X hRf hRl hret (by decide) hw (lv_sub hl [1, 0] rfl) h

end
theorem e_10_isBoundToVariables {l : Launch} {Q : Int → iST → Prop} {u : iST} (h : v_10_isBoundToVariables Q u) : yMI l yX10_isBoundToVariables (.code yX10_isBoundToVariables cX10_isBoundToVariables 3 (some .boolean) :: wsN) { frames := 1, cells := 0, slots := 0, locals := 21 } (fun ad => [.ref (ad 0 8)]) Q u := yMZ_of (own := RX10) rfl (by decide +kernel) (fun _ => Nat.le_of_ble_eq_true rfl) (fun X hRf hRl hret hw hl => f_10_isBoundToVariables_s X hRf hRl hret hw hl h)

/-! ProofHouse$Rewriter.learn -/
theorem dX6_learn_0 : decode cX6_learn 0 = .ok (.aload_n 0, 1) := by decide +kernel
theorem dX6_learn_1 : decode cX6_learn 1 = .ok (.getfield 43, 3) := by decide +kernel
theorem dX6_learn_4 : decode cX6_learn 4 = .ok (.getfield 67, 3) := by decide +kernel
theorem dX6_learn_7 : decode cX6_learn 7 = .ok (.iconst 1, 1) := by decide +kernel
theorem dX6_learn_8 : decode cX6_learn 8 = .ok (.isub, 1) := by decide +kernel
theorem dX6_learn_9 : decode cX6_learn 9 = .ok (.istore_n 1, 1) := by decide +kernel
theorem dX6_learn_10 : decode cX6_learn 10 = .ok (.iload_n 1, 1) := by decide +kernel
theorem dX6_learn_11 : decode cX6_learn 11 = .ok (.ifCond .ge 4, 3) := by decide +kernel
theorem dX6_learn_14 : decode cX6_learn 14 = .ok (.return_, 1) := by decide +kernel
theorem dX6_learn_15 : decode cX6_learn 15 = .ok (.aload_n 0, 1) := by decide +kernel
theorem dX6_learn_16 : decode cX6_learn 16 = .ok (.getfield 43, 3) := by decide +kernel
theorem dX6_learn_19 : decode cX6_learn 19 = .ok (.getfield 298, 3) := by decide +kernel
theorem dX6_learn_22 : decode cX6_learn 22 = .ok (.iload_n 1, 1) := by decide +kernel
theorem dX6_learn_23 : decode cX6_learn 23 = .ok (.iaload, 1) := by decide +kernel
theorem dX6_learn_24 : decode cX6_learn 24 = .ok (.istore_n 2, 1) := by decide +kernel
theorem dX6_learn_25 : decode cX6_learn 25 = .ok (.aload_n 0, 1) := by decide +kernel
theorem dX6_learn_26 : decode cX6_learn 26 = .ok (.getfield 43, 3) := by decide +kernel
theorem dX6_learn_29 : decode cX6_learn 29 = .ok (.getfield 273, 3) := by decide +kernel
theorem dX6_learn_32 : decode cX6_learn 32 = .ok (.iload_n 1, 1) := by decide +kernel
theorem dX6_learn_33 : decode cX6_learn 33 = .ok (.iconst 0, 1) := by decide +kernel
theorem dX6_learn_34 : decode cX6_learn 34 = .ok (.iastore, 1) := by decide +kernel
theorem dX6_learn_35 : decode cX6_learn 35 = .ok (.iconst 0, 1) := by decide +kernel
theorem dX6_learn_36 : decode cX6_learn 36 = .ok (.istore_n 3, 1) := by decide +kernel
theorem dX6_learn_37 : decode cX6_learn 37 = .ok (.iload_n 3, 1) := by decide +kernel
theorem dX6_learn_38 : decode cX6_learn 38 = .ok (.bipush 120, 2) := by decide +kernel
theorem dX6_learn_40 : decode cX6_learn 40 = .ok (.if_icmp .ge 46, 3) := by decide +kernel
theorem dX6_learn_43 : decode cX6_learn 43 = .ok (.aload_n 0, 1) := by decide +kernel
theorem dX6_learn_44 : decode cX6_learn 44 = .ok (.getfield 39, 3) := by decide +kernel
theorem dX6_learn_47 : decode cX6_learn 47 = .ok (.iload_n 2, 1) := by decide +kernel
theorem dX6_learn_48 : decode cX6_learn 48 = .ok (.bipush 6, 2) := by decide +kernel
theorem dX6_learn_50 : decode cX6_learn 50 = .ok (.invokevirtual 175, 3) := by decide +kernel
theorem dX6_learn_53 : decode cX6_learn 53 = .ok (.ifCond .eq 33, 3) := by decide +kernel
theorem dX6_learn_56 : decode cX6_learn 56 = .ok (.aload_n 0, 1) := by decide +kernel
theorem dX6_learn_57 : decode cX6_learn 57 = .ok (.iload_n 1, 1) := by decide +kernel
theorem dX6_learn_58 : decode cX6_learn 58 = .ok (.aload_n 0, 1) := by decide +kernel
theorem dX6_learn_59 : decode cX6_learn 59 = .ok (.getfield 39, 3) := by decide +kernel
theorem dX6_learn_62 : decode cX6_learn 62 = .ok (.iload_n 2, 1) := by decide +kernel
theorem dX6_learn_63 : decode cX6_learn 63 = .ok (.iconst 1, 1) := by decide +kernel
theorem dX6_learn_64 : decode cX6_learn 64 = .ok (.invokevirtual 109, 3) := by decide +kernel
theorem dX6_learn_67 : decode cX6_learn 67 = .ok (.invokevirtual 301, 3) := by decide +kernel
theorem dX6_learn_70 : decode cX6_learn 70 = .ok (.aload_n 0, 1) := by decide +kernel
theorem dX6_learn_71 : decode cX6_learn 71 = .ok (.getfield 39, 3) := by decide +kernel
theorem dX6_learn_74 : decode cX6_learn 74 = .ok (.iload_n 2, 1) := by decide +kernel
theorem dX6_learn_75 : decode cX6_learn 75 = .ok (.iconst 2, 1) := by decide +kernel
theorem dX6_learn_76 : decode cX6_learn 76 = .ok (.invokevirtual 109, 3) := by decide +kernel
theorem dX6_learn_79 : decode cX6_learn 79 = .ok (.istore_n 2, 1) := by decide +kernel
theorem dX6_learn_80 : decode cX6_learn 80 = .ok (.iinc 3 1, 3) := by decide +kernel
theorem dX6_learn_83 : decode cX6_learn 83 = .ok (.goto (-46), 3) := by decide +kernel
theorem dX6_learn_86 : decode cX6_learn 86 = .ok (.aload_n 0, 1) := by decide +kernel
theorem dX6_learn_87 : decode cX6_learn 87 = .ok (.getfield 39, 3) := by decide +kernel
theorem dX6_learn_90 : decode cX6_learn 90 = .ok (.iload_n 2, 1) := by decide +kernel
theorem dX6_learn_91 : decode cX6_learn 91 = .ok (.iconst 4, 1) := by decide +kernel
theorem dX6_learn_92 : decode cX6_learn 92 = .ok (.invokevirtual 175, 3) := by decide +kernel
theorem dX6_learn_95 : decode cX6_learn 95 = .ok (.istore_n 3, 1) := by decide +kernel
theorem dX6_learn_96 : decode cX6_learn 96 = .ok (.aload_n 0, 1) := by decide +kernel
theorem dX6_learn_97 : decode cX6_learn 97 = .ok (.getfield 39, 3) := by decide +kernel
theorem dX6_learn_100 : decode cX6_learn 100 = .ok (.iload_n 2, 1) := by decide +kernel
theorem dX6_learn_101 : decode cX6_learn 101 = .ok (.bipush 16, 2) := by decide +kernel
theorem dX6_learn_103 : decode cX6_learn 103 = .ok (.invokevirtual 175, 3) := by decide +kernel
theorem dX6_learn_106 : decode cX6_learn 106 = .ok (.istore 4, 2) := by decide +kernel
theorem dX6_learn_108 : decode cX6_learn 108 = .ok (.iload_n 3, 1) := by decide +kernel
theorem dX6_learn_109 : decode cX6_learn 109 = .ok (.ifCond .ne 8, 3) := by decide +kernel
theorem dX6_learn_112 : decode cX6_learn 112 = .ok (.iload 4, 2) := by decide +kernel
theorem dX6_learn_114 : decode cX6_learn 114 = .ok (.ifCond .eq 15, 3) := by decide +kernel
theorem dX6_learn_117 : decode cX6_learn 117 = .ok (.aload_n 0, 1) := by decide +kernel
theorem dX6_learn_118 : decode cX6_learn 118 = .ok (.getfield 39, 3) := by decide +kernel
theorem dX6_learn_121 : decode cX6_learn 121 = .ok (.iload_n 2, 1) := by decide +kernel
theorem dX6_learn_122 : decode cX6_learn 122 = .ok (.iconst 1, 1) := by decide +kernel
theorem dX6_learn_123 : decode cX6_learn 123 = .ok (.invokevirtual 109, 3) := by decide +kernel
theorem dX6_learn_126 : decode cX6_learn 126 = .ok (.goto 4, 3) := by decide +kernel
theorem dX6_learn_129 : decode cX6_learn 129 = .ok (.iload_n 2, 1) := by decide +kernel
theorem dX6_learn_130 : decode cX6_learn 130 = .ok (.istore 5, 2) := by decide +kernel
theorem dX6_learn_132 : decode cX6_learn 132 = .ok (.iload_n 3, 1) := by decide +kernel
theorem dX6_learn_133 : decode cX6_learn 133 = .ok (.ifCond .eq 15, 3) := by decide +kernel
theorem dX6_learn_136 : decode cX6_learn 136 = .ok (.aload_n 0, 1) := by decide +kernel
theorem dX6_learn_137 : decode cX6_learn 137 = .ok (.getfield 39, 3) := by decide +kernel
theorem dX6_learn_140 : decode cX6_learn 140 = .ok (.iload_n 2, 1) := by decide +kernel
theorem dX6_learn_141 : decode cX6_learn 141 = .ok (.iconst 2, 1) := by decide +kernel
theorem dX6_learn_142 : decode cX6_learn 142 = .ok (.invokevirtual 109, 3) := by decide +kernel
theorem dX6_learn_145 : decode cX6_learn 145 = .ok (.goto 13, 3) := by decide +kernel
theorem dX6_learn_148 : decode cX6_learn 148 = .ok (.iload 4, 2) := by decide +kernel
theorem dX6_learn_150 : decode cX6_learn 150 = .ok (.ifCond .eq 7, 3) := by decide +kernel
theorem dX6_learn_153 : decode cX6_learn 153 = .ok (.iconst 0, 1) := by decide +kernel
theorem dX6_learn_154 : decode cX6_learn 154 = .ok (.goto 4, 3) := by decide +kernel
theorem dX6_learn_157 : decode cX6_learn 157 = .ok (.iconst 1, 1) := by decide +kernel
theorem dX6_learn_158 : decode cX6_learn 158 = .ok (.istore 6, 2) := by decide +kernel
theorem dX6_learn_160 : decode cX6_learn 160 = .ok (.aload_n 0, 1) := by decide +kernel
theorem dX6_learn_161 : decode cX6_learn 161 = .ok (.getfield 43, 3) := by decide +kernel
theorem dX6_learn_164 : decode cX6_learn 164 = .ok (.getfield 304, 3) := by decide +kernel
theorem dX6_learn_167 : decode cX6_learn 167 = .ok (.iload_n 1, 1) := by decide +kernel
theorem dX6_learn_168 : decode cX6_learn 168 = .ok (.iload_n 3, 1) := by decide +kernel
theorem dX6_learn_169 : decode cX6_learn 169 = .ok (.ifCond .ne 24, 3) := by decide +kernel
theorem dX6_learn_172 : decode cX6_learn 172 = .ok (.iload 4, 2) := by decide +kernel
theorem dX6_learn_174 : decode cX6_learn 174 = .ok (.ifCond .ne 19, 3) := by decide +kernel
theorem dX6_learn_177 : decode cX6_learn 177 = .ok (.aload_n 0, 1) := by decide +kernel
theorem dX6_learn_178 : decode cX6_learn 178 = .ok (.getfield 47, 3) := by decide +kernel
theorem dX6_learn_181 : decode cX6_learn 181 = .ok (.iload 5, 2) := by decide +kernel
theorem dX6_learn_183 : decode cX6_learn 183 = .ok (.invokevirtual 202, 3) := by decide +kernel
theorem dX6_learn_186 : decode cX6_learn 186 = .ok (.ifCond .ne 7, 3) := by decide +kernel
theorem dX6_learn_189 : decode cX6_learn 189 = .ok (.iconst 1, 1) := by decide +kernel
theorem dX6_learn_190 : decode cX6_learn 190 = .ok (.goto 4, 3) := by decide +kernel
theorem dX6_learn_193 : decode cX6_learn 193 = .ok (.iconst 0, 1) := by decide +kernel
theorem dX6_learn_194 : decode cX6_learn 194 = .ok (.bastore, 1) := by decide +kernel
theorem dX6_learn_195 : decode cX6_learn 195 = .ok (.aload_n 0, 1) := by decide +kernel
theorem dX6_learn_196 : decode cX6_learn 196 = .ok (.iload_n 1, 1) := by decide +kernel
theorem dX6_learn_197 : decode cX6_learn 197 = .ok (.iload 5, 2) := by decide +kernel
theorem dX6_learn_199 : decode cX6_learn 199 = .ok (.iload 6, 2) := by decide +kernel
theorem dX6_learn_201 : decode cX6_learn 201 = .ok (.invokevirtual 307, 3) := by decide +kernel
theorem dX6_learn_204 : decode cX6_learn 204 = .ok (.ifCond .eq 73, 3) := by decide +kernel
theorem dX6_learn_207 : decode cX6_learn 207 = .ok (.aload_n 0, 1) := by decide +kernel
theorem dX6_learn_208 : decode cX6_learn 208 = .ok (.getfield 43, 3) := by decide +kernel
theorem dX6_learn_211 : decode cX6_learn 211 = .ok (.getfield 243, 3) := by decide +kernel
theorem dX6_learn_214 : decode cX6_learn 214 = .ok (.iload_n 1, 1) := by decide +kernel
theorem dX6_learn_215 : decode cX6_learn 215 = .ok (.iload 5, 2) := by decide +kernel
theorem dX6_learn_217 : decode cX6_learn 217 = .ok (.iastore, 1) := by decide +kernel
theorem dX6_learn_218 : decode cX6_learn 218 = .ok (.aload_n 0, 1) := by decide +kernel
theorem dX6_learn_219 : decode cX6_learn 219 = .ok (.getfield 43, 3) := by decide +kernel
theorem dX6_learn_222 : decode cX6_learn 222 = .ok (.getfield 257, 3) := by decide +kernel
theorem dX6_learn_225 : decode cX6_learn 225 = .ok (.iload_n 1, 1) := by decide +kernel
theorem dX6_learn_226 : decode cX6_learn 226 = .ok (.iload 6, 2) := by decide +kernel
theorem dX6_learn_228 : decode cX6_learn 228 = .ok (.iastore, 1) := by decide +kernel
theorem dX6_learn_229 : decode cX6_learn 229 = .ok (.aload_n 0, 1) := by decide +kernel
theorem dX6_learn_230 : decode cX6_learn 230 = .ok (.getfield 43, 3) := by decide +kernel
theorem dX6_learn_233 : decode cX6_learn 233 = .ok (.getfield 250, 3) := by decide +kernel
theorem dX6_learn_236 : decode cX6_learn 236 = .ok (.iload_n 1, 1) := by decide +kernel
theorem dX6_learn_237 : decode cX6_learn 237 = .ok (.aload_n 0, 1) := by decide +kernel
theorem dX6_learn_238 : decode cX6_learn 238 = .ok (.getfield 47, 3) := by decide +kernel
theorem dX6_learn_241 : decode cX6_learn 241 = .ok (.iload 5, 2) := by decide +kernel
theorem dX6_learn_243 : decode cX6_learn 243 = .ok (.iload 6, 2) := by decide +kernel
theorem dX6_learn_245 : decode cX6_learn 245 = .ok (.invokevirtual 247, 3) := by decide +kernel
theorem dX6_learn_248 : decode cX6_learn 248 = .ok (.ifCond .eq 17, 3) := by decide +kernel
theorem dX6_learn_251 : decode cX6_learn 251 = .ok (.aload_n 0, 1) := by decide +kernel
theorem dX6_learn_252 : decode cX6_learn 252 = .ok (.getfield 47, 3) := by decide +kernel
theorem dX6_learn_255 : decode cX6_learn 255 = .ok (.invokevirtual 311, 3) := by decide +kernel
theorem dX6_learn_258 : decode cX6_learn 258 = .ok (.ifCond .eq 7, 3) := by decide +kernel
theorem dX6_learn_261 : decode cX6_learn 261 = .ok (.iconst 1, 1) := by decide +kernel
theorem dX6_learn_262 : decode cX6_learn 262 = .ok (.goto 4, 3) := by decide +kernel
theorem dX6_learn_265 : decode cX6_learn 265 = .ok (.iconst 0, 1) := by decide +kernel
theorem dX6_learn_266 : decode cX6_learn 266 = .ok (.bastore, 1) := by decide +kernel
theorem dX6_learn_267 : decode cX6_learn 267 = .ok (.aload_n 0, 1) := by decide +kernel
theorem dX6_learn_268 : decode cX6_learn 268 = .ok (.getfield 43, 3) := by decide +kernel
theorem dX6_learn_271 : decode cX6_learn 271 = .ok (.getfield 314, 3) := by decide +kernel
theorem dX6_learn_274 : decode cX6_learn 274 = .ok (.iload_n 1, 1) := by decide +kernel
theorem dX6_learn_275 : decode cX6_learn 275 = .ok (.iconst 1, 1) := by decide +kernel
theorem dX6_learn_276 : decode cX6_learn 276 = .ok (.bastore, 1) := by decide +kernel
theorem dX6_learn_277 : decode cX6_learn 277 = .ok (.return_, 1) := by decide +kernel

section
variable {p : Program} {l : Launch} {e : Env} {R : Room} {s : State} {m : MethodId} {args : Array Value} {below : List Frame} {meth : Method} {c : Code} {H : Heap} {locs : List Loc} {Qf : State → Prop}
variable {ls : Array Slot} {D : va_G} {ca : Nat → ClassId} {A : Nat → Prop} {ad : Nat → Nat → Nat} {u : iST}
def v_6_learn_266 (Q : iST → Prop) (x1 : Int) (y1 : Int) (y2 : Int) (u : iST) : Prop :=
  zt y2 (bd y1 60 (sw (iA u 11 y1 y2) (fun u => 
  zt 1 (bd x1 60 (sw (iA u 12 x1 1) (fun u => 
  Q u))))))
set_option maxRecDepth 20000 in
set_option maxHeartbeats 4000000 in
theorem f_6_learn_266 (X : yX RX6 p m c cX6_learn 7 s args D ca ad A) (hRf : 4 ≤ R.frames) (hRl : 102 ≤ R.locals) {Q : iST → Prop} (hret : ∀ (u : iST) (H : Heap) (locs : List Loc) (ls : Array Slot) (pc : Nat), Q u → yW D ca A ad s H locs u → decode cX6_learn pc = .ok (.return_, 1) → W p l e R s m args below meth c H locs 0 0 Qf (F0 m pc ls [])) {x1 y1 y2 : Int} (rx1 : inR x1) (ry1 : inR y1) (ry2 : inR y2) (hw : yW D ca A ad s H locs u) (hl : lv_has ls 7 [(0, .ref (ad 0 5)), (1, .int (jI x1))]) (h : v_6_learn_266 Q x1 y1 y2 u) : W p l e R s m args below meth c H locs 0 0 Qf (F0 m 266 ls [.int (jI y2), .int (jI y1), .ref (ad 1 11)]) := by
  have hx := X.1.1
  have hb := X.1.2.1
  unfold v_6_learn_266 at h
  refine yt_11 X hw ry1 dX6_learn_266 h (fun H locs u hw h => ?_)
  refine lv_aload_n hx hb dX6_learn_267 rfl (lv_at hl 0 rfl) ?_
  refine yg_6_43 X hw dX6_learn_268 ?_
  refine yg_6_314 X hw dX6_learn_271 ?_
  refine lv_iload_n hx hb dX6_learn_274 rfl (lv_at hl 1 rfl) ?_
  refine lv_iconst hx hb dX6_learn_275 (v := jI 1) rfl ?_
  refine yt_12 X hw rx1 dX6_learn_276 h (fun H locs u hw h => ?_)
  exact hret _ _ _ _ _ h hw dX6_learn_277

def v_6_learn_265 (Q : iST → Prop) (x1 : Int) (y1 : Int) (u : iST) : Prop :=
  v_6_learn_266 Q x1 y1 0 u
set_option maxRecDepth 20000 in
set_option maxHeartbeats 4000000 in
theorem f_6_learn_265 (X : yX RX6 p m c cX6_learn 7 s args D ca ad A) (hRf : 4 ≤ R.frames) (hRl : 102 ≤ R.locals) {Q : iST → Prop} (hret : ∀ (u : iST) (H : Heap) (locs : List Loc) (ls : Array Slot) (pc : Nat), Q u → yW D ca A ad s H locs u → decode cX6_learn pc = .ok (.return_, 1) → W p l e R s m args below meth c H locs 0 0 Qf (F0 m pc ls [])) {x1 y1 : Int} (rx1 : inR x1) (ry1 : inR y1) (hw : yW D ca A ad s H locs u) (hl : lv_has ls 7 [(0, .ref (ad 0 5)), (1, .int (jI x1))]) (h : v_6_learn_265 Q x1 y1 u) : W p l e R s m args below meth c H locs 0 0 Qf (F0 m 265 ls [.int (jI y1), .ref (ad 1 11)]) := by
  have hx := X.1.1
  have hb := X.1.2.1
  unfold v_6_learn_265 at h
  refine lv_iconst hx hb dX6_learn_265 (v := jI 0) rfl ?_
  exact f_6_learn_266 X hRf hRl hret rx1 ry1 (by decide) hw hl h

def v_6_learn_194 (Q : iST → Prop) (x1 : Int) (x5 : Int) (x6 : Int) (y1 : Int) (y2 : Int) (u : iST) : Prop :=
  zt y2 (bd y1 60 (sw (iA u 10 y1 y2) (fun u => 
  v_6_isRule x1 x5 x6 (fun v7 u => 
  br (v7 = 0) (
    Q u) (
    bd x1 60 (sw (iA u 7 x1 x5) (fun u => 
    bd x1 60 (sw (iA u 8 x1 x6) (fun u => 
    v_10_matches x5 x6 (fun v8 u => 
    br (v8 = 0) (
      v_6_learn_265 Q x1 x1 u) (
      v_10_isBoundToVariables (fun v9 u => 
      br (v9 = 0) (
        v_6_learn_265 Q x1 x1 u) (
        v_6_learn_266 Q x1 x1 1 u)) u)) u)))))) u)))
set_option maxRecDepth 20000 in
set_option maxHeartbeats 4000000 in
theorem f_6_learn_194 (X : yX RX6 p m c cX6_learn 7 s args D ca ad A) (hRf : 4 ≤ R.frames) (hRl : 102 ≤ R.locals) {Q : iST → Prop} (hret : ∀ (u : iST) (H : Heap) (locs : List Loc) (ls : Array Slot) (pc : Nat), Q u → yW D ca A ad s H locs u → decode cX6_learn pc = .ok (.return_, 1) → W p l e R s m args below meth c H locs 0 0 Qf (F0 m pc ls [])) {x1 x5 x6 y1 y2 : Int} (rx1 : inR x1) (rx5 : inR x5) (rx6 : inR x6) (ry1 : inR y1) (ry2 : inR y2) (hw : yW D ca A ad s H locs u) (hl : lv_has ls 7 [(0, .ref (ad 0 5)), (1, .int (jI x1)), (5, .int (jI x5)), (6, .int (jI x6))]) (h : v_6_learn_194 Q x1 x5 x6 y1 y2 u) : W p l e R s m args below meth c H locs 0 0 Qf (F0 m 194 ls [.int (jI y2), .int (jI y1), .ref (ad 1 10)]) := by
  have hx := X.1.1
  have hb := X.1.2.1
  unfold v_6_learn_194 at h
  refine yt_10 X hw ry1 dX6_learn_194 h (fun H locs u hw h => ?_)
  refine lv_aload_n hx hb dX6_learn_195 rfl (lv_at hl 0 rfl) ?_
  refine lv_iload_n hx hb dX6_learn_196 rfl (lv_at hl 1 rfl) ?_
  refine lv_iload hx hb dX6_learn_197 (lv_at hl 2 rfl) ?_
  refine lv_iload hx hb dX6_learn_199 (lv_at hl 3 rfl) ?_
  refine ycI (n := 3) (e_6_isRule rx1 rx5 rx6 h) 6 5 (r := (RX6, TX6, 14)) rfl yG_6_307 yD_6_isRule X hw rfl yGo_6 (Nat.le_trans (Nat.le_of_ble_eq_true rfl) hRf) (Nat.le_trans (Nat.le_of_ble_eq_true rfl) hRl) rfl hl.1 (Nat.le_of_ble_eq_true rfl) rfl dX6_learn_201 (fun v7 u H locs rv7 h hw => ?_)
  refine k_if_eq hx hb rv7 dX6_learn_204 (tgt := 277) rfl h (fun h => ?_) (fun h => ?_)
  · exact hret _ _ _ _ _ h hw dX6_learn_277
  · refine lv_aload_n hx hb dX6_learn_207 rfl (lv_at hl 0 rfl) ?_
    refine yg_6_43 X hw dX6_learn_208 ?_
    refine yg_6_243 X hw dX6_learn_211 ?_
    refine lv_iload_n hx hb dX6_learn_214 rfl (lv_at hl 1 rfl) ?_
    refine lv_iload hx hb dX6_learn_215 (lv_at hl 2 rfl) ?_
    refine yt_7 X hw rx1 rx5 dX6_learn_217 h (fun H locs u hw h => ?_)
    refine lv_aload_n hx hb dX6_learn_218 rfl (lv_at hl 0 rfl) ?_
    refine yg_6_43 X hw dX6_learn_219 ?_
    refine yg_6_257 X hw dX6_learn_222 ?_
    refine lv_iload_n hx hb dX6_learn_225 rfl (lv_at hl 1 rfl) ?_
    refine lv_iload hx hb dX6_learn_226 (lv_at hl 3 rfl) ?_
    refine yt_8 X hw rx1 rx6 dX6_learn_228 h (fun H locs u hw h => ?_)
    refine lv_aload_n hx hb dX6_learn_229 rfl (lv_at hl 0 rfl) ?_
    refine yg_6_43 X hw dX6_learn_230 ?_
    refine yg_6_250 X hw dX6_learn_233 ?_
    refine lv_iload_n hx hb dX6_learn_236 rfl (lv_at hl 1 rfl) ?_
    refine lv_aload_n hx hb dX6_learn_237 rfl (lv_at hl 0 rfl) ?_
    refine yg_6_47 X hw dX6_learn_238 ?_
    refine lv_iload hx hb dX6_learn_241 (lv_at hl 2 rfl) ?_
    refine lv_iload hx hb dX6_learn_243 (lv_at hl 3 rfl) ?_
    refine ycI (n := 2) (e_10_matches rx5 rx6 h) 10 8 (r := (RX10, TX10, 16)) rfl yG_6_247 yD_10_matches X hw rfl yGo_10 (Nat.le_trans (Nat.le_of_ble_eq_true rfl) hRf) (Nat.le_trans (Nat.le_of_ble_eq_true rfl) hRl) rfl hl.1 (Nat.le_of_ble_eq_true rfl) rfl dX6_learn_245 (fun v8 u H locs rv8 h hw => ?_)
    refine k_if_eq hx hb rv8 dX6_learn_248 (tgt := 265) rfl h (fun h => ?_) (fun h => ?_)
    · exact f_6_learn_265 X hRf hRl hret rx1 rx1 hw (lv_sub hl [0, 1] rfl) h
    · refine lv_aload_n hx hb dX6_learn_251 rfl (lv_at hl 0 rfl) ?_
      refine yg_6_47 X hw dX6_learn_252 ?_
      refine ycI (n := 0) (e_10_isBoundToVariables h) 10 8 (r := (RX10, TX10, 16)) rfl yG_6_311 yD_10_isBoundToVariables X hw rfl yGo_10 (Nat.le_trans (Nat.le_of_ble_eq_true rfl) hRf) (Nat.le_trans (Nat.le_of_ble_eq_true rfl) hRl) rfl hl.1 (Nat.le_of_ble_eq_true rfl) rfl dX6_learn_255 (fun v9 u H locs rv9 h hw => ?_)
      refine k_if_eq hx hb rv9 dX6_learn_258 (tgt := 265) rfl h (fun h => ?_) (fun h => ?_)
      · exact f_6_learn_265 X hRf hRl hret rx1 rx1 hw (lv_sub hl [0, 1] rfl) h
      · refine lv_iconst hx hb dX6_learn_261 (v := jI 1) rfl ?_
        refine lv_goto hx hb dX6_learn_262 (tgt := 266) rfl ?_
        exact f_6_learn_266 X hRf hRl hret rx1 rx1 (by decide) hw (lv_sub hl [0, 1] rfl) h

def v_6_learn_193 (Q : iST → Prop) (x1 : Int) (x5 : Int) (x6 : Int) (y1 : Int) (u : iST) : Prop :=
  v_6_learn_194 Q x1 x5 x6 y1 0 u
set_option maxRecDepth 20000 in
set_option maxHeartbeats 4000000 in
theorem f_6_learn_193 (X : yX RX6 p m c cX6_learn 7 s args D ca ad A) (hRf : 4 ≤ R.frames) (hRl : 102 ≤ R.locals) {Q : iST → Prop} (hret : ∀ (u : iST) (H : Heap) (locs : List Loc) (ls : Array Slot) (pc : Nat), Q u → yW D ca A ad s H locs u → decode cX6_learn pc = .ok (.return_, 1) → W p l e R s m args below meth c H locs 0 0 Qf (F0 m pc ls [])) {x1 x5 x6 y1 : Int} (rx1 : inR x1) (rx5 : inR x5) (rx6 : inR x6) (ry1 : inR y1) (hw : yW D ca A ad s H locs u) (hl : lv_has ls 7 [(0, .ref (ad 0 5)), (1, .int (jI x1)), (5, .int (jI x5)), (6, .int (jI x6))]) (h : v_6_learn_193 Q x1 x5 x6 y1 u) : W p l e R s m args below meth c H locs 0 0 Qf (F0 m 193 ls [.int (jI y1), .ref (ad 1 10)]) := by
  have hx := X.1.1
  have hb := X.1.2.1
  unfold v_6_learn_193 at h
  refine lv_iconst hx hb dX6_learn_193 (v := jI 0) rfl ?_
  exact f_6_learn_194 X hRf hRl hret rx1 rx5 rx6 ry1 (by decide) hw hl h

def v_6_learn_158 (Q : iST → Prop) (x1 : Int) (x3 : Int) (x4 : Int) (x5 : Int) (y0 : Int) (u : iST) : Prop :=
  br (x3 ≠ 0) (
    v_6_learn_193 Q x1 x5 y0 x1 u) (
    br (x4 ≠ 0) (
      v_6_learn_193 Q x1 x5 y0 x1 u) (
      v_10_isBoolean x5 (fun v10 u => 
      br (v10 ≠ 0) (
        v_6_learn_193 Q x1 x5 y0 x1 u) (
        v_6_learn_194 Q x1 x5 y0 x1 1 u)) u))
set_option maxRecDepth 20000 in
set_option maxHeartbeats 4000000 in
theorem f_6_learn_158 (X : yX RX6 p m c cX6_learn 7 s args D ca ad A) (hRf : 4 ≤ R.frames) (hRl : 102 ≤ R.locals) {Q : iST → Prop} (hret : ∀ (u : iST) (H : Heap) (locs : List Loc) (ls : Array Slot) (pc : Nat), Q u → yW D ca A ad s H locs u → decode cX6_learn pc = .ok (.return_, 1) → W p l e R s m args below meth c H locs 0 0 Qf (F0 m pc ls [])) {x1 x3 x4 x5 y0 : Int} (rx1 : inR x1) (rx3 : inR x3) (rx4 : inR x4) (rx5 : inR x5) (ry0 : inR y0) (hw : yW D ca A ad s H locs u) (hl : lv_has ls 7 [(0, .ref (ad 0 5)), (1, .int (jI x1)), (3, .int (jI x3)), (4, .int (jI x4)), (5, .int (jI x5))]) (h : v_6_learn_158 Q x1 x3 x4 x5 y0 u) : W p l e R s m args below meth c H locs 0 0 Qf (F0 m 158 ls [.int (jI y0)]) := by
  have hx := X.1.1
  have hb := X.1.2.1
  unfold v_6_learn_158 at h
  refine lv_istore hx hb dX6_learn_158 hl (by decide) rfl (fun ls hl => ?_)
  have hl : lv_has ls 7 [(6, .int (jI y0)), (0, .ref (ad 0 5)), (1, .int (jI x1)), (3, .int (jI x3)), (4, .int (jI x4)), (5, .int (jI x5))] := hl
  refine lv_aload_n hx hb dX6_learn_160 rfl (lv_at hl 1 rfl) ?_
  refine yg_6_43 X hw dX6_learn_161 ?_
  refine yg_6_304 X hw dX6_learn_164 ?_
  refine lv_iload_n hx hb dX6_learn_167 rfl (lv_at hl 2 rfl) ?_
  refine lv_iload_n hx hb dX6_learn_168 rfl (lv_at hl 3 rfl) ?_
  refine k_if_ne hx hb rx3 dX6_learn_169 (tgt := 193) rfl h (fun h => ?_) (fun h => ?_)
  · exact f_6_learn_193 X hRf hRl hret rx1 rx5 ry0 rx1 hw (lv_sub hl [1, 2, 5, 0] rfl) h
  · refine lv_iload hx hb dX6_learn_172 (lv_at hl 4 rfl) ?_
    refine k_if_ne hx hb rx4 dX6_learn_174 (tgt := 193) rfl h (fun h => ?_) (fun h => ?_)
    · exact f_6_learn_193 X hRf hRl hret rx1 rx5 ry0 rx1 hw (lv_sub hl [1, 2, 5, 0] rfl) h
    · refine lv_aload_n hx hb dX6_learn_177 rfl (lv_at hl 1 rfl) ?_
      refine yg_6_47 X hw dX6_learn_178 ?_
      refine lv_iload hx hb dX6_learn_181 (lv_at hl 5 rfl) ?_
      refine ycI (n := 1) (e_10_isBoolean rx5 h) 10 8 (r := (RX10, TX10, 16)) rfl yG_6_202 yD_10_isBoolean X hw rfl yGo_10 (Nat.le_trans (Nat.le_of_ble_eq_true rfl) hRf) (Nat.le_trans (Nat.le_of_ble_eq_true rfl) hRl) rfl hl.1 (Nat.le_of_ble_eq_true rfl) rfl dX6_learn_183 (fun v10 u H locs rv10 h hw => ?_)
      refine k_if_ne hx hb rv10 dX6_learn_186 (tgt := 193) rfl h (fun h => ?_) (fun h => ?_)
      · exact f_6_learn_193 X hRf hRl hret rx1 rx5 ry0 rx1 hw (lv_sub hl [1, 2, 5, 0] rfl) h
      · refine lv_iconst hx hb dX6_learn_189 (v := jI 1) rfl ?_
        refine lv_goto hx hb dX6_learn_190 (tgt := 194) rfl ?_
        exact f_6_learn_194 X hRf hRl hret rx1 rx5 ry0 rx1 (by decide) hw (lv_sub hl [1, 2, 5, 0] rfl) h

def v_6_learn_130 (Q : iST → Prop) (x1 : Int) (x2 : Int) (x3 : Int) (x4 : Int) (y0 : Int) (u : iST) : Prop :=
  br (x3 = 0) (
    br (x4 = 0) (
      v_6_learn_158 Q x1 x3 x4 y0 1 u) (
      v_6_learn_158 Q x1 x3 x4 y0 0 u)) (
    v_7_item x2 2 (fun v11 u => 
    v_6_learn_158 Q x1 x3 x4 y0 v11 u) u)
set_option maxRecDepth 20000 in
set_option maxHeartbeats 4000000 in
theorem f_6_learn_130 (X : yX RX6 p m c cX6_learn 7 s args D ca ad A) (hRf : 4 ≤ R.frames) (hRl : 102 ≤ R.locals) {Q : iST → Prop} (hret : ∀ (u : iST) (H : Heap) (locs : List Loc) (ls : Array Slot) (pc : Nat), Q u → yW D ca A ad s H locs u → decode cX6_learn pc = .ok (.return_, 1) → W p l e R s m args below meth c H locs 0 0 Qf (F0 m pc ls [])) {x1 x2 x3 x4 y0 : Int} (rx1 : inR x1) (rx2 : inR x2) (rx3 : inR x3) (rx4 : inR x4) (ry0 : inR y0) (hw : yW D ca A ad s H locs u) (hl : lv_has ls 7 [(0, .ref (ad 0 5)), (1, .int (jI x1)), (2, .int (jI x2)), (3, .int (jI x3)), (4, .int (jI x4))]) (h : v_6_learn_130 Q x1 x2 x3 x4 y0 u) : W p l e R s m args below meth c H locs 0 0 Qf (F0 m 130 ls [.int (jI y0)]) := by
  have hx := X.1.1
  have hb := X.1.2.1
  unfold v_6_learn_130 at h
  refine lv_istore hx hb dX6_learn_130 hl (by decide) rfl (fun ls hl => ?_)
  have hl : lv_has ls 7 [(5, .int (jI y0)), (0, .ref (ad 0 5)), (1, .int (jI x1)), (2, .int (jI x2)), (3, .int (jI x3)), (4, .int (jI x4))] := hl
  refine lv_iload_n hx hb dX6_learn_132 rfl (lv_at hl 4 rfl) ?_
  refine k_if_eq hx hb rx3 dX6_learn_133 (tgt := 148) rfl h (fun h => ?_) (fun h => ?_)
  · refine lv_iload hx hb dX6_learn_148 (lv_at hl 5 rfl) ?_
    refine k_if_eq hx hb rx4 dX6_learn_150 (tgt := 157) rfl h (fun h => ?_) (fun h => ?_)
    · refine lv_iconst hx hb dX6_learn_157 (v := jI 1) rfl ?_
      exact f_6_learn_158 X hRf hRl hret rx1 rx3 rx4 ry0 (by decide) hw (lv_sub hl [1, 2, 4, 5, 0] rfl) h
    · refine lv_iconst hx hb dX6_learn_153 (v := jI 0) rfl ?_
      refine lv_goto hx hb dX6_learn_154 (tgt := 158) rfl ?_
      exact f_6_learn_158 X hRf hRl hret rx1 rx3 rx4 ry0 (by decide) hw (lv_sub hl [1, 2, 4, 5, 0] rfl) h
  · refine lv_aload_n hx hb dX6_learn_136 rfl (lv_at hl 1 rfl) ?_
    refine yg_6_39 X hw dX6_learn_137 ?_
    refine lv_iload_n hx hb dX6_learn_140 rfl (lv_at hl 3 rfl) ?_
    refine lv_iconst hx hb dX6_learn_141 (v := jI 2) rfl ?_
    refine ycI (n := 2) (e_7_item rx2 (by decide) h) 7 6 (r := (RX7, TX7, 9)) rfl yG_6_109 yD_7_item X hw rfl yGo_7 (Nat.le_trans (Nat.le_of_ble_eq_true rfl) hRf) (Nat.le_trans (Nat.le_of_ble_eq_true rfl) hRl) rfl hl.1 (Nat.le_of_ble_eq_true rfl) rfl dX6_learn_142 (fun v11 u H locs rv11 h hw => ?_)
    refine lv_goto hx hb dX6_learn_145 (tgt := 158) rfl ?_
    exact f_6_learn_158 X hRf hRl hret rx1 rx3 rx4 ry0 rv11 hw (lv_sub hl [1, 2, 4, 5, 0] rfl) h

def v_6_learn_117 (Q : iST → Prop) (x1 : Int) (x2 : Int) (x3 : Int) (x4 : Int) (u : iST) : Prop :=
  v_7_item x2 1 (fun v6 u => 
  v_6_learn_130 Q x1 x2 x3 x4 v6 u) u
set_option maxRecDepth 20000 in
set_option maxHeartbeats 4000000 in
theorem f_6_learn_117 (X : yX RX6 p m c cX6_learn 7 s args D ca ad A) (hRf : 4 ≤ R.frames) (hRl : 102 ≤ R.locals) {Q : iST → Prop} (hret : ∀ (u : iST) (H : Heap) (locs : List Loc) (ls : Array Slot) (pc : Nat), Q u → yW D ca A ad s H locs u → decode cX6_learn pc = .ok (.return_, 1) → W p l e R s m args below meth c H locs 0 0 Qf (F0 m pc ls [])) {x1 x2 x3 x4 : Int} (rx1 : inR x1) (rx2 : inR x2) (rx3 : inR x3) (rx4 : inR x4) (hw : yW D ca A ad s H locs u) (hl : lv_has ls 7 [(0, .ref (ad 0 5)), (1, .int (jI x1)), (2, .int (jI x2)), (3, .int (jI x3)), (4, .int (jI x4))]) (h : v_6_learn_117 Q x1 x2 x3 x4 u) : W p l e R s m args below meth c H locs 0 0 Qf (F0 m 117 ls []) := by
  have hx := X.1.1
  have hb := X.1.2.1
  unfold v_6_learn_117 at h
  refine lv_aload_n hx hb dX6_learn_117 rfl (lv_at hl 0 rfl) ?_
  refine yg_6_39 X hw dX6_learn_118 ?_
  refine lv_iload_n hx hb dX6_learn_121 rfl (lv_at hl 2 rfl) ?_
  refine lv_iconst hx hb dX6_learn_122 (v := jI 1) rfl ?_
  refine ycI (n := 2) (e_7_item rx2 (by decide) h) 7 6 (r := (RX7, TX7, 9)) rfl yG_6_109 yD_7_item X hw rfl yGo_7 (Nat.le_trans (Nat.le_of_ble_eq_true rfl) hRf) (Nat.le_trans (Nat.le_of_ble_eq_true rfl) hRl) rfl hl.1 (Nat.le_of_ble_eq_true rfl) rfl dX6_learn_123 (fun v6 u H locs rv6 h hw => ?_)
  refine lv_goto hx hb dX6_learn_126 (tgt := 130) rfl ?_
  exact f_6_learn_130 X hRf hRl hret rx1 rx2 rx3 rx4 rv6 hw hl h

def v_6_learn_86 (Q : iST → Prop) (x1 : Int) (x2 : Int) (u : iST) : Prop :=
  v_7_isCallOf x2 4 (fun v4 u => 
  v_7_isCallOf x2 16 (fun v5 u => 
  br (v4 ≠ 0) (
    v_6_learn_117 Q x1 x2 v4 v5 u) (
    br (v5 = 0) (
      v_6_learn_130 Q x1 x2 v4 v5 x2 u) (
      v_6_learn_117 Q x1 x2 v4 v5 u))) u) u
set_option maxRecDepth 20000 in
set_option maxHeartbeats 4000000 in
theorem f_6_learn_86 (X : yX RX6 p m c cX6_learn 7 s args D ca ad A) (hRf : 4 ≤ R.frames) (hRl : 102 ≤ R.locals) {Q : iST → Prop} (hret : ∀ (u : iST) (H : Heap) (locs : List Loc) (ls : Array Slot) (pc : Nat), Q u → yW D ca A ad s H locs u → decode cX6_learn pc = .ok (.return_, 1) → W p l e R s m args below meth c H locs 0 0 Qf (F0 m pc ls [])) {x1 x2 : Int} (rx1 : inR x1) (rx2 : inR x2) (hw : yW D ca A ad s H locs u) (hl : lv_has ls 7 [(0, .ref (ad 0 5)), (1, .int (jI x1)), (2, .int (jI x2))]) (h : v_6_learn_86 Q x1 x2 u) : W p l e R s m args below meth c H locs 0 0 Qf (F0 m 86 ls []) := by
  have hx := X.1.1
  have hb := X.1.2.1
  unfold v_6_learn_86 at h
  refine lv_aload_n hx hb dX6_learn_86 rfl (lv_at hl 0 rfl) ?_
  refine yg_6_39 X hw dX6_learn_87 ?_
  refine lv_iload_n hx hb dX6_learn_90 rfl (lv_at hl 2 rfl) ?_
  refine lv_iconst hx hb dX6_learn_91 (v := jI 4) rfl ?_
  refine ycI (n := 2) (e_7_isCallOf rx2 (by decide) h) 7 6 (r := (RX7, TX7, 9)) rfl yG_6_175 yD_7_isCallOf X hw rfl yGo_7 (Nat.le_trans (Nat.le_of_ble_eq_true rfl) hRf) (Nat.le_trans (Nat.le_of_ble_eq_true rfl) hRl) rfl hl.1 (Nat.le_of_ble_eq_true rfl) rfl dX6_learn_92 (fun v4 u H locs rv4 h hw => ?_)
  refine lv_istore_n hx hb dX6_learn_95 rfl hl (by decide) rfl (fun ls hl => ?_)
  have hl : lv_has ls 7 [(3, .int (jI v4)), (0, .ref (ad 0 5)), (1, .int (jI x1)), (2, .int (jI x2))] := hl
  refine lv_aload_n hx hb dX6_learn_96 rfl (lv_at hl 1 rfl) ?_
  refine yg_6_39 X hw dX6_learn_97 ?_
  refine lv_iload_n hx hb dX6_learn_100 rfl (lv_at hl 3 rfl) ?_
  refine lv_bipush hx hb dX6_learn_101 (v := jI 16) rfl ?_
  refine ycI (n := 2) (e_7_isCallOf rx2 (by decide) h) 7 6 (r := (RX7, TX7, 9)) rfl yG_6_175 yD_7_isCallOf X hw rfl yGo_7 (Nat.le_trans (Nat.le_of_ble_eq_true rfl) hRf) (Nat.le_trans (Nat.le_of_ble_eq_true rfl) hRl) rfl hl.1 (Nat.le_of_ble_eq_true rfl) rfl dX6_learn_103 (fun v5 u H locs rv5 h hw => ?_)
  refine lv_istore hx hb dX6_learn_106 hl (by decide) rfl (fun ls hl => ?_)
  have hl : lv_has ls 7 [(4, .int (jI v5)), (3, .int (jI v4)), (0, .ref (ad 0 5)), (1, .int (jI x1)), (2, .int (jI x2))] := hl
  refine lv_iload_n hx hb dX6_learn_108 rfl (lv_at hl 1 rfl) ?_
  refine k_if_ne hx hb rv4 dX6_learn_109 (tgt := 117) rfl h (fun h => ?_) (fun h => ?_)
  · exact f_6_learn_117 X hRf hRl hret rx1 rx2 rv4 rv5 hw (lv_sub hl [2, 3, 4, 1, 0] rfl) h
  · refine lv_iload hx hb dX6_learn_112 (lv_at hl 0 rfl) ?_
    refine k_if_eq hx hb rv5 dX6_learn_114 (tgt := 129) rfl h (fun h => ?_) (fun h => ?_)
    · refine lv_iload_n hx hb dX6_learn_129 rfl (lv_at hl 4 rfl) ?_
      exact f_6_learn_130 X hRf hRl hret rx1 rx2 rv4 rv5 rx2 hw (lv_sub hl [2, 3, 4, 1, 0] rfl) h
    · exact f_6_learn_117 X hRf hRl hret rx1 rx2 rv4 rv5 hw (lv_sub hl [2, 3, 4, 1, 0] rfl) h

def v_6_learn_37b (R37 : Int → Int → Int → iST → Prop) (Q : iST → Prop) (x1 : Int) (x2 : Int) (x3 : Int) (u : iST) : Prop :=
  br (120 ≤ x3) (
    v_6_learn_86 Q x1 x2 u) (
    v_7_isCallOf x2 6 (fun v12 u => 
    br (v12 = 0) (
      v_6_learn_86 Q x1 x2 u) (
      v_7_item x2 1 (fun v13 u => 
      v_6_addHypotheses x1 v13 (fun u => 
      v_7_item x2 2 (fun v15 u => 
      ov (x3 + 1) (
      R37 x1 v15 (x3 + 1) u)) u) u) u)) u)
def v_6_learn_37 (Q : iST → Prop) (x1 : Int) (x2 : Int) (x3 : Int) (u : iST) : Prop := ∀ R37 : Int → Int → Int → iST → Prop, (∀ (x1 : Int) (x2 : Int) (x3 : Int) (u : iST), v_6_learn_37b R37 Q x1 x2 x3 u → R37 x1 x2 x3 u) → R37 x1 x2 x3 u
set_option maxRecDepth 20000 in
set_option maxHeartbeats 4000000 in
theorem f_6_learn_37 (X : yX RX6 p m c cX6_learn 7 s args D ca ad A) (hRf : 4 ≤ R.frames) (hRl : 102 ≤ R.locals) {Q : iST → Prop} (hret : ∀ (u : iST) (H : Heap) (locs : List Loc) (ls : Array Slot) (pc : Nat), Q u → yW D ca A ad s H locs u → decode cX6_learn pc = .ok (.return_, 1) → W p l e R s m args below meth c H locs 0 0 Qf (F0 m pc ls [])) {x1 x2 x3 : Int} (rx1 : inR x1) (rx2 : inR x2) (rx3 : inR x3) (hw : yW D ca A ad s H locs u) (hl : lv_has ls 7 [(0, .ref (ad 0 5)), (1, .int (jI x1)), (2, .int (jI x2)), (3, .int (jI x3))]) (h : v_6_learn_37 Q x1 x2 x3 u) : W p l e R s m args below meth c H locs 0 0 Qf (F0 m 37 ls []) := by
  refine h (fun x1 x2 x3 u => ∀ (H : Heap) (locs : List Loc) (ls : Array Slot), inR x1 → inR x2 → inR x3 → yW D ca A ad s H locs u → lv_has ls 7 [(0, .ref (ad 0 5)), (1, .int (jI x1)), (2, .int (jI x2)), (3, .int (jI x3))] → W p l e R s m args below meth c H locs 0 0 Qf (F0 m 37 ls [])) ?_ H locs ls rx1 rx2 rx3 hw hl
  clear h hl hw rx1 rx2 rx3
  intro x1 x2 x3 u h H locs ls rx1 rx2 rx3 hw hl
  have hR37 : ∀ (x1 : Int) (x2 : Int) (x3 : Int) (u : iST) (H : Heap) (locs : List Loc) (ls : Array Slot), inR x1 → inR x2 → inR x3 → yW D ca A ad s H locs u → lv_has ls 7 [(0, .ref (ad 0 5)), (1, .int (jI x1)), (2, .int (jI x2)), (3, .int (jI x3))] → (fun (x1 : Int) (x2 : Int) (x3 : Int) u => ∀ (H : Heap) (locs : List Loc) (ls : Array Slot), inR x1 → inR x2 → inR x3 → yW D ca A ad s H locs u → lv_has ls 7 [(0, .ref (ad 0 5)), (1, .int (jI x1)), (2, .int (jI x2)), (3, .int (jI x3))] → W p l e R s m args below meth c H locs 0 0 Qf (F0 m 37 ls [])) x1 x2 x3 u → W p l e R s m args below meth c H locs 0 0 Qf (F0 m 37 ls []) := fun x1 x2 x3 u H locs ls rx1 rx2 rx3 hw hl h => h H locs ls rx1 rx2 rx3 hw hl
  have hx := X.1.1
  have hb := X.1.2.1
  unfold v_6_learn_37b at h
  refine lv_iload_n hx hb dX6_learn_37 rfl (lv_at hl 3 rfl) ?_
  refine lv_bipush hx hb dX6_learn_38 (v := jI 120) rfl ?_
  refine k_icmp_ge hx hb rx3 (by decide) dX6_learn_40 (tgt := 86) rfl h (fun h => ?_) (fun h => ?_)
  · exact f_6_learn_86 X hRf hRl hret rx1 rx2 hw (lv_sub hl [0, 1, 2] rfl) h
  · refine lv_aload_n hx hb dX6_learn_43 rfl (lv_at hl 0 rfl) ?_
    refine yg_6_39 X hw dX6_learn_44 ?_
    refine lv_iload_n hx hb dX6_learn_47 rfl (lv_at hl 2 rfl) ?_
    refine lv_bipush hx hb dX6_learn_48 (v := jI 6) rfl ?_
    refine ycI (n := 2) (e_7_isCallOf rx2 (by decide) h) 7 6 (r := (RX7, TX7, 9)) rfl yG_6_175 yD_7_isCallOf X hw rfl yGo_7 (Nat.le_trans (Nat.le_of_ble_eq_true rfl) hRf) (Nat.le_trans (Nat.le_of_ble_eq_true rfl) hRl) rfl hl.1 (Nat.le_of_ble_eq_true rfl) rfl dX6_learn_50 (fun v12 u H locs rv12 h hw => ?_)
    refine k_if_eq hx hb rv12 dX6_learn_53 (tgt := 86) rfl h (fun h => ?_) (fun h => ?_)
    · exact f_6_learn_86 X hRf hRl hret rx1 rx2 hw (lv_sub hl [0, 1, 2] rfl) h
    · refine lv_aload_n hx hb dX6_learn_56 rfl (lv_at hl 0 rfl) ?_
      refine lv_iload_n hx hb dX6_learn_57 rfl (lv_at hl 1 rfl) ?_
      refine lv_aload_n hx hb dX6_learn_58 rfl (lv_at hl 0 rfl) ?_
      refine yg_6_39 X hw dX6_learn_59 ?_
      refine lv_iload_n hx hb dX6_learn_62 rfl (lv_at hl 2 rfl) ?_
      refine lv_iconst hx hb dX6_learn_63 (v := jI 1) rfl ?_
      refine ycI (n := 2) (e_7_item rx2 (by decide) h) 7 6 (r := (RX7, TX7, 9)) rfl yG_6_109 yD_7_item X hw rfl yGo_7 (Nat.le_trans (Nat.le_of_ble_eq_true rfl) hRf) (Nat.le_trans (Nat.le_of_ble_eq_true rfl) hRl) rfl hl.1 (Nat.le_of_ble_eq_true rfl) rfl dX6_learn_64 (fun v13 u H locs rv13 h hw => ?_)
      refine ycV (n := 2) (e_6_addHypotheses rx1 rv13 h) 6 5 (r := (RX6, TX6, 14)) rfl yG_6_301 yD_6_addHypotheses X hw rfl yGo_6 (Nat.le_trans (Nat.le_of_ble_eq_true rfl) hRf) (Nat.le_trans (Nat.le_of_ble_eq_true rfl) hRl) rfl hl.1 (Nat.le_of_ble_eq_true rfl) rfl dX6_learn_67 (fun u H locs h hw => ?_)
      refine lv_aload_n hx hb dX6_learn_70 rfl (lv_at hl 0 rfl) ?_
      refine yg_6_39 X hw dX6_learn_71 ?_
      refine lv_iload_n hx hb dX6_learn_74 rfl (lv_at hl 2 rfl) ?_
      refine lv_iconst hx hb dX6_learn_75 (v := jI 2) rfl ?_
      refine ycI (n := 2) (e_7_item rx2 (by decide) h) 7 6 (r := (RX7, TX7, 9)) rfl yG_6_109 yD_7_item X hw rfl yGo_7 (Nat.le_trans (Nat.le_of_ble_eq_true rfl) hRf) (Nat.le_trans (Nat.le_of_ble_eq_true rfl) hRl) rfl hl.1 (Nat.le_of_ble_eq_true rfl) rfl dX6_learn_76 (fun v15 u H locs rv15 h hw => ?_)
      refine lv_istore_n hx hb dX6_learn_79 rfl hl (by decide) rfl (fun ls hl => ?_)
      have hl : lv_has ls 7 [(2, .int (jI v15)), (0, .ref (ad 0 5)), (1, .int (jI x1)), (3, .int (jI x3))] := hl
      refine k_iinc (k := 3) hx hb dX6_learn_80 hl rfl (by decide) rfl h (fun ls r16 h hl => ?_)
      have hl : lv_has ls 7 [(3, .int (jI (x3 + 1))), (2, .int (jI v15)), (0, .ref (ad 0 5)), (1, .int (jI x1))] := hl
      refine lv_goto hx hb dX6_learn_83 (tgt := 37) rfl ?_
      exact hR37 _ _ _ _ H locs ls rx1 rv15 r16 hw (lv_sub hl [2, 3, 1, 0] rfl) h

def v_6_learn (Q : iST → Prop) (u : iST) : Prop :=
  rd (u.1 1) (fun v1 => 
  ov (v1 - 1) (
  br (0 ≤ (v1 - 1)) (
    bd (v1 - 1) 60 (rd (u.2.1 6 (v1 - 1)) (fun v3 => 
    bd (v1 - 1) 60 (sw (iA u 9 (v1 - 1) 0) (fun u => 
    v_6_learn_37 Q (v1 - 1) v3 0 u))))) (
    Q u)))
set_option maxRecDepth 20000 in
set_option maxHeartbeats 4000000 in
theorem f_6_learn_s (X : yX RX6 p m c cX6_learn 7 s args D ca ad A) (hRf : 4 ≤ R.frames) (hRl : 102 ≤ R.locals) {Q : iST → Prop} (hret : ∀ (u : iST) (H : Heap) (locs : List Loc) (ls : Array Slot) (pc : Nat), Q u → yW D ca A ad s H locs u → decode cX6_learn pc = .ok (.return_, 1) → W p l e R s m args below meth c H locs 0 0 Qf (F0 m pc ls [])) (hw : yW D ca A ad s H locs u) (hl : lv_has ls 7 [(0, .ref (ad 0 5))]) (h : v_6_learn Q u) : W p l e R s m args below meth c H locs 0 0 Qf (F0 m 0 ls []) := by
  have hx := X.1.1
  have hb := X.1.2.1
  unfold v_6_learn at h
  refine lv_aload_n hx hb dX6_learn_0 rfl (lv_at hl 0 rfl) ?_
  refine yg_6_43 X hw dX6_learn_1 ?_
  refine yg_6_67 X hw dX6_learn_4 h (fun v1 rv1 h => ?_)
  refine lv_iconst hx hb dX6_learn_7 (v := jI 1) rfl ?_
  refine k_isub hx hb dX6_learn_8 h (fun r2 h => ?_)
  refine lv_istore_n hx hb dX6_learn_9 rfl hl (by decide) rfl (fun ls hl => ?_)
  have hl : lv_has ls 7 [(1, .int (jI (v1 - 1))), (0, .ref (ad 0 5))] := hl
  refine lv_iload_n hx hb dX6_learn_10 rfl (lv_at hl 0 rfl) ?_
  refine k_if_ge hx hb r2 dX6_learn_11 (tgt := 15) rfl h (fun h => ?_) (fun h => ?_)
  · refine lv_aload_n hx hb dX6_learn_15 rfl (lv_at hl 1 rfl) ?_
    refine yg_6_43 X hw dX6_learn_16 ?_
    refine yg_6_298 X hw dX6_learn_19 ?_
    refine lv_iload_n hx hb dX6_learn_22 rfl (lv_at hl 0 rfl) ?_
    refine yl_6 X hw r2 dX6_learn_23 h (fun v3 rv3 h => ?_)
    refine lv_istore_n hx hb dX6_learn_24 rfl hl (by decide) rfl (fun ls hl => ?_)
    have hl : lv_has ls 7 [(2, .int (jI v3)), (1, .int (jI (v1 - 1))), (0, .ref (ad 0 5))] := hl
    refine lv_aload_n hx hb dX6_learn_25 rfl (lv_at hl 2 rfl) ?_
    refine yg_6_43 X hw dX6_learn_26 ?_
    refine yg_6_273 X hw dX6_learn_29 ?_
    refine lv_iload_n hx hb dX6_learn_32 rfl (lv_at hl 1 rfl) ?_
    refine lv_iconst hx hb dX6_learn_33 (v := jI 0) rfl ?_
    refine yt_9 X hw r2 (by decide) dX6_learn_34 h (fun H locs u hw h => ?_)
    refine lv_iconst hx hb dX6_learn_35 (v := jI 0) rfl ?_
    refine lv_istore_n hx hb dX6_learn_36 rfl hl (by decide) rfl (fun ls hl => ?_)
    have hl : lv_has ls 7 [(3, .int (jI 0)), (2, .int (jI v3)), (1, .int (jI (v1 - 1))), (0, .ref (ad 0 5))] := hl
    exact f_6_learn_37 X hRf hRl hret r2 rv3 (by decide) hw (lv_sub hl [3, 2, 1, 0] rfl) h
  · exact hret _ _ _ _ _ h hw dX6_learn_14

end
theorem e_6_learn {l : Launch} {Q : iST → Prop} {u : iST} (h : v_6_learn Q u) : yMV l yX6_learn (.code yX6_learn cX6_learn 7 none :: wsN) { frames := 4, cells := 0, slots := 0, locals := 102 } (fun ad => [.ref (ad 0 5)]) Q u := yMV_of (own := RX6) rfl (by decide +kernel) (fun _ => Nat.le_of_ble_eq_true rfl) (fun X hRf hRl hret hw hl => f_6_learn_s X hRf hRl hret hw hl h)

/-! ProofHouse$Room.begin -/
theorem dX7_begin_0 : decode cX7_begin 0 = .ok (.aload_n 0, 1) := by decide +kernel
theorem dX7_begin_1 : decode cX7_begin 1 = .ok (.iload_n 1, 1) := by decide +kernel
theorem dX7_begin_2 : decode cX7_begin 2 = .ok (.putfield 34, 3) := by decide +kernel
theorem dX7_begin_5 : decode cX7_begin 5 = .ok (.aload_n 0, 1) := by decide +kernel
theorem dX7_begin_6 : decode cX7_begin 6 = .ok (.iconst 0, 1) := by decide +kernel
theorem dX7_begin_7 : decode cX7_begin 7 = .ok (.putfield 37, 3) := by decide +kernel
theorem dX7_begin_10 : decode cX7_begin 10 = .ok (.aload_n 0, 1) := by decide +kernel
theorem dX7_begin_11 : decode cX7_begin 11 = .ok (.iconst 0, 1) := by decide +kernel
theorem dX7_begin_12 : decode cX7_begin 12 = .ok (.putfield 40, 3) := by decide +kernel
theorem dX7_begin_15 : decode cX7_begin 15 = .ok (.return_, 1) := by decide +kernel

section
variable {p : Program} {l : Launch} {e : Env} {R : Room} {s : State} {m : MethodId} {args : Array Value} {below : List Frame} {meth : Method} {c : Code} {H : Heap} {locs : List Loc} {Qf : State → Prop}
variable {ls : Array Slot} {D : va_G} {ca : Nat → ClassId} {A : Nat → Prop} {ad : Nat → Nat → Nat} {u : iST}
def v_7_begin (a0 : Int) (Q : iST → Prop) (u : iST) : Prop :=
  sw (iI u 30 a0) (fun u => 
  sw (iI u 31 0) (fun u => 
  sw (iI u 32 0) (fun u => 
  Q u)))
set_option maxRecDepth 20000 in
set_option maxHeartbeats 4000000 in
theorem f_7_begin_s (X : yX RX7 p m c cX7_begin 2 s args D ca ad A) (hRf : 0 ≤ R.frames) (hRl : 0 ≤ R.locals) {Q : iST → Prop} (hret : ∀ (u : iST) (H : Heap) (locs : List Loc) (ls : Array Slot) (pc : Nat), Q u → yW D ca A ad s H locs u → decode cX7_begin pc = .ok (.return_, 1) → W p l e R s m args below meth c H locs 0 0 Qf (F0 m pc ls [])) {a0 : Int} (ra0 : inR a0) (hw : yW D ca A ad s H locs u) (hl : lv_has ls 2 [(0, .ref (ad 0 6)), (1, .int (jI a0))]) (h : v_7_begin a0 Q u) : W p l e R s m args below meth c H locs 0 0 Qf (F0 m 0 ls []) := by
  have hx := X.1.1
  have hb := X.1.2.1
  unfold v_7_begin at h
  refine lv_aload_n hx hb dX7_begin_0 rfl (lv_at hl 0 rfl) ?_
  refine lv_iload_n hx hb dX7_begin_1 rfl (lv_at hl 1 rfl) ?_
  refine yp_7_34 X hw ra0 dX7_begin_2 h (fun H locs u hw h => ?_)
  refine lv_aload_n hx hb dX7_begin_5 rfl (lv_at hl 0 rfl) ?_
  refine lv_iconst hx hb dX7_begin_6 (v := jI 0) rfl ?_
  refine yp_7_37 X hw (by decide) dX7_begin_7 h (fun H locs u hw h => ?_)
  refine lv_aload_n hx hb dX7_begin_10 rfl (lv_at hl 0 rfl) ?_
  refine lv_iconst hx hb dX7_begin_11 (v := jI 0) rfl ?_
  refine yp_7_40 X hw (by decide) dX7_begin_12 h (fun H locs u hw h => ?_)
  exact hret _ _ _ _ _ h hw dX7_begin_15

end
theorem e_7_begin {l : Launch} {a0 : Int} (ra0 : inR a0) {Q : iST → Prop} {u : iST} (h : v_7_begin a0 Q u) : yMV l yX7_begin (.code yX7_begin cX7_begin 2 none :: wsN) { frames := 0, cells := 0, slots := 0, locals := 0 } (fun ad => [.ref (ad 0 6), .int (jI a0)]) Q u := yMV_of (own := RX7) rfl (by decide +kernel) (fun _ => Nat.le_of_ble_eq_true rfl) (fun X hRf hRl hret hw hl => f_7_begin_s X hRf hRl hret ra0 hw hl h)
