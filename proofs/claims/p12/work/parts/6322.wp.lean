/-! ProofHouse$Rewriter.judge -/
theorem dX6_judge_0 : decode cX6_judge 0 = .ok (.aload_n 0, 1) := by decide +kernel
theorem dX6_judge_1 : decode cX6_judge 1 = .ok (.getfield 20, 3) := by decide +kernel
theorem dX6_judge_4 : decode cX6_judge 4 = .ok (.iconst 1, 1) := by decide +kernel
theorem dX6_judge_5 : decode cX6_judge 5 = .ok (.if_icmp .ne 19, 3) := by decide +kernel
theorem dX6_judge_8 : decode cX6_judge 8 = .ok (.aload_n 1, 1) := by decide +kernel
theorem dX6_judge_9 : decode cX6_judge 9 = .ok (.bipush 9, 2) := by decide +kernel
theorem dX6_judge_11 : decode cX6_judge 11 = .ok (.dup2, 1) := by decide +kernel
theorem dX6_judge_12 : decode cX6_judge 12 = .ok (.iaload, 1) := by decide +kernel
theorem dX6_judge_13 : decode cX6_judge 13 = .ok (.iconst 1, 1) := by decide +kernel
theorem dX6_judge_14 : decode cX6_judge 14 = .ok (.iadd, 1) := by decide +kernel
theorem dX6_judge_15 : decode cX6_judge 15 = .ok (.iastore, 1) := by decide +kernel
theorem dX6_judge_16 : decode cX6_judge 16 = .ok (.aload_n 1, 1) := by decide +kernel
theorem dX6_judge_17 : decode cX6_judge 17 = .ok (.iconst 3, 1) := by decide +kernel
theorem dX6_judge_18 : decode cX6_judge 18 = .ok (.bipush 14, 2) := by decide +kernel
theorem dX6_judge_20 : decode cX6_judge 20 = .ok (.iastore, 1) := by decide +kernel
theorem dX6_judge_21 : decode cX6_judge 21 = .ok (.goto 16, 3) := by decide +kernel
theorem dX6_judge_24 : decode cX6_judge 24 = .ok (.aload_n 1, 1) := by decide +kernel
theorem dX6_judge_25 : decode cX6_judge 25 = .ok (.bipush 8, 2) := by decide +kernel
theorem dX6_judge_27 : decode cX6_judge 27 = .ok (.dup2, 1) := by decide +kernel
theorem dX6_judge_28 : decode cX6_judge 28 = .ok (.iaload, 1) := by decide +kernel
theorem dX6_judge_29 : decode cX6_judge 29 = .ok (.iconst 1, 1) := by decide +kernel
theorem dX6_judge_30 : decode cX6_judge 30 = .ok (.isub, 1) := by decide +kernel
theorem dX6_judge_31 : decode cX6_judge 31 = .ok (.iastore, 1) := by decide +kernel
theorem dX6_judge_32 : decode cX6_judge 32 = .ok (.aload_n 1, 1) := by decide +kernel
theorem dX6_judge_33 : decode cX6_judge 33 = .ok (.iconst 3, 1) := by decide +kernel
theorem dX6_judge_34 : decode cX6_judge 34 = .ok (.bipush 12, 2) := by decide +kernel
theorem dX6_judge_36 : decode cX6_judge 36 = .ok (.iastore, 1) := by decide +kernel
theorem dX6_judge_37 : decode cX6_judge 37 = .ok (.return_, 1) := by decide +kernel

section
variable {p : Program} {l : Launch} {e : Env} {R : Room} {s : State} {m : MethodId} {args : Array Value} {below : List Frame} {meth : Method} {c : Code} {H : Heap} {locs : List Loc} {Qf : State → Prop}
variable {ls : Array Slot} {D : va_G} {ca : Nat → ClassId} {A : Nat → Prop} {ad : Nat → Nat → Nat} {u : iST}
def v_6_judge (a0 : Int) (Q : iST → Prop) (u : iST) : Prop :=
  rd (u.1 24) (fun v1 => 
  br (v1 ≠ 1) (
    bd 8 17 (rd (u.2.1 51 (17 * a0 + 8)) (fun v2 => 
    ov (v2 - 1) (
    bd 8 17 (sw (iA u 51 (17 * a0 + 8) (v2 - 1)) (fun u => 
    bd 3 17 (sw (iA u 51 (17 * a0 + 3) 12) (fun u => 
    Q u)))))))) (
    bd 9 17 (rd (u.2.1 51 (17 * a0 + 9)) (fun v4 => 
    ov (v4 + 1) (
    bd 9 17 (sw (iA u 51 (17 * a0 + 9) (v4 + 1)) (fun u => 
    bd 3 17 (sw (iA u 51 (17 * a0 + 3) 14) (fun u => 
    Q u)))))))))
set_option maxRecDepth 20000 in
set_option maxHeartbeats 4000000 in
theorem f_6_judge_s (X : yX RX6 p m c cX6_judge 2 s args D ca ad A) (hRf : 0 ≤ R.frames) (hRl : 0 ≤ R.locals) {Q : iST → Prop} (hret : ∀ (u : iST) (H : Heap) (locs : List Loc) (ls : Array Slot) (pc : Nat), Q u → yW D ca A ad s H locs u → decode cX6_judge pc = .ok (.return_, 1) → W p l e R s m args below meth c H locs 0 0 Qf (F0 m pc ls [])) {a0 : Int} (ra0 : (0 ≤ a0 ∧ a0 < 60)) (hw : yW D ca A ad s H locs u) (hl : lv_has ls 2 [(0, .ref (ad 0 5)), (1, .ref (ad 7 a0.toNat))]) (h : v_6_judge a0 Q u) : W p l e R s m args below meth c H locs 0 0 Qf (F0 m 0 ls []) := by
  have hx := X.1.1
  have hb := X.1.2.1
  unfold v_6_judge at h
  refine lv_aload_n hx hb dX6_judge_0 rfl (lv_at hl 0 rfl) ?_
  refine yg_6_20 X hw dX6_judge_1 h (fun v1 rv1 h => ?_)
  refine lv_iconst hx hb dX6_judge_4 (v := jI 1) rfl ?_
  refine k_icmp_ne hx hb rv1 (by decide) dX6_judge_5 (tgt := 24) rfl h (fun h => ?_) (fun h => ?_)
  · refine lv_aload_n hx hb dX6_judge_24 rfl (lv_at hl 1 rfl) ?_
    refine lv_bipush hx hb dX6_judge_25 (v := jI 8) rfl ?_
    refine lv_dup2_11 hx hb dX6_judge_27 rfl rfl ?_
    refine yfl_frames X hw ra0 (by decide) dX6_judge_28 h (fun v2 rv2 h => ?_)
    refine lv_iconst hx hb dX6_judge_29 (v := jI 1) rfl ?_
    refine k_isub hx hb dX6_judge_30 h (fun r3 h => ?_)
    refine yft_frames X hw ra0 (by decide) r3 dX6_judge_31 h (fun H locs u hw h => ?_)
    refine lv_aload_n hx hb dX6_judge_32 rfl (lv_at hl 1 rfl) ?_
    refine lv_iconst hx hb dX6_judge_33 (v := jI 3) rfl ?_
    refine lv_bipush hx hb dX6_judge_34 (v := jI 12) rfl ?_
    refine yft_frames X hw ra0 (by decide) (by decide) dX6_judge_36 h (fun H locs u hw h => ?_)
    exact hret _ _ _ _ _ h hw dX6_judge_37
  · refine lv_aload_n hx hb dX6_judge_8 rfl (lv_at hl 1 rfl) ?_
    refine lv_bipush hx hb dX6_judge_9 (v := jI 9) rfl ?_
    refine lv_dup2_11 hx hb dX6_judge_11 rfl rfl ?_
    refine yfl_frames X hw ra0 (by decide) dX6_judge_12 h (fun v4 rv4 h => ?_)
    refine lv_iconst hx hb dX6_judge_13 (v := jI 1) rfl ?_
    refine k_iadd hx hb dX6_judge_14 h (fun r5 h => ?_)
    refine yft_frames X hw ra0 (by decide) r5 dX6_judge_15 h (fun H locs u hw h => ?_)
    refine lv_aload_n hx hb dX6_judge_16 rfl (lv_at hl 1 rfl) ?_
    refine lv_iconst hx hb dX6_judge_17 (v := jI 3) rfl ?_
    refine lv_bipush hx hb dX6_judge_18 (v := jI 14) rfl ?_
    refine yft_frames X hw ra0 (by decide) (by decide) dX6_judge_20 h (fun H locs u hw h => ?_)
    refine lv_goto hx hb dX6_judge_21 (tgt := 37) rfl ?_
    exact hret _ _ _ _ _ h hw dX6_judge_37

end
theorem e_6_judge {l : Launch} {a0 : Int} (ra0 : (0 ≤ a0 ∧ a0 < 60)) {Q : iST → Prop} {u : iST} (h : v_6_judge a0 Q u) : yMV l yX6_judge (.code yX6_judge cX6_judge 2 none :: wsN) { frames := 0, cells := 0, slots := 0, locals := 0 } (fun ad => [.ref (ad 0 5), .ref (ad 7 a0.toNat)]) Q u := yMV_of (own := RX6) rfl (by decide +kernel) (fun _ => Nat.le_of_ble_eq_true rfl) (fun X hRf hRl hret hw hl => f_6_judge_s X hRf hRl hret ra0 hw hl h)

/-! ProofHouse$Rewriter.unfold -/
theorem dX6_unfold_0 : decode cX6_unfold 0 = .ok (.aload_n 0, 1) := by decide +kernel
theorem dX6_unfold_1 : decode cX6_unfold 1 = .ok (.getfield 43, 3) := by decide +kernel
theorem dX6_unfold_4 : decode cX6_unfold 4 = .ok (.aload_n 0, 1) := by decide +kernel
theorem dX6_unfold_5 : decode cX6_unfold 5 = .ok (.getfield 39, 3) := by decide +kernel
theorem dX6_unfold_8 : decode cX6_unfold 8 = .ok (.aload_n 1, 1) := by decide +kernel
theorem dX6_unfold_9 : decode cX6_unfold 9 = .ok (.iconst 5, 1) := by decide +kernel
theorem dX6_unfold_10 : decode cX6_unfold 10 = .ok (.iaload, 1) := by decide +kernel
theorem dX6_unfold_11 : decode cX6_unfold 11 = .ok (.invokevirtual 120, 3) := by decide +kernel
theorem dX6_unfold_14 : decode cX6_unfold 14 = .ok (.invokevirtual 279, 3) := by decide +kernel
theorem dX6_unfold_17 : decode cX6_unfold 17 = .ok (.istore_n 2, 1) := by decide +kernel
theorem dX6_unfold_18 : decode cX6_unfold 18 = .ok (.iload_n 2, 1) := by decide +kernel
theorem dX6_unfold_19 : decode cX6_unfold 19 = .ok (.iconst (-1), 1) := by decide +kernel
theorem dX6_unfold_20 : decode cX6_unfold 20 = .ok (.if_icmp .ne 11, 3) := by decide +kernel
theorem dX6_unfold_23 : decode cX6_unfold 23 = .ok (.aload_n 0, 1) := by decide +kernel
theorem dX6_unfold_24 : decode cX6_unfold 24 = .ok (.aload_n 1, 1) := by decide +kernel
theorem dX6_unfold_25 : decode cX6_unfold 25 = .ok (.iconst 5, 1) := by decide +kernel
theorem dX6_unfold_26 : decode cX6_unfold 26 = .ok (.iaload, 1) := by decide +kernel
theorem dX6_unfold_27 : decode cX6_unfold 27 = .ok (.invokevirtual 96, 3) := by decide +kernel
theorem dX6_unfold_30 : decode cX6_unfold 30 = .ok (.return_, 1) := by decide +kernel
theorem dX6_unfold_31 : decode cX6_unfold 31 = .ok (.aload_n 0, 1) := by decide +kernel
theorem dX6_unfold_32 : decode cX6_unfold 32 = .ok (.getfield 43, 3) := by decide +kernel
theorem dX6_unfold_35 : decode cX6_unfold 35 = .ok (.getfield 282, 3) := by decide +kernel
theorem dX6_unfold_38 : decode cX6_unfold 38 = .ok (.iload_n 2, 1) := by decide +kernel
theorem dX6_unfold_39 : decode cX6_unfold 39 = .ok (.iaload, 1) := by decide +kernel
theorem dX6_unfold_40 : decode cX6_unfold 40 = .ok (.istore_n 3, 1) := by decide +kernel
theorem dX6_unfold_41 : decode cX6_unfold 41 = .ok (.aload_n 0, 1) := by decide +kernel
theorem dX6_unfold_42 : decode cX6_unfold 42 = .ok (.getfield 43, 3) := by decide +kernel
theorem dX6_unfold_45 : decode cX6_unfold 45 = .ok (.getfield 285, 3) := by decide +kernel
theorem dX6_unfold_48 : decode cX6_unfold 48 = .ok (.iload_n 2, 1) := by decide +kernel
theorem dX6_unfold_49 : decode cX6_unfold 49 = .ok (.iaload, 1) := by decide +kernel
theorem dX6_unfold_50 : decode cX6_unfold 50 = .ok (.iconst (-1), 1) := by decide +kernel
theorem dX6_unfold_51 : decode cX6_unfold 51 = .ok (.if_icmp .ne 7, 3) := by decide +kernel
theorem dX6_unfold_54 : decode cX6_unfold 54 = .ok (.iconst 1, 1) := by decide +kernel
theorem dX6_unfold_55 : decode cX6_unfold 55 = .ok (.goto 4, 3) := by decide +kernel
theorem dX6_unfold_58 : decode cX6_unfold 58 = .ok (.iconst 0, 1) := by decide +kernel
theorem dX6_unfold_59 : decode cX6_unfold 59 = .ok (.istore 4, 2) := by decide +kernel
theorem dX6_unfold_61 : decode cX6_unfold 61 = .ok (.iload 4, 2) := by decide +kernel
theorem dX6_unfold_63 : decode cX6_unfold 63 = .ok (.ifCond .ne 23, 3) := by decide +kernel
theorem dX6_unfold_66 : decode cX6_unfold 66 = .ok (.aload_n 0, 1) := by decide +kernel
theorem dX6_unfold_67 : decode cX6_unfold 67 = .ok (.getfield 39, 3) := by decide +kernel
theorem dX6_unfold_70 : decode cX6_unfold 70 = .ok (.iload_n 3, 1) := by decide +kernel
theorem dX6_unfold_71 : decode cX6_unfold 71 = .ok (.iconst 3, 1) := by decide +kernel
theorem dX6_unfold_72 : decode cX6_unfold 72 = .ok (.invokevirtual 175, 3) := by decide +kernel
theorem dX6_unfold_75 : decode cX6_unfold 75 = .ok (.ifCond .ne 11, 3) := by decide +kernel
theorem dX6_unfold_78 : decode cX6_unfold 78 = .ok (.aload_n 0, 1) := by decide +kernel
theorem dX6_unfold_79 : decode cX6_unfold 79 = .ok (.aload_n 1, 1) := by decide +kernel
theorem dX6_unfold_80 : decode cX6_unfold 80 = .ok (.iconst 5, 1) := by decide +kernel
theorem dX6_unfold_81 : decode cX6_unfold 81 = .ok (.iaload, 1) := by decide +kernel
theorem dX6_unfold_82 : decode cX6_unfold 82 = .ok (.invokevirtual 96, 3) := by decide +kernel
theorem dX6_unfold_85 : decode cX6_unfold 85 = .ok (.return_, 1) := by decide +kernel
theorem dX6_unfold_86 : decode cX6_unfold 86 = .ok (.aload_n 0, 1) := by decide +kernel
theorem dX6_unfold_87 : decode cX6_unfold 87 = .ok (.getfield 47, 3) := by decide +kernel
theorem dX6_unfold_90 : decode cX6_unfold 90 = .ok (.aload_n 0, 1) := by decide +kernel
theorem dX6_unfold_91 : decode cX6_unfold 91 = .ok (.getfield 43, 3) := by decide +kernel
theorem dX6_unfold_94 : decode cX6_unfold 94 = .ok (.getfield 288, 3) := by decide +kernel
theorem dX6_unfold_97 : decode cX6_unfold 97 = .ok (.iload_n 2, 1) := by decide +kernel
theorem dX6_unfold_98 : decode cX6_unfold 98 = .ok (.iaload, 1) := by decide +kernel
theorem dX6_unfold_99 : decode cX6_unfold 99 = .ok (.aload_n 0, 1) := by decide +kernel
theorem dX6_unfold_100 : decode cX6_unfold 100 = .ok (.getfield 39, 3) := by decide +kernel
theorem dX6_unfold_103 : decode cX6_unfold 103 = .ok (.aload_n 1, 1) := by decide +kernel
theorem dX6_unfold_104 : decode cX6_unfold 104 = .ok (.iconst 5, 1) := by decide +kernel
theorem dX6_unfold_105 : decode cX6_unfold 105 = .ok (.iaload, 1) := by decide +kernel
theorem dX6_unfold_106 : decode cX6_unfold 106 = .ok (.invokevirtual 188, 3) := by decide +kernel
theorem dX6_unfold_109 : decode cX6_unfold 109 = .ok (.invokevirtual 291, 3) := by decide +kernel
theorem dX6_unfold_112 : decode cX6_unfold 112 = .ok (.aload_n 0, 1) := by decide +kernel
theorem dX6_unfold_113 : decode cX6_unfold 113 = .ok (.getfield 47, 3) := by decide +kernel
theorem dX6_unfold_116 : decode cX6_unfold 116 = .ok (.iload 4, 2) := by decide +kernel
theorem dX6_unfold_118 : decode cX6_unfold 118 = .ok (.ifCond .eq 7, 3) := by decide +kernel
theorem dX6_unfold_121 : decode cX6_unfold 121 = .ok (.iload_n 3, 1) := by decide +kernel
theorem dX6_unfold_122 : decode cX6_unfold 122 = .ok (.goto 12, 3) := by decide +kernel
theorem dX6_unfold_125 : decode cX6_unfold 125 = .ok (.aload_n 0, 1) := by decide +kernel
theorem dX6_unfold_126 : decode cX6_unfold 126 = .ok (.getfield 39, 3) := by decide +kernel
theorem dX6_unfold_129 : decode cX6_unfold 129 = .ok (.iload_n 3, 1) := by decide +kernel
theorem dX6_unfold_130 : decode cX6_unfold 130 = .ok (.iconst 1, 1) := by decide +kernel
theorem dX6_unfold_131 : decode cX6_unfold 131 = .ok (.invokevirtual 109, 3) := by decide +kernel
theorem dX6_unfold_134 : decode cX6_unfold 134 = .ok (.iconst 1, 1) := by decide +kernel
theorem dX6_unfold_135 : decode cX6_unfold 135 = .ok (.invokevirtual 260, 3) := by decide +kernel
theorem dX6_unfold_138 : decode cX6_unfold 138 = .ok (.istore 5, 2) := by decide +kernel
theorem dX6_unfold_140 : decode cX6_unfold 140 = .ok (.iload 4, 2) := by decide +kernel
theorem dX6_unfold_142 : decode cX6_unfold 142 = .ok (.ifCond .eq 13, 3) := by decide +kernel
theorem dX6_unfold_145 : decode cX6_unfold 145 = .ok (.aload_n 0, 1) := by decide +kernel
theorem dX6_unfold_146 : decode cX6_unfold 146 = .ok (.aload_n 1, 1) := by decide +kernel
theorem dX6_unfold_147 : decode cX6_unfold 147 = .ok (.iload 5, 2) := by decide +kernel
theorem dX6_unfold_149 : decode cX6_unfold 149 = .ok (.invokevirtual 184, 3) := by decide +kernel
theorem dX6_unfold_152 : decode cX6_unfold 152 = .ok (.goto 28, 3) := by decide +kernel
theorem dX6_unfold_155 : decode cX6_unfold 155 = .ok (.aload_n 0, 1) := by decide +kernel
theorem dX6_unfold_156 : decode cX6_unfold 156 = .ok (.getfield 39, 3) := by decide +kernel
theorem dX6_unfold_159 : decode cX6_unfold 159 = .ok (.getfield 77, 3) := by decide +kernel
theorem dX6_unfold_162 : decode cX6_unfold 162 = .ok (.ifCond .ne 18, 3) := by decide +kernel
theorem dX6_unfold_165 : decode cX6_unfold 165 = .ok (.aload_n 1, 1) := by decide +kernel
theorem dX6_unfold_166 : decode cX6_unfold 166 = .ok (.iconst 3, 1) := by decide +kernel
theorem dX6_unfold_167 : decode cX6_unfold 167 = .ok (.bipush 17, 2) := by decide +kernel
theorem dX6_unfold_169 : decode cX6_unfold 169 = .ok (.iastore, 1) := by decide +kernel
theorem dX6_unfold_170 : decode cX6_unfold 170 = .ok (.aload_n 0, 1) := by decide +kernel
theorem dX6_unfold_171 : decode cX6_unfold 171 = .ok (.iload 5, 2) := by decide +kernel
theorem dX6_unfold_173 : decode cX6_unfold 173 = .ok (.iconst 1, 1) := by decide +kernel
theorem dX6_unfold_174 : decode cX6_unfold 174 = .ok (.aload_n 1, 1) := by decide +kernel
theorem dX6_unfold_175 : decode cX6_unfold 175 = .ok (.iconst 2, 1) := by decide +kernel
theorem dX6_unfold_176 : decode cX6_unfold 176 = .ok (.iaload, 1) := by decide +kernel
theorem dX6_unfold_177 : decode cX6_unfold 177 = .ok (.invokevirtual 72, 3) := by decide +kernel
theorem dX6_unfold_180 : decode cX6_unfold 180 = .ok (.return_, 1) := by decide +kernel

section
variable {p : Program} {l : Launch} {e : Env} {R : Room} {s : State} {m : MethodId} {args : Array Value} {below : List Frame} {meth : Method} {c : Code} {H : Heap} {locs : List Loc} {Qf : State → Prop}
variable {ls : Array Slot} {D : va_G} {ca : Nat → ClassId} {A : Nat → Prop} {ad : Nat → Nat → Nat} {u : iST}
def v_6_unfold_134 (Q : iST → Prop) (x1 : Int) (x4 : Int) (y1 : Int) (u : iST) : Prop :=
  v_10_rebuilt y1 1 (fun v11 u => 
  br (x4 = 0) (
    rd (u.1 32) (fun v12 => 
    br (v12 ≠ 0) (
      Q u) (
      bd 3 17 (sw (iA u 51 (17 * x1 + 3) 17) (fun u => 
      bd 2 17 (rd (u.2.1 51 (17 * x1 + 2)) (fun v13 => 
      v_6_ask v11 1 v13 (fun u => 
      Q u) u))))))) (
    v_6_askInstead x1 v11 (fun u => 
    Q u) u)) u
set_option maxRecDepth 20000 in
set_option maxHeartbeats 4000000 in
theorem f_6_unfold_134 (X : yX RX6 p m c cX6_unfold 6 s args D ca ad A) (hRf : 3 ≤ R.frames) (hRl : 106 ≤ R.locals) {Q : iST → Prop} (hret : ∀ (u : iST) (H : Heap) (locs : List Loc) (ls : Array Slot) (pc : Nat), Q u → yW D ca A ad s H locs u → decode cX6_unfold pc = .ok (.return_, 1) → W p l e R s m args below meth c H locs 0 0 Qf (F0 m pc ls [])) {x1 x4 y1 : Int} (rx1 : (0 ≤ x1 ∧ x1 < 60)) (rx4 : inR x4) (ry1 : inR y1) (hw : yW D ca A ad s H locs u) (hl : lv_has ls 6 [(0, .ref (ad 0 5)), (1, .ref (ad 7 x1.toNat)), (4, .int (jI x4))]) (h : v_6_unfold_134 Q x1 x4 y1 u) : W p l e R s m args below meth c H locs 0 0 Qf (F0 m 134 ls [.int (jI y1), .ref (ad 0 8)]) := by
  have hx := X.1.1
  have hb := X.1.2.1
  unfold v_6_unfold_134 at h
  refine lv_iconst hx hb dX6_unfold_134 (v := jI 1) rfl ?_
  refine ycI (n := 2) (e_10_rebuilt ry1 (by decide) h) 10 8 (r := (RX10, TX10, 16)) rfl yG_6_260 yD_10_rebuilt X hw rfl yGo_10 (Nat.le_trans (Nat.le_of_ble_eq_true rfl) hRf) (Nat.le_trans (Nat.le_of_ble_eq_true rfl) hRl) rfl hl.1 (Nat.le_of_ble_eq_true rfl) rfl dX6_unfold_135 (fun v11 u H locs rv11 h hw => ?_)
  refine lv_istore hx hb dX6_unfold_138 hl (by decide) rfl (fun ls hl => ?_)
  have hl : lv_has ls 6 [(5, .int (jI v11)), (0, .ref (ad 0 5)), (1, .ref (ad 7 x1.toNat)), (4, .int (jI x4))] := hl
  refine lv_iload hx hb dX6_unfold_140 (lv_at hl 3 rfl) ?_
  refine k_if_eq hx hb rx4 dX6_unfold_142 (tgt := 155) rfl h (fun h => ?_) (fun h => ?_)
  · refine lv_aload_n hx hb dX6_unfold_155 rfl (lv_at hl 1 rfl) ?_
    refine yg_6_39 X hw dX6_unfold_156 ?_
    refine yg_6_77 X hw dX6_unfold_159 h (fun v12 rv12 h => ?_)
    refine k_if_ne hx hb rv12 dX6_unfold_162 (tgt := 180) rfl h (fun h => ?_) (fun h => ?_)
    · exact hret _ _ _ _ _ h hw dX6_unfold_180
    · refine lv_aload_n hx hb dX6_unfold_165 rfl (lv_at hl 2 rfl) ?_
      refine lv_iconst hx hb dX6_unfold_166 (v := jI 3) rfl ?_
      refine lv_bipush hx hb dX6_unfold_167 (v := jI 17) rfl ?_
      refine yft_frames X hw rx1 (by decide) (by decide) dX6_unfold_169 h (fun H locs u hw h => ?_)
      refine lv_aload_n hx hb dX6_unfold_170 rfl (lv_at hl 1 rfl) ?_
      refine lv_iload hx hb dX6_unfold_171 (lv_at hl 0 rfl) ?_
      refine lv_iconst hx hb dX6_unfold_173 (v := jI 1) rfl ?_
      refine lv_aload_n hx hb dX6_unfold_174 rfl (lv_at hl 2 rfl) ?_
      refine lv_iconst hx hb dX6_unfold_175 (v := jI 2) rfl ?_
      refine yfl_frames X hw rx1 (by decide) dX6_unfold_176 h (fun v13 rv13 h => ?_)
      refine ycV (n := 3) (e_6_ask rv11 (by decide) rv13 h) 6 5 (r := (RX6, TX6, 14)) rfl yG_6_72 yD_6_ask X hw rfl yGo_6 (Nat.le_trans (Nat.le_of_ble_eq_true rfl) hRf) (Nat.le_trans (Nat.le_of_ble_eq_true rfl) hRl) rfl hl.1 (Nat.le_of_ble_eq_true rfl) rfl dX6_unfold_177 (fun u H locs h hw => ?_)
      exact hret _ _ _ _ _ h hw dX6_unfold_180
  · refine lv_aload_n hx hb dX6_unfold_145 rfl (lv_at hl 1 rfl) ?_
    refine lv_aload_n hx hb dX6_unfold_146 rfl (lv_at hl 2 rfl) ?_
    refine lv_iload hx hb dX6_unfold_147 (lv_at hl 0 rfl) ?_
    refine ycV (n := 2) (e_6_askInstead rx1 rv11 h) 6 5 (r := (RX6, TX6, 14)) rfl yG_6_184 yD_6_askInstead X hw rfl yGo_6 (Nat.le_trans (Nat.le_of_ble_eq_true rfl) hRf) (Nat.le_trans (Nat.le_of_ble_eq_true rfl) hRl) rfl hl.1 (Nat.le_of_ble_eq_true rfl) rfl dX6_unfold_149 (fun u H locs h hw => ?_)
    refine lv_goto hx hb dX6_unfold_152 (tgt := 180) rfl ?_
    exact hret _ _ _ _ _ h hw dX6_unfold_180

def v_6_unfold_86 (Q : iST → Prop) (x1 : Int) (x2 : Int) (x3 : Int) (x4 : Int) (u : iST) : Prop :=
  bd x2 40 (rd (u.2.1 1 x2) (fun v6 => 
  bd 5 17 (rd (u.2.1 51 (17 * x1 + 5)) (fun v7 => 
  v_7_right v7 (fun v8 u => 
  v_10_bindRow v6 v8 (fun u => 
  br (x4 = 0) (
    v_7_item x3 1 (fun v10 u => 
    v_6_unfold_134 Q x1 x4 v10 u) u) (
    v_6_unfold_134 Q x1 x4 x3 u)) u) u))))
set_option maxRecDepth 20000 in
set_option maxHeartbeats 4000000 in
theorem f_6_unfold_86 (X : yX RX6 p m c cX6_unfold 6 s args D ca ad A) (hRf : 3 ≤ R.frames) (hRl : 106 ≤ R.locals) {Q : iST → Prop} (hret : ∀ (u : iST) (H : Heap) (locs : List Loc) (ls : Array Slot) (pc : Nat), Q u → yW D ca A ad s H locs u → decode cX6_unfold pc = .ok (.return_, 1) → W p l e R s m args below meth c H locs 0 0 Qf (F0 m pc ls [])) {x1 x2 x3 x4 : Int} (rx1 : (0 ≤ x1 ∧ x1 < 60)) (rx2 : inR x2) (rx3 : inR x3) (rx4 : inR x4) (hw : yW D ca A ad s H locs u) (hl : lv_has ls 6 [(0, .ref (ad 0 5)), (1, .ref (ad 7 x1.toNat)), (2, .int (jI x2)), (3, .int (jI x3)), (4, .int (jI x4))]) (h : v_6_unfold_86 Q x1 x2 x3 x4 u) : W p l e R s m args below meth c H locs 0 0 Qf (F0 m 86 ls []) := by
  have hx := X.1.1
  have hb := X.1.2.1
  unfold v_6_unfold_86 at h
  refine lv_aload_n hx hb dX6_unfold_86 rfl (lv_at hl 0 rfl) ?_
  refine yg_6_47 X hw dX6_unfold_87 ?_
  refine lv_aload_n hx hb dX6_unfold_90 rfl (lv_at hl 0 rfl) ?_
  refine yg_6_43 X hw dX6_unfold_91 ?_
  refine yg_6_288 X hw dX6_unfold_94 ?_
  refine lv_iload_n hx hb dX6_unfold_97 rfl (lv_at hl 2 rfl) ?_
  refine yl_1 X hw rx2 dX6_unfold_98 h (fun v6 rv6 h => ?_)
  refine lv_aload_n hx hb dX6_unfold_99 rfl (lv_at hl 0 rfl) ?_
  refine yg_6_39 X hw dX6_unfold_100 ?_
  refine lv_aload_n hx hb dX6_unfold_103 rfl (lv_at hl 1 rfl) ?_
  refine lv_iconst hx hb dX6_unfold_104 (v := jI 5) rfl ?_
  refine yfl_frames X hw rx1 (by decide) dX6_unfold_105 h (fun v7 rv7 h => ?_)
  refine ycI (n := 1) (e_7_right rv7 h) 7 6 (r := (RX7, TX7, 9)) rfl yG_6_188 yD_7_right X hw rfl yGo_7 (Nat.le_trans (Nat.le_of_ble_eq_true rfl) hRf) (Nat.le_trans (Nat.le_of_ble_eq_true rfl) hRl) rfl hl.1 (Nat.le_of_ble_eq_true rfl) rfl dX6_unfold_106 (fun v8 u H locs rv8 h hw => ?_)
  refine ycV (n := 2) (e_10_bindRow rv6 rv8 h) 10 8 (r := (RX10, TX10, 16)) rfl yG_6_291 yD_10_bindRow X hw rfl yGo_10 (Nat.le_trans (Nat.le_of_ble_eq_true rfl) hRf) (Nat.le_trans (Nat.le_of_ble_eq_true rfl) hRl) rfl hl.1 (Nat.le_of_ble_eq_true rfl) rfl dX6_unfold_109 (fun u H locs h hw => ?_)
  refine lv_aload_n hx hb dX6_unfold_112 rfl (lv_at hl 0 rfl) ?_
  refine yg_6_47 X hw dX6_unfold_113 ?_
  refine lv_iload hx hb dX6_unfold_116 (lv_at hl 4 rfl) ?_
  refine k_if_eq hx hb rx4 dX6_unfold_118 (tgt := 125) rfl h (fun h => ?_) (fun h => ?_)
  · refine lv_aload_n hx hb dX6_unfold_125 rfl (lv_at hl 0 rfl) ?_
    refine yg_6_39 X hw dX6_unfold_126 ?_
    refine lv_iload_n hx hb dX6_unfold_129 rfl (lv_at hl 3 rfl) ?_
    refine lv_iconst hx hb dX6_unfold_130 (v := jI 1) rfl ?_
    refine ycI (n := 2) (e_7_item rx3 (by decide) h) 7 6 (r := (RX7, TX7, 9)) rfl yG_6_109 yD_7_item X hw rfl yGo_7 (Nat.le_trans (Nat.le_of_ble_eq_true rfl) hRf) (Nat.le_trans (Nat.le_of_ble_eq_true rfl) hRl) rfl hl.1 (Nat.le_of_ble_eq_true rfl) rfl dX6_unfold_131 (fun v10 u H locs rv10 h hw => ?_)
    exact f_6_unfold_134 X hRf hRl hret rx1 rx4 rv10 hw (lv_sub hl [0, 1, 4] rfl) h
  · refine lv_iload_n hx hb dX6_unfold_121 rfl (lv_at hl 3 rfl) ?_
    refine lv_goto hx hb dX6_unfold_122 (tgt := 134) rfl ?_
    exact f_6_unfold_134 X hRf hRl hret rx1 rx4 rx3 hw (lv_sub hl [0, 1, 4] rfl) h

def v_6_unfold_59 (Q : iST → Prop) (x1 : Int) (x2 : Int) (x3 : Int) (y0 : Int) (u : iST) : Prop :=
  br (y0 ≠ 0) (
    v_6_unfold_86 Q x1 x2 x3 y0 u) (
    v_7_isCallOf x3 3 (fun v16 u => 
    br (v16 ≠ 0) (
      v_6_unfold_86 Q x1 x2 x3 y0 u) (
      bd 5 17 (rd (u.2.1 51 (17 * x1 + 5)) (fun v17 => 
      v_6_finish v17 (fun u => 
      Q u) u)))) u)
set_option maxRecDepth 20000 in
set_option maxHeartbeats 4000000 in
theorem f_6_unfold_59 (X : yX RX6 p m c cX6_unfold 6 s args D ca ad A) (hRf : 3 ≤ R.frames) (hRl : 106 ≤ R.locals) {Q : iST → Prop} (hret : ∀ (u : iST) (H : Heap) (locs : List Loc) (ls : Array Slot) (pc : Nat), Q u → yW D ca A ad s H locs u → decode cX6_unfold pc = .ok (.return_, 1) → W p l e R s m args below meth c H locs 0 0 Qf (F0 m pc ls [])) {x1 x2 x3 y0 : Int} (rx1 : (0 ≤ x1 ∧ x1 < 60)) (rx2 : inR x2) (rx3 : inR x3) (ry0 : inR y0) (hw : yW D ca A ad s H locs u) (hl : lv_has ls 6 [(0, .ref (ad 0 5)), (1, .ref (ad 7 x1.toNat)), (2, .int (jI x2)), (3, .int (jI x3))]) (h : v_6_unfold_59 Q x1 x2 x3 y0 u) : W p l e R s m args below meth c H locs 0 0 Qf (F0 m 59 ls [.int (jI y0)]) := by
  have hx := X.1.1
  have hb := X.1.2.1
  unfold v_6_unfold_59 at h
  refine lv_istore hx hb dX6_unfold_59 hl (by decide) rfl (fun ls hl => ?_)
  have hl : lv_has ls 6 [(4, .int (jI y0)), (0, .ref (ad 0 5)), (1, .ref (ad 7 x1.toNat)), (2, .int (jI x2)), (3, .int (jI x3))] := hl
  refine lv_iload hx hb dX6_unfold_61 (lv_at hl 0 rfl) ?_
  refine k_if_ne hx hb ry0 dX6_unfold_63 (tgt := 86) rfl h (fun h => ?_) (fun h => ?_)
  · exact f_6_unfold_86 X hRf hRl hret rx1 rx2 rx3 ry0 hw (lv_sub hl [1, 2, 3, 4, 0] rfl) h
  · refine lv_aload_n hx hb dX6_unfold_66 rfl (lv_at hl 1 rfl) ?_
    refine yg_6_39 X hw dX6_unfold_67 ?_
    refine lv_iload_n hx hb dX6_unfold_70 rfl (lv_at hl 4 rfl) ?_
    refine lv_iconst hx hb dX6_unfold_71 (v := jI 3) rfl ?_
    refine ycI (n := 2) (e_7_isCallOf rx3 (by decide) h) 7 6 (r := (RX7, TX7, 9)) rfl yG_6_175 yD_7_isCallOf X hw rfl yGo_7 (Nat.le_trans (Nat.le_of_ble_eq_true rfl) hRf) (Nat.le_trans (Nat.le_of_ble_eq_true rfl) hRl) rfl hl.1 (Nat.le_of_ble_eq_true rfl) rfl dX6_unfold_72 (fun v16 u H locs rv16 h hw => ?_)
    refine k_if_ne hx hb rv16 dX6_unfold_75 (tgt := 86) rfl h (fun h => ?_) (fun h => ?_)
    · exact f_6_unfold_86 X hRf hRl hret rx1 rx2 rx3 ry0 hw (lv_sub hl [1, 2, 3, 4, 0] rfl) h
    · refine lv_aload_n hx hb dX6_unfold_78 rfl (lv_at hl 1 rfl) ?_
      refine lv_aload_n hx hb dX6_unfold_79 rfl (lv_at hl 2 rfl) ?_
      refine lv_iconst hx hb dX6_unfold_80 (v := jI 5) rfl ?_
      refine yfl_frames X hw rx1 (by decide) dX6_unfold_81 h (fun v17 rv17 h => ?_)
      refine ycV (n := 1) (e_6_finish rv17 h) 6 5 (r := (RX6, TX6, 14)) rfl yG_6_96 yD_6_finish X hw rfl yGo_6 (Nat.le_trans (Nat.le_of_ble_eq_true rfl) hRf) (Nat.le_trans (Nat.le_of_ble_eq_true rfl) hRl) rfl hl.1 (Nat.le_of_ble_eq_true rfl) rfl dX6_unfold_82 (fun u H locs h hw => ?_)
      exact hret _ _ _ _ _ h hw dX6_unfold_85

def v_6_unfold (a0 : Int) (Q : iST → Prop) (u : iST) : Prop :=
  bd 5 17 (rd (u.2.1 51 (17 * a0 + 5)) (fun v1 => 
  v_7_left v1 (fun v2 u => 
  v_0_functionOf v2 (fun v3 u => 
  br (v3 ≠ (-1)) (
    bd v3 40 (rd (u.2.1 3 v3) (fun v4 => 
    bd v3 40 (rd (u.2.1 4 v3) (fun v5 => 
    br (v5 ≠ (-1)) (
      v_6_unfold_59 Q a0 v3 v4 0 u) (
      v_6_unfold_59 Q a0 v3 v4 1 u)))))) (
    bd 5 17 (rd (u.2.1 51 (17 * a0 + 5)) (fun v19 => 
    v_6_finish v19 (fun u => 
    Q u) u)))) u) u))
set_option maxRecDepth 20000 in
set_option maxHeartbeats 4000000 in
theorem f_6_unfold_s (X : yX RX6 p m c cX6_unfold 6 s args D ca ad A) (hRf : 3 ≤ R.frames) (hRl : 106 ≤ R.locals) {Q : iST → Prop} (hret : ∀ (u : iST) (H : Heap) (locs : List Loc) (ls : Array Slot) (pc : Nat), Q u → yW D ca A ad s H locs u → decode cX6_unfold pc = .ok (.return_, 1) → W p l e R s m args below meth c H locs 0 0 Qf (F0 m pc ls [])) {a0 : Int} (ra0 : (0 ≤ a0 ∧ a0 < 60)) (hw : yW D ca A ad s H locs u) (hl : lv_has ls 6 [(0, .ref (ad 0 5)), (1, .ref (ad 7 a0.toNat))]) (h : v_6_unfold a0 Q u) : W p l e R s m args below meth c H locs 0 0 Qf (F0 m 0 ls []) := by
  have hx := X.1.1
  have hb := X.1.2.1
  unfold v_6_unfold at h
  refine lv_aload_n hx hb dX6_unfold_0 rfl (lv_at hl 0 rfl) ?_
  refine yg_6_43 X hw dX6_unfold_1 ?_
  refine lv_aload_n hx hb dX6_unfold_4 rfl (lv_at hl 0 rfl) ?_
  refine yg_6_39 X hw dX6_unfold_5 ?_
  refine lv_aload_n hx hb dX6_unfold_8 rfl (lv_at hl 1 rfl) ?_
  refine lv_iconst hx hb dX6_unfold_9 (v := jI 5) rfl ?_
  refine yfl_frames X hw ra0 (by decide) dX6_unfold_10 h (fun v1 rv1 h => ?_)
  refine ycI (n := 1) (e_7_left rv1 h) 7 6 (r := (RX7, TX7, 9)) rfl yG_6_120 yD_7_left X hw rfl yGo_7 (Nat.le_trans (Nat.le_of_ble_eq_true rfl) hRf) (Nat.le_trans (Nat.le_of_ble_eq_true rfl) hRl) rfl hl.1 (Nat.le_of_ble_eq_true rfl) rfl dX6_unfold_11 (fun v2 u H locs rv2 h hw => ?_)
  refine ycI (n := 1) (e_0_functionOf rv2 h) 0 0 (r := (RX0, TX0, 21)) rfl yG_6_279 yD_0_functionOf X hw rfl yGo_0 (Nat.le_trans (Nat.le_of_ble_eq_true rfl) hRf) (Nat.le_trans (Nat.le_of_ble_eq_true rfl) hRl) rfl hl.1 (Nat.le_of_ble_eq_true rfl) rfl dX6_unfold_14 (fun v3 u H locs rv3 h hw => ?_)
  refine lv_istore_n hx hb dX6_unfold_17 rfl hl (by decide) rfl (fun ls hl => ?_)
  have hl : lv_has ls 6 [(2, .int (jI v3)), (0, .ref (ad 0 5)), (1, .ref (ad 7 a0.toNat))] := hl
  refine lv_iload_n hx hb dX6_unfold_18 rfl (lv_at hl 0 rfl) ?_
  refine lv_iconst hx hb dX6_unfold_19 (v := jI (-1)) rfl ?_
  refine k_icmp_ne hx hb rv3 (by decide) dX6_unfold_20 (tgt := 31) rfl h (fun h => ?_) (fun h => ?_)
  · refine lv_aload_n hx hb dX6_unfold_31 rfl (lv_at hl 1 rfl) ?_
    refine yg_6_43 X hw dX6_unfold_32 ?_
    refine yg_6_282 X hw dX6_unfold_35 ?_
    refine lv_iload_n hx hb dX6_unfold_38 rfl (lv_at hl 0 rfl) ?_
    refine yl_3 X hw rv3 dX6_unfold_39 h (fun v4 rv4 h => ?_)
    refine lv_istore_n hx hb dX6_unfold_40 rfl hl (by decide) rfl (fun ls hl => ?_)
    have hl : lv_has ls 6 [(3, .int (jI v4)), (2, .int (jI v3)), (0, .ref (ad 0 5)), (1, .ref (ad 7 a0.toNat))] := hl
    refine lv_aload_n hx hb dX6_unfold_41 rfl (lv_at hl 2 rfl) ?_
    refine yg_6_43 X hw dX6_unfold_42 ?_
    refine yg_6_285 X hw dX6_unfold_45 ?_
    refine lv_iload_n hx hb dX6_unfold_48 rfl (lv_at hl 1 rfl) ?_
    refine yl_4 X hw rv3 dX6_unfold_49 h (fun v5 rv5 h => ?_)
    refine lv_iconst hx hb dX6_unfold_50 (v := jI (-1)) rfl ?_
    refine k_icmp_ne hx hb rv5 (by decide) dX6_unfold_51 (tgt := 58) rfl h (fun h => ?_) (fun h => ?_)
    · refine lv_iconst hx hb dX6_unfold_58 (v := jI 0) rfl ?_
      exact f_6_unfold_59 X hRf hRl hret ra0 rv3 rv4 (by decide) hw (lv_sub hl [2, 3, 1, 0] rfl) h
    · refine lv_iconst hx hb dX6_unfold_54 (v := jI 1) rfl ?_
      refine lv_goto hx hb dX6_unfold_55 (tgt := 59) rfl ?_
      exact f_6_unfold_59 X hRf hRl hret ra0 rv3 rv4 (by decide) hw (lv_sub hl [2, 3, 1, 0] rfl) h
  · refine lv_aload_n hx hb dX6_unfold_23 rfl (lv_at hl 1 rfl) ?_
    refine lv_aload_n hx hb dX6_unfold_24 rfl (lv_at hl 2 rfl) ?_
    refine lv_iconst hx hb dX6_unfold_25 (v := jI 5) rfl ?_
    refine yfl_frames X hw ra0 (by decide) dX6_unfold_26 h (fun v19 rv19 h => ?_)
    refine ycV (n := 1) (e_6_finish rv19 h) 6 5 (r := (RX6, TX6, 14)) rfl yG_6_96 yD_6_finish X hw rfl yGo_6 (Nat.le_trans (Nat.le_of_ble_eq_true rfl) hRf) (Nat.le_trans (Nat.le_of_ble_eq_true rfl) hRl) rfl hl.1 (Nat.le_of_ble_eq_true rfl) rfl dX6_unfold_27 (fun u H locs h hw => ?_)
    exact hret _ _ _ _ _ h hw dX6_unfold_30

end
theorem e_6_unfold {l : Launch} {a0 : Int} (ra0 : (0 ≤ a0 ∧ a0 < 60)) {Q : iST → Prop} {u : iST} (h : v_6_unfold a0 Q u) : yMV l yX6_unfold (.code yX6_unfold cX6_unfold 6 none :: wsN) { frames := 3, cells := 0, slots := 0, locals := 106 } (fun ad => [.ref (ad 0 5), .ref (ad 7 a0.toNat)]) Q u := yMV_of (own := RX6) rfl (by decide +kernel) (fun _ => Nat.le_of_ble_eq_true rfl) (fun X hRf hRl hret hw hl => f_6_unfold_s X hRf hRl hret ra0 hw hl h)

/-! ProofHouse$Rewriter.chooseBranch -/
theorem dX6_chooseBranch_0 : decode cX6_chooseBranch 0 = .ok (.aload_n 0, 1) := by decide +kernel
theorem dX6_chooseBranch_1 : decode cX6_chooseBranch 1 = .ok (.getfield 43, 3) := by decide +kernel
theorem dX6_chooseBranch_4 : decode cX6_chooseBranch 4 = .ok (.aload_n 0, 1) := by decide +kernel
theorem dX6_chooseBranch_5 : decode cX6_chooseBranch 5 = .ok (.getfield 39, 3) := by decide +kernel
theorem dX6_chooseBranch_8 : decode cX6_chooseBranch 8 = .ok (.aload_n 1, 1) := by decide +kernel
theorem dX6_chooseBranch_9 : decode cX6_chooseBranch 9 = .ok (.iconst 5, 1) := by decide +kernel
theorem dX6_chooseBranch_10 : decode cX6_chooseBranch 10 = .ok (.iaload, 1) := by decide +kernel
theorem dX6_chooseBranch_11 : decode cX6_chooseBranch 11 = .ok (.invokevirtual 120, 3) := by decide +kernel
theorem dX6_chooseBranch_14 : decode cX6_chooseBranch 14 = .ok (.invokevirtual 279, 3) := by decide +kernel
theorem dX6_chooseBranch_17 : decode cX6_chooseBranch 17 = .ok (.istore_n 2, 1) := by decide +kernel
theorem dX6_chooseBranch_18 : decode cX6_chooseBranch 18 = .ok (.iload_n 2, 1) := by decide +kernel
theorem dX6_chooseBranch_19 : decode cX6_chooseBranch 19 = .ok (.iconst (-1), 1) := by decide +kernel
theorem dX6_chooseBranch_20 : decode cX6_chooseBranch 20 = .ok (.if_icmp .eq 17, 3) := by decide +kernel
theorem dX6_chooseBranch_23 : decode cX6_chooseBranch 23 = .ok (.aload_n 0, 1) := by decide +kernel
theorem dX6_chooseBranch_24 : decode cX6_chooseBranch 24 = .ok (.getfield 39, 3) := by decide +kernel
theorem dX6_chooseBranch_27 : decode cX6_chooseBranch 27 = .ok (.aload_n 0, 1) := by decide +kernel
theorem dX6_chooseBranch_28 : decode cX6_chooseBranch 28 = .ok (.getfield 20, 3) := by decide +kernel
theorem dX6_chooseBranch_31 : decode cX6_chooseBranch 31 = .ok (.invokevirtual 165, 3) := by decide +kernel
theorem dX6_chooseBranch_34 : decode cX6_chooseBranch 34 = .ok (.ifCond .ne 11, 3) := by decide +kernel
theorem dX6_chooseBranch_37 : decode cX6_chooseBranch 37 = .ok (.aload_n 0, 1) := by decide +kernel
theorem dX6_chooseBranch_38 : decode cX6_chooseBranch 38 = .ok (.aload_n 1, 1) := by decide +kernel
theorem dX6_chooseBranch_39 : decode cX6_chooseBranch 39 = .ok (.iconst 5, 1) := by decide +kernel
theorem dX6_chooseBranch_40 : decode cX6_chooseBranch 40 = .ok (.iaload, 1) := by decide +kernel
theorem dX6_chooseBranch_41 : decode cX6_chooseBranch 41 = .ok (.invokevirtual 96, 3) := by decide +kernel
theorem dX6_chooseBranch_44 : decode cX6_chooseBranch 44 = .ok (.return_, 1) := by decide +kernel
theorem dX6_chooseBranch_45 : decode cX6_chooseBranch 45 = .ok (.aload_n 0, 1) := by decide +kernel
theorem dX6_chooseBranch_46 : decode cX6_chooseBranch 46 = .ok (.getfield 47, 3) := by decide +kernel
theorem dX6_chooseBranch_49 : decode cX6_chooseBranch 49 = .ok (.aload_n 0, 1) := by decide +kernel
theorem dX6_chooseBranch_50 : decode cX6_chooseBranch 50 = .ok (.getfield 43, 3) := by decide +kernel
theorem dX6_chooseBranch_53 : decode cX6_chooseBranch 53 = .ok (.getfield 288, 3) := by decide +kernel
theorem dX6_chooseBranch_56 : decode cX6_chooseBranch 56 = .ok (.iload_n 2, 1) := by decide +kernel
theorem dX6_chooseBranch_57 : decode cX6_chooseBranch 57 = .ok (.iaload, 1) := by decide +kernel
theorem dX6_chooseBranch_58 : decode cX6_chooseBranch 58 = .ok (.aload_n 0, 1) := by decide +kernel
theorem dX6_chooseBranch_59 : decode cX6_chooseBranch 59 = .ok (.getfield 39, 3) := by decide +kernel
theorem dX6_chooseBranch_62 : decode cX6_chooseBranch 62 = .ok (.aload_n 1, 1) := by decide +kernel
theorem dX6_chooseBranch_63 : decode cX6_chooseBranch 63 = .ok (.iconst 5, 1) := by decide +kernel
theorem dX6_chooseBranch_64 : decode cX6_chooseBranch 64 = .ok (.iaload, 1) := by decide +kernel
theorem dX6_chooseBranch_65 : decode cX6_chooseBranch 65 = .ok (.invokevirtual 188, 3) := by decide +kernel
theorem dX6_chooseBranch_68 : decode cX6_chooseBranch 68 = .ok (.invokevirtual 291, 3) := by decide +kernel
theorem dX6_chooseBranch_71 : decode cX6_chooseBranch 71 = .ok (.aload_n 0, 1) := by decide +kernel
theorem dX6_chooseBranch_72 : decode cX6_chooseBranch 72 = .ok (.aload_n 1, 1) := by decide +kernel
theorem dX6_chooseBranch_73 : decode cX6_chooseBranch 73 = .ok (.aload_n 0, 1) := by decide +kernel
theorem dX6_chooseBranch_74 : decode cX6_chooseBranch 74 = .ok (.getfield 47, 3) := by decide +kernel
theorem dX6_chooseBranch_77 : decode cX6_chooseBranch 77 = .ok (.aload_n 0, 1) := by decide +kernel
theorem dX6_chooseBranch_78 : decode cX6_chooseBranch 78 = .ok (.getfield 39, 3) := by decide +kernel
theorem dX6_chooseBranch_81 : decode cX6_chooseBranch 81 = .ok (.aload_n 0, 1) := by decide +kernel
theorem dX6_chooseBranch_82 : decode cX6_chooseBranch 82 = .ok (.getfield 43, 3) := by decide +kernel
theorem dX6_chooseBranch_85 : decode cX6_chooseBranch 85 = .ok (.getfield 282, 3) := by decide +kernel
theorem dX6_chooseBranch_88 : decode cX6_chooseBranch 88 = .ok (.iload_n 2, 1) := by decide +kernel
theorem dX6_chooseBranch_89 : decode cX6_chooseBranch 89 = .ok (.iaload, 1) := by decide +kernel
theorem dX6_chooseBranch_90 : decode cX6_chooseBranch 90 = .ok (.aload_n 0, 1) := by decide +kernel
theorem dX6_chooseBranch_91 : decode cX6_chooseBranch 91 = .ok (.getfield 20, 3) := by decide +kernel
theorem dX6_chooseBranch_94 : decode cX6_chooseBranch 94 = .ok (.ifCond .eq 7, 3) := by decide +kernel
theorem dX6_chooseBranch_97 : decode cX6_chooseBranch 97 = .ok (.iconst 2, 1) := by decide +kernel
theorem dX6_chooseBranch_98 : decode cX6_chooseBranch 98 = .ok (.goto 4, 3) := by decide +kernel
theorem dX6_chooseBranch_101 : decode cX6_chooseBranch 101 = .ok (.iconst 3, 1) := by decide +kernel
theorem dX6_chooseBranch_102 : decode cX6_chooseBranch 102 = .ok (.invokevirtual 109, 3) := by decide +kernel
theorem dX6_chooseBranch_105 : decode cX6_chooseBranch 105 = .ok (.iconst 1, 1) := by decide +kernel
theorem dX6_chooseBranch_106 : decode cX6_chooseBranch 106 = .ok (.invokevirtual 260, 3) := by decide +kernel
theorem dX6_chooseBranch_109 : decode cX6_chooseBranch 109 = .ok (.invokevirtual 184, 3) := by decide +kernel
theorem dX6_chooseBranch_112 : decode cX6_chooseBranch 112 = .ok (.return_, 1) := by decide +kernel

section
variable {p : Program} {l : Launch} {e : Env} {R : Room} {s : State} {m : MethodId} {args : Array Value} {below : List Frame} {meth : Method} {c : Code} {H : Heap} {locs : List Loc} {Qf : State → Prop}
variable {ls : Array Slot} {D : va_G} {ca : Nat → ClassId} {A : Nat → Prop} {ad : Nat → Nat → Nat} {u : iST}
def v_6_chooseBranch_37 (Q : iST → Prop) (x1 : Int) (u : iST) : Prop :=
  bd 5 17 (rd (u.2.1 51 (17 * x1 + 5)) (fun v4 => 
  v_6_finish v4 (fun u => 
  Q u) u))
set_option maxRecDepth 20000 in
set_option maxHeartbeats 4000000 in
theorem f_6_chooseBranch_37 (X : yX RX6 p m c cX6_chooseBranch 3 s args D ca ad A) (hRf : 3 ≤ R.frames) (hRl : 106 ≤ R.locals) {Q : iST → Prop} (hret : ∀ (u : iST) (H : Heap) (locs : List Loc) (ls : Array Slot) (pc : Nat), Q u → yW D ca A ad s H locs u → decode cX6_chooseBranch pc = .ok (.return_, 1) → W p l e R s m args below meth c H locs 0 0 Qf (F0 m pc ls [])) {x1 : Int} (rx1 : (0 ≤ x1 ∧ x1 < 60)) (hw : yW D ca A ad s H locs u) (hl : lv_has ls 3 [(0, .ref (ad 0 5)), (1, .ref (ad 7 x1.toNat))]) (h : v_6_chooseBranch_37 Q x1 u) : W p l e R s m args below meth c H locs 0 0 Qf (F0 m 37 ls []) := by
  have hx := X.1.1
  have hb := X.1.2.1
  unfold v_6_chooseBranch_37 at h
  refine lv_aload_n hx hb dX6_chooseBranch_37 rfl (lv_at hl 0 rfl) ?_
  refine lv_aload_n hx hb dX6_chooseBranch_38 rfl (lv_at hl 1 rfl) ?_
  refine lv_iconst hx hb dX6_chooseBranch_39 (v := jI 5) rfl ?_
  refine yfl_frames X hw rx1 (by decide) dX6_chooseBranch_40 h (fun v4 rv4 h => ?_)
  refine ycV (n := 1) (e_6_finish rv4 h) 6 5 (r := (RX6, TX6, 14)) rfl yG_6_96 yD_6_finish X hw rfl yGo_6 (Nat.le_trans (Nat.le_of_ble_eq_true rfl) hRf) (Nat.le_trans (Nat.le_of_ble_eq_true rfl) hRl) rfl hl.1 (Nat.le_of_ble_eq_true rfl) rfl dX6_chooseBranch_41 (fun u H locs h hw => ?_)
  exact hret _ _ _ _ _ h hw dX6_chooseBranch_44

def v_6_chooseBranch_102 (Q : iST → Prop) (y1 : Int) (y4 : Int) (y5 : Int) (u : iST) : Prop :=
  v_7_item y4 y5 (fun v14 u => 
  v_10_rebuilt v14 1 (fun v15 u => 
  v_6_askInstead y1 v15 (fun u => 
  Q u) u) u) u
set_option maxRecDepth 20000 in
set_option maxHeartbeats 4000000 in
theorem f_6_chooseBranch_102 (X : yX RX6 p m c cX6_chooseBranch 3 s args D ca ad A) (hRf : 3 ≤ R.frames) (hRl : 106 ≤ R.locals) {Q : iST → Prop} (hret : ∀ (u : iST) (H : Heap) (locs : List Loc) (ls : Array Slot) (pc : Nat), Q u → yW D ca A ad s H locs u → decode cX6_chooseBranch pc = .ok (.return_, 1) → W p l e R s m args below meth c H locs 0 0 Qf (F0 m pc ls [])) {y1 y4 y5 : Int} (ry1 : (0 ≤ y1 ∧ y1 < 60)) (ry4 : inR y4) (ry5 : inR y5) (hw : yW D ca A ad s H locs u) (hl : lv_has ls 3 [(0, .ref (ad 0 5))]) (h : v_6_chooseBranch_102 Q y1 y4 y5 u) : W p l e R s m args below meth c H locs 0 0 Qf (F0 m 102 ls [.int (jI y5), .int (jI y4), .ref (ad 0 6), .ref (ad 0 8), .ref (ad 7 y1.toNat), .ref (ad 0 5)]) := by
  have hx := X.1.1
  have hb := X.1.2.1
  unfold v_6_chooseBranch_102 at h
  refine ycI (n := 2) (e_7_item ry4 ry5 h) 7 6 (r := (RX7, TX7, 9)) rfl yG_6_109 yD_7_item X hw rfl yGo_7 (Nat.le_trans (Nat.le_of_ble_eq_true rfl) hRf) (Nat.le_trans (Nat.le_of_ble_eq_true rfl) hRl) rfl hl.1 (Nat.le_of_ble_eq_true rfl) rfl dX6_chooseBranch_102 (fun v14 u H locs rv14 h hw => ?_)
  refine lv_iconst hx hb dX6_chooseBranch_105 (v := jI 1) rfl ?_
  refine ycI (n := 2) (e_10_rebuilt rv14 (by decide) h) 10 8 (r := (RX10, TX10, 16)) rfl yG_6_260 yD_10_rebuilt X hw rfl yGo_10 (Nat.le_trans (Nat.le_of_ble_eq_true rfl) hRf) (Nat.le_trans (Nat.le_of_ble_eq_true rfl) hRl) rfl hl.1 (Nat.le_of_ble_eq_true rfl) rfl dX6_chooseBranch_106 (fun v15 u H locs rv15 h hw => ?_)
  refine ycV (n := 2) (e_6_askInstead ry1 rv15 h) 6 5 (r := (RX6, TX6, 14)) rfl yG_6_184 yD_6_askInstead X hw rfl yGo_6 (Nat.le_trans (Nat.le_of_ble_eq_true rfl) hRf) (Nat.le_trans (Nat.le_of_ble_eq_true rfl) hRl) rfl hl.1 (Nat.le_of_ble_eq_true rfl) rfl dX6_chooseBranch_109 (fun u H locs h hw => ?_)
  exact hret _ _ _ _ _ h hw dX6_chooseBranch_112

def v_6_chooseBranch (a0 : Int) (Q : iST → Prop) (u : iST) : Prop :=
  bd 5 17 (rd (u.2.1 51 (17 * a0 + 5)) (fun v1 => 
  v_7_left v1 (fun v2 u => 
  v_0_functionOf v2 (fun v3 u => 
  br (v3 = (-1)) (
    v_6_chooseBranch_37 Q a0 u) (
    rd (u.1 24) (fun v6 => 
    v_7_isConstant v6 (fun v7 u => 
    br (v7 ≠ 0) (
      bd v3 40 (rd (u.2.1 1 v3) (fun v8 => 
      bd 5 17 (rd (u.2.1 51 (17 * a0 + 5)) (fun v9 => 
      v_7_right v9 (fun v10 u => 
      v_10_bindRow v8 v10 (fun u => 
      bd v3 40 (rd (u.2.1 3 v3) (fun v12 => 
      rd (u.1 24) (fun v13 => 
      br (v13 = 0) (
        v_6_chooseBranch_102 Q a0 v12 3 u) (
        v_6_chooseBranch_102 Q a0 v12 2 u))))) u) u))))) (
      v_6_chooseBranch_37 Q a0 u)) u))) u) u))
set_option maxRecDepth 20000 in
set_option maxHeartbeats 4000000 in
theorem f_6_chooseBranch_s (X : yX RX6 p m c cX6_chooseBranch 3 s args D ca ad A) (hRf : 3 ≤ R.frames) (hRl : 106 ≤ R.locals) {Q : iST → Prop} (hret : ∀ (u : iST) (H : Heap) (locs : List Loc) (ls : Array Slot) (pc : Nat), Q u → yW D ca A ad s H locs u → decode cX6_chooseBranch pc = .ok (.return_, 1) → W p l e R s m args below meth c H locs 0 0 Qf (F0 m pc ls [])) {a0 : Int} (ra0 : (0 ≤ a0 ∧ a0 < 60)) (hw : yW D ca A ad s H locs u) (hl : lv_has ls 3 [(0, .ref (ad 0 5)), (1, .ref (ad 7 a0.toNat))]) (h : v_6_chooseBranch a0 Q u) : W p l e R s m args below meth c H locs 0 0 Qf (F0 m 0 ls []) := by
  have hx := X.1.1
  have hb := X.1.2.1
  unfold v_6_chooseBranch at h
  refine lv_aload_n hx hb dX6_chooseBranch_0 rfl (lv_at hl 0 rfl) ?_
  refine yg_6_43 X hw dX6_chooseBranch_1 ?_
  refine lv_aload_n hx hb dX6_chooseBranch_4 rfl (lv_at hl 0 rfl) ?_
  refine yg_6_39 X hw dX6_chooseBranch_5 ?_
  refine lv_aload_n hx hb dX6_chooseBranch_8 rfl (lv_at hl 1 rfl) ?_
  refine lv_iconst hx hb dX6_chooseBranch_9 (v := jI 5) rfl ?_
  refine yfl_frames X hw ra0 (by decide) dX6_chooseBranch_10 h (fun v1 rv1 h => ?_)
  refine ycI (n := 1) (e_7_left rv1 h) 7 6 (r := (RX7, TX7, 9)) rfl yG_6_120 yD_7_left X hw rfl yGo_7 (Nat.le_trans (Nat.le_of_ble_eq_true rfl) hRf) (Nat.le_trans (Nat.le_of_ble_eq_true rfl) hRl) rfl hl.1 (Nat.le_of_ble_eq_true rfl) rfl dX6_chooseBranch_11 (fun v2 u H locs rv2 h hw => ?_)
  refine ycI (n := 1) (e_0_functionOf rv2 h) 0 0 (r := (RX0, TX0, 21)) rfl yG_6_279 yD_0_functionOf X hw rfl yGo_0 (Nat.le_trans (Nat.le_of_ble_eq_true rfl) hRf) (Nat.le_trans (Nat.le_of_ble_eq_true rfl) hRl) rfl hl.1 (Nat.le_of_ble_eq_true rfl) rfl dX6_chooseBranch_14 (fun v3 u H locs rv3 h hw => ?_)
  refine lv_istore_n hx hb dX6_chooseBranch_17 rfl hl (by decide) rfl (fun ls hl => ?_)
  have hl : lv_has ls 3 [(2, .int (jI v3)), (0, .ref (ad 0 5)), (1, .ref (ad 7 a0.toNat))] := hl
  refine lv_iload_n hx hb dX6_chooseBranch_18 rfl (lv_at hl 0 rfl) ?_
  refine lv_iconst hx hb dX6_chooseBranch_19 (v := jI (-1)) rfl ?_
  refine k_icmp_eq hx hb rv3 (by decide) dX6_chooseBranch_20 (tgt := 37) rfl h (fun h => ?_) (fun h => ?_)
  · exact f_6_chooseBranch_37 X hRf hRl hret ra0 hw (lv_sub hl [1, 2] rfl) h
  · refine lv_aload_n hx hb dX6_chooseBranch_23 rfl (lv_at hl 1 rfl) ?_
    refine yg_6_39 X hw dX6_chooseBranch_24 ?_
    refine lv_aload_n hx hb dX6_chooseBranch_27 rfl (lv_at hl 1 rfl) ?_
    refine yg_6_20 X hw dX6_chooseBranch_28 h (fun v6 rv6 h => ?_)
    refine ycI (n := 1) (e_7_isConstant rv6 h) 7 6 (r := (RX7, TX7, 9)) rfl yG_6_165 yD_7_isConstant X hw rfl yGo_7 (Nat.le_trans (Nat.le_of_ble_eq_true rfl) hRf) (Nat.le_trans (Nat.le_of_ble_eq_true rfl) hRl) rfl hl.1 (Nat.le_of_ble_eq_true rfl) rfl dX6_chooseBranch_31 (fun v7 u H locs rv7 h hw => ?_)
    refine k_if_ne hx hb rv7 dX6_chooseBranch_34 (tgt := 45) rfl h (fun h => ?_) (fun h => ?_)
    · refine lv_aload_n hx hb dX6_chooseBranch_45 rfl (lv_at hl 1 rfl) ?_
      refine yg_6_47 X hw dX6_chooseBranch_46 ?_
      refine lv_aload_n hx hb dX6_chooseBranch_49 rfl (lv_at hl 1 rfl) ?_
      refine yg_6_43 X hw dX6_chooseBranch_50 ?_
      refine yg_6_288 X hw dX6_chooseBranch_53 ?_
      refine lv_iload_n hx hb dX6_chooseBranch_56 rfl (lv_at hl 0 rfl) ?_
      refine yl_1 X hw rv3 dX6_chooseBranch_57 h (fun v8 rv8 h => ?_)
      refine lv_aload_n hx hb dX6_chooseBranch_58 rfl (lv_at hl 1 rfl) ?_
      refine yg_6_39 X hw dX6_chooseBranch_59 ?_
      refine lv_aload_n hx hb dX6_chooseBranch_62 rfl (lv_at hl 2 rfl) ?_
      refine lv_iconst hx hb dX6_chooseBranch_63 (v := jI 5) rfl ?_
      refine yfl_frames X hw ra0 (by decide) dX6_chooseBranch_64 h (fun v9 rv9 h => ?_)
      refine ycI (n := 1) (e_7_right rv9 h) 7 6 (r := (RX7, TX7, 9)) rfl yG_6_188 yD_7_right X hw rfl yGo_7 (Nat.le_trans (Nat.le_of_ble_eq_true rfl) hRf) (Nat.le_trans (Nat.le_of_ble_eq_true rfl) hRl) rfl hl.1 (Nat.le_of_ble_eq_true rfl) rfl dX6_chooseBranch_65 (fun v10 u H locs rv10 h hw => ?_)
      refine ycV (n := 2) (e_10_bindRow rv8 rv10 h) 10 8 (r := (RX10, TX10, 16)) rfl yG_6_291 yD_10_bindRow X hw rfl yGo_10 (Nat.le_trans (Nat.le_of_ble_eq_true rfl) hRf) (Nat.le_trans (Nat.le_of_ble_eq_true rfl) hRl) rfl hl.1 (Nat.le_of_ble_eq_true rfl) rfl dX6_chooseBranch_68 (fun u H locs h hw => ?_)
      refine lv_aload_n hx hb dX6_chooseBranch_71 rfl (lv_at hl 1 rfl) ?_
      refine lv_aload_n hx hb dX6_chooseBranch_72 rfl (lv_at hl 2 rfl) ?_
      refine lv_aload_n hx hb dX6_chooseBranch_73 rfl (lv_at hl 1 rfl) ?_
      refine yg_6_47 X hw dX6_chooseBranch_74 ?_
      refine lv_aload_n hx hb dX6_chooseBranch_77 rfl (lv_at hl 1 rfl) ?_
      refine yg_6_39 X hw dX6_chooseBranch_78 ?_
      refine lv_aload_n hx hb dX6_chooseBranch_81 rfl (lv_at hl 1 rfl) ?_
      refine yg_6_43 X hw dX6_chooseBranch_82 ?_
      refine yg_6_282 X hw dX6_chooseBranch_85 ?_
      refine lv_iload_n hx hb dX6_chooseBranch_88 rfl (lv_at hl 0 rfl) ?_
      refine yl_3 X hw rv3 dX6_chooseBranch_89 h (fun v12 rv12 h => ?_)
      refine lv_aload_n hx hb dX6_chooseBranch_90 rfl (lv_at hl 1 rfl) ?_
      refine yg_6_20 X hw dX6_chooseBranch_91 h (fun v13 rv13 h => ?_)
      refine k_if_eq hx hb rv13 dX6_chooseBranch_94 (tgt := 101) rfl h (fun h => ?_) (fun h => ?_)
      · refine lv_iconst hx hb dX6_chooseBranch_101 (v := jI 3) rfl ?_
        exact f_6_chooseBranch_102 X hRf hRl hret ra0 rv12 (by decide) hw (lv_sub hl [1] rfl) h
      · refine lv_iconst hx hb dX6_chooseBranch_97 (v := jI 2) rfl ?_
        refine lv_goto hx hb dX6_chooseBranch_98 (tgt := 102) rfl ?_
        exact f_6_chooseBranch_102 X hRf hRl hret ra0 rv12 (by decide) hw (lv_sub hl [1] rfl) h
    · exact f_6_chooseBranch_37 X hRf hRl hret ra0 hw (lv_sub hl [1, 2] rfl) h

end
theorem e_6_chooseBranch {l : Launch} {a0 : Int} (ra0 : (0 ≤ a0 ∧ a0 < 60)) {Q : iST → Prop} {u : iST} (h : v_6_chooseBranch a0 Q u) : yMV l yX6_chooseBranch (.code yX6_chooseBranch cX6_chooseBranch 3 none :: wsN) { frames := 3, cells := 0, slots := 0, locals := 106 } (fun ad => [.ref (ad 0 5), .ref (ad 7 a0.toNat)]) Q u := yMV_of (own := RX6) rfl (by decide +kernel) (fun _ => Nat.le_of_ble_eq_true rfl) (fun X hRf hRl hret hw hl => f_6_chooseBranch_s X hRf hRl hret ra0 hw hl h)

/-! ProofHouse$Rewriter.rewritten -/
theorem dX6_rewritten_0 : decode cX6_rewritten 0 = .ok (.aload_n 0, 1) := by decide +kernel
theorem dX6_rewritten_1 : decode cX6_rewritten 1 = .ok (.iconst 0, 1) := by decide +kernel
theorem dX6_rewritten_2 : decode cX6_rewritten 2 = .ok (.putfield 16, 3) := by decide +kernel
theorem dX6_rewritten_5 : decode cX6_rewritten 5 = .ok (.aload_n 0, 1) := by decide +kernel
theorem dX6_rewritten_6 : decode cX6_rewritten 6 = .ok (.iconst (-1), 1) := by decide +kernel
theorem dX6_rewritten_7 : decode cX6_rewritten 7 = .ok (.putfield 20, 3) := by decide +kernel
theorem dX6_rewritten_10 : decode cX6_rewritten 10 = .ok (.aload_n 0, 1) := by decide +kernel
theorem dX6_rewritten_11 : decode cX6_rewritten 11 = .ok (.iload_n 1, 1) := by decide +kernel
theorem dX6_rewritten_12 : decode cX6_rewritten 12 = .ok (.iload_n 2, 1) := by decide +kernel
theorem dX6_rewritten_13 : decode cX6_rewritten 13 = .ok (.iload_n 3, 1) := by decide +kernel
theorem dX6_rewritten_14 : decode cX6_rewritten 14 = .ok (.invokevirtual 72, 3) := by decide +kernel
theorem dX6_rewritten_17 : decode cX6_rewritten 17 = .ok (.iconst 0, 1) := by decide +kernel
theorem dX6_rewritten_18 : decode cX6_rewritten 18 = .ok (.istore 4, 2) := by decide +kernel
theorem dX6_rewritten_20 : decode cX6_rewritten 20 = .ok (.iload 4, 2) := by decide +kernel
theorem dX6_rewritten_22 : decode cX6_rewritten 22 = .ok (.ldc 76, 2) := by decide +kernel
theorem dX6_rewritten_24 : decode cX6_rewritten 24 = .ok (.if_icmp .ge 381, 3) := by decide +kernel
theorem dX6_rewritten_27 : decode cX6_rewritten 27 = .ok (.aload_n 0, 1) := by decide +kernel
theorem dX6_rewritten_28 : decode cX6_rewritten 28 = .ok (.getfield 16, 3) := by decide +kernel
theorem dX6_rewritten_31 : decode cX6_rewritten 31 = .ok (.ifCond .le 374, 3) := by decide +kernel
theorem dX6_rewritten_34 : decode cX6_rewritten 34 = .ok (.aload_n 0, 1) := by decide +kernel
theorem dX6_rewritten_35 : decode cX6_rewritten 35 = .ok (.getfield 39, 3) := by decide +kernel
theorem dX6_rewritten_38 : decode cX6_rewritten 38 = .ok (.getfield 77, 3) := by decide +kernel
theorem dX6_rewritten_41 : decode cX6_rewritten 41 = .ok (.ifCond .ne 364, 3) := by decide +kernel
theorem dX6_rewritten_44 : decode cX6_rewritten 44 = .ok (.aload_n 0, 1) := by decide +kernel
theorem dX6_rewritten_45 : decode cX6_rewritten 45 = .ok (.getfield 13, 3) := by decide +kernel
theorem dX6_rewritten_48 : decode cX6_rewritten 48 = .ok (.aload_n 0, 1) := by decide +kernel
theorem dX6_rewritten_49 : decode cX6_rewritten 49 = .ok (.getfield 16, 3) := by decide +kernel
theorem dX6_rewritten_52 : decode cX6_rewritten 52 = .ok (.iconst 1, 1) := by decide +kernel
theorem dX6_rewritten_53 : decode cX6_rewritten 53 = .ok (.isub, 1) := by decide +kernel
theorem dX6_rewritten_54 : decode cX6_rewritten 54 = .ok (.aaload, 1) := by decide +kernel
theorem dX6_rewritten_55 : decode cX6_rewritten 55 = .ok (.astore 5, 2) := by decide +kernel
theorem dX6_rewritten_57 : decode cX6_rewritten 57 = .ok (.aload 5, 2) := by decide +kernel
theorem dX6_rewritten_59 : decode cX6_rewritten 59 = .ok (.iconst 3, 1) := by decide +kernel
theorem dX6_rewritten_60 : decode cX6_rewritten 60 = .ok (.iaload, 1) := by decide +kernel
theorem dX6_rewritten_61 : decode cX6_rewritten 61 = .ok (.tableswitch 330 0 17 #[87, 330, 96, 105, 114, 142, 151, 160, 169, 202, 235, 267, 276, 285, 294, 303, 312, 321], 87) := by decide +kernel
theorem dX6_rewritten_148 : decode cX6_rewritten 148 = .ok (.aload_n 0, 1) := by decide +kernel
theorem dX6_rewritten_149 : decode cX6_rewritten 149 = .ok (.aload 5, 2) := by decide +kernel
theorem dX6_rewritten_151 : decode cX6_rewritten 151 = .ok (.invokevirtual 82, 3) := by decide +kernel
theorem dX6_rewritten_154 : decode cX6_rewritten 154 = .ok (.goto 245, 3) := by decide +kernel
theorem dX6_rewritten_157 : decode cX6_rewritten 157 = .ok (.aload_n 0, 1) := by decide +kernel
theorem dX6_rewritten_158 : decode cX6_rewritten 158 = .ok (.aload 5, 2) := by decide +kernel
theorem dX6_rewritten_160 : decode cX6_rewritten 160 = .ok (.invokevirtual 86, 3) := by decide +kernel
theorem dX6_rewritten_163 : decode cX6_rewritten 163 = .ok (.goto 236, 3) := by decide +kernel
theorem dX6_rewritten_166 : decode cX6_rewritten 166 = .ok (.aload_n 0, 1) := by decide +kernel
theorem dX6_rewritten_167 : decode cX6_rewritten 167 = .ok (.aload 5, 2) := by decide +kernel
theorem dX6_rewritten_169 : decode cX6_rewritten 169 = .ok (.invokevirtual 89, 3) := by decide +kernel
theorem dX6_rewritten_172 : decode cX6_rewritten 172 = .ok (.goto 227, 3) := by decide +kernel
theorem dX6_rewritten_175 : decode cX6_rewritten 175 = .ok (.aload_n 0, 1) := by decide +kernel
theorem dX6_rewritten_176 : decode cX6_rewritten 176 = .ok (.aload_n 0, 1) := by decide +kernel
theorem dX6_rewritten_177 : decode cX6_rewritten 177 = .ok (.aload 5, 2) := by decide +kernel
theorem dX6_rewritten_179 : decode cX6_rewritten 179 = .ok (.iconst 5, 1) := by decide +kernel
theorem dX6_rewritten_180 : decode cX6_rewritten 180 = .ok (.iaload, 1) := by decide +kernel
theorem dX6_rewritten_181 : decode cX6_rewritten 181 = .ok (.aload 5, 2) := by decide +kernel
theorem dX6_rewritten_183 : decode cX6_rewritten 183 = .ok (.bipush 7, 2) := by decide +kernel
theorem dX6_rewritten_185 : decode cX6_rewritten 185 = .ok (.iaload, 1) := by decide +kernel
theorem dX6_rewritten_186 : decode cX6_rewritten 186 = .ok (.aload_n 0, 1) := by decide +kernel
theorem dX6_rewritten_187 : decode cX6_rewritten 187 = .ok (.getfield 20, 3) := by decide +kernel
theorem dX6_rewritten_190 : decode cX6_rewritten 190 = .ok (.aload 5, 2) := by decide +kernel
theorem dX6_rewritten_192 : decode cX6_rewritten 192 = .ok (.iconst 1, 1) := by decide +kernel
theorem dX6_rewritten_193 : decode cX6_rewritten 193 = .ok (.iaload, 1) := by decide +kernel
theorem dX6_rewritten_194 : decode cX6_rewritten 194 = .ok (.invokevirtual 92, 3) := by decide +kernel
theorem dX6_rewritten_197 : decode cX6_rewritten 197 = .ok (.invokevirtual 96, 3) := by decide +kernel
theorem dX6_rewritten_200 : decode cX6_rewritten 200 = .ok (.goto 199, 3) := by decide +kernel
theorem dX6_rewritten_203 : decode cX6_rewritten 203 = .ok (.aload_n 0, 1) := by decide +kernel
theorem dX6_rewritten_204 : decode cX6_rewritten 204 = .ok (.aload 5, 2) := by decide +kernel
theorem dX6_rewritten_206 : decode cX6_rewritten 206 = .ok (.invokevirtual 100, 3) := by decide +kernel
theorem dX6_rewritten_209 : decode cX6_rewritten 209 = .ok (.goto 190, 3) := by decide +kernel
theorem dX6_rewritten_212 : decode cX6_rewritten 212 = .ok (.aload_n 0, 1) := by decide +kernel
theorem dX6_rewritten_213 : decode cX6_rewritten 213 = .ok (.aload 5, 2) := by decide +kernel
theorem dX6_rewritten_215 : decode cX6_rewritten 215 = .ok (.invokevirtual 103, 3) := by decide +kernel
theorem dX6_rewritten_218 : decode cX6_rewritten 218 = .ok (.goto 181, 3) := by decide +kernel
theorem dX6_rewritten_221 : decode cX6_rewritten 221 = .ok (.aload_n 0, 1) := by decide +kernel
theorem dX6_rewritten_222 : decode cX6_rewritten 222 = .ok (.aload 5, 2) := by decide +kernel
theorem dX6_rewritten_224 : decode cX6_rewritten 224 = .ok (.invokevirtual 106, 3) := by decide +kernel
theorem dX6_rewritten_227 : decode cX6_rewritten 227 = .ok (.goto 172, 3) := by decide +kernel
theorem dX6_rewritten_230 : decode cX6_rewritten 230 = .ok (.aload_n 0, 1) := by decide +kernel
theorem dX6_rewritten_231 : decode cX6_rewritten 231 = .ok (.aload 5, 2) := by decide +kernel
theorem dX6_rewritten_233 : decode cX6_rewritten 233 = .ok (.aload_n 0, 1) := by decide +kernel
theorem dX6_rewritten_234 : decode cX6_rewritten 234 = .ok (.getfield 39, 3) := by decide +kernel
theorem dX6_rewritten_237 : decode cX6_rewritten 237 = .ok (.aload 5, 2) := by decide +kernel
theorem dX6_rewritten_239 : decode cX6_rewritten 239 = .ok (.iconst 5, 1) := by decide +kernel
theorem dX6_rewritten_240 : decode cX6_rewritten 240 = .ok (.iaload, 1) := by decide +kernel
theorem dX6_rewritten_241 : decode cX6_rewritten 241 = .ok (.iconst 1, 1) := by decide +kernel
theorem dX6_rewritten_242 : decode cX6_rewritten 242 = .ok (.invokevirtual 109, 3) := by decide +kernel
theorem dX6_rewritten_245 : decode cX6_rewritten 245 = .ok (.aload_n 0, 1) := by decide +kernel
theorem dX6_rewritten_246 : decode cX6_rewritten 246 = .ok (.getfield 39, 3) := by decide +kernel
theorem dX6_rewritten_249 : decode cX6_rewritten 249 = .ok (.aload 5, 2) := by decide +kernel
theorem dX6_rewritten_251 : decode cX6_rewritten 251 = .ok (.iconst 5, 1) := by decide +kernel
theorem dX6_rewritten_252 : decode cX6_rewritten 252 = .ok (.iaload, 1) := by decide +kernel
theorem dX6_rewritten_253 : decode cX6_rewritten 253 = .ok (.iconst 2, 1) := by decide +kernel
theorem dX6_rewritten_254 : decode cX6_rewritten 254 = .ok (.invokevirtual 109, 3) := by decide +kernel
theorem dX6_rewritten_257 : decode cX6_rewritten 257 = .ok (.invokevirtual 113, 3) := by decide +kernel
theorem dX6_rewritten_260 : decode cX6_rewritten 260 = .ok (.goto 139, 3) := by decide +kernel
theorem dX6_rewritten_263 : decode cX6_rewritten 263 = .ok (.aload_n 0, 1) := by decide +kernel
theorem dX6_rewritten_264 : decode cX6_rewritten 264 = .ok (.aload 5, 2) := by decide +kernel
theorem dX6_rewritten_266 : decode cX6_rewritten 266 = .ok (.aload_n 0, 1) := by decide +kernel
theorem dX6_rewritten_267 : decode cX6_rewritten 267 = .ok (.getfield 39, 3) := by decide +kernel
theorem dX6_rewritten_270 : decode cX6_rewritten 270 = .ok (.aload 5, 2) := by decide +kernel
theorem dX6_rewritten_272 : decode cX6_rewritten 272 = .ok (.iconst 5, 1) := by decide +kernel
theorem dX6_rewritten_273 : decode cX6_rewritten 273 = .ok (.iaload, 1) := by decide +kernel
theorem dX6_rewritten_274 : decode cX6_rewritten 274 = .ok (.iconst 1, 1) := by decide +kernel
theorem dX6_rewritten_275 : decode cX6_rewritten 275 = .ok (.invokevirtual 109, 3) := by decide +kernel
theorem dX6_rewritten_278 : decode cX6_rewritten 278 = .ok (.aload_n 0, 1) := by decide +kernel
theorem dX6_rewritten_279 : decode cX6_rewritten 279 = .ok (.getfield 39, 3) := by decide +kernel
theorem dX6_rewritten_282 : decode cX6_rewritten 282 = .ok (.aload 5, 2) := by decide +kernel
theorem dX6_rewritten_284 : decode cX6_rewritten 284 = .ok (.iconst 5, 1) := by decide +kernel
theorem dX6_rewritten_285 : decode cX6_rewritten 285 = .ok (.iaload, 1) := by decide +kernel
theorem dX6_rewritten_286 : decode cX6_rewritten 286 = .ok (.iconst 2, 1) := by decide +kernel
theorem dX6_rewritten_287 : decode cX6_rewritten 287 = .ok (.invokevirtual 109, 3) := by decide +kernel
theorem dX6_rewritten_290 : decode cX6_rewritten 290 = .ok (.invokevirtual 117, 3) := by decide +kernel
theorem dX6_rewritten_293 : decode cX6_rewritten 293 = .ok (.goto 106, 3) := by decide +kernel
theorem dX6_rewritten_296 : decode cX6_rewritten 296 = .ok (.aload_n 0, 1) := by decide +kernel
theorem dX6_rewritten_297 : decode cX6_rewritten 297 = .ok (.aload 5, 2) := by decide +kernel
theorem dX6_rewritten_299 : decode cX6_rewritten 299 = .ok (.aload_n 0, 1) := by decide +kernel
theorem dX6_rewritten_300 : decode cX6_rewritten 300 = .ok (.getfield 39, 3) := by decide +kernel
theorem dX6_rewritten_303 : decode cX6_rewritten 303 = .ok (.aload 5, 2) := by decide +kernel
theorem dX6_rewritten_305 : decode cX6_rewritten 305 = .ok (.iconst 5, 1) := by decide +kernel
theorem dX6_rewritten_306 : decode cX6_rewritten 306 = .ok (.iaload, 1) := by decide +kernel
theorem dX6_rewritten_307 : decode cX6_rewritten 307 = .ok (.invokevirtual 120, 3) := by decide +kernel
theorem dX6_rewritten_310 : decode cX6_rewritten 310 = .ok (.aload_n 0, 1) := by decide +kernel
theorem dX6_rewritten_311 : decode cX6_rewritten 311 = .ok (.getfield 39, 3) := by decide +kernel
theorem dX6_rewritten_314 : decode cX6_rewritten 314 = .ok (.aload 5, 2) := by decide +kernel
theorem dX6_rewritten_316 : decode cX6_rewritten 316 = .ok (.iconst 5, 1) := by decide +kernel
theorem dX6_rewritten_317 : decode cX6_rewritten 317 = .ok (.iaload, 1) := by decide +kernel
theorem dX6_rewritten_318 : decode cX6_rewritten 318 = .ok (.iconst 1, 1) := by decide +kernel
theorem dX6_rewritten_319 : decode cX6_rewritten 319 = .ok (.invokevirtual 109, 3) := by decide +kernel
theorem dX6_rewritten_322 : decode cX6_rewritten 322 = .ok (.invokevirtual 124, 3) := by decide +kernel
theorem dX6_rewritten_325 : decode cX6_rewritten 325 = .ok (.goto 74, 3) := by decide +kernel
theorem dX6_rewritten_328 : decode cX6_rewritten 328 = .ok (.aload_n 0, 1) := by decide +kernel
theorem dX6_rewritten_329 : decode cX6_rewritten 329 = .ok (.aload 5, 2) := by decide +kernel
theorem dX6_rewritten_331 : decode cX6_rewritten 331 = .ok (.invokevirtual 127, 3) := by decide +kernel
theorem dX6_rewritten_334 : decode cX6_rewritten 334 = .ok (.goto 65, 3) := by decide +kernel
theorem dX6_rewritten_337 : decode cX6_rewritten 337 = .ok (.aload_n 0, 1) := by decide +kernel
theorem dX6_rewritten_338 : decode cX6_rewritten 338 = .ok (.aload 5, 2) := by decide +kernel
theorem dX6_rewritten_340 : decode cX6_rewritten 340 = .ok (.invokevirtual 130, 3) := by decide +kernel
theorem dX6_rewritten_343 : decode cX6_rewritten 343 = .ok (.goto 56, 3) := by decide +kernel
theorem dX6_rewritten_346 : decode cX6_rewritten 346 = .ok (.aload_n 0, 1) := by decide +kernel
theorem dX6_rewritten_347 : decode cX6_rewritten 347 = .ok (.aload 5, 2) := by decide +kernel
theorem dX6_rewritten_349 : decode cX6_rewritten 349 = .ok (.invokevirtual 133, 3) := by decide +kernel
theorem dX6_rewritten_352 : decode cX6_rewritten 352 = .ok (.goto 47, 3) := by decide +kernel
theorem dX6_rewritten_355 : decode cX6_rewritten 355 = .ok (.aload_n 0, 1) := by decide +kernel
theorem dX6_rewritten_356 : decode cX6_rewritten 356 = .ok (.aload 5, 2) := by decide +kernel
theorem dX6_rewritten_358 : decode cX6_rewritten 358 = .ok (.invokevirtual 136, 3) := by decide +kernel
theorem dX6_rewritten_361 : decode cX6_rewritten 361 = .ok (.goto 38, 3) := by decide +kernel
theorem dX6_rewritten_364 : decode cX6_rewritten 364 = .ok (.aload_n 0, 1) := by decide +kernel
theorem dX6_rewritten_365 : decode cX6_rewritten 365 = .ok (.aload 5, 2) := by decide +kernel
theorem dX6_rewritten_367 : decode cX6_rewritten 367 = .ok (.invokevirtual 139, 3) := by decide +kernel
theorem dX6_rewritten_370 : decode cX6_rewritten 370 = .ok (.goto 29, 3) := by decide +kernel
theorem dX6_rewritten_373 : decode cX6_rewritten 373 = .ok (.aload_n 0, 1) := by decide +kernel
theorem dX6_rewritten_374 : decode cX6_rewritten 374 = .ok (.aload 5, 2) := by decide +kernel
theorem dX6_rewritten_376 : decode cX6_rewritten 376 = .ok (.invokevirtual 142, 3) := by decide +kernel
theorem dX6_rewritten_379 : decode cX6_rewritten 379 = .ok (.goto 20, 3) := by decide +kernel
theorem dX6_rewritten_382 : decode cX6_rewritten 382 = .ok (.aload_n 0, 1) := by decide +kernel
theorem dX6_rewritten_383 : decode cX6_rewritten 383 = .ok (.aload 5, 2) := by decide +kernel
theorem dX6_rewritten_385 : decode cX6_rewritten 385 = .ok (.invokevirtual 145, 3) := by decide +kernel
theorem dX6_rewritten_388 : decode cX6_rewritten 388 = .ok (.goto 11, 3) := by decide +kernel
theorem dX6_rewritten_391 : decode cX6_rewritten 391 = .ok (.aload_n 0, 1) := by decide +kernel
theorem dX6_rewritten_392 : decode cX6_rewritten 392 = .ok (.aload_n 0, 1) := by decide +kernel
theorem dX6_rewritten_393 : decode cX6_rewritten 393 = .ok (.getfield 20, 3) := by decide +kernel
theorem dX6_rewritten_396 : decode cX6_rewritten 396 = .ok (.invokevirtual 96, 3) := by decide +kernel
theorem dX6_rewritten_399 : decode cX6_rewritten 399 = .ok (.iinc 4 1, 3) := by decide +kernel
theorem dX6_rewritten_402 : decode cX6_rewritten 402 = .ok (.goto (-382), 3) := by decide +kernel
theorem dX6_rewritten_405 : decode cX6_rewritten 405 = .ok (.aload_n 0, 1) := by decide +kernel
theorem dX6_rewritten_406 : decode cX6_rewritten 406 = .ok (.getfield 39, 3) := by decide +kernel
theorem dX6_rewritten_409 : decode cX6_rewritten 409 = .ok (.getfield 77, 3) := by decide +kernel
theorem dX6_rewritten_412 : decode cX6_rewritten 412 = .ok (.ifCond .ne 10, 3) := by decide +kernel
theorem dX6_rewritten_415 : decode cX6_rewritten 415 = .ok (.aload_n 0, 1) := by decide +kernel
theorem dX6_rewritten_416 : decode cX6_rewritten 416 = .ok (.getfield 20, 3) := by decide +kernel
theorem dX6_rewritten_419 : decode cX6_rewritten 419 = .ok (.goto 4, 3) := by decide +kernel
theorem dX6_rewritten_422 : decode cX6_rewritten 422 = .ok (.iconst (-1), 1) := by decide +kernel
theorem dX6_rewritten_423 : decode cX6_rewritten 423 = .ok (.ireturn, 1) := by decide +kernel

section
variable {p : Program} {l : Launch} {e : Env} {R : Room} {s : State} {m : MethodId} {args : Array Value} {below : List Frame} {meth : Method} {c : Code} {H : Heap} {locs : List Loc} {Qf : State → Prop}
variable {ls : Array Slot} {D : va_G} {ca : Nat → ClassId} {A : Nat → Prop} {ad : Nat → Nat → Nat} {u : iST}
def v_6_rewritten_405 (Q : Int → iST → Prop) (u : iST) : Prop :=
  rd (u.1 32) (fun v2 => 
  br (v2 ≠ 0) (
    Q (-1) u) (
    rd (u.1 24) (fun v3 => 
    Q v3 u)))
set_option maxRecDepth 20000 in
set_option maxHeartbeats 4000000 in
theorem f_6_rewritten_405 (X : yX RX6 p m c cX6_rewritten 6 s args D ca ad A) (hRf : 9 ≤ R.frames) (hRl : 278 ≤ R.locals) {Q : Int → iST → Prop} (hret : ∀ (v : Int) (u : iST) (H : Heap) (locs : List Loc) (ls : Array Slot) (pc : Nat), inR v → Q v u → yW D ca A ad s H locs u → decode cX6_rewritten pc = .ok (.ireturn, 1) → W p l e R s m args below meth c H locs 0 0 Qf (F0 m pc ls [.int (jI v)])) (hw : yW D ca A ad s H locs u) (hl : lv_has ls 6 [(0, .ref (ad 0 5))]) (h : v_6_rewritten_405 Q u) : W p l e R s m args below meth c H locs 0 0 Qf (F0 m 405 ls []) := by
  have hx := X.1.1
  have hb := X.1.2.1
  unfold v_6_rewritten_405 at h
  refine lv_aload_n hx hb dX6_rewritten_405 rfl (lv_at hl 0 rfl) ?_
  refine yg_6_39 X hw dX6_rewritten_406 ?_
  refine yg_6_77 X hw dX6_rewritten_409 h (fun v2 rv2 h => ?_)
  refine k_if_ne hx hb rv2 dX6_rewritten_412 (tgt := 422) rfl h (fun h => ?_) (fun h => ?_)
  · refine lv_iconst hx hb dX6_rewritten_422 (v := jI (-1)) rfl ?_
    exact hret _ _ _ _ _ _ (by decide) h hw dX6_rewritten_423
  · refine lv_aload_n hx hb dX6_rewritten_415 rfl (lv_at hl 0 rfl) ?_
    refine yg_6_20 X hw dX6_rewritten_416 h (fun v3 rv3 h => ?_)
    refine lv_goto hx hb dX6_rewritten_419 (tgt := 423) rfl ?_
    exact hret _ _ _ _ _ _ rv3 h hw dX6_rewritten_423

def v_6_rewritten_20b (R20 : Int → iST → Prop) (Q : Int → iST → Prop) (x4 : Int) (u : iST) : Prop :=
  br (1000000 ≤ x4) (
    v_6_rewritten_405 Q u) (
    rd (u.1 23) (fun v4 => 
    br (v4 ≤ 0) (
      v_6_rewritten_405 Q u) (
      rd (u.1 32) (fun v5 => 
      br (v5 ≠ 0) (
        v_6_rewritten_405 Q u) (
        rd (u.1 23) (fun v6 => 
        ov (v6 - 1) (
        bd (v6 - 1) 60 (
        bd 3 17 (rd (u.2.1 51 (17 * (v6 - 1) + 3)) (fun v10 => 
        br (v10 = 0) (
          v_6_start (v6 - 1) (fun u => 
          ov (x4 + 1) (
          R20 (x4 + 1) u)) u) (
        br (v10 = 1) (
          rd (u.1 24) (fun v14 => 
          v_6_finish v14 (fun u => 
          ov (x4 + 1) (
          R20 (x4 + 1) u)) u)) (
        br (v10 = 2) (
          v_6_goOnWithTest (v6 - 1) (fun u => 
          ov (x4 + 1) (
          R20 (x4 + 1) u)) u) (
        br (v10 = 3) (
          v_6_goOnWithThen (v6 - 1) (fun u => 
          ov (x4 + 1) (
          R20 (x4 + 1) u)) u) (
        br (v10 = 4) (
          bd 5 17 (rd (u.2.1 51 (17 * (v6 - 1) + 5)) (fun v24 => 
          bd 7 17 (rd (u.2.1 51 (17 * (v6 - 1) + 7)) (fun v25 => 
          rd (u.1 24) (fun v26 => 
          bd 1 17 (rd (u.2.1 51 (17 * (v6 - 1) + 1)) (fun v27 => 
          v_6_choice v24 v25 v26 v27 (fun v28 u => 
          v_6_finish v28 (fun u => 
          ov (x4 + 1) (
          R20 (x4 + 1) u)) u) u)))))))) (
        br (v10 = 5) (
          v_6_goOnWithNegation (v6 - 1) (fun u => 
          ov (x4 + 1) (
          R20 (x4 + 1) u)) u) (
        br (v10 = 6) (
          v_6_gather (v6 - 1) (fun u => 
          ov (x4 + 1) (
          R20 (x4 + 1) u)) u) (
        br (v10 = 7) (
          v_6_compute (v6 - 1) (fun u => 
          ov (x4 + 1) (
          R20 (x4 + 1) u)) u) (
        br (v10 = 8) (
          bd 5 17 (rd (u.2.1 51 (17 * (v6 - 1) + 5)) (fun v41 => 
          v_7_item v41 1 (fun v42 u => 
          bd 5 17 (rd (u.2.1 51 (17 * (v6 - 1) + 5)) (fun v43 => 
          v_7_item v43 2 (fun v44 u => 
          v_6_reduceEqual (v6 - 1) v42 v44 (fun u => 
          ov (x4 + 1) (
          R20 (x4 + 1) u)) u) u))) u))) (
        br (v10 = 9) (
          bd 5 17 (rd (u.2.1 51 (17 * (v6 - 1) + 5)) (fun v48 => 
          v_7_item v48 1 (fun v49 u => 
          bd 5 17 (rd (u.2.1 51 (17 * (v6 - 1) + 5)) (fun v50 => 
          v_7_item v50 2 (fun v51 u => 
          v_6_reduceLess (v6 - 1) v49 v51 (fun u => 
          ov (x4 + 1) (
          R20 (x4 + 1) u)) u) u))) u))) (
        br (v10 = 10) (
          bd 5 17 (rd (u.2.1 51 (17 * (v6 - 1) + 5)) (fun v55 => 
          v_7_left v55 (fun v56 u => 
          bd 5 17 (rd (u.2.1 51 (17 * (v6 - 1) + 5)) (fun v57 => 
          v_7_item v57 1 (fun v58 u => 
          v_6_reduceOther (v6 - 1) v56 v58 (fun u => 
          ov (x4 + 1) (
          R20 (x4 + 1) u)) u) u))) u))) (
        br (v10 = 11) (
          v_6_lookUp (v6 - 1) (fun u => 
          ov (x4 + 1) (
          R20 (x4 + 1) u)) u) (
        br (v10 = 12) (
          v_6_seek (v6 - 1) (fun u => 
          ov (x4 + 1) (
          R20 (x4 + 1) u)) u) (
        br (v10 = 13) (
          v_6_compare (v6 - 1) (fun u => 
          ov (x4 + 1) (
          R20 (x4 + 1) u)) u) (
        br (v10 = 14) (
          v_6_apply (v6 - 1) (fun u => 
          ov (x4 + 1) (
          R20 (x4 + 1) u)) u) (
        br (v10 = 15) (
          v_6_judge (v6 - 1) (fun u => 
          ov (x4 + 1) (
          R20 (x4 + 1) u)) u) (
        br (v10 = 16) (
          v_6_unfold (v6 - 1) (fun u => 
          ov (x4 + 1) (
          R20 (x4 + 1) u)) u) (
        br (v10 = 17) (
          v_6_chooseBranch (v6 - 1) (fun u => 
          ov (x4 + 1) (
          R20 (x4 + 1) u)) u) (
        rd (u.1 24) (fun v83 => 
        v_6_finish v83 (fun u => 
        ov (x4 + 1) (
        R20 (x4 + 1) u)) u)))))))))))))))))))))))))))))
def v_6_rewritten_20 (Q : Int → iST → Prop) (x4 : Int) (u : iST) : Prop := ∀ R20 : Int → iST → Prop, (∀ (x4 : Int) (u : iST), v_6_rewritten_20b R20 Q x4 u → R20 x4 u) → R20 x4 u
set_option maxRecDepth 20000 in
set_option maxHeartbeats 4000000 in
theorem f_6_rewritten_20 (X : yX RX6 p m c cX6_rewritten 6 s args D ca ad A) (hRf : 9 ≤ R.frames) (hRl : 278 ≤ R.locals) {Q : Int → iST → Prop} (hret : ∀ (v : Int) (u : iST) (H : Heap) (locs : List Loc) (ls : Array Slot) (pc : Nat), inR v → Q v u → yW D ca A ad s H locs u → decode cX6_rewritten pc = .ok (.ireturn, 1) → W p l e R s m args below meth c H locs 0 0 Qf (F0 m pc ls [.int (jI v)])) {x4 : Int} (rx4 : inR x4) (hw : yW D ca A ad s H locs u) (hl : lv_has ls 6 [(0, .ref (ad 0 5)), (4, .int (jI x4))]) (h : v_6_rewritten_20 Q x4 u) : W p l e R s m args below meth c H locs 0 0 Qf (F0 m 20 ls []) := by
  refine h (fun x4 u => ∀ (H : Heap) (locs : List Loc) (ls : Array Slot), inR x4 → yW D ca A ad s H locs u → lv_has ls 6 [(0, .ref (ad 0 5)), (4, .int (jI x4))] → W p l e R s m args below meth c H locs 0 0 Qf (F0 m 20 ls [])) ?_ H locs ls rx4 hw hl
  clear h hl hw rx4
  intro x4 u h H locs ls rx4 hw hl
  have hR20 : ∀ (x4 : Int) (u : iST) (H : Heap) (locs : List Loc) (ls : Array Slot), inR x4 → yW D ca A ad s H locs u → lv_has ls 6 [(0, .ref (ad 0 5)), (4, .int (jI x4))] → (fun (x4 : Int) u => ∀ (H : Heap) (locs : List Loc) (ls : Array Slot), inR x4 → yW D ca A ad s H locs u → lv_has ls 6 [(0, .ref (ad 0 5)), (4, .int (jI x4))] → W p l e R s m args below meth c H locs 0 0 Qf (F0 m 20 ls [])) x4 u → W p l e R s m args below meth c H locs 0 0 Qf (F0 m 20 ls []) := fun x4 u H locs ls rx4 hw hl h => h H locs ls rx4 hw hl
  have hx := X.1.1
  have hb := X.1.2.1
  unfold v_6_rewritten_20b at h
  refine lv_iload hx hb dX6_rewritten_20 (lv_at hl 1 rfl) ?_
  refine yld 76 yK_6_76 X dX6_rewritten_22 ?_
  refine k_icmp_ge hx hb rx4 (by decide) dX6_rewritten_24 (tgt := 405) rfl h (fun h => ?_) (fun h => ?_)
  · exact f_6_rewritten_405 X hRf hRl hret hw (lv_sub hl [0] rfl) h
  · refine lv_aload_n hx hb dX6_rewritten_27 rfl (lv_at hl 0 rfl) ?_
    refine yg_6_16 X hw dX6_rewritten_28 h (fun v4 rv4 h => ?_)
    refine k_if_le hx hb rv4 dX6_rewritten_31 (tgt := 405) rfl h (fun h => ?_) (fun h => ?_)
    · exact f_6_rewritten_405 X hRf hRl hret hw (lv_sub hl [0] rfl) h
    · refine lv_aload_n hx hb dX6_rewritten_34 rfl (lv_at hl 0 rfl) ?_
      refine yg_6_39 X hw dX6_rewritten_35 ?_
      refine yg_6_77 X hw dX6_rewritten_38 h (fun v5 rv5 h => ?_)
      refine k_if_ne hx hb rv5 dX6_rewritten_41 (tgt := 405) rfl h (fun h => ?_) (fun h => ?_)
      · exact f_6_rewritten_405 X hRf hRl hret hw (lv_sub hl [0] rfl) h
      · refine lv_aload_n hx hb dX6_rewritten_44 rfl (lv_at hl 0 rfl) ?_
        refine yg_6_13 X hw dX6_rewritten_45 ?_
        refine lv_aload_n hx hb dX6_rewritten_48 rfl (lv_at hl 0 rfl) ?_
        refine yg_6_16 X hw dX6_rewritten_49 h (fun v6 rv6 h => ?_)
        refine lv_iconst hx hb dX6_rewritten_52 (v := jI 1) rfl ?_
        refine k_isub hx hb dX6_rewritten_53 h (fun r7 h => ?_)
        have q8 := h
        have r9 : (0 ≤ (v6 - 1) ∧ (v6 - 1) < 60) := ⟨q8.1, by have := q8.2.1; omega⟩
        refine yx_1 X hw r7 dX6_rewritten_54 h (fun h => ?_)
        refine lv_astore hx hb dX6_rewritten_55 hl (by decide) rfl (fun ls hl => ?_)
        have hl : lv_has ls 6 [(5, .ref (ad 7 (v6 - 1).toNat)), (0, .ref (ad 0 5)), (4, .int (jI x4))] := hl
        refine lv_aload hx hb dX6_rewritten_57 (lv_at hl 0 rfl) ?_
        refine lv_iconst hx hb dX6_rewritten_59 (v := jI 3) rfl ?_
        refine yfl_frames X hw r9 (by decide) dX6_rewritten_60 h (fun v10 rv10 h => ?_)
        refine br_sp h (fun ek h => ?_) (fun n13 h => ?_)
        · refine k_tabIn (tgt := 148) (off := 87) hx hb dX6_rewritten_61 ek (by decide) (by decide) rfl rfl ?_
          refine lv_aload_n hx hb dX6_rewritten_148 rfl (lv_at hl 1 rfl) ?_
          refine lv_aload hx hb dX6_rewritten_149 (lv_at hl 0 rfl) ?_
          refine ycV (n := 1) (e_6_start r9 h) 6 5 (r := (RX6, TX6, 14)) rfl yG_6_82 yD_6_start X hw rfl yGo_6 (Nat.le_trans (Nat.le_of_ble_eq_true rfl) hRf) (Nat.le_trans (Nat.le_of_ble_eq_true rfl) hRl) rfl hl.1 (Nat.le_of_ble_eq_true rfl) rfl dX6_rewritten_151 (fun u H locs h hw => ?_)
          refine lv_goto hx hb dX6_rewritten_154 (tgt := 399) rfl ?_
          refine k_iinc (k := 2) hx hb dX6_rewritten_399 hl rfl (by decide) rfl h (fun ls r12 h hl => ?_)
          have hl : lv_has ls 6 [(4, .int (jI (x4 + 1))), (5, .ref (ad 7 (v6 - 1).toNat)), (0, .ref (ad 0 5))] := hl
          refine lv_goto hx hb dX6_rewritten_402 (tgt := 20) rfl ?_
          exact hR20 _ _ H locs ls r12 hw (lv_sub hl [2, 0] rfl) h
        refine br_sp h (fun ek h => ?_) (fun n17 h => ?_)
        · refine k_tabIn (tgt := 391) (off := 330) hx hb dX6_rewritten_61 ek (by decide) (by decide) rfl rfl ?_
          refine lv_aload_n hx hb dX6_rewritten_391 rfl (lv_at hl 1 rfl) ?_
          refine lv_aload_n hx hb dX6_rewritten_392 rfl (lv_at hl 1 rfl) ?_
          refine yg_6_20 X hw dX6_rewritten_393 h (fun v14 rv14 h => ?_)
          refine ycV (n := 1) (e_6_finish rv14 h) 6 5 (r := (RX6, TX6, 14)) rfl yG_6_96 yD_6_finish X hw rfl yGo_6 (Nat.le_trans (Nat.le_of_ble_eq_true rfl) hRf) (Nat.le_trans (Nat.le_of_ble_eq_true rfl) hRl) rfl hl.1 (Nat.le_of_ble_eq_true rfl) rfl dX6_rewritten_396 (fun u H locs h hw => ?_)
          refine k_iinc (k := 2) hx hb dX6_rewritten_399 hl rfl (by decide) rfl h (fun ls r16 h hl => ?_)
          have hl : lv_has ls 6 [(4, .int (jI (x4 + 1))), (5, .ref (ad 7 (v6 - 1).toNat)), (0, .ref (ad 0 5))] := hl
          refine lv_goto hx hb dX6_rewritten_402 (tgt := 20) rfl ?_
          exact hR20 _ _ H locs ls r16 hw (lv_sub hl [2, 0] rfl) h
        refine br_sp h (fun ek h => ?_) (fun n20 h => ?_)
        · refine k_tabIn (tgt := 157) (off := 96) hx hb dX6_rewritten_61 ek (by decide) (by decide) rfl rfl ?_
          refine lv_aload_n hx hb dX6_rewritten_157 rfl (lv_at hl 1 rfl) ?_
          refine lv_aload hx hb dX6_rewritten_158 (lv_at hl 0 rfl) ?_
          refine ycV (n := 1) (e_6_goOnWithTest r9 h) 6 5 (r := (RX6, TX6, 14)) rfl yG_6_86 yD_6_goOnWithTest X hw rfl yGo_6 (Nat.le_trans (Nat.le_of_ble_eq_true rfl) hRf) (Nat.le_trans (Nat.le_of_ble_eq_true rfl) hRl) rfl hl.1 (Nat.le_of_ble_eq_true rfl) rfl dX6_rewritten_160 (fun u H locs h hw => ?_)
          refine lv_goto hx hb dX6_rewritten_163 (tgt := 399) rfl ?_
          refine k_iinc (k := 2) hx hb dX6_rewritten_399 hl rfl (by decide) rfl h (fun ls r19 h hl => ?_)
          have hl : lv_has ls 6 [(4, .int (jI (x4 + 1))), (5, .ref (ad 7 (v6 - 1).toNat)), (0, .ref (ad 0 5))] := hl
          refine lv_goto hx hb dX6_rewritten_402 (tgt := 20) rfl ?_
          exact hR20 _ _ H locs ls r19 hw (lv_sub hl [2, 0] rfl) h
        refine br_sp h (fun ek h => ?_) (fun n23 h => ?_)
        · refine k_tabIn (tgt := 166) (off := 105) hx hb dX6_rewritten_61 ek (by decide) (by decide) rfl rfl ?_
          refine lv_aload_n hx hb dX6_rewritten_166 rfl (lv_at hl 1 rfl) ?_
          refine lv_aload hx hb dX6_rewritten_167 (lv_at hl 0 rfl) ?_
          refine ycV (n := 1) (e_6_goOnWithThen r9 h) 6 5 (r := (RX6, TX6, 14)) rfl yG_6_89 yD_6_goOnWithThen X hw rfl yGo_6 (Nat.le_trans (Nat.le_of_ble_eq_true rfl) hRf) (Nat.le_trans (Nat.le_of_ble_eq_true rfl) hRl) rfl hl.1 (Nat.le_of_ble_eq_true rfl) rfl dX6_rewritten_169 (fun u H locs h hw => ?_)
          refine lv_goto hx hb dX6_rewritten_172 (tgt := 399) rfl ?_
          refine k_iinc (k := 2) hx hb dX6_rewritten_399 hl rfl (by decide) rfl h (fun ls r22 h hl => ?_)
          have hl : lv_has ls 6 [(4, .int (jI (x4 + 1))), (5, .ref (ad 7 (v6 - 1).toNat)), (0, .ref (ad 0 5))] := hl
          refine lv_goto hx hb dX6_rewritten_402 (tgt := 20) rfl ?_
          exact hR20 _ _ H locs ls r22 hw (lv_sub hl [2, 0] rfl) h
        refine br_sp h (fun ek h => ?_) (fun n31 h => ?_)
        · refine k_tabIn (tgt := 175) (off := 114) hx hb dX6_rewritten_61 ek (by decide) (by decide) rfl rfl ?_
          refine lv_aload_n hx hb dX6_rewritten_175 rfl (lv_at hl 1 rfl) ?_
          refine lv_aload_n hx hb dX6_rewritten_176 rfl (lv_at hl 1 rfl) ?_
          refine lv_aload hx hb dX6_rewritten_177 (lv_at hl 0 rfl) ?_
          refine lv_iconst hx hb dX6_rewritten_179 (v := jI 5) rfl ?_
          refine yfl_frames X hw r9 (by decide) dX6_rewritten_180 h (fun v24 rv24 h => ?_)
          refine lv_aload hx hb dX6_rewritten_181 (lv_at hl 0 rfl) ?_
          refine lv_bipush hx hb dX6_rewritten_183 (v := jI 7) rfl ?_
          refine yfl_frames X hw r9 (by decide) dX6_rewritten_185 h (fun v25 rv25 h => ?_)
          refine lv_aload_n hx hb dX6_rewritten_186 rfl (lv_at hl 1 rfl) ?_
          refine yg_6_20 X hw dX6_rewritten_187 h (fun v26 rv26 h => ?_)
          refine lv_aload hx hb dX6_rewritten_190 (lv_at hl 0 rfl) ?_
          refine lv_iconst hx hb dX6_rewritten_192 (v := jI 1) rfl ?_
          refine yfl_frames X hw r9 (by decide) dX6_rewritten_193 h (fun v27 rv27 h => ?_)
          refine ycI (n := 4) (e_6_choice rv24 rv25 rv26 rv27 h) 6 5 (r := (RX6, TX6, 14)) rfl yG_6_92 yD_6_choice X hw rfl yGo_6 (Nat.le_trans (Nat.le_of_ble_eq_true rfl) hRf) (Nat.le_trans (Nat.le_of_ble_eq_true rfl) hRl) rfl hl.1 (Nat.le_of_ble_eq_true rfl) rfl dX6_rewritten_194 (fun v28 u H locs rv28 h hw => ?_)
          refine ycV (n := 1) (e_6_finish rv28 h) 6 5 (r := (RX6, TX6, 14)) rfl yG_6_96 yD_6_finish X hw rfl yGo_6 (Nat.le_trans (Nat.le_of_ble_eq_true rfl) hRf) (Nat.le_trans (Nat.le_of_ble_eq_true rfl) hRl) rfl hl.1 (Nat.le_of_ble_eq_true rfl) rfl dX6_rewritten_197 (fun u H locs h hw => ?_)
          refine lv_goto hx hb dX6_rewritten_200 (tgt := 399) rfl ?_
          refine k_iinc (k := 2) hx hb dX6_rewritten_399 hl rfl (by decide) rfl h (fun ls r30 h hl => ?_)
          have hl : lv_has ls 6 [(4, .int (jI (x4 + 1))), (5, .ref (ad 7 (v6 - 1).toNat)), (0, .ref (ad 0 5))] := hl
          refine lv_goto hx hb dX6_rewritten_402 (tgt := 20) rfl ?_
          exact hR20 _ _ H locs ls r30 hw (lv_sub hl [2, 0] rfl) h
        refine br_sp h (fun ek h => ?_) (fun n34 h => ?_)
        · refine k_tabIn (tgt := 203) (off := 142) hx hb dX6_rewritten_61 ek (by decide) (by decide) rfl rfl ?_
          refine lv_aload_n hx hb dX6_rewritten_203 rfl (lv_at hl 1 rfl) ?_
          refine lv_aload hx hb dX6_rewritten_204 (lv_at hl 0 rfl) ?_
          refine ycV (n := 1) (e_6_goOnWithNegation r9 h) 6 5 (r := (RX6, TX6, 14)) rfl yG_6_100 yD_6_goOnWithNegation X hw rfl yGo_6 (Nat.le_trans (Nat.le_of_ble_eq_true rfl) hRf) (Nat.le_trans (Nat.le_of_ble_eq_true rfl) hRl) rfl hl.1 (Nat.le_of_ble_eq_true rfl) rfl dX6_rewritten_206 (fun u H locs h hw => ?_)
          refine lv_goto hx hb dX6_rewritten_209 (tgt := 399) rfl ?_
          refine k_iinc (k := 2) hx hb dX6_rewritten_399 hl rfl (by decide) rfl h (fun ls r33 h hl => ?_)
          have hl : lv_has ls 6 [(4, .int (jI (x4 + 1))), (5, .ref (ad 7 (v6 - 1).toNat)), (0, .ref (ad 0 5))] := hl
          refine lv_goto hx hb dX6_rewritten_402 (tgt := 20) rfl ?_
          exact hR20 _ _ H locs ls r33 hw (lv_sub hl [2, 0] rfl) h
        refine br_sp h (fun ek h => ?_) (fun n37 h => ?_)
        · refine k_tabIn (tgt := 212) (off := 151) hx hb dX6_rewritten_61 ek (by decide) (by decide) rfl rfl ?_
          refine lv_aload_n hx hb dX6_rewritten_212 rfl (lv_at hl 1 rfl) ?_
          refine lv_aload hx hb dX6_rewritten_213 (lv_at hl 0 rfl) ?_
          refine ycV (n := 1) (e_6_gather r9 h) 6 5 (r := (RX6, TX6, 14)) rfl yG_6_103 yD_6_gather X hw rfl yGo_6 (Nat.le_trans (Nat.le_of_ble_eq_true rfl) hRf) (Nat.le_trans (Nat.le_of_ble_eq_true rfl) hRl) rfl hl.1 (Nat.le_of_ble_eq_true rfl) rfl dX6_rewritten_215 (fun u H locs h hw => ?_)
          refine lv_goto hx hb dX6_rewritten_218 (tgt := 399) rfl ?_
          refine k_iinc (k := 2) hx hb dX6_rewritten_399 hl rfl (by decide) rfl h (fun ls r36 h hl => ?_)
          have hl : lv_has ls 6 [(4, .int (jI (x4 + 1))), (5, .ref (ad 7 (v6 - 1).toNat)), (0, .ref (ad 0 5))] := hl
          refine lv_goto hx hb dX6_rewritten_402 (tgt := 20) rfl ?_
          exact hR20 _ _ H locs ls r36 hw (lv_sub hl [2, 0] rfl) h
        refine br_sp h (fun ek h => ?_) (fun n40 h => ?_)
        · refine k_tabIn (tgt := 221) (off := 160) hx hb dX6_rewritten_61 ek (by decide) (by decide) rfl rfl ?_
          refine lv_aload_n hx hb dX6_rewritten_221 rfl (lv_at hl 1 rfl) ?_
          refine lv_aload hx hb dX6_rewritten_222 (lv_at hl 0 rfl) ?_
          refine ycV (n := 1) (e_6_compute r9 h) 6 5 (r := (RX6, TX6, 14)) rfl yG_6_106 yD_6_compute X hw rfl yGo_6 (Nat.le_trans (Nat.le_of_ble_eq_true rfl) hRf) (Nat.le_trans (Nat.le_of_ble_eq_true rfl) hRl) rfl hl.1 (Nat.le_of_ble_eq_true rfl) rfl dX6_rewritten_224 (fun u H locs h hw => ?_)
          refine lv_goto hx hb dX6_rewritten_227 (tgt := 399) rfl ?_
          refine k_iinc (k := 2) hx hb dX6_rewritten_399 hl rfl (by decide) rfl h (fun ls r39 h hl => ?_)
          have hl : lv_has ls 6 [(4, .int (jI (x4 + 1))), (5, .ref (ad 7 (v6 - 1).toNat)), (0, .ref (ad 0 5))] := hl
          refine lv_goto hx hb dX6_rewritten_402 (tgt := 20) rfl ?_
          exact hR20 _ _ H locs ls r39 hw (lv_sub hl [2, 0] rfl) h
        refine br_sp h (fun ek h => ?_) (fun n47 h => ?_)
        · refine k_tabIn (tgt := 230) (off := 169) hx hb dX6_rewritten_61 ek (by decide) (by decide) rfl rfl ?_
          refine lv_aload_n hx hb dX6_rewritten_230 rfl (lv_at hl 1 rfl) ?_
          refine lv_aload hx hb dX6_rewritten_231 (lv_at hl 0 rfl) ?_
          refine lv_aload_n hx hb dX6_rewritten_233 rfl (lv_at hl 1 rfl) ?_
          refine yg_6_39 X hw dX6_rewritten_234 ?_
          refine lv_aload hx hb dX6_rewritten_237 (lv_at hl 0 rfl) ?_
          refine lv_iconst hx hb dX6_rewritten_239 (v := jI 5) rfl ?_
          refine yfl_frames X hw r9 (by decide) dX6_rewritten_240 h (fun v41 rv41 h => ?_)
          refine lv_iconst hx hb dX6_rewritten_241 (v := jI 1) rfl ?_
          refine ycI (n := 2) (e_7_item rv41 (by decide) h) 7 6 (r := (RX7, TX7, 9)) rfl yG_6_109 yD_7_item X hw rfl yGo_7 (Nat.le_trans (Nat.le_of_ble_eq_true rfl) hRf) (Nat.le_trans (Nat.le_of_ble_eq_true rfl) hRl) rfl hl.1 (Nat.le_of_ble_eq_true rfl) rfl dX6_rewritten_242 (fun v42 u H locs rv42 h hw => ?_)
          refine lv_aload_n hx hb dX6_rewritten_245 rfl (lv_at hl 1 rfl) ?_
          refine yg_6_39 X hw dX6_rewritten_246 ?_
          refine lv_aload hx hb dX6_rewritten_249 (lv_at hl 0 rfl) ?_
          refine lv_iconst hx hb dX6_rewritten_251 (v := jI 5) rfl ?_
          refine yfl_frames X hw r9 (by decide) dX6_rewritten_252 h (fun v43 rv43 h => ?_)
          refine lv_iconst hx hb dX6_rewritten_253 (v := jI 2) rfl ?_
          refine ycI (n := 2) (e_7_item rv43 (by decide) h) 7 6 (r := (RX7, TX7, 9)) rfl yG_6_109 yD_7_item X hw rfl yGo_7 (Nat.le_trans (Nat.le_of_ble_eq_true rfl) hRf) (Nat.le_trans (Nat.le_of_ble_eq_true rfl) hRl) rfl hl.1 (Nat.le_of_ble_eq_true rfl) rfl dX6_rewritten_254 (fun v44 u H locs rv44 h hw => ?_)
          refine ycV (n := 3) (e_6_reduceEqual r9 rv42 rv44 h) 6 5 (r := (RX6, TX6, 14)) rfl yG_6_113 yD_6_reduceEqual X hw rfl yGo_6 (Nat.le_trans (Nat.le_of_ble_eq_true rfl) hRf) (Nat.le_trans (Nat.le_of_ble_eq_true rfl) hRl) rfl hl.1 (Nat.le_of_ble_eq_true rfl) rfl dX6_rewritten_257 (fun u H locs h hw => ?_)
          refine lv_goto hx hb dX6_rewritten_260 (tgt := 399) rfl ?_
          refine k_iinc (k := 2) hx hb dX6_rewritten_399 hl rfl (by decide) rfl h (fun ls r46 h hl => ?_)
          have hl : lv_has ls 6 [(4, .int (jI (x4 + 1))), (5, .ref (ad 7 (v6 - 1).toNat)), (0, .ref (ad 0 5))] := hl
          refine lv_goto hx hb dX6_rewritten_402 (tgt := 20) rfl ?_
          exact hR20 _ _ H locs ls r46 hw (lv_sub hl [2, 0] rfl) h
        refine br_sp h (fun ek h => ?_) (fun n54 h => ?_)
        · refine k_tabIn (tgt := 263) (off := 202) hx hb dX6_rewritten_61 ek (by decide) (by decide) rfl rfl ?_
          refine lv_aload_n hx hb dX6_rewritten_263 rfl (lv_at hl 1 rfl) ?_
          refine lv_aload hx hb dX6_rewritten_264 (lv_at hl 0 rfl) ?_
          refine lv_aload_n hx hb dX6_rewritten_266 rfl (lv_at hl 1 rfl) ?_
          refine yg_6_39 X hw dX6_rewritten_267 ?_
          refine lv_aload hx hb dX6_rewritten_270 (lv_at hl 0 rfl) ?_
          refine lv_iconst hx hb dX6_rewritten_272 (v := jI 5) rfl ?_
          refine yfl_frames X hw r9 (by decide) dX6_rewritten_273 h (fun v48 rv48 h => ?_)
          refine lv_iconst hx hb dX6_rewritten_274 (v := jI 1) rfl ?_
          refine ycI (n := 2) (e_7_item rv48 (by decide) h) 7 6 (r := (RX7, TX7, 9)) rfl yG_6_109 yD_7_item X hw rfl yGo_7 (Nat.le_trans (Nat.le_of_ble_eq_true rfl) hRf) (Nat.le_trans (Nat.le_of_ble_eq_true rfl) hRl) rfl hl.1 (Nat.le_of_ble_eq_true rfl) rfl dX6_rewritten_275 (fun v49 u H locs rv49 h hw => ?_)
          refine lv_aload_n hx hb dX6_rewritten_278 rfl (lv_at hl 1 rfl) ?_
          refine yg_6_39 X hw dX6_rewritten_279 ?_
          refine lv_aload hx hb dX6_rewritten_282 (lv_at hl 0 rfl) ?_
          refine lv_iconst hx hb dX6_rewritten_284 (v := jI 5) rfl ?_
          refine yfl_frames X hw r9 (by decide) dX6_rewritten_285 h (fun v50 rv50 h => ?_)
          refine lv_iconst hx hb dX6_rewritten_286 (v := jI 2) rfl ?_
          refine ycI (n := 2) (e_7_item rv50 (by decide) h) 7 6 (r := (RX7, TX7, 9)) rfl yG_6_109 yD_7_item X hw rfl yGo_7 (Nat.le_trans (Nat.le_of_ble_eq_true rfl) hRf) (Nat.le_trans (Nat.le_of_ble_eq_true rfl) hRl) rfl hl.1 (Nat.le_of_ble_eq_true rfl) rfl dX6_rewritten_287 (fun v51 u H locs rv51 h hw => ?_)
          refine ycV (n := 3) (e_6_reduceLess r9 rv49 rv51 h) 6 5 (r := (RX6, TX6, 14)) rfl yG_6_117 yD_6_reduceLess X hw rfl yGo_6 (Nat.le_trans (Nat.le_of_ble_eq_true rfl) hRf) (Nat.le_trans (Nat.le_of_ble_eq_true rfl) hRl) rfl hl.1 (Nat.le_of_ble_eq_true rfl) rfl dX6_rewritten_290 (fun u H locs h hw => ?_)
          refine lv_goto hx hb dX6_rewritten_293 (tgt := 399) rfl ?_
          refine k_iinc (k := 2) hx hb dX6_rewritten_399 hl rfl (by decide) rfl h (fun ls r53 h hl => ?_)
          have hl : lv_has ls 6 [(4, .int (jI (x4 + 1))), (5, .ref (ad 7 (v6 - 1).toNat)), (0, .ref (ad 0 5))] := hl
          refine lv_goto hx hb dX6_rewritten_402 (tgt := 20) rfl ?_
          exact hR20 _ _ H locs ls r53 hw (lv_sub hl [2, 0] rfl) h
        refine br_sp h (fun ek h => ?_) (fun n61 h => ?_)
        · refine k_tabIn (tgt := 296) (off := 235) hx hb dX6_rewritten_61 ek (by decide) (by decide) rfl rfl ?_
          refine lv_aload_n hx hb dX6_rewritten_296 rfl (lv_at hl 1 rfl) ?_
          refine lv_aload hx hb dX6_rewritten_297 (lv_at hl 0 rfl) ?_
          refine lv_aload_n hx hb dX6_rewritten_299 rfl (lv_at hl 1 rfl) ?_
          refine yg_6_39 X hw dX6_rewritten_300 ?_
          refine lv_aload hx hb dX6_rewritten_303 (lv_at hl 0 rfl) ?_
          refine lv_iconst hx hb dX6_rewritten_305 (v := jI 5) rfl ?_
          refine yfl_frames X hw r9 (by decide) dX6_rewritten_306 h (fun v55 rv55 h => ?_)
          refine ycI (n := 1) (e_7_left rv55 h) 7 6 (r := (RX7, TX7, 9)) rfl yG_6_120 yD_7_left X hw rfl yGo_7 (Nat.le_trans (Nat.le_of_ble_eq_true rfl) hRf) (Nat.le_trans (Nat.le_of_ble_eq_true rfl) hRl) rfl hl.1 (Nat.le_of_ble_eq_true rfl) rfl dX6_rewritten_307 (fun v56 u H locs rv56 h hw => ?_)
          refine lv_aload_n hx hb dX6_rewritten_310 rfl (lv_at hl 1 rfl) ?_
          refine yg_6_39 X hw dX6_rewritten_311 ?_
          refine lv_aload hx hb dX6_rewritten_314 (lv_at hl 0 rfl) ?_
          refine lv_iconst hx hb dX6_rewritten_316 (v := jI 5) rfl ?_
          refine yfl_frames X hw r9 (by decide) dX6_rewritten_317 h (fun v57 rv57 h => ?_)
          refine lv_iconst hx hb dX6_rewritten_318 (v := jI 1) rfl ?_
          refine ycI (n := 2) (e_7_item rv57 (by decide) h) 7 6 (r := (RX7, TX7, 9)) rfl yG_6_109 yD_7_item X hw rfl yGo_7 (Nat.le_trans (Nat.le_of_ble_eq_true rfl) hRf) (Nat.le_trans (Nat.le_of_ble_eq_true rfl) hRl) rfl hl.1 (Nat.le_of_ble_eq_true rfl) rfl dX6_rewritten_319 (fun v58 u H locs rv58 h hw => ?_)
          refine ycV (n := 3) (e_6_reduceOther r9 rv56 rv58 h) 6 5 (r := (RX6, TX6, 14)) rfl yG_6_124 yD_6_reduceOther X hw rfl yGo_6 (Nat.le_trans (Nat.le_of_ble_eq_true rfl) hRf) (Nat.le_trans (Nat.le_of_ble_eq_true rfl) hRl) rfl hl.1 (Nat.le_of_ble_eq_true rfl) rfl dX6_rewritten_322 (fun u H locs h hw => ?_)
          refine lv_goto hx hb dX6_rewritten_325 (tgt := 399) rfl ?_
          refine k_iinc (k := 2) hx hb dX6_rewritten_399 hl rfl (by decide) rfl h (fun ls r60 h hl => ?_)
          have hl : lv_has ls 6 [(4, .int (jI (x4 + 1))), (5, .ref (ad 7 (v6 - 1).toNat)), (0, .ref (ad 0 5))] := hl
          refine lv_goto hx hb dX6_rewritten_402 (tgt := 20) rfl ?_
          exact hR20 _ _ H locs ls r60 hw (lv_sub hl [2, 0] rfl) h
        refine br_sp h (fun ek h => ?_) (fun n64 h => ?_)
        · refine k_tabIn (tgt := 328) (off := 267) hx hb dX6_rewritten_61 ek (by decide) (by decide) rfl rfl ?_
          refine lv_aload_n hx hb dX6_rewritten_328 rfl (lv_at hl 1 rfl) ?_
          refine lv_aload hx hb dX6_rewritten_329 (lv_at hl 0 rfl) ?_
          refine ycV (n := 1) (e_6_lookUp r9 h) 6 5 (r := (RX6, TX6, 14)) rfl yG_6_127 yD_6_lookUp X hw rfl yGo_6 (Nat.le_trans (Nat.le_of_ble_eq_true rfl) hRf) (Nat.le_trans (Nat.le_of_ble_eq_true rfl) hRl) rfl hl.1 (Nat.le_of_ble_eq_true rfl) rfl dX6_rewritten_331 (fun u H locs h hw => ?_)
          refine lv_goto hx hb dX6_rewritten_334 (tgt := 399) rfl ?_
          refine k_iinc (k := 2) hx hb dX6_rewritten_399 hl rfl (by decide) rfl h (fun ls r63 h hl => ?_)
          have hl : lv_has ls 6 [(4, .int (jI (x4 + 1))), (5, .ref (ad 7 (v6 - 1).toNat)), (0, .ref (ad 0 5))] := hl
          refine lv_goto hx hb dX6_rewritten_402 (tgt := 20) rfl ?_
          exact hR20 _ _ H locs ls r63 hw (lv_sub hl [2, 0] rfl) h
        refine br_sp h (fun ek h => ?_) (fun n67 h => ?_)
        · refine k_tabIn (tgt := 337) (off := 276) hx hb dX6_rewritten_61 ek (by decide) (by decide) rfl rfl ?_
          refine lv_aload_n hx hb dX6_rewritten_337 rfl (lv_at hl 1 rfl) ?_
          refine lv_aload hx hb dX6_rewritten_338 (lv_at hl 0 rfl) ?_
          refine ycV (n := 1) (e_6_seek r9 h) 6 5 (r := (RX6, TX6, 14)) rfl yG_6_130 yD_6_seek X hw rfl yGo_6 (Nat.le_trans (Nat.le_of_ble_eq_true rfl) hRf) (Nat.le_trans (Nat.le_of_ble_eq_true rfl) hRl) rfl hl.1 (Nat.le_of_ble_eq_true rfl) rfl dX6_rewritten_340 (fun u H locs h hw => ?_)
          refine lv_goto hx hb dX6_rewritten_343 (tgt := 399) rfl ?_
          refine k_iinc (k := 2) hx hb dX6_rewritten_399 hl rfl (by decide) rfl h (fun ls r66 h hl => ?_)
          have hl : lv_has ls 6 [(4, .int (jI (x4 + 1))), (5, .ref (ad 7 (v6 - 1).toNat)), (0, .ref (ad 0 5))] := hl
          refine lv_goto hx hb dX6_rewritten_402 (tgt := 20) rfl ?_
          exact hR20 _ _ H locs ls r66 hw (lv_sub hl [2, 0] rfl) h
        refine br_sp h (fun ek h => ?_) (fun n70 h => ?_)
        · refine k_tabIn (tgt := 346) (off := 285) hx hb dX6_rewritten_61 ek (by decide) (by decide) rfl rfl ?_
          refine lv_aload_n hx hb dX6_rewritten_346 rfl (lv_at hl 1 rfl) ?_
          refine lv_aload hx hb dX6_rewritten_347 (lv_at hl 0 rfl) ?_
          refine ycV (n := 1) (e_6_compare r9 h) 6 5 (r := (RX6, TX6, 14)) rfl yG_6_133 yD_6_compare X hw rfl yGo_6 (Nat.le_trans (Nat.le_of_ble_eq_true rfl) hRf) (Nat.le_trans (Nat.le_of_ble_eq_true rfl) hRl) rfl hl.1 (Nat.le_of_ble_eq_true rfl) rfl dX6_rewritten_349 (fun u H locs h hw => ?_)
          refine lv_goto hx hb dX6_rewritten_352 (tgt := 399) rfl ?_
          refine k_iinc (k := 2) hx hb dX6_rewritten_399 hl rfl (by decide) rfl h (fun ls r69 h hl => ?_)
          have hl : lv_has ls 6 [(4, .int (jI (x4 + 1))), (5, .ref (ad 7 (v6 - 1).toNat)), (0, .ref (ad 0 5))] := hl
          refine lv_goto hx hb dX6_rewritten_402 (tgt := 20) rfl ?_
          exact hR20 _ _ H locs ls r69 hw (lv_sub hl [2, 0] rfl) h
        refine br_sp h (fun ek h => ?_) (fun n73 h => ?_)
        · refine k_tabIn (tgt := 355) (off := 294) hx hb dX6_rewritten_61 ek (by decide) (by decide) rfl rfl ?_
          refine lv_aload_n hx hb dX6_rewritten_355 rfl (lv_at hl 1 rfl) ?_
          refine lv_aload hx hb dX6_rewritten_356 (lv_at hl 0 rfl) ?_
          refine ycV (n := 1) (e_6_apply r9 h) 6 5 (r := (RX6, TX6, 14)) rfl yG_6_136 yD_6_apply X hw rfl yGo_6 (Nat.le_trans (Nat.le_of_ble_eq_true rfl) hRf) (Nat.le_trans (Nat.le_of_ble_eq_true rfl) hRl) rfl hl.1 (Nat.le_of_ble_eq_true rfl) rfl dX6_rewritten_358 (fun u H locs h hw => ?_)
          refine lv_goto hx hb dX6_rewritten_361 (tgt := 399) rfl ?_
          refine k_iinc (k := 2) hx hb dX6_rewritten_399 hl rfl (by decide) rfl h (fun ls r72 h hl => ?_)
          have hl : lv_has ls 6 [(4, .int (jI (x4 + 1))), (5, .ref (ad 7 (v6 - 1).toNat)), (0, .ref (ad 0 5))] := hl
          refine lv_goto hx hb dX6_rewritten_402 (tgt := 20) rfl ?_
          exact hR20 _ _ H locs ls r72 hw (lv_sub hl [2, 0] rfl) h
        refine br_sp h (fun ek h => ?_) (fun n76 h => ?_)
        · refine k_tabIn (tgt := 364) (off := 303) hx hb dX6_rewritten_61 ek (by decide) (by decide) rfl rfl ?_
          refine lv_aload_n hx hb dX6_rewritten_364 rfl (lv_at hl 1 rfl) ?_
          refine lv_aload hx hb dX6_rewritten_365 (lv_at hl 0 rfl) ?_
          refine ycV (n := 1) (e_6_judge r9 h) 6 5 (r := (RX6, TX6, 14)) rfl yG_6_139 yD_6_judge X hw rfl yGo_6 (Nat.le_trans (Nat.le_of_ble_eq_true rfl) hRf) (Nat.le_trans (Nat.le_of_ble_eq_true rfl) hRl) rfl hl.1 (Nat.le_of_ble_eq_true rfl) rfl dX6_rewritten_367 (fun u H locs h hw => ?_)
          refine lv_goto hx hb dX6_rewritten_370 (tgt := 399) rfl ?_
          refine k_iinc (k := 2) hx hb dX6_rewritten_399 hl rfl (by decide) rfl h (fun ls r75 h hl => ?_)
          have hl : lv_has ls 6 [(4, .int (jI (x4 + 1))), (5, .ref (ad 7 (v6 - 1).toNat)), (0, .ref (ad 0 5))] := hl
          refine lv_goto hx hb dX6_rewritten_402 (tgt := 20) rfl ?_
          exact hR20 _ _ H locs ls r75 hw (lv_sub hl [2, 0] rfl) h
        refine br_sp h (fun ek h => ?_) (fun n79 h => ?_)
        · refine k_tabIn (tgt := 373) (off := 312) hx hb dX6_rewritten_61 ek (by decide) (by decide) rfl rfl ?_
          refine lv_aload_n hx hb dX6_rewritten_373 rfl (lv_at hl 1 rfl) ?_
          refine lv_aload hx hb dX6_rewritten_374 (lv_at hl 0 rfl) ?_
          refine ycV (n := 1) (e_6_unfold r9 h) 6 5 (r := (RX6, TX6, 14)) rfl yG_6_142 yD_6_unfold X hw rfl yGo_6 (Nat.le_trans (Nat.le_of_ble_eq_true rfl) hRf) (Nat.le_trans (Nat.le_of_ble_eq_true rfl) hRl) rfl hl.1 (Nat.le_of_ble_eq_true rfl) rfl dX6_rewritten_376 (fun u H locs h hw => ?_)
          refine lv_goto hx hb dX6_rewritten_379 (tgt := 399) rfl ?_
          refine k_iinc (k := 2) hx hb dX6_rewritten_399 hl rfl (by decide) rfl h (fun ls r78 h hl => ?_)
          have hl : lv_has ls 6 [(4, .int (jI (x4 + 1))), (5, .ref (ad 7 (v6 - 1).toNat)), (0, .ref (ad 0 5))] := hl
          refine lv_goto hx hb dX6_rewritten_402 (tgt := 20) rfl ?_
          exact hR20 _ _ H locs ls r78 hw (lv_sub hl [2, 0] rfl) h
        refine br_sp h (fun ek h => ?_) (fun n82 h => ?_)
        · refine k_tabIn (tgt := 382) (off := 321) hx hb dX6_rewritten_61 ek (by decide) (by decide) rfl rfl ?_
          refine lv_aload_n hx hb dX6_rewritten_382 rfl (lv_at hl 1 rfl) ?_
          refine lv_aload hx hb dX6_rewritten_383 (lv_at hl 0 rfl) ?_
          refine ycV (n := 1) (e_6_chooseBranch r9 h) 6 5 (r := (RX6, TX6, 14)) rfl yG_6_145 yD_6_chooseBranch X hw rfl yGo_6 (Nat.le_trans (Nat.le_of_ble_eq_true rfl) hRf) (Nat.le_trans (Nat.le_of_ble_eq_true rfl) hRl) rfl hl.1 (Nat.le_of_ble_eq_true rfl) rfl dX6_rewritten_385 (fun u H locs h hw => ?_)
          refine lv_goto hx hb dX6_rewritten_388 (tgt := 399) rfl ?_
          refine k_iinc (k := 2) hx hb dX6_rewritten_399 hl rfl (by decide) rfl h (fun ls r81 h hl => ?_)
          have hl : lv_has ls 6 [(4, .int (jI (x4 + 1))), (5, .ref (ad 7 (v6 - 1).toNat)), (0, .ref (ad 0 5))] := hl
          refine lv_goto hx hb dX6_rewritten_402 (tgt := 20) rfl ?_
          exact hR20 _ _ H locs ls r81 hw (lv_sub hl [2, 0] rfl) h
        refine k_tabOut (tgt := 391) hx hb rv10 dX6_rewritten_61 (by omega) rfl ?_
        refine lv_aload_n hx hb dX6_rewritten_391 rfl (lv_at hl 1 rfl) ?_
        refine lv_aload_n hx hb dX6_rewritten_392 rfl (lv_at hl 1 rfl) ?_
        refine yg_6_20 X hw dX6_rewritten_393 h (fun v83 rv83 h => ?_)
        refine ycV (n := 1) (e_6_finish rv83 h) 6 5 (r := (RX6, TX6, 14)) rfl yG_6_96 yD_6_finish X hw rfl yGo_6 (Nat.le_trans (Nat.le_of_ble_eq_true rfl) hRf) (Nat.le_trans (Nat.le_of_ble_eq_true rfl) hRl) rfl hl.1 (Nat.le_of_ble_eq_true rfl) rfl dX6_rewritten_396 (fun u H locs h hw => ?_)
        refine k_iinc (k := 2) hx hb dX6_rewritten_399 hl rfl (by decide) rfl h (fun ls r85 h hl => ?_)
        have hl : lv_has ls 6 [(4, .int (jI (x4 + 1))), (5, .ref (ad 7 (v6 - 1).toNat)), (0, .ref (ad 0 5))] := hl
        refine lv_goto hx hb dX6_rewritten_402 (tgt := 20) rfl ?_
        exact hR20 _ _ H locs ls r85 hw (lv_sub hl [2, 0] rfl) h

def v_6_rewritten (a0 : Int) (a1 : Int) (a2 : Int) (Q : Int → iST → Prop) (u : iST) : Prop :=
  sw (iI u 23 0) (fun u => 
  sw (iI u 24 (-1)) (fun u => 
  v_6_ask a0 a1 a2 (fun u => 
  v_6_rewritten_20 Q 0 u) u))
set_option maxRecDepth 20000 in
set_option maxHeartbeats 4000000 in
theorem f_6_rewritten_s (X : yX RX6 p m c cX6_rewritten 6 s args D ca ad A) (hRf : 9 ≤ R.frames) (hRl : 278 ≤ R.locals) {Q : Int → iST → Prop} (hret : ∀ (v : Int) (u : iST) (H : Heap) (locs : List Loc) (ls : Array Slot) (pc : Nat), inR v → Q v u → yW D ca A ad s H locs u → decode cX6_rewritten pc = .ok (.ireturn, 1) → W p l e R s m args below meth c H locs 0 0 Qf (F0 m pc ls [.int (jI v)])) {a0 a1 a2 : Int} (ra0 : inR a0) (ra1 : inR a1) (ra2 : inR a2) (hw : yW D ca A ad s H locs u) (hl : lv_has ls 6 [(0, .ref (ad 0 5)), (1, .int (jI a0)), (2, .int (jI a1)), (3, .int (jI a2))]) (h : v_6_rewritten a0 a1 a2 Q u) : W p l e R s m args below meth c H locs 0 0 Qf (F0 m 0 ls []) := by
  have hx := X.1.1
  have hb := X.1.2.1
  unfold v_6_rewritten at h
  refine lv_aload_n hx hb dX6_rewritten_0 rfl (lv_at hl 0 rfl) ?_
  refine lv_iconst hx hb dX6_rewritten_1 (v := jI 0) rfl ?_
  refine yp_6_16 X hw (by decide) dX6_rewritten_2 h (fun H locs u hw h => ?_)
  refine lv_aload_n hx hb dX6_rewritten_5 rfl (lv_at hl 0 rfl) ?_
  refine lv_iconst hx hb dX6_rewritten_6 (v := jI (-1)) rfl ?_
  refine yp_6_20 X hw (by decide) dX6_rewritten_7 h (fun H locs u hw h => ?_)
  refine lv_aload_n hx hb dX6_rewritten_10 rfl (lv_at hl 0 rfl) ?_
  refine lv_iload_n hx hb dX6_rewritten_11 rfl (lv_at hl 1 rfl) ?_
  refine lv_iload_n hx hb dX6_rewritten_12 rfl (lv_at hl 2 rfl) ?_
  refine lv_iload_n hx hb dX6_rewritten_13 rfl (lv_at hl 3 rfl) ?_
  refine ycV (n := 3) (e_6_ask ra0 ra1 ra2 h) 6 5 (r := (RX6, TX6, 14)) rfl yG_6_72 yD_6_ask X hw rfl yGo_6 (Nat.le_trans (Nat.le_of_ble_eq_true rfl) hRf) (Nat.le_trans (Nat.le_of_ble_eq_true rfl) hRl) rfl hl.1 (Nat.le_of_ble_eq_true rfl) rfl dX6_rewritten_14 (fun u H locs h hw => ?_)
  refine lv_iconst hx hb dX6_rewritten_17 (v := jI 0) rfl ?_
  refine lv_istore hx hb dX6_rewritten_18 hl (by decide) rfl (fun ls hl => ?_)
  have hl : lv_has ls 6 [(4, .int (jI 0)), (0, .ref (ad 0 5)), (1, .int (jI a0)), (2, .int (jI a1)), (3, .int (jI a2))] := hl
  exact f_6_rewritten_20 X hRf hRl hret (by decide) hw (lv_sub hl [1, 0] rfl) h

end
theorem e_6_rewritten {l : Launch} {a0 : Int} {a1 : Int} {a2 : Int} (ra0 : inR a0) (ra1 : inR a1) (ra2 : inR a2) {Q : Int → iST → Prop} {u : iST} (h : v_6_rewritten a0 a1 a2 Q u) : yMI l yX6_rewritten (.code yX6_rewritten cX6_rewritten 6 (some .int) :: wsN) { frames := 9, cells := 0, slots := 0, locals := 278 } (fun ad => [.ref (ad 0 5), .int (jI a0), .int (jI a1), .int (jI a2)]) Q u := yMI_of (own := RX6) rfl (by decide +kernel) (fun _ => Nat.le_of_ble_eq_true rfl) (fun X hRf hRl hret hw hl => f_6_rewritten_s X hRf hRl hret ra0 ra1 ra2 hw hl h)

/-! ProofHouse$Prover.fillSplit -/
theorem dX4_fillSplit_0 : decode cX4_fillSplit 0 = .ok (.aload_n 1, 1) := by decide +kernel
theorem dX4_fillSplit_1 : decode cX4_fillSplit 1 = .ok (.invokevirtual 60, 3) := by decide +kernel
theorem dX4_fillSplit_4 : decode cX4_fillSplit 4 = .ok (.iconst 0, 1) := by decide +kernel
theorem dX4_fillSplit_5 : decode cX4_fillSplit 5 = .ok (.istore 6, 2) := by decide +kernel
theorem dX4_fillSplit_7 : decode cX4_fillSplit 7 = .ok (.iload 6, 2) := by decide +kernel
theorem dX4_fillSplit_9 : decode cX4_fillSplit 9 = .ok (.aload_n 2, 1) := by decide +kernel
theorem dX4_fillSplit_10 : decode cX4_fillSplit 10 = .ok (.getfield 84, 3) := by decide +kernel
theorem dX4_fillSplit_13 : decode cX4_fillSplit 13 = .ok (.if_icmp .ge 63, 3) := by decide +kernel
theorem dX4_fillSplit_16 : decode cX4_fillSplit 16 = .ok (.aload_n 0, 1) := by decide +kernel
theorem dX4_fillSplit_17 : decode cX4_fillSplit 17 = .ok (.getfield 42, 3) := by decide +kernel
theorem dX4_fillSplit_20 : decode cX4_fillSplit 20 = .ok (.getfield 63, 3) := by decide +kernel
theorem dX4_fillSplit_23 : decode cX4_fillSplit 23 = .ok (.ifCond .ne 53, 3) := by decide +kernel
theorem dX4_fillSplit_26 : decode cX4_fillSplit 26 = .ok (.iload 6, 2) := by decide +kernel
theorem dX4_fillSplit_28 : decode cX4_fillSplit 28 = .ok (.iload_n 3, 1) := by decide +kernel
theorem dX4_fillSplit_29 : decode cX4_fillSplit 29 = .ok (.if_icmp .ne 26, 3) := by decide +kernel
theorem dX4_fillSplit_32 : decode cX4_fillSplit 32 = .ok (.aload_n 0, 1) := by decide +kernel
theorem dX4_fillSplit_33 : decode cX4_fillSplit 33 = .ok (.getfield 46, 3) := by decide +kernel
theorem dX4_fillSplit_36 : decode cX4_fillSplit 36 = .ok (.aload_n 1, 1) := by decide +kernel
theorem dX4_fillSplit_37 : decode cX4_fillSplit 37 = .ok (.iload 4, 2) := by decide +kernel
theorem dX4_fillSplit_39 : decode cX4_fillSplit 39 = .ok (.invokevirtual 163, 3) := by decide +kernel
theorem dX4_fillSplit_42 : decode cX4_fillSplit 42 = .ok (.aload_n 0, 1) := by decide +kernel
theorem dX4_fillSplit_43 : decode cX4_fillSplit 43 = .ok (.getfield 46, 3) := by decide +kernel
theorem dX4_fillSplit_46 : decode cX4_fillSplit 46 = .ok (.aload_n 1, 1) := by decide +kernel
theorem dX4_fillSplit_47 : decode cX4_fillSplit 47 = .ok (.iload 5, 2) := by decide +kernel
theorem dX4_fillSplit_49 : decode cX4_fillSplit 49 = .ok (.invokevirtual 163, 3) := by decide +kernel
theorem dX4_fillSplit_52 : decode cX4_fillSplit 52 = .ok (.goto 18, 3) := by decide +kernel
theorem dX4_fillSplit_55 : decode cX4_fillSplit 55 = .ok (.aload_n 0, 1) := by decide +kernel
theorem dX4_fillSplit_56 : decode cX4_fillSplit 56 = .ok (.getfield 46, 3) := by decide +kernel
theorem dX4_fillSplit_59 : decode cX4_fillSplit 59 = .ok (.aload_n 1, 1) := by decide +kernel
theorem dX4_fillSplit_60 : decode cX4_fillSplit 60 = .ok (.aload_n 2, 1) := by decide +kernel
theorem dX4_fillSplit_61 : decode cX4_fillSplit 61 = .ok (.getfield 87, 3) := by decide +kernel
theorem dX4_fillSplit_64 : decode cX4_fillSplit 64 = .ok (.iload 6, 2) := by decide +kernel
theorem dX4_fillSplit_66 : decode cX4_fillSplit 66 = .ok (.iaload, 1) := by decide +kernel
theorem dX4_fillSplit_67 : decode cX4_fillSplit 67 = .ok (.invokevirtual 163, 3) := by decide +kernel
theorem dX4_fillSplit_70 : decode cX4_fillSplit 70 = .ok (.iinc 6 1, 3) := by decide +kernel
theorem dX4_fillSplit_73 : decode cX4_fillSplit 73 = .ok (.goto (-66), 3) := by decide +kernel
theorem dX4_fillSplit_76 : decode cX4_fillSplit 76 = .ok (.aload_n 1, 1) := by decide +kernel
theorem dX4_fillSplit_77 : decode cX4_fillSplit 77 = .ok (.aload_n 2, 1) := by decide +kernel
theorem dX4_fillSplit_78 : decode cX4_fillSplit 78 = .ok (.getfield 75, 3) := by decide +kernel
theorem dX4_fillSplit_81 : decode cX4_fillSplit 81 = .ok (.putfield 75, 3) := by decide +kernel
theorem dX4_fillSplit_84 : decode cX4_fillSplit 84 = .ok (.return_, 1) := by decide +kernel

section
variable {p : Program} {l : Launch} {e : Env} {R : Room} {s : State} {m : MethodId} {args : Array Value} {below : List Frame} {meth : Method} {c : Code} {H : Heap} {locs : List Loc} {Qf : State → Prop}
variable {ls : Array Slot} {D : va_G} {ca : Nat → ClassId} {A : Nat → Prop} {ad : Nat → Nat → Nat} {u : iST}
def v_4_fillSplit_76 (Q : iST → Prop) (x1 : Int) (x2 : Int) (u : iST) : Prop :=
  rd (u.2.1 48 x2) (fun v3 => 
  sw (iA u 48 x1 v3) (fun u => 
  Q u))
set_option maxRecDepth 20000 in
set_option maxHeartbeats 4000000 in
theorem f_4_fillSplit_76 (X : yX RX4 p m c cX4_fillSplit 7 s args D ca ad A) (hRf : 2 ≤ R.frames) (hRl : 46 ≤ R.locals) {Q : iST → Prop} (hret : ∀ (u : iST) (H : Heap) (locs : List Loc) (ls : Array Slot) (pc : Nat), Q u → yW D ca A ad s H locs u → decode cX4_fillSplit pc = .ok (.return_, 1) → W p l e R s m args below meth c H locs 0 0 Qf (F0 m pc ls [])) {x1 x2 : Int} (rx1 : (0 ≤ x1 ∧ x1 < 408)) (rx2 : (0 ≤ x2 ∧ x2 < 408)) (hw : yW D ca A ad s H locs u) (hl : lv_has ls 7 [(0, .ref (ad 0 3)), (1, .ref (ad 4 x1.toNat)), (2, .ref (ad 4 x2.toNat))]) (h : v_4_fillSplit_76 Q x1 x2 u) : W p l e R s m args below meth c H locs 0 0 Qf (F0 m 76 ls []) := by
  have hx := X.1.1
  have hb := X.1.2.1
  unfold v_4_fillSplit_76 at h
  refine lv_aload_n hx hb dX4_fillSplit_76 rfl (lv_at hl 1 rfl) ?_
  refine lv_aload_n hx hb dX4_fillSplit_77 rfl (lv_at hl 2 rfl) ?_
  refine yg_4_75 X hw dX4_fillSplit_78 rx2 h (fun v3 rv3 h => ?_)
  refine yp_4_75 X hw rv3 dX4_fillSplit_81 rx1 h (fun H locs u hw h => ?_)
  exact hret _ _ _ _ _ h hw dX4_fillSplit_84

def v_4_fillSplit_7b (R7 : Int → Int → Int → Int → Int → Int → iST → Prop) (Q : iST → Prop) (x1 : Int) (x2 : Int) (x3 : Int) (x4 : Int) (x5 : Int) (x6 : Int) (u : iST) : Prop :=
  rd (u.2.1 46 x2) (fun v2 => 
  br (v2 ≤ x6) (
    v_4_fillSplit_76 Q x1 x2 u) (
    rd (u.1 32) (fun v4 => 
    br (v4 ≠ 0) (
      v_4_fillSplit_76 Q x1 x2 u) (
      br (x6 ≠ x3) (
        bd x6 30 (rd (u.2.1 49 (30 * x2 + x6)) (fun v5 => 
        v_10_join x1 v5 (fun u => 
        ov (x6 + 1) (
        R7 x1 x2 x3 x4 x5 (x6 + 1) u)) u))) (
        v_10_join x1 x4 (fun u => 
        v_10_join x1 x5 (fun u => 
        ov (x6 + 1) (
        R7 x1 x2 x3 x4 x5 (x6 + 1) u)) u) u)))))
def v_4_fillSplit_7 (Q : iST → Prop) (x1 : Int) (x2 : Int) (x3 : Int) (x4 : Int) (x5 : Int) (x6 : Int) (u : iST) : Prop := ∀ R7 : Int → Int → Int → Int → Int → Int → iST → Prop, (∀ (x1 : Int) (x2 : Int) (x3 : Int) (x4 : Int) (x5 : Int) (x6 : Int) (u : iST), v_4_fillSplit_7b R7 Q x1 x2 x3 x4 x5 x6 u → R7 x1 x2 x3 x4 x5 x6 u) → R7 x1 x2 x3 x4 x5 x6 u
set_option maxRecDepth 20000 in
set_option maxHeartbeats 4000000 in
theorem f_4_fillSplit_7 (X : yX RX4 p m c cX4_fillSplit 7 s args D ca ad A) (hRf : 2 ≤ R.frames) (hRl : 46 ≤ R.locals) {Q : iST → Prop} (hret : ∀ (u : iST) (H : Heap) (locs : List Loc) (ls : Array Slot) (pc : Nat), Q u → yW D ca A ad s H locs u → decode cX4_fillSplit pc = .ok (.return_, 1) → W p l e R s m args below meth c H locs 0 0 Qf (F0 m pc ls [])) {x1 x2 x3 x4 x5 x6 : Int} (rx1 : (0 ≤ x1 ∧ x1 < 408)) (rx2 : (0 ≤ x2 ∧ x2 < 408)) (rx3 : inR x3) (rx4 : inR x4) (rx5 : inR x5) (rx6 : inR x6) (hw : yW D ca A ad s H locs u) (hl : lv_has ls 7 [(0, .ref (ad 0 3)), (1, .ref (ad 4 x1.toNat)), (2, .ref (ad 4 x2.toNat)), (3, .int (jI x3)), (4, .int (jI x4)), (5, .int (jI x5)), (6, .int (jI x6))]) (h : v_4_fillSplit_7 Q x1 x2 x3 x4 x5 x6 u) : W p l e R s m args below meth c H locs 0 0 Qf (F0 m 7 ls []) := by
  refine h (fun x1 x2 x3 x4 x5 x6 u => ∀ (H : Heap) (locs : List Loc) (ls : Array Slot), (0 ≤ x1 ∧ x1 < 408) → (0 ≤ x2 ∧ x2 < 408) → inR x3 → inR x4 → inR x5 → inR x6 → yW D ca A ad s H locs u → lv_has ls 7 [(0, .ref (ad 0 3)), (1, .ref (ad 4 x1.toNat)), (2, .ref (ad 4 x2.toNat)), (3, .int (jI x3)), (4, .int (jI x4)), (5, .int (jI x5)), (6, .int (jI x6))] → W p l e R s m args below meth c H locs 0 0 Qf (F0 m 7 ls [])) ?_ H locs ls rx1 rx2 rx3 rx4 rx5 rx6 hw hl
  clear h hl hw rx1 rx2 rx3 rx4 rx5 rx6
  intro x1 x2 x3 x4 x5 x6 u h H locs ls rx1 rx2 rx3 rx4 rx5 rx6 hw hl
  have hR7 : ∀ (x1 : Int) (x2 : Int) (x3 : Int) (x4 : Int) (x5 : Int) (x6 : Int) (u : iST) (H : Heap) (locs : List Loc) (ls : Array Slot), (0 ≤ x1 ∧ x1 < 408) → (0 ≤ x2 ∧ x2 < 408) → inR x3 → inR x4 → inR x5 → inR x6 → yW D ca A ad s H locs u → lv_has ls 7 [(0, .ref (ad 0 3)), (1, .ref (ad 4 x1.toNat)), (2, .ref (ad 4 x2.toNat)), (3, .int (jI x3)), (4, .int (jI x4)), (5, .int (jI x5)), (6, .int (jI x6))] → (fun (x1 : Int) (x2 : Int) (x3 : Int) (x4 : Int) (x5 : Int) (x6 : Int) u => ∀ (H : Heap) (locs : List Loc) (ls : Array Slot), (0 ≤ x1 ∧ x1 < 408) → (0 ≤ x2 ∧ x2 < 408) → inR x3 → inR x4 → inR x5 → inR x6 → yW D ca A ad s H locs u → lv_has ls 7 [(0, .ref (ad 0 3)), (1, .ref (ad 4 x1.toNat)), (2, .ref (ad 4 x2.toNat)), (3, .int (jI x3)), (4, .int (jI x4)), (5, .int (jI x5)), (6, .int (jI x6))] → W p l e R s m args below meth c H locs 0 0 Qf (F0 m 7 ls [])) x1 x2 x3 x4 x5 x6 u → W p l e R s m args below meth c H locs 0 0 Qf (F0 m 7 ls []) := fun x1 x2 x3 x4 x5 x6 u H locs ls rx1 rx2 rx3 rx4 rx5 rx6 hw hl h => h H locs ls rx1 rx2 rx3 rx4 rx5 rx6 hw hl
  have hx := X.1.1
  have hb := X.1.2.1
  unfold v_4_fillSplit_7b at h
  refine lv_iload hx hb dX4_fillSplit_7 (lv_at hl 6 rfl) ?_
  refine lv_aload_n hx hb dX4_fillSplit_9 rfl (lv_at hl 2 rfl) ?_
  refine yg_4_84 X hw dX4_fillSplit_10 rx2 h (fun v2 rv2 h => ?_)
  refine k_icmp_ge hx hb rx6 rv2 dX4_fillSplit_13 (tgt := 76) rfl h (fun h => ?_) (fun h => ?_)
  · exact f_4_fillSplit_76 X hRf hRl hret rx1 rx2 hw (lv_sub hl [0, 1, 2] rfl) h
  · refine lv_aload_n hx hb dX4_fillSplit_16 rfl (lv_at hl 0 rfl) ?_
    refine yg_4_42 X hw dX4_fillSplit_17 ?_
    refine yg_4_63 X hw dX4_fillSplit_20 h (fun v4 rv4 h => ?_)
    refine k_if_ne hx hb rv4 dX4_fillSplit_23 (tgt := 76) rfl h (fun h => ?_) (fun h => ?_)
    · exact f_4_fillSplit_76 X hRf hRl hret rx1 rx2 hw (lv_sub hl [0, 1, 2] rfl) h
    · refine lv_iload hx hb dX4_fillSplit_26 (lv_at hl 6 rfl) ?_
      refine lv_iload_n hx hb dX4_fillSplit_28 rfl (lv_at hl 3 rfl) ?_
      refine k_icmp_ne hx hb rx6 rx3 dX4_fillSplit_29 (tgt := 55) rfl h (fun h => ?_) (fun h => ?_)
      · refine lv_aload_n hx hb dX4_fillSplit_55 rfl (lv_at hl 0 rfl) ?_
        refine yg_4_46 X hw dX4_fillSplit_56 ?_
        refine lv_aload_n hx hb dX4_fillSplit_59 rfl (lv_at hl 1 rfl) ?_
        refine lv_aload_n hx hb dX4_fillSplit_60 rfl (lv_at hl 2 rfl) ?_
        refine yg_4_87 X hw dX4_fillSplit_61 rx2 ?_
        refine lv_iload hx hb dX4_fillSplit_64 (lv_at hl 6 rfl) ?_
        refine yfl_lits X hw rx2 rx6 dX4_fillSplit_66 h (fun v5 rv5 h => ?_)
        refine ycV (n := 2) (e_10_join rx1 rv5 h) 10 8 (r := (RX10, TX10, 16)) rfl yG_4_163 yD_10_join X hw rfl yGo_10 (Nat.le_trans (Nat.le_of_ble_eq_true rfl) hRf) (Nat.le_trans (Nat.le_of_ble_eq_true rfl) hRl) rfl hl.1 (Nat.le_of_ble_eq_true rfl) rfl dX4_fillSplit_67 (fun u H locs h hw => ?_)
        refine k_iinc (k := 6) hx hb dX4_fillSplit_70 hl rfl (by decide) rfl h (fun ls r7 h hl => ?_)
        have hl : lv_has ls 7 [(6, .int (jI (x6 + 1))), (0, .ref (ad 0 3)), (1, .ref (ad 4 x1.toNat)), (2, .ref (ad 4 x2.toNat)), (3, .int (jI x3)), (4, .int (jI x4)), (5, .int (jI x5))] := hl
        refine lv_goto hx hb dX4_fillSplit_73 (tgt := 7) rfl ?_
        exact hR7 _ _ _ _ _ _ _ H locs ls rx1 rx2 rx3 rx4 rx5 r7 hw (lv_sub hl [1, 2, 3, 4, 5, 6, 0] rfl) h
      · refine lv_aload_n hx hb dX4_fillSplit_32 rfl (lv_at hl 0 rfl) ?_
        refine yg_4_46 X hw dX4_fillSplit_33 ?_
        refine lv_aload_n hx hb dX4_fillSplit_36 rfl (lv_at hl 1 rfl) ?_
        refine lv_iload hx hb dX4_fillSplit_37 (lv_at hl 4 rfl) ?_
        refine ycV (n := 2) (e_10_join rx1 rx4 h) 10 8 (r := (RX10, TX10, 16)) rfl yG_4_163 yD_10_join X hw rfl yGo_10 (Nat.le_trans (Nat.le_of_ble_eq_true rfl) hRf) (Nat.le_trans (Nat.le_of_ble_eq_true rfl) hRl) rfl hl.1 (Nat.le_of_ble_eq_true rfl) rfl dX4_fillSplit_39 (fun u H locs h hw => ?_)
        refine lv_aload_n hx hb dX4_fillSplit_42 rfl (lv_at hl 0 rfl) ?_
        refine yg_4_46 X hw dX4_fillSplit_43 ?_
        refine lv_aload_n hx hb dX4_fillSplit_46 rfl (lv_at hl 1 rfl) ?_
        refine lv_iload hx hb dX4_fillSplit_47 (lv_at hl 5 rfl) ?_
        refine ycV (n := 2) (e_10_join rx1 rx5 h) 10 8 (r := (RX10, TX10, 16)) rfl yG_4_163 yD_10_join X hw rfl yGo_10 (Nat.le_trans (Nat.le_of_ble_eq_true rfl) hRf) (Nat.le_trans (Nat.le_of_ble_eq_true rfl) hRl) rfl hl.1 (Nat.le_of_ble_eq_true rfl) rfl dX4_fillSplit_49 (fun u H locs h hw => ?_)
        refine lv_goto hx hb dX4_fillSplit_52 (tgt := 70) rfl ?_
        refine k_iinc (k := 6) hx hb dX4_fillSplit_70 hl rfl (by decide) rfl h (fun ls r10 h hl => ?_)
        have hl : lv_has ls 7 [(6, .int (jI (x6 + 1))), (0, .ref (ad 0 3)), (1, .ref (ad 4 x1.toNat)), (2, .ref (ad 4 x2.toNat)), (3, .int (jI x3)), (4, .int (jI x4)), (5, .int (jI x5))] := hl
        refine lv_goto hx hb dX4_fillSplit_73 (tgt := 7) rfl ?_
        exact hR7 _ _ _ _ _ _ _ H locs ls rx1 rx2 rx3 rx4 rx5 r10 hw (lv_sub hl [1, 2, 3, 4, 5, 6, 0] rfl) h

def v_4_fillSplit (a0 : Int) (a1 : Int) (a2 : Int) (a3 : Int) (a4 : Int) (Q : iST → Prop) (u : iST) : Prop :=
  v_1_clear a0 (fun u => 
  v_4_fillSplit_7 Q a0 a1 a2 a3 a4 0 u) u
set_option maxRecDepth 20000 in
set_option maxHeartbeats 4000000 in
theorem f_4_fillSplit_s (X : yX RX4 p m c cX4_fillSplit 7 s args D ca ad A) (hRf : 2 ≤ R.frames) (hRl : 46 ≤ R.locals) {Q : iST → Prop} (hret : ∀ (u : iST) (H : Heap) (locs : List Loc) (ls : Array Slot) (pc : Nat), Q u → yW D ca A ad s H locs u → decode cX4_fillSplit pc = .ok (.return_, 1) → W p l e R s m args below meth c H locs 0 0 Qf (F0 m pc ls [])) {a0 a1 a2 a3 a4 : Int} (ra0 : (0 ≤ a0 ∧ a0 < 408)) (ra1 : (0 ≤ a1 ∧ a1 < 408)) (ra2 : inR a2) (ra3 : inR a3) (ra4 : inR a4) (hw : yW D ca A ad s H locs u) (hl : lv_has ls 7 [(0, .ref (ad 0 3)), (1, .ref (ad 4 a0.toNat)), (2, .ref (ad 4 a1.toNat)), (3, .int (jI a2)), (4, .int (jI a3)), (5, .int (jI a4))]) (h : v_4_fillSplit a0 a1 a2 a3 a4 Q u) : W p l e R s m args below meth c H locs 0 0 Qf (F0 m 0 ls []) := by
  have hx := X.1.1
  have hb := X.1.2.1
  unfold v_4_fillSplit at h
  refine lv_aload_n hx hb dX4_fillSplit_0 rfl (lv_at hl 1 rfl) ?_
  refine ycV (n := 0) (e_1_clear ra0 h) 1 (65 + a0.toNat) (r := (RX1, TX1, 4)) rfl yG_4_60 yD_1_clear X hw rfl (yGf_clause (toNat_lt ra0)) (Nat.le_trans (Nat.le_of_ble_eq_true rfl) hRf) (Nat.le_trans (Nat.le_of_ble_eq_true rfl) hRl) rfl hl.1 (Nat.le_of_ble_eq_true rfl) rfl dX4_fillSplit_1 (fun u H locs h hw => ?_)
  refine lv_iconst hx hb dX4_fillSplit_4 (v := jI 0) rfl ?_
  refine lv_istore hx hb dX4_fillSplit_5 hl (by decide) rfl (fun ls hl => ?_)
  have hl : lv_has ls 7 [(6, .int (jI 0)), (0, .ref (ad 0 3)), (1, .ref (ad 4 a0.toNat)), (2, .ref (ad 4 a1.toNat)), (3, .int (jI a2)), (4, .int (jI a3)), (5, .int (jI a4))] := hl
  exact f_4_fillSplit_7 X hRf hRl hret ra0 ra1 ra2 ra3 ra4 (by decide) hw (lv_sub hl [1, 2, 3, 4, 5, 6, 0] rfl) h

end
theorem e_4_fillSplit {l : Launch} {a0 : Int} {a1 : Int} {a2 : Int} {a3 : Int} {a4 : Int} (ra0 : (0 ≤ a0 ∧ a0 < 408)) (ra1 : (0 ≤ a1 ∧ a1 < 408)) (ra2 : inR a2) (ra3 : inR a3) (ra4 : inR a4) {Q : iST → Prop} {u : iST} (h : v_4_fillSplit a0 a1 a2 a3 a4 Q u) : yMV l yX4_fillSplit (.code yX4_fillSplit cX4_fillSplit 7 none :: wsN) { frames := 2, cells := 0, slots := 0, locals := 46 } (fun ad => [.ref (ad 0 3), .ref (ad 4 a0.toNat), .ref (ad 4 a1.toNat), .int (jI a2), .int (jI a3), .int (jI a4)]) Q u := yMV_of (own := RX4) rfl (by decide +kernel) (fun _ => Nat.le_of_ble_eq_true rfl) (fun X hRf hRl hret hw hl => f_4_fillSplit_s X hRf hRl hret ra0 ra1 ra2 ra3 ra4 hw hl h)

/-! ProofHouse$Prover.split -/
theorem dX4_split_0 : decode cX4_split 0 = .ok (.aload_n 0, 1) := by decide +kernel
theorem dX4_split_1 : decode cX4_split 1 = .ok (.getfield 42, 3) := by decide +kernel
theorem dX4_split_4 : decode cX4_split 4 = .ok (.iload_n 3, 1) := by decide +kernel
theorem dX4_split_5 : decode cX4_split 5 = .ok (.bipush 16, 2) := by decide +kernel
theorem dX4_split_7 : decode cX4_split 7 = .ok (.invokevirtual 114, 3) := by decide +kernel
theorem dX4_split_10 : decode cX4_split 10 = .ok (.istore 4, 2) := by decide +kernel
theorem dX4_split_12 : decode cX4_split 12 = .ok (.iload 4, 2) := by decide +kernel
theorem dX4_split_14 : decode cX4_split 14 = .ok (.ifCond .eq 15, 3) := by decide +kernel
theorem dX4_split_17 : decode cX4_split 17 = .ok (.aload_n 0, 1) := by decide +kernel
theorem dX4_split_18 : decode cX4_split 18 = .ok (.getfield 42, 3) := by decide +kernel
theorem dX4_split_21 : decode cX4_split 21 = .ok (.iload_n 3, 1) := by decide +kernel
theorem dX4_split_22 : decode cX4_split 22 = .ok (.iconst 1, 1) := by decide +kernel
theorem dX4_split_23 : decode cX4_split 23 = .ok (.invokevirtual 117, 3) := by decide +kernel
theorem dX4_split_26 : decode cX4_split 26 = .ok (.goto 4, 3) := by decide +kernel
theorem dX4_split_29 : decode cX4_split 29 = .ok (.iload_n 3, 1) := by decide +kernel
theorem dX4_split_30 : decode cX4_split 30 = .ok (.istore 5, 2) := by decide +kernel
theorem dX4_split_32 : decode cX4_split 32 = .ok (.aload_n 0, 1) := by decide +kernel
theorem dX4_split_33 : decode cX4_split 33 = .ok (.getfield 42, 3) := by decide +kernel
theorem dX4_split_36 : decode cX4_split 36 = .ok (.iload 5, 2) := by decide +kernel
theorem dX4_split_38 : decode cX4_split 38 = .ok (.iconst 1, 1) := by decide +kernel
theorem dX4_split_39 : decode cX4_split 39 = .ok (.invokevirtual 117, 3) := by decide +kernel
theorem dX4_split_42 : decode cX4_split 42 = .ok (.istore 6, 2) := by decide +kernel
theorem dX4_split_44 : decode cX4_split 44 = .ok (.aload_n 0, 1) := by decide +kernel
theorem dX4_split_45 : decode cX4_split 45 = .ok (.getfield 42, 3) := by decide +kernel
theorem dX4_split_48 : decode cX4_split 48 = .ok (.iload 5, 2) := by decide +kernel
theorem dX4_split_50 : decode cX4_split 50 = .ok (.iconst 2, 1) := by decide +kernel
theorem dX4_split_51 : decode cX4_split 51 = .ok (.invokevirtual 117, 3) := by decide +kernel
theorem dX4_split_54 : decode cX4_split 54 = .ok (.istore 7, 2) := by decide +kernel
theorem dX4_split_56 : decode cX4_split 56 = .ok (.aload_n 0, 1) := by decide +kernel
theorem dX4_split_57 : decode cX4_split 57 = .ok (.getfield 42, 3) := by decide +kernel
theorem dX4_split_60 : decode cX4_split 60 = .ok (.iload 5, 2) := by decide +kernel
theorem dX4_split_62 : decode cX4_split 62 = .ok (.iconst 3, 1) := by decide +kernel
theorem dX4_split_63 : decode cX4_split 63 = .ok (.invokevirtual 117, 3) := by decide +kernel
theorem dX4_split_66 : decode cX4_split 66 = .ok (.istore 8, 2) := by decide +kernel
theorem dX4_split_68 : decode cX4_split 68 = .ok (.aload_n 0, 1) := by decide +kernel
theorem dX4_split_69 : decode cX4_split 69 = .ok (.getfield 24, 3) := by decide +kernel
theorem dX4_split_72 : decode cX4_split 72 = .ok (.bipush 10, 2) := by decide +kernel
theorem dX4_split_74 : decode cX4_split 74 = .ok (.if_icmp .lt 12, 3) := by decide +kernel
theorem dX4_split_77 : decode cX4_split 77 = .ok (.aload_n 0, 1) := by decide +kernel
theorem dX4_split_78 : decode cX4_split 78 = .ok (.getfield 42, 3) := by decide +kernel
theorem dX4_split_81 : decode cX4_split 81 = .ok (.iconst 4, 1) := by decide +kernel
theorem dX4_split_82 : decode cX4_split 82 = .ok (.invokevirtual 54, 3) := by decide +kernel
theorem dX4_split_85 : decode cX4_split 85 = .ok (.return_, 1) := by decide +kernel
theorem dX4_split_86 : decode cX4_split 86 = .ok (.aload_n 0, 1) := by decide +kernel
theorem dX4_split_87 : decode cX4_split 87 = .ok (.aload_n 0, 1) := by decide +kernel
theorem dX4_split_88 : decode cX4_split 88 = .ok (.getfield 21, 3) := by decide +kernel
theorem dX4_split_91 : decode cX4_split 91 = .ok (.aload_n 0, 1) := by decide +kernel
theorem dX4_split_92 : decode cX4_split 92 = .ok (.getfield 24, 3) := by decide +kernel
theorem dX4_split_95 : decode cX4_split 95 = .ok (.aaload, 1) := by decide +kernel
theorem dX4_split_96 : decode cX4_split 96 = .ok (.aload_n 1, 1) := by decide +kernel
theorem dX4_split_97 : decode cX4_split 97 = .ok (.iload_n 2, 1) := by decide +kernel
theorem dX4_split_98 : decode cX4_split 98 = .ok (.aload_n 0, 1) := by decide +kernel
theorem dX4_split_99 : decode cX4_split 99 = .ok (.getfield 46, 3) := by decide +kernel
theorem dX4_split_102 : decode cX4_split 102 = .ok (.iload 6, 2) := by decide +kernel
theorem dX4_split_104 : decode cX4_split 104 = .ok (.invokevirtual 133, 3) := by decide +kernel
theorem dX4_split_107 : decode cX4_split 107 = .ok (.iload 4, 2) := by decide +kernel
theorem dX4_split_109 : decode cX4_split 109 = .ok (.ifCond .eq 15, 3) := by decide +kernel
theorem dX4_split_112 : decode cX4_split 112 = .ok (.aload_n 0, 1) := by decide +kernel
theorem dX4_split_113 : decode cX4_split 113 = .ok (.getfield 46, 3) := by decide +kernel
theorem dX4_split_116 : decode cX4_split 116 = .ok (.iload 7, 2) := by decide +kernel
theorem dX4_split_118 : decode cX4_split 118 = .ok (.invokevirtual 133, 3) := by decide +kernel
theorem dX4_split_121 : decode cX4_split 121 = .ok (.goto 5, 3) := by decide +kernel
theorem dX4_split_124 : decode cX4_split 124 = .ok (.iload 7, 2) := by decide +kernel
theorem dX4_split_126 : decode cX4_split 126 = .ok (.invokevirtual 159, 3) := by decide +kernel
theorem dX4_split_129 : decode cX4_split 129 = .ok (.aload_n 0, 1) := by decide +kernel
theorem dX4_split_130 : decode cX4_split 130 = .ok (.aload_n 0, 1) := by decide +kernel
theorem dX4_split_131 : decode cX4_split 131 = .ok (.getfield 34, 3) := by decide +kernel
theorem dX4_split_134 : decode cX4_split 134 = .ok (.aload_n 1, 1) := by decide +kernel
theorem dX4_split_135 : decode cX4_split 135 = .ok (.iload_n 2, 1) := by decide +kernel
theorem dX4_split_136 : decode cX4_split 136 = .ok (.iload 6, 2) := by decide +kernel
theorem dX4_split_138 : decode cX4_split 138 = .ok (.iload 4, 2) := by decide +kernel
theorem dX4_split_140 : decode cX4_split 140 = .ok (.ifCond .eq 15, 3) := by decide +kernel
theorem dX4_split_143 : decode cX4_split 143 = .ok (.aload_n 0, 1) := by decide +kernel
theorem dX4_split_144 : decode cX4_split 144 = .ok (.getfield 46, 3) := by decide +kernel
theorem dX4_split_147 : decode cX4_split 147 = .ok (.iload 8, 2) := by decide +kernel
theorem dX4_split_149 : decode cX4_split 149 = .ok (.invokevirtual 133, 3) := by decide +kernel
theorem dX4_split_152 : decode cX4_split 152 = .ok (.goto 5, 3) := by decide +kernel
theorem dX4_split_155 : decode cX4_split 155 = .ok (.iload 8, 2) := by decide +kernel
theorem dX4_split_157 : decode cX4_split 157 = .ok (.invokevirtual 159, 3) := by decide +kernel
theorem dX4_split_160 : decode cX4_split 160 = .ok (.aload_n 1, 1) := by decide +kernel
theorem dX4_split_161 : decode cX4_split 161 = .ok (.aload_n 0, 1) := by decide +kernel
theorem dX4_split_162 : decode cX4_split 162 = .ok (.getfield 34, 3) := by decide +kernel
theorem dX4_split_165 : decode cX4_split 165 = .ok (.invokevirtual 66, 3) := by decide +kernel
theorem dX4_split_168 : decode cX4_split 168 = .ok (.aload_n 0, 1) := by decide +kernel
theorem dX4_split_169 : decode cX4_split 169 = .ok (.dup, 1) := by decide +kernel
theorem dX4_split_170 : decode cX4_split 170 = .ok (.getfield 24, 3) := by decide +kernel
theorem dX4_split_173 : decode cX4_split 173 = .ok (.iconst 1, 1) := by decide +kernel
theorem dX4_split_174 : decode cX4_split 174 = .ok (.iadd, 1) := by decide +kernel
theorem dX4_split_175 : decode cX4_split 175 = .ok (.putfield 24, 3) := by decide +kernel
theorem dX4_split_178 : decode cX4_split 178 = .ok (.return_, 1) := by decide +kernel

section
variable {p : Program} {l : Launch} {e : Env} {R : Room} {s : State} {m : MethodId} {args : Array Value} {below : List Frame} {meth : Method} {c : Code} {H : Heap} {locs : List Loc} {Qf : State → Prop}
variable {ls : Array Slot} {D : va_G} {ca : Nat → ClassId} {A : Nat → Prop} {ad : Nat → Nat → Nat} {u : iST}
def v_4_split_157 (Q : iST → Prop) (x1 : Int) (y1 : Int) (y2 : Int) (y3 : Int) (y4 : Int) (y5 : Int) (u : iST) : Prop :=
  v_4_fillSplit y1 y2 y3 y4 y5 (fun u => 
  v_1_copy x1 150 (fun u => 
  rd (u.1 14) (fun v13 => 
  ov (v13 + 1) (
  sw (iI u 14 (v13 + 1)) (fun u => 
  Q u)))) u) u
set_option maxRecDepth 20000 in
set_option maxHeartbeats 4000000 in
theorem f_4_split_157 (X : yX RX4 p m c cX4_split 9 s args D ca ad A) (hRf : 3 ≤ R.frames) (hRl : 81 ≤ R.locals) {Q : iST → Prop} (hret : ∀ (u : iST) (H : Heap) (locs : List Loc) (ls : Array Slot) (pc : Nat), Q u → yW D ca A ad s H locs u → decode cX4_split pc = .ok (.return_, 1) → W p l e R s m args below meth c H locs 0 0 Qf (F0 m pc ls [])) {x1 y1 y2 y3 y4 y5 : Int} (rx1 : (0 ≤ x1 ∧ x1 < 408)) (ry1 : (0 ≤ y1 ∧ y1 < 408)) (ry2 : (0 ≤ y2 ∧ y2 < 408)) (ry3 : inR y3) (ry4 : inR y4) (ry5 : inR y5) (hw : yW D ca A ad s H locs u) (hl : lv_has ls 9 [(0, .ref (ad 0 3)), (1, .ref (ad 4 x1.toNat))]) (h : v_4_split_157 Q x1 y1 y2 y3 y4 y5 u) : W p l e R s m args below meth c H locs 0 0 Qf (F0 m 157 ls [.int (jI y5), .int (jI y4), .int (jI y3), .ref (ad 4 y2.toNat), .ref (ad 4 y1.toNat), .ref (ad 0 3)]) := by
  have hx := X.1.1
  have hb := X.1.2.1
  unfold v_4_split_157 at h
  refine ycV (n := 5) (e_4_fillSplit ry1 ry2 ry3 ry4 ry5 h) 4 3 (r := (RX4, TX4, 11)) rfl yG_4_159 yD_4_fillSplit X hw rfl yGo_4 (Nat.le_trans (Nat.le_of_ble_eq_true rfl) hRf) (Nat.le_trans (Nat.le_of_ble_eq_true rfl) hRl) rfl hl.1 (Nat.le_of_ble_eq_true rfl) rfl dX4_split_157 (fun u H locs h hw => ?_)
  refine lv_aload_n hx hb dX4_split_160 rfl (lv_at hl 1 rfl) ?_
  refine lv_aload_n hx hb dX4_split_161 rfl (lv_at hl 0 rfl) ?_
  refine yg_4_34 X hw dX4_split_162 ?_
  refine ycV (n := 1) (e_1_copy rx1 (by decide) h) 1 (65 + x1.toNat) (r := (RX1, TX1, 4)) rfl yG_4_66 yD_1_copy X hw rfl (yGf_clause (toNat_lt rx1)) (Nat.le_trans (Nat.le_of_ble_eq_true rfl) hRf) (Nat.le_trans (Nat.le_of_ble_eq_true rfl) hRl) rfl hl.1 (Nat.le_of_ble_eq_true rfl) rfl dX4_split_165 (fun u H locs h hw => ?_)
  refine lv_aload_n hx hb dX4_split_168 rfl (lv_at hl 0 rfl) ?_
  refine lv_dup hx hb dX4_split_169 rfl ?_
  refine yg_4_24 X hw dX4_split_170 h (fun v13 rv13 h => ?_)
  refine lv_iconst hx hb dX4_split_173 (v := jI 1) rfl ?_
  refine k_iadd hx hb dX4_split_174 h (fun r14 h => ?_)
  refine yp_4_24 X hw r14 dX4_split_175 h (fun H locs u hw h => ?_)
  exact hret _ _ _ _ _ h hw dX4_split_178

def v_4_split_126 (Q : iST → Prop) (x1 : Int) (x2 : Int) (x4 : Int) (x6 : Int) (x8 : Int) (y1 : Int) (y2 : Int) (y3 : Int) (y4 : Int) (y5 : Int) (u : iST) : Prop :=
  v_4_fillSplit y1 y2 y3 y4 y5 (fun u => 
  br (x4 = 0) (
    v_4_split_157 Q x1 150 x1 x2 x6 x8 u) (
    v_10_negated x8 (fun v15 u => 
    v_4_split_157 Q x1 150 x1 x2 x6 v15 u) u)) u
set_option maxRecDepth 20000 in
set_option maxHeartbeats 4000000 in
theorem f_4_split_126 (X : yX RX4 p m c cX4_split 9 s args D ca ad A) (hRf : 3 ≤ R.frames) (hRl : 81 ≤ R.locals) {Q : iST → Prop} (hret : ∀ (u : iST) (H : Heap) (locs : List Loc) (ls : Array Slot) (pc : Nat), Q u → yW D ca A ad s H locs u → decode cX4_split pc = .ok (.return_, 1) → W p l e R s m args below meth c H locs 0 0 Qf (F0 m pc ls [])) {x1 x2 x4 x6 x8 y1 y2 y3 y4 y5 : Int} (rx1 : (0 ≤ x1 ∧ x1 < 408)) (rx2 : inR x2) (rx4 : inR x4) (rx6 : inR x6) (rx8 : inR x8) (ry1 : (0 ≤ y1 ∧ y1 < 408)) (ry2 : (0 ≤ y2 ∧ y2 < 408)) (ry3 : inR y3) (ry4 : inR y4) (ry5 : inR y5) (hw : yW D ca A ad s H locs u) (hl : lv_has ls 9 [(0, .ref (ad 0 3)), (1, .ref (ad 4 x1.toNat)), (2, .int (jI x2)), (4, .int (jI x4)), (6, .int (jI x6)), (8, .int (jI x8))]) (h : v_4_split_126 Q x1 x2 x4 x6 x8 y1 y2 y3 y4 y5 u) : W p l e R s m args below meth c H locs 0 0 Qf (F0 m 126 ls [.int (jI y5), .int (jI y4), .int (jI y3), .ref (ad 4 y2.toNat), .ref (ad 4 y1.toNat), .ref (ad 0 3)]) := by
  have hx := X.1.1
  have hb := X.1.2.1
  unfold v_4_split_126 at h
  refine ycV (n := 5) (e_4_fillSplit ry1 ry2 ry3 ry4 ry5 h) 4 3 (r := (RX4, TX4, 11)) rfl yG_4_159 yD_4_fillSplit X hw rfl yGo_4 (Nat.le_trans (Nat.le_of_ble_eq_true rfl) hRf) (Nat.le_trans (Nat.le_of_ble_eq_true rfl) hRl) rfl hl.1 (Nat.le_of_ble_eq_true rfl) rfl dX4_split_126 (fun u H locs h hw => ?_)
  refine lv_aload_n hx hb dX4_split_129 rfl (lv_at hl 0 rfl) ?_
  refine lv_aload_n hx hb dX4_split_130 rfl (lv_at hl 0 rfl) ?_
  refine yg_4_34 X hw dX4_split_131 ?_
  refine lv_aload_n hx hb dX4_split_134 rfl (lv_at hl 1 rfl) ?_
  refine lv_iload_n hx hb dX4_split_135 rfl (lv_at hl 2 rfl) ?_
  refine lv_iload hx hb dX4_split_136 (lv_at hl 4 rfl) ?_
  refine lv_iload hx hb dX4_split_138 (lv_at hl 3 rfl) ?_
  refine k_if_eq hx hb rx4 dX4_split_140 (tgt := 155) rfl h (fun h => ?_) (fun h => ?_)
  · refine lv_iload hx hb dX4_split_155 (lv_at hl 5 rfl) ?_
    exact f_4_split_157 X hRf hRl hret rx1 (by decide) rx1 rx2 rx6 rx8 hw (lv_sub hl [0, 1] rfl) h
  · refine lv_aload_n hx hb dX4_split_143 rfl (lv_at hl 0 rfl) ?_
    refine yg_4_46 X hw dX4_split_144 ?_
    refine lv_iload hx hb dX4_split_147 (lv_at hl 5 rfl) ?_
    refine ycI (n := 1) (e_10_negated rx8 h) 10 8 (r := (RX10, TX10, 16)) rfl yG_4_133 yD_10_negated X hw rfl yGo_10 (Nat.le_trans (Nat.le_of_ble_eq_true rfl) hRf) (Nat.le_trans (Nat.le_of_ble_eq_true rfl) hRl) rfl hl.1 (Nat.le_of_ble_eq_true rfl) rfl dX4_split_149 (fun v15 u H locs rv15 h hw => ?_)
    refine lv_goto hx hb dX4_split_152 (tgt := 157) rfl ?_
    exact f_4_split_157 X hRf hRl hret rx1 (by decide) rx1 rx2 rx6 rv15 hw (lv_sub hl [0, 1] rfl) h

def v_4_split_30 (Q : iST → Prop) (x1 : Int) (x2 : Int) (x4 : Int) (y0 : Int) (u : iST) : Prop :=
  v_7_item y0 1 (fun v2 u => 
  v_7_item y0 2 (fun v3 u => 
  v_7_item y0 3 (fun v4 u => 
  rd (u.1 14) (fun v5 => 
  br (v5 < 10) (
    rd (u.1 14) (fun v6 => 
    bd v6 10 (
    v_10_negated v2 (fun v9 u => 
    br (x4 = 0) (
      v_4_split_126 Q x1 x2 x4 v2 v4 (120 + v6) x1 x2 v9 v3 u) (
      v_10_negated v3 (fun v16 u => 
      v_4_split_126 Q x1 x2 x4 v2 v4 (120 + v6) x1 x2 v9 v16 u) u)) u))) (
    v_7_blame 4 (fun u => 
    Q u) u))) u) u) u
set_option maxRecDepth 20000 in
set_option maxHeartbeats 4000000 in
theorem f_4_split_30 (X : yX RX4 p m c cX4_split 9 s args D ca ad A) (hRf : 3 ≤ R.frames) (hRl : 81 ≤ R.locals) {Q : iST → Prop} (hret : ∀ (u : iST) (H : Heap) (locs : List Loc) (ls : Array Slot) (pc : Nat), Q u → yW D ca A ad s H locs u → decode cX4_split pc = .ok (.return_, 1) → W p l e R s m args below meth c H locs 0 0 Qf (F0 m pc ls [])) {x1 x2 x4 y0 : Int} (rx1 : (0 ≤ x1 ∧ x1 < 408)) (rx2 : inR x2) (rx4 : inR x4) (ry0 : inR y0) (hw : yW D ca A ad s H locs u) (hl : lv_has ls 9 [(0, .ref (ad 0 3)), (1, .ref (ad 4 x1.toNat)), (2, .int (jI x2)), (4, .int (jI x4))]) (h : v_4_split_30 Q x1 x2 x4 y0 u) : W p l e R s m args below meth c H locs 0 0 Qf (F0 m 30 ls [.int (jI y0)]) := by
  have hx := X.1.1
  have hb := X.1.2.1
  unfold v_4_split_30 at h
  refine lv_istore hx hb dX4_split_30 hl (by decide) rfl (fun ls hl => ?_)
  have hl : lv_has ls 9 [(5, .int (jI y0)), (0, .ref (ad 0 3)), (1, .ref (ad 4 x1.toNat)), (2, .int (jI x2)), (4, .int (jI x4))] := hl
  refine lv_aload_n hx hb dX4_split_32 rfl (lv_at hl 1 rfl) ?_
  refine yg_4_42 X hw dX4_split_33 ?_
  refine lv_iload hx hb dX4_split_36 (lv_at hl 0 rfl) ?_
  refine lv_iconst hx hb dX4_split_38 (v := jI 1) rfl ?_
  refine ycI (n := 2) (e_7_item ry0 (by decide) h) 7 6 (r := (RX7, TX7, 9)) rfl yG_4_117 yD_7_item X hw rfl yGo_7 (Nat.le_trans (Nat.le_of_ble_eq_true rfl) hRf) (Nat.le_trans (Nat.le_of_ble_eq_true rfl) hRl) rfl hl.1 (Nat.le_of_ble_eq_true rfl) rfl dX4_split_39 (fun v2 u H locs rv2 h hw => ?_)
  refine lv_istore hx hb dX4_split_42 hl (by decide) rfl (fun ls hl => ?_)
  have hl : lv_has ls 9 [(6, .int (jI v2)), (5, .int (jI y0)), (0, .ref (ad 0 3)), (1, .ref (ad 4 x1.toNat)), (2, .int (jI x2)), (4, .int (jI x4))] := hl
  refine lv_aload_n hx hb dX4_split_44 rfl (lv_at hl 2 rfl) ?_
  refine yg_4_42 X hw dX4_split_45 ?_
  refine lv_iload hx hb dX4_split_48 (lv_at hl 1 rfl) ?_
  refine lv_iconst hx hb dX4_split_50 (v := jI 2) rfl ?_
  refine ycI (n := 2) (e_7_item ry0 (by decide) h) 7 6 (r := (RX7, TX7, 9)) rfl yG_4_117 yD_7_item X hw rfl yGo_7 (Nat.le_trans (Nat.le_of_ble_eq_true rfl) hRf) (Nat.le_trans (Nat.le_of_ble_eq_true rfl) hRl) rfl hl.1 (Nat.le_of_ble_eq_true rfl) rfl dX4_split_51 (fun v3 u H locs rv3 h hw => ?_)
  refine lv_istore hx hb dX4_split_54 hl (by decide) rfl (fun ls hl => ?_)
  have hl : lv_has ls 9 [(7, .int (jI v3)), (6, .int (jI v2)), (5, .int (jI y0)), (0, .ref (ad 0 3)), (1, .ref (ad 4 x1.toNat)), (2, .int (jI x2)), (4, .int (jI x4))] := hl
  refine lv_aload_n hx hb dX4_split_56 rfl (lv_at hl 3 rfl) ?_
  refine yg_4_42 X hw dX4_split_57 ?_
  refine lv_iload hx hb dX4_split_60 (lv_at hl 2 rfl) ?_
  refine lv_iconst hx hb dX4_split_62 (v := jI 3) rfl ?_
  refine ycI (n := 2) (e_7_item ry0 (by decide) h) 7 6 (r := (RX7, TX7, 9)) rfl yG_4_117 yD_7_item X hw rfl yGo_7 (Nat.le_trans (Nat.le_of_ble_eq_true rfl) hRf) (Nat.le_trans (Nat.le_of_ble_eq_true rfl) hRl) rfl hl.1 (Nat.le_of_ble_eq_true rfl) rfl dX4_split_63 (fun v4 u H locs rv4 h hw => ?_)
  refine lv_istore hx hb dX4_split_66 hl (by decide) rfl (fun ls hl => ?_)
  have hl : lv_has ls 9 [(8, .int (jI v4)), (7, .int (jI v3)), (6, .int (jI v2)), (5, .int (jI y0)), (0, .ref (ad 0 3)), (1, .ref (ad 4 x1.toNat)), (2, .int (jI x2)), (4, .int (jI x4))] := hl
  refine lv_aload_n hx hb dX4_split_68 rfl (lv_at hl 4 rfl) ?_
  refine yg_4_24 X hw dX4_split_69 h (fun v5 rv5 h => ?_)
  refine lv_bipush hx hb dX4_split_72 (v := jI 10) rfl ?_
  refine k_icmp_lt hx hb rv5 (by decide) dX4_split_74 (tgt := 86) rfl h (fun h => ?_) (fun h => ?_)
  · refine lv_aload_n hx hb dX4_split_86 rfl (lv_at hl 4 rfl) ?_
    refine lv_aload_n hx hb dX4_split_87 rfl (lv_at hl 4 rfl) ?_
    refine yg_4_21 X hw dX4_split_88 ?_
    refine lv_aload_n hx hb dX4_split_91 rfl (lv_at hl 4 rfl) ?_
    refine yg_4_24 X hw dX4_split_92 h (fun v6 rv6 h => ?_)
    have q7 := h
    have r8 : (0 ≤ (120 + v6) ∧ (120 + v6) < 408) := ⟨by have := q7.1; omega, by have := q7.2.1; omega⟩
    refine yx_5 X hw rv6 dX4_split_95 h (fun h => ?_)
    refine lv_aload_n hx hb dX4_split_96 rfl (lv_at hl 5 rfl) ?_
    refine lv_iload_n hx hb dX4_split_97 rfl (lv_at hl 6 rfl) ?_
    refine lv_aload_n hx hb dX4_split_98 rfl (lv_at hl 4 rfl) ?_
    refine yg_4_46 X hw dX4_split_99 ?_
    refine lv_iload hx hb dX4_split_102 (lv_at hl 2 rfl) ?_
    refine ycI (n := 1) (e_10_negated rv2 h) 10 8 (r := (RX10, TX10, 16)) rfl yG_4_133 yD_10_negated X hw rfl yGo_10 (Nat.le_trans (Nat.le_of_ble_eq_true rfl) hRf) (Nat.le_trans (Nat.le_of_ble_eq_true rfl) hRl) rfl hl.1 (Nat.le_of_ble_eq_true rfl) rfl dX4_split_104 (fun v9 u H locs rv9 h hw => ?_)
    refine lv_iload hx hb dX4_split_107 (lv_at hl 7 rfl) ?_
    refine k_if_eq hx hb rx4 dX4_split_109 (tgt := 124) rfl h (fun h => ?_) (fun h => ?_)
    · refine lv_iload hx hb dX4_split_124 (lv_at hl 1 rfl) ?_
      exact f_4_split_126 X hRf hRl hret rx1 rx2 rx4 rv2 rv4 r8 rx1 rx2 rv9 rv3 hw (lv_sub hl [4, 5, 6, 7, 2, 0] rfl) h
    · refine lv_aload_n hx hb dX4_split_112 rfl (lv_at hl 4 rfl) ?_
      refine yg_4_46 X hw dX4_split_113 ?_
      refine lv_iload hx hb dX4_split_116 (lv_at hl 1 rfl) ?_
      refine ycI (n := 1) (e_10_negated rv3 h) 10 8 (r := (RX10, TX10, 16)) rfl yG_4_133 yD_10_negated X hw rfl yGo_10 (Nat.le_trans (Nat.le_of_ble_eq_true rfl) hRf) (Nat.le_trans (Nat.le_of_ble_eq_true rfl) hRl) rfl hl.1 (Nat.le_of_ble_eq_true rfl) rfl dX4_split_118 (fun v16 u H locs rv16 h hw => ?_)
      refine lv_goto hx hb dX4_split_121 (tgt := 126) rfl ?_
      exact f_4_split_126 X hRf hRl hret rx1 rx2 rx4 rv2 rv4 r8 rx1 rx2 rv9 rv16 hw (lv_sub hl [4, 5, 6, 7, 2, 0] rfl) h
  · refine lv_aload_n hx hb dX4_split_77 rfl (lv_at hl 4 rfl) ?_
    refine yg_4_42 X hw dX4_split_78 ?_
    refine lv_iconst hx hb dX4_split_81 (v := jI 4) rfl ?_
    refine ycV (n := 1) (e_7_blame (by decide) h) 7 6 (r := (RX7, TX7, 9)) rfl yG_4_54 yD_7_blame X hw rfl yGo_7 (Nat.le_trans (Nat.le_of_ble_eq_true rfl) hRf) (Nat.le_trans (Nat.le_of_ble_eq_true rfl) hRl) rfl hl.1 (Nat.le_of_ble_eq_true rfl) rfl dX4_split_82 (fun u H locs h hw => ?_)
    exact hret _ _ _ _ _ h hw dX4_split_85

def v_4_split (a0 : Int) (a1 : Int) (a2 : Int) (Q : iST → Prop) (u : iST) : Prop :=
  v_7_isCallOf a2 16 (fun v1 u => 
  br (v1 = 0) (
    v_4_split_30 Q a0 a1 v1 a2 u) (
    v_7_item a2 1 (fun v18 u => 
    v_4_split_30 Q a0 a1 v1 v18 u) u)) u
set_option maxRecDepth 20000 in
set_option maxHeartbeats 4000000 in
theorem f_4_split_s (X : yX RX4 p m c cX4_split 9 s args D ca ad A) (hRf : 3 ≤ R.frames) (hRl : 81 ≤ R.locals) {Q : iST → Prop} (hret : ∀ (u : iST) (H : Heap) (locs : List Loc) (ls : Array Slot) (pc : Nat), Q u → yW D ca A ad s H locs u → decode cX4_split pc = .ok (.return_, 1) → W p l e R s m args below meth c H locs 0 0 Qf (F0 m pc ls [])) {a0 a1 a2 : Int} (ra0 : (0 ≤ a0 ∧ a0 < 408)) (ra1 : inR a1) (ra2 : inR a2) (hw : yW D ca A ad s H locs u) (hl : lv_has ls 9 [(0, .ref (ad 0 3)), (1, .ref (ad 4 a0.toNat)), (2, .int (jI a1)), (3, .int (jI a2))]) (h : v_4_split a0 a1 a2 Q u) : W p l e R s m args below meth c H locs 0 0 Qf (F0 m 0 ls []) := by
  have hx := X.1.1
  have hb := X.1.2.1
  unfold v_4_split at h
  refine lv_aload_n hx hb dX4_split_0 rfl (lv_at hl 0 rfl) ?_
  refine yg_4_42 X hw dX4_split_1 ?_
  refine lv_iload_n hx hb dX4_split_4 rfl (lv_at hl 3 rfl) ?_
  refine lv_bipush hx hb dX4_split_5 (v := jI 16) rfl ?_
  refine ycI (n := 2) (e_7_isCallOf ra2 (by decide) h) 7 6 (r := (RX7, TX7, 9)) rfl yG_4_114 yD_7_isCallOf X hw rfl yGo_7 (Nat.le_trans (Nat.le_of_ble_eq_true rfl) hRf) (Nat.le_trans (Nat.le_of_ble_eq_true rfl) hRl) rfl hl.1 (Nat.le_of_ble_eq_true rfl) rfl dX4_split_7 (fun v1 u H locs rv1 h hw => ?_)
  refine lv_istore hx hb dX4_split_10 hl (by decide) rfl (fun ls hl => ?_)
  have hl : lv_has ls 9 [(4, .int (jI v1)), (0, .ref (ad 0 3)), (1, .ref (ad 4 a0.toNat)), (2, .int (jI a1)), (3, .int (jI a2))] := hl
  refine lv_iload hx hb dX4_split_12 (lv_at hl 0 rfl) ?_
  refine k_if_eq hx hb rv1 dX4_split_14 (tgt := 29) rfl h (fun h => ?_) (fun h => ?_)
  · refine lv_iload_n hx hb dX4_split_29 rfl (lv_at hl 4 rfl) ?_
    exact f_4_split_30 X hRf hRl hret ra0 ra1 rv1 ra2 hw (lv_sub hl [1, 2, 3, 0] rfl) h
  · refine lv_aload_n hx hb dX4_split_17 rfl (lv_at hl 1 rfl) ?_
    refine yg_4_42 X hw dX4_split_18 ?_
    refine lv_iload_n hx hb dX4_split_21 rfl (lv_at hl 4 rfl) ?_
    refine lv_iconst hx hb dX4_split_22 (v := jI 1) rfl ?_
    refine ycI (n := 2) (e_7_item ra2 (by decide) h) 7 6 (r := (RX7, TX7, 9)) rfl yG_4_117 yD_7_item X hw rfl yGo_7 (Nat.le_trans (Nat.le_of_ble_eq_true rfl) hRf) (Nat.le_trans (Nat.le_of_ble_eq_true rfl) hRl) rfl hl.1 (Nat.le_of_ble_eq_true rfl) rfl dX4_split_23 (fun v18 u H locs rv18 h hw => ?_)
    refine lv_goto hx hb dX4_split_26 (tgt := 30) rfl ?_
    exact f_4_split_30 X hRf hRl hret ra0 ra1 rv1 rv18 hw (lv_sub hl [1, 2, 3, 0] rfl) h

end
theorem e_4_split {l : Launch} {a0 : Int} {a1 : Int} {a2 : Int} (ra0 : (0 ≤ a0 ∧ a0 < 408)) (ra1 : inR a1) (ra2 : inR a2) {Q : iST → Prop} {u : iST} (h : v_4_split a0 a1 a2 Q u) : yMV l yX4_split (.code yX4_split cX4_split 9 none :: wsN) { frames := 3, cells := 0, slots := 0, locals := 81 } (fun ad => [.ref (ad 0 3), .ref (ad 4 a0.toNat), .int (jI a1), .int (jI a2)]) Q u := yMV_of (own := RX4) rfl (by decide +kernel) (fun _ => Nat.le_of_ble_eq_true rfl) (fun X hRf hRl hret hw hl => f_4_split_s X hRf hRl hret ra0 ra1 ra2 hw hl h)
