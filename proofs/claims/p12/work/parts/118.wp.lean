/-! feed -/
theorem dX12_feed_0 : decode cX12_feed 0 = .ok (.iconst 0, 1) := by decide +kernel
theorem dX12_feed_1 : decode cX12_feed 1 = .ok (.istore 6, 2) := by decide +kernel
theorem dX12_feed_3 : decode cX12_feed 3 = .ok (.iload 6, 2) := by decide +kernel
theorem dX12_feed_5 : decode cX12_feed 5 = .ok (.iconst 4, 1) := by decide +kernel
theorem dX12_feed_6 : decode cX12_feed 6 = .ok (.if_icmp .ge 127, 3) := by decide +kernel
theorem dX12_feed_9 : decode cX12_feed 9 = .ok (.aload_n 0, 1) := by decide +kernel
theorem dX12_feed_10 : decode cX12_feed 10 = .ok (.getfield 41, 3) := by decide +kernel
theorem dX12_feed_13 : decode cX12_feed 13 = .ok (.iload 6, 2) := by decide +kernel
theorem dX12_feed_15 : decode cX12_feed 15 = .ok (.iload_n 1, 1) := by decide +kernel
theorem dX12_feed_16 : decode cX12_feed 16 = .ok (.bipush 24, 2) := by decide +kernel
theorem dX12_feed_18 : decode cX12_feed 18 = .ok (.bipush 8, 2) := by decide +kernel
theorem dX12_feed_20 : decode cX12_feed 20 = .ok (.iload 6, 2) := by decide +kernel
theorem dX12_feed_22 : decode cX12_feed 22 = .ok (.imul, 1) := by decide +kernel
theorem dX12_feed_23 : decode cX12_feed 23 = .ok (.isub, 1) := by decide +kernel
theorem dX12_feed_24 : decode cX12_feed 24 = .ok (.ishr, 1) := by decide +kernel
theorem dX12_feed_25 : decode cX12_feed 25 = .ok (.sipush 255, 3) := by decide +kernel
theorem dX12_feed_28 : decode cX12_feed 28 = .ok (.iand, 1) := by decide +kernel
theorem dX12_feed_29 : decode cX12_feed 29 = .ok (.iastore, 1) := by decide +kernel
theorem dX12_feed_30 : decode cX12_feed 30 = .ok (.aload_n 0, 1) := by decide +kernel
theorem dX12_feed_31 : decode cX12_feed 31 = .ok (.getfield 41, 3) := by decide +kernel
theorem dX12_feed_34 : decode cX12_feed 34 = .ok (.iconst 4, 1) := by decide +kernel
theorem dX12_feed_35 : decode cX12_feed 35 = .ok (.iload 6, 2) := by decide +kernel
theorem dX12_feed_37 : decode cX12_feed 37 = .ok (.iadd, 1) := by decide +kernel
theorem dX12_feed_38 : decode cX12_feed 38 = .ok (.iload_n 2, 1) := by decide +kernel
theorem dX12_feed_39 : decode cX12_feed 39 = .ok (.bipush 24, 2) := by decide +kernel
theorem dX12_feed_41 : decode cX12_feed 41 = .ok (.bipush 8, 2) := by decide +kernel
theorem dX12_feed_43 : decode cX12_feed 43 = .ok (.iload 6, 2) := by decide +kernel
theorem dX12_feed_45 : decode cX12_feed 45 = .ok (.imul, 1) := by decide +kernel
theorem dX12_feed_46 : decode cX12_feed 46 = .ok (.isub, 1) := by decide +kernel
theorem dX12_feed_47 : decode cX12_feed 47 = .ok (.ishr, 1) := by decide +kernel
theorem dX12_feed_48 : decode cX12_feed 48 = .ok (.sipush 255, 3) := by decide +kernel
theorem dX12_feed_51 : decode cX12_feed 51 = .ok (.iand, 1) := by decide +kernel
theorem dX12_feed_52 : decode cX12_feed 52 = .ok (.iastore, 1) := by decide +kernel
theorem dX12_feed_53 : decode cX12_feed 53 = .ok (.aload_n 0, 1) := by decide +kernel
theorem dX12_feed_54 : decode cX12_feed 54 = .ok (.getfield 41, 3) := by decide +kernel
theorem dX12_feed_57 : decode cX12_feed 57 = .ok (.bipush 8, 2) := by decide +kernel
theorem dX12_feed_59 : decode cX12_feed 59 = .ok (.iload 6, 2) := by decide +kernel
theorem dX12_feed_61 : decode cX12_feed 61 = .ok (.iadd, 1) := by decide +kernel
theorem dX12_feed_62 : decode cX12_feed 62 = .ok (.iload_n 3, 1) := by decide +kernel
theorem dX12_feed_63 : decode cX12_feed 63 = .ok (.bipush 24, 2) := by decide +kernel
theorem dX12_feed_65 : decode cX12_feed 65 = .ok (.bipush 8, 2) := by decide +kernel
theorem dX12_feed_67 : decode cX12_feed 67 = .ok (.iload 6, 2) := by decide +kernel
theorem dX12_feed_69 : decode cX12_feed 69 = .ok (.imul, 1) := by decide +kernel
theorem dX12_feed_70 : decode cX12_feed 70 = .ok (.isub, 1) := by decide +kernel
theorem dX12_feed_71 : decode cX12_feed 71 = .ok (.ishr, 1) := by decide +kernel
theorem dX12_feed_72 : decode cX12_feed 72 = .ok (.sipush 255, 3) := by decide +kernel
theorem dX12_feed_75 : decode cX12_feed 75 = .ok (.iand, 1) := by decide +kernel
theorem dX12_feed_76 : decode cX12_feed 76 = .ok (.iastore, 1) := by decide +kernel
theorem dX12_feed_77 : decode cX12_feed 77 = .ok (.aload_n 0, 1) := by decide +kernel
theorem dX12_feed_78 : decode cX12_feed 78 = .ok (.getfield 41, 3) := by decide +kernel
theorem dX12_feed_81 : decode cX12_feed 81 = .ok (.bipush 12, 2) := by decide +kernel
theorem dX12_feed_83 : decode cX12_feed 83 = .ok (.iload 6, 2) := by decide +kernel
theorem dX12_feed_85 : decode cX12_feed 85 = .ok (.iadd, 1) := by decide +kernel
theorem dX12_feed_86 : decode cX12_feed 86 = .ok (.iload 4, 2) := by decide +kernel
theorem dX12_feed_88 : decode cX12_feed 88 = .ok (.bipush 24, 2) := by decide +kernel
theorem dX12_feed_90 : decode cX12_feed 90 = .ok (.bipush 8, 2) := by decide +kernel
theorem dX12_feed_92 : decode cX12_feed 92 = .ok (.iload 6, 2) := by decide +kernel
theorem dX12_feed_94 : decode cX12_feed 94 = .ok (.imul, 1) := by decide +kernel
theorem dX12_feed_95 : decode cX12_feed 95 = .ok (.isub, 1) := by decide +kernel
theorem dX12_feed_96 : decode cX12_feed 96 = .ok (.ishr, 1) := by decide +kernel
theorem dX12_feed_97 : decode cX12_feed 97 = .ok (.sipush 255, 3) := by decide +kernel
theorem dX12_feed_100 : decode cX12_feed 100 = .ok (.iand, 1) := by decide +kernel
theorem dX12_feed_101 : decode cX12_feed 101 = .ok (.iastore, 1) := by decide +kernel
theorem dX12_feed_102 : decode cX12_feed 102 = .ok (.aload_n 0, 1) := by decide +kernel
theorem dX12_feed_103 : decode cX12_feed 103 = .ok (.getfield 41, 3) := by decide +kernel
theorem dX12_feed_106 : decode cX12_feed 106 = .ok (.bipush 16, 2) := by decide +kernel
theorem dX12_feed_108 : decode cX12_feed 108 = .ok (.iload 6, 2) := by decide +kernel
theorem dX12_feed_110 : decode cX12_feed 110 = .ok (.iadd, 1) := by decide +kernel
theorem dX12_feed_111 : decode cX12_feed 111 = .ok (.iload 5, 2) := by decide +kernel
theorem dX12_feed_113 : decode cX12_feed 113 = .ok (.bipush 24, 2) := by decide +kernel
theorem dX12_feed_115 : decode cX12_feed 115 = .ok (.bipush 8, 2) := by decide +kernel
theorem dX12_feed_117 : decode cX12_feed 117 = .ok (.iload 6, 2) := by decide +kernel
theorem dX12_feed_119 : decode cX12_feed 119 = .ok (.imul, 1) := by decide +kernel
theorem dX12_feed_120 : decode cX12_feed 120 = .ok (.isub, 1) := by decide +kernel
theorem dX12_feed_121 : decode cX12_feed 121 = .ok (.ishr, 1) := by decide +kernel
theorem dX12_feed_122 : decode cX12_feed 122 = .ok (.sipush 255, 3) := by decide +kernel
theorem dX12_feed_125 : decode cX12_feed 125 = .ok (.iand, 1) := by decide +kernel
theorem dX12_feed_126 : decode cX12_feed 126 = .ok (.iastore, 1) := by decide +kernel
theorem dX12_feed_127 : decode cX12_feed 127 = .ok (.iinc 6 1, 3) := by decide +kernel
theorem dX12_feed_130 : decode cX12_feed 130 = .ok (.goto (-127), 3) := by decide +kernel
theorem dX12_feed_133 : decode cX12_feed 133 = .ok (.return_, 1) := by decide +kernel

section
variable {p : Program} {l : Launch} {e : Env} {R : Room} {s : State} {m : MethodId} {args : Array Value} {below : List Frame} {meth : Method} {c : Code} {H : Heap} {locs : List Loc} {Qf : State → Prop}
variable {ls : Array Slot} {D : va_G} {ca : Nat → ClassId} {A : Nat → Prop} {h0 : Nat} {ad : Nat → Nat} {H0 : Heap} {u : iST}
def w_feed_3b (R3 : Int → Int → Int → Int → Int → Int → iST → Prop) (Q : iST → Prop) (x1 : Int) (x2 : Int) (x3 : Int) (x4 : Int) (x5 : Int) (x6 : Int) (u : iST) : Prop :=
  br (4 ≤ x6) (
    Q u) (
    ov (8 * x6) (
    ov (24 - (8 * x6)) (
    rd (wshr x1 (24 - (8 * x6))) (fun v3 => 
    rd (wand v3 255) (fun v4 => 
    bd x6 20 (sw (iA u 12 x6 v4) (fun u => 
    ov (4 + x6) (
    ov (8 * x6) (
    ov (24 - (8 * x6)) (
    rd (wshr x2 (24 - (8 * x6))) (fun v8 => 
    rd (wand v8 255) (fun v9 => 
    bd (4 + x6) 20 (sw (iA u 12 (4 + x6) v9) (fun u => 
    ov (8 + x6) (
    ov (8 * x6) (
    ov (24 - (8 * x6)) (
    rd (wshr x3 (24 - (8 * x6))) (fun v13 => 
    rd (wand v13 255) (fun v14 => 
    bd (8 + x6) 20 (sw (iA u 12 (8 + x6) v14) (fun u => 
    ov (12 + x6) (
    ov (8 * x6) (
    ov (24 - (8 * x6)) (
    rd (wshr x4 (24 - (8 * x6))) (fun v18 => 
    rd (wand v18 255) (fun v19 => 
    bd (12 + x6) 20 (sw (iA u 12 (12 + x6) v19) (fun u => 
    ov (16 + x6) (
    ov (8 * x6) (
    ov (24 - (8 * x6)) (
    rd (wshr x5 (24 - (8 * x6))) (fun v23 => 
    rd (wand v23 255) (fun v24 => 
    bd (16 + x6) 20 (sw (iA u 12 (16 + x6) v24) (fun u => 
    ov (x6 + 1) (
    R3 x1 x2 x3 x4 x5 (x6 + 1) u))))))))))))))))))))))))))))))))))))
def w_feed_3 (Q : iST → Prop) (x1 : Int) (x2 : Int) (x3 : Int) (x4 : Int) (x5 : Int) (x6 : Int) (u : iST) : Prop := ∀ R3 : Int → Int → Int → Int → Int → Int → iST → Prop, (∀ (x1 : Int) (x2 : Int) (x3 : Int) (x4 : Int) (x5 : Int) (x6 : Int) (u : iST), w_feed_3b R3 Q x1 x2 x3 x4 x5 x6 u → R3 x1 x2 x3 x4 x5 x6 u) → R3 x1 x2 x3 x4 x5 x6 u
set_option maxRecDepth 20000 in
set_option maxHeartbeats 4000000 in
theorem b_feed_3 (X : kX p m c cX12_feed 7 s args D ca) (hRf : 0 ≤ R.frames) (hRl : 0 ≤ R.locals) {Q : iST → Prop} (hret : ∀ (u : iST) (H : Heap) (locs : List Loc) (ls : Array Slot) (pc : Nat), Q u → kW D ca A h0 ad H0 H locs u → decode cX12_feed pc = .ok (.return_, 1) → W p l e R s m args below meth c H locs 0 0 Qf (F0 m pc ls [])) {x1 x2 x3 x4 x5 x6 : Int} (rx1 : inR x1) (rx2 : inR x2) (rx3 : inR x3) (rx4 : inR x4) (rx5 : inR x5) (rx6 : inR x6) (hw : kW D ca A h0 ad H0 H locs u) (hl : lv_has ls 7 [(0, .ref h0), (1, .int (jI x1)), (2, .int (jI x2)), (3, .int (jI x3)), (4, .int (jI x4)), (5, .int (jI x5)), (6, .int (jI x6))]) (h : w_feed_3 Q x1 x2 x3 x4 x5 x6 u) : W p l e R s m args below meth c H locs 0 0 Qf (F0 m 3 ls []) := by
  refine h (fun x1 x2 x3 x4 x5 x6 u => ∀ (H : Heap) (locs : List Loc) (ls : Array Slot), inR x1 → inR x2 → inR x3 → inR x4 → inR x5 → inR x6 → kW D ca A h0 ad H0 H locs u → lv_has ls 7 [(0, .ref h0), (1, .int (jI x1)), (2, .int (jI x2)), (3, .int (jI x3)), (4, .int (jI x4)), (5, .int (jI x5)), (6, .int (jI x6))] → W p l e R s m args below meth c H locs 0 0 Qf (F0 m 3 ls [])) ?_ H locs ls rx1 rx2 rx3 rx4 rx5 rx6 hw hl
  clear h hl hw rx1 rx2 rx3 rx4 rx5 rx6
  intro x1 x2 x3 x4 x5 x6 u h H locs ls rx1 rx2 rx3 rx4 rx5 rx6 hw hl
  have hR3 : ∀ (x1 : Int) (x2 : Int) (x3 : Int) (x4 : Int) (x5 : Int) (x6 : Int) (u : iST) (H : Heap) (locs : List Loc) (ls : Array Slot), inR x1 → inR x2 → inR x3 → inR x4 → inR x5 → inR x6 → kW D ca A h0 ad H0 H locs u → lv_has ls 7 [(0, .ref h0), (1, .int (jI x1)), (2, .int (jI x2)), (3, .int (jI x3)), (4, .int (jI x4)), (5, .int (jI x5)), (6, .int (jI x6))] → (fun (x1 : Int) (x2 : Int) (x3 : Int) (x4 : Int) (x5 : Int) (x6 : Int) u => ∀ (H : Heap) (locs : List Loc) (ls : Array Slot), inR x1 → inR x2 → inR x3 → inR x4 → inR x5 → inR x6 → kW D ca A h0 ad H0 H locs u → lv_has ls 7 [(0, .ref h0), (1, .int (jI x1)), (2, .int (jI x2)), (3, .int (jI x3)), (4, .int (jI x4)), (5, .int (jI x5)), (6, .int (jI x6))] → W p l e R s m args below meth c H locs 0 0 Qf (F0 m 3 ls [])) x1 x2 x3 x4 x5 x6 u → W p l e R s m args below meth c H locs 0 0 Qf (F0 m 3 ls []) := fun x1 x2 x3 x4 x5 x6 u H locs ls rx1 rx2 rx3 rx4 rx5 rx6 hw hl h => h H locs ls rx1 rx2 rx3 rx4 rx5 rx6 hw hl
  have hx := X.1.1
  have hb := X.1.2.1
  unfold w_feed_3b at h
  refine lv_iload hx hb dX12_feed_3 (lv_at hl 6 rfl) ?_
  refine lv_iconst hx hb dX12_feed_5 (v := jI 4) rfl ?_
  refine k_icmp_ge hx hb rx6 (by decide) dX12_feed_6 (tgt := 133) rfl h (fun h => ?_) (fun h => ?_)
  · exact hret _ _ _ _ _ h hw dX12_feed_133
  · refine lv_aload_n hx hb dX12_feed_9 rfl (lv_at hl 0 rfl) ?_
    refine gA 12 41 (by decide) L_12 (fun _ _ => mF_12) rfl X hw dX12_feed_10 ?_
    refine lv_iload hx hb dX12_feed_13 (lv_at hl 6 rfl) ?_
    refine lv_iload_n hx hb dX12_feed_15 rfl (lv_at hl 1 rfl) ?_
    refine lv_bipush hx hb dX12_feed_16 (v := jI 24) rfl ?_
    refine lv_bipush hx hb dX12_feed_18 (v := jI 8) rfl ?_
    refine lv_iload hx hb dX12_feed_20 (lv_at hl 6 rfl) ?_
    refine k_imul hx hb dX12_feed_22 h (fun r1 h => ?_)
    refine k_isub hx hb dX12_feed_23 h (fun r2 h => ?_)
    refine k_ishr hx hb dX12_feed_24 h (fun v3 rv3 h => ?_)
    refine lv_sipush hx hb dX12_feed_25 (v := jI 255) rfl ?_
    refine k_iand hx hb dX12_feed_28 h (fun v4 rv4 h => ?_)
    refine aS 12 10 9 20 (fun _ _ _ _ => mG_12) (fun _ => rfl) (fun _ _ _ _ _ _ => mSA_12) (by decide) X hw rx6 rv4 dX12_feed_29 rfl h (fun H locs u hw h => ?_)
    refine lv_aload_n hx hb dX12_feed_30 rfl (lv_at hl 0 rfl) ?_
    refine gA 12 41 (by decide) L_12 (fun _ _ => mF_12) rfl X hw dX12_feed_31 ?_
    refine lv_iconst hx hb dX12_feed_34 (v := jI 4) rfl ?_
    refine lv_iload hx hb dX12_feed_35 (lv_at hl 6 rfl) ?_
    refine k_iadd hx hb dX12_feed_37 h (fun r5 h => ?_)
    refine lv_iload_n hx hb dX12_feed_38 rfl (lv_at hl 2 rfl) ?_
    refine lv_bipush hx hb dX12_feed_39 (v := jI 24) rfl ?_
    refine lv_bipush hx hb dX12_feed_41 (v := jI 8) rfl ?_
    refine lv_iload hx hb dX12_feed_43 (lv_at hl 6 rfl) ?_
    refine k_imul hx hb dX12_feed_45 h (fun r6 h => ?_)
    refine k_isub hx hb dX12_feed_46 h (fun r7 h => ?_)
    refine k_ishr hx hb dX12_feed_47 h (fun v8 rv8 h => ?_)
    refine lv_sipush hx hb dX12_feed_48 (v := jI 255) rfl ?_
    refine k_iand hx hb dX12_feed_51 h (fun v9 rv9 h => ?_)
    refine aS 12 10 9 20 (fun _ _ _ _ => mG_12) (fun _ => rfl) (fun _ _ _ _ _ _ => mSA_12) (by decide) X hw r5 rv9 dX12_feed_52 rfl h (fun H locs u hw h => ?_)
    refine lv_aload_n hx hb dX12_feed_53 rfl (lv_at hl 0 rfl) ?_
    refine gA 12 41 (by decide) L_12 (fun _ _ => mF_12) rfl X hw dX12_feed_54 ?_
    refine lv_bipush hx hb dX12_feed_57 (v := jI 8) rfl ?_
    refine lv_iload hx hb dX12_feed_59 (lv_at hl 6 rfl) ?_
    refine k_iadd hx hb dX12_feed_61 h (fun r10 h => ?_)
    refine lv_iload_n hx hb dX12_feed_62 rfl (lv_at hl 3 rfl) ?_
    refine lv_bipush hx hb dX12_feed_63 (v := jI 24) rfl ?_
    refine lv_bipush hx hb dX12_feed_65 (v := jI 8) rfl ?_
    refine lv_iload hx hb dX12_feed_67 (lv_at hl 6 rfl) ?_
    refine k_imul hx hb dX12_feed_69 h (fun r11 h => ?_)
    refine k_isub hx hb dX12_feed_70 h (fun r12 h => ?_)
    refine k_ishr hx hb dX12_feed_71 h (fun v13 rv13 h => ?_)
    refine lv_sipush hx hb dX12_feed_72 (v := jI 255) rfl ?_
    refine k_iand hx hb dX12_feed_75 h (fun v14 rv14 h => ?_)
    refine aS 12 10 9 20 (fun _ _ _ _ => mG_12) (fun _ => rfl) (fun _ _ _ _ _ _ => mSA_12) (by decide) X hw r10 rv14 dX12_feed_76 rfl h (fun H locs u hw h => ?_)
    refine lv_aload_n hx hb dX12_feed_77 rfl (lv_at hl 0 rfl) ?_
    refine gA 12 41 (by decide) L_12 (fun _ _ => mF_12) rfl X hw dX12_feed_78 ?_
    refine lv_bipush hx hb dX12_feed_81 (v := jI 12) rfl ?_
    refine lv_iload hx hb dX12_feed_83 (lv_at hl 6 rfl) ?_
    refine k_iadd hx hb dX12_feed_85 h (fun r15 h => ?_)
    refine lv_iload hx hb dX12_feed_86 (lv_at hl 4 rfl) ?_
    refine lv_bipush hx hb dX12_feed_88 (v := jI 24) rfl ?_
    refine lv_bipush hx hb dX12_feed_90 (v := jI 8) rfl ?_
    refine lv_iload hx hb dX12_feed_92 (lv_at hl 6 rfl) ?_
    refine k_imul hx hb dX12_feed_94 h (fun r16 h => ?_)
    refine k_isub hx hb dX12_feed_95 h (fun r17 h => ?_)
    refine k_ishr hx hb dX12_feed_96 h (fun v18 rv18 h => ?_)
    refine lv_sipush hx hb dX12_feed_97 (v := jI 255) rfl ?_
    refine k_iand hx hb dX12_feed_100 h (fun v19 rv19 h => ?_)
    refine aS 12 10 9 20 (fun _ _ _ _ => mG_12) (fun _ => rfl) (fun _ _ _ _ _ _ => mSA_12) (by decide) X hw r15 rv19 dX12_feed_101 rfl h (fun H locs u hw h => ?_)
    refine lv_aload_n hx hb dX12_feed_102 rfl (lv_at hl 0 rfl) ?_
    refine gA 12 41 (by decide) L_12 (fun _ _ => mF_12) rfl X hw dX12_feed_103 ?_
    refine lv_bipush hx hb dX12_feed_106 (v := jI 16) rfl ?_
    refine lv_iload hx hb dX12_feed_108 (lv_at hl 6 rfl) ?_
    refine k_iadd hx hb dX12_feed_110 h (fun r20 h => ?_)
    refine lv_iload hx hb dX12_feed_111 (lv_at hl 5 rfl) ?_
    refine lv_bipush hx hb dX12_feed_113 (v := jI 24) rfl ?_
    refine lv_bipush hx hb dX12_feed_115 (v := jI 8) rfl ?_
    refine lv_iload hx hb dX12_feed_117 (lv_at hl 6 rfl) ?_
    refine k_imul hx hb dX12_feed_119 h (fun r21 h => ?_)
    refine k_isub hx hb dX12_feed_120 h (fun r22 h => ?_)
    refine k_ishr hx hb dX12_feed_121 h (fun v23 rv23 h => ?_)
    refine lv_sipush hx hb dX12_feed_122 (v := jI 255) rfl ?_
    refine k_iand hx hb dX12_feed_125 h (fun v24 rv24 h => ?_)
    refine aS 12 10 9 20 (fun _ _ _ _ => mG_12) (fun _ => rfl) (fun _ _ _ _ _ _ => mSA_12) (by decide) X hw r20 rv24 dX12_feed_126 rfl h (fun H locs u hw h => ?_)
    refine k_iinc (k := 6) hx hb dX12_feed_127 hl rfl (by decide) rfl h (fun ls r25 h hl => ?_)
    have hl : lv_has ls 7 [(6, .int (jI (x6 + 1))), (0, .ref (h0)), (1, .int (jI x1)), (2, .int (jI x2)), (3, .int (jI x3)), (4, .int (jI x4)), (5, .int (jI x5))] := hl
    refine lv_goto hx hb dX12_feed_130 (tgt := 3) rfl ?_
    exact hR3 _ _ _ _ _ _ _ H locs ls rx1 rx2 rx3 rx4 rx5 r25 hw (lv_sub hl [1, 2, 3, 4, 5, 6, 0] rfl) h

def w_feed (a0 : Int) (a1 : Int) (a2 : Int) (a3 : Int) (a4 : Int) (Q : iST → Prop) (u : iST) : Prop :=
  w_feed_3 Q a0 a1 a2 a3 a4 0 u
set_option maxRecDepth 20000 in
set_option maxHeartbeats 4000000 in
theorem b_feed_s (X : kX p m c cX12_feed 7 s args D ca) (hRf : 0 ≤ R.frames) (hRl : 0 ≤ R.locals) {Q : iST → Prop} (hret : ∀ (u : iST) (H : Heap) (locs : List Loc) (ls : Array Slot) (pc : Nat), Q u → kW D ca A h0 ad H0 H locs u → decode cX12_feed pc = .ok (.return_, 1) → W p l e R s m args below meth c H locs 0 0 Qf (F0 m pc ls [])) {a0 a1 a2 a3 a4 : Int} (ra0 : inR a0) (ra1 : inR a1) (ra2 : inR a2) (ra3 : inR a3) (ra4 : inR a4) (hw : kW D ca A h0 ad H0 H locs u) (hl : lv_has ls 7 [(0, .ref h0), (1, .int (jI a0)), (2, .int (jI a1)), (3, .int (jI a2)), (4, .int (jI a3)), (5, .int (jI a4))]) (h : w_feed a0 a1 a2 a3 a4 Q u) : W p l e R s m args below meth c H locs 0 0 Qf (F0 m 0 ls []) := by
  have hx := X.1.1
  have hb := X.1.2.1
  unfold w_feed at h
  refine lv_iconst hx hb dX12_feed_0 (v := jI 0) rfl ?_
  refine lv_istore hx hb dX12_feed_1 hl (by decide) rfl (fun ls hl => ?_)
  have hl : lv_has ls 7 [(6, .int (jI 0)), (0, .ref (h0)), (1, .int (jI a0)), (2, .int (jI a1)), (3, .int (jI a2)), (4, .int (jI a3)), (5, .int (jI a4))] := hl
  exact b_feed_3 X hRf hRl hret ra0 ra1 ra2 ra3 ra4 (by decide) hw (lv_sub hl [1, 2, 3, 4, 5, 6, 0] rfl) h

end
theorem c_feed {l : Launch} {a0 : Int} {a1 : Int} {a2 : Int} {a3 : Int} {a4 : Int} (ra0 : inR a0) (ra1 : inR a1) (ra2 : inR a2) (ra3 : inR a3) (ra4 : inR a4) {Q : iST → Prop} {u : iST} (h : w_feed a0 a1 a2 a3 a4 Q u) : kMV l yX12_feed (.code yX12_feed cX12_feed 7 none :: wsM) { frames := 0, cells := 0, slots := 0, locals := 0 } [.int (jI a0), .int (jI a1), .int (jI a2), .int (jI a3), .int (jI a4)] Q u := kMV_of rfl (fun _ => Nat.le_of_ble_eq_true rfl) (fun X hRf hRl hret hw hl => b_feed_s X hRf hRl hret ra0 ra1 ra2 ra3 ra4 hw hl h)

/-! end -/
theorem dX12_end_0 : decode cX12_end 0 = .ok (.iload_n 1, 1) := by decide +kernel
theorem dX12_end_1 : decode cX12_end 1 = .ok (.ifCond .lt 21, 3) := by decide +kernel
theorem dX12_end_4 : decode cX12_end 4 = .ok (.iload_n 1, 1) := by decide +kernel
theorem dX12_end_5 : decode cX12_end 5 = .ok (.bipush 20, 2) := by decide +kernel
theorem dX12_end_7 : decode cX12_end 7 = .ok (.if_icmp .gt 15, 3) := by decide +kernel
theorem dX12_end_10 : decode cX12_end 10 = .ok (.aload_n 0, 1) := by decide +kernel
theorem dX12_end_11 : decode cX12_end 11 = .ok (.getfield 374, 3) := by decide +kernel
theorem dX12_end_14 : decode cX12_end 14 = .ok (.iload_n 1, 1) := by decide +kernel
theorem dX12_end_15 : decode cX12_end 15 = .ok (.iadd, 1) := by decide +kernel
theorem dX12_end_16 : decode cX12_end 16 = .ok (.sipush 3000, 3) := by decide +kernel
theorem dX12_end_19 : decode cX12_end 19 = .ok (.if_icmp .le 5, 3) := by decide +kernel
theorem dX12_end_22 : decode cX12_end 22 = .ok (.iconst (-1), 1) := by decide +kernel
theorem dX12_end_23 : decode cX12_end 23 = .ok (.ireturn, 1) := by decide +kernel
theorem dX12_end_24 : decode cX12_end 24 = .ok (.iconst 0, 1) := by decide +kernel
theorem dX12_end_25 : decode cX12_end 25 = .ok (.istore_n 2, 1) := by decide +kernel
theorem dX12_end_26 : decode cX12_end 26 = .ok (.iload_n 2, 1) := by decide +kernel
theorem dX12_end_27 : decode cX12_end 27 = .ok (.iload_n 1, 1) := by decide +kernel
theorem dX12_end_28 : decode cX12_end 28 = .ok (.if_icmp .ge 26, 3) := by decide +kernel
theorem dX12_end_31 : decode cX12_end 31 = .ok (.aload_n 0, 1) := by decide +kernel
theorem dX12_end_32 : decode cX12_end 32 = .ok (.getfield 44, 3) := by decide +kernel
theorem dX12_end_35 : decode cX12_end 35 = .ok (.aload_n 0, 1) := by decide +kernel
theorem dX12_end_36 : decode cX12_end 36 = .ok (.getfield 374, 3) := by decide +kernel
theorem dX12_end_39 : decode cX12_end 39 = .ok (.iload_n 2, 1) := by decide +kernel
theorem dX12_end_40 : decode cX12_end 40 = .ok (.iadd, 1) := by decide +kernel
theorem dX12_end_41 : decode cX12_end 41 = .ok (.aload_n 0, 1) := by decide +kernel
theorem dX12_end_42 : decode cX12_end 42 = .ok (.getfield 41, 3) := by decide +kernel
theorem dX12_end_45 : decode cX12_end 45 = .ok (.iload_n 2, 1) := by decide +kernel
theorem dX12_end_46 : decode cX12_end 46 = .ok (.iaload, 1) := by decide +kernel
theorem dX12_end_47 : decode cX12_end 47 = .ok (.iastore, 1) := by decide +kernel
theorem dX12_end_48 : decode cX12_end 48 = .ok (.iinc 2 1, 3) := by decide +kernel
theorem dX12_end_51 : decode cX12_end 51 = .ok (.goto (-25), 3) := by decide +kernel
theorem dX12_end_54 : decode cX12_end 54 = .ok (.aload_n 0, 1) := by decide +kernel
theorem dX12_end_55 : decode cX12_end 55 = .ok (.dup, 1) := by decide +kernel
theorem dX12_end_56 : decode cX12_end 56 = .ok (.getfield 374, 3) := by decide +kernel
theorem dX12_end_59 : decode cX12_end 59 = .ok (.iload_n 1, 1) := by decide +kernel
theorem dX12_end_60 : decode cX12_end 60 = .ok (.iadd, 1) := by decide +kernel
theorem dX12_end_61 : decode cX12_end 61 = .ok (.putfield 374, 3) := by decide +kernel
theorem dX12_end_64 : decode cX12_end 64 = .ok (.iconst 0, 1) := by decide +kernel
theorem dX12_end_65 : decode cX12_end 65 = .ok (.istore_n 2, 1) := by decide +kernel
theorem dX12_end_66 : decode cX12_end 66 = .ok (.iload_n 2, 1) := by decide +kernel
theorem dX12_end_67 : decode cX12_end 67 = .ok (.bipush 20, 2) := by decide +kernel
theorem dX12_end_69 : decode cX12_end 69 = .ok (.if_icmp .ge 16, 3) := by decide +kernel
theorem dX12_end_72 : decode cX12_end 72 = .ok (.aload_n 0, 1) := by decide +kernel
theorem dX12_end_73 : decode cX12_end 73 = .ok (.getfield 41, 3) := by decide +kernel
theorem dX12_end_76 : decode cX12_end 76 = .ok (.iload_n 2, 1) := by decide +kernel
theorem dX12_end_77 : decode cX12_end 77 = .ok (.iconst 0, 1) := by decide +kernel
theorem dX12_end_78 : decode cX12_end 78 = .ok (.iastore, 1) := by decide +kernel
theorem dX12_end_79 : decode cX12_end 79 = .ok (.iinc 2 1, 3) := by decide +kernel
theorem dX12_end_82 : decode cX12_end 82 = .ok (.goto (-16), 3) := by decide +kernel
theorem dX12_end_85 : decode cX12_end 85 = .ok (.aload_n 0, 1) := by decide +kernel
theorem dX12_end_86 : decode cX12_end 86 = .ok (.getfield 374, 3) := by decide +kernel
theorem dX12_end_89 : decode cX12_end 89 = .ok (.ireturn, 1) := by decide +kernel

section
variable {p : Program} {l : Launch} {e : Env} {R : Room} {s : State} {m : MethodId} {args : Array Value} {below : List Frame} {meth : Method} {c : Code} {H : Heap} {locs : List Loc} {Qf : State → Prop}
variable {ls : Array Slot} {D : va_G} {ca : Nat → ClassId} {A : Nat → Prop} {h0 : Nat} {ad : Nat → Nat} {H0 : Heap} {u : iST}
def w_end_66b (R66 : Int → iST → Prop) (Q : Int → iST → Prop) (x2 : Int) (u : iST) : Prop :=
  br (20 ≤ x2) (
    rd (u.1 14) (fun v5 => 
    Q v5 u)) (
    bd x2 20 (sw (iA u 12 x2 0) (fun u => 
    ov (x2 + 1) (
    R66 (x2 + 1) u))))
def w_end_66 (Q : Int → iST → Prop) (x2 : Int) (u : iST) : Prop := ∀ R66 : Int → iST → Prop, (∀ (x2 : Int) (u : iST), w_end_66b R66 Q x2 u → R66 x2 u) → R66 x2 u
set_option maxRecDepth 20000 in
set_option maxHeartbeats 4000000 in
theorem b_end_66 (X : kX p m c cX12_end 3 s args D ca) (hRf : 0 ≤ R.frames) (hRl : 0 ≤ R.locals) {Q : Int → iST → Prop} (hret : ∀ (v : Int) (u : iST) (H : Heap) (locs : List Loc) (ls : Array Slot) (pc : Nat), inR v → Q v u → kW D ca A h0 ad H0 H locs u → decode cX12_end pc = .ok (.ireturn, 1) → W p l e R s m args below meth c H locs 0 0 Qf (F0 m pc ls [.int (jI v)])) {x2 : Int} (rx2 : inR x2) (hw : kW D ca A h0 ad H0 H locs u) (hl : lv_has ls 3 [(0, .ref h0), (2, .int (jI x2))]) (h : w_end_66 Q x2 u) : W p l e R s m args below meth c H locs 0 0 Qf (F0 m 66 ls []) := by
  refine h (fun x2 u => ∀ (H : Heap) (locs : List Loc) (ls : Array Slot), inR x2 → kW D ca A h0 ad H0 H locs u → lv_has ls 3 [(0, .ref h0), (2, .int (jI x2))] → W p l e R s m args below meth c H locs 0 0 Qf (F0 m 66 ls [])) ?_ H locs ls rx2 hw hl
  clear h hl hw rx2
  intro x2 u h H locs ls rx2 hw hl
  have hR66 : ∀ (x2 : Int) (u : iST) (H : Heap) (locs : List Loc) (ls : Array Slot), inR x2 → kW D ca A h0 ad H0 H locs u → lv_has ls 3 [(0, .ref h0), (2, .int (jI x2))] → (fun (x2 : Int) u => ∀ (H : Heap) (locs : List Loc) (ls : Array Slot), inR x2 → kW D ca A h0 ad H0 H locs u → lv_has ls 3 [(0, .ref h0), (2, .int (jI x2))] → W p l e R s m args below meth c H locs 0 0 Qf (F0 m 66 ls [])) x2 u → W p l e R s m args below meth c H locs 0 0 Qf (F0 m 66 ls []) := fun x2 u H locs ls rx2 hw hl h => h H locs ls rx2 hw hl
  have hx := X.1.1
  have hb := X.1.2.1
  unfold w_end_66b at h
  refine lv_iload_n hx hb dX12_end_66 rfl (lv_at hl 1 rfl) ?_
  refine lv_bipush hx hb dX12_end_67 (v := jI 20) rfl ?_
  refine k_icmp_ge hx hb rx2 (by decide) dX12_end_69 (tgt := 85) rfl h (fun h => ?_) (fun h => ?_)
  · refine lv_aload_n hx hb dX12_end_85 rfl (lv_at hl 0 rfl) ?_
    refine gS 14 374 (by decide) L_14 (fun _ _ => mF_14) rfl X hw dX12_end_86 h (fun v5 rv5 h => ?_)
    exact hret _ _ _ _ _ _ rv5 h hw dX12_end_89
  · refine lv_aload_n hx hb dX12_end_72 rfl (lv_at hl 0 rfl) ?_
    refine gA 12 41 (by decide) L_12 (fun _ _ => mF_12) rfl X hw dX12_end_73 ?_
    refine lv_iload_n hx hb dX12_end_76 rfl (lv_at hl 1 rfl) ?_
    refine lv_iconst hx hb dX12_end_77 (v := jI 0) rfl ?_
    refine aS 12 10 9 20 (fun _ _ _ _ => mG_12) (fun _ => rfl) (fun _ _ _ _ _ _ => mSA_12) (by decide) X hw rx2 (by decide) dX12_end_78 rfl h (fun H locs u hw h => ?_)
    refine k_iinc (k := 1) hx hb dX12_end_79 hl rfl (by decide) rfl h (fun ls r6 h hl => ?_)
    have hl : lv_has ls 3 [(2, .int (jI (x2 + 1))), (0, .ref (h0))] := hl
    refine lv_goto hx hb dX12_end_82 (tgt := 66) rfl ?_
    exact hR66 _ _ H locs ls r6 hw (lv_sub hl [1, 0] rfl) h

def w_end_26b (R26 : Int → Int → iST → Prop) (Q : Int → iST → Prop) (x1 : Int) (x2 : Int) (u : iST) : Prop :=
  br (x1 ≤ x2) (
    rd (u.1 14) (fun v3 => 
    ov (v3 + x1) (
    sw (iI u 14 (v3 + x1)) (fun u => 
    w_end_66 Q 0 u)))) (
    rd (u.1 14) (fun v7 => 
    ov (v7 + x2) (
    bd x2 20 (rd (u.2.1 12 x2) (fun v9 => 
    bd (v7 + x2) 3000 (sw (iA u 13 (v7 + x2) v9) (fun u => 
    ov (x2 + 1) (
    R26 x1 (x2 + 1) u))))))))
def w_end_26 (Q : Int → iST → Prop) (x1 : Int) (x2 : Int) (u : iST) : Prop := ∀ R26 : Int → Int → iST → Prop, (∀ (x1 : Int) (x2 : Int) (u : iST), w_end_26b R26 Q x1 x2 u → R26 x1 x2 u) → R26 x1 x2 u
set_option maxRecDepth 20000 in
set_option maxHeartbeats 4000000 in
theorem b_end_26 (X : kX p m c cX12_end 3 s args D ca) (hRf : 0 ≤ R.frames) (hRl : 0 ≤ R.locals) {Q : Int → iST → Prop} (hret : ∀ (v : Int) (u : iST) (H : Heap) (locs : List Loc) (ls : Array Slot) (pc : Nat), inR v → Q v u → kW D ca A h0 ad H0 H locs u → decode cX12_end pc = .ok (.ireturn, 1) → W p l e R s m args below meth c H locs 0 0 Qf (F0 m pc ls [.int (jI v)])) {x1 x2 : Int} (rx1 : inR x1) (rx2 : inR x2) (hw : kW D ca A h0 ad H0 H locs u) (hl : lv_has ls 3 [(0, .ref h0), (1, .int (jI x1)), (2, .int (jI x2))]) (h : w_end_26 Q x1 x2 u) : W p l e R s m args below meth c H locs 0 0 Qf (F0 m 26 ls []) := by
  refine h (fun x1 x2 u => ∀ (H : Heap) (locs : List Loc) (ls : Array Slot), inR x1 → inR x2 → kW D ca A h0 ad H0 H locs u → lv_has ls 3 [(0, .ref h0), (1, .int (jI x1)), (2, .int (jI x2))] → W p l e R s m args below meth c H locs 0 0 Qf (F0 m 26 ls [])) ?_ H locs ls rx1 rx2 hw hl
  clear h hl hw rx1 rx2
  intro x1 x2 u h H locs ls rx1 rx2 hw hl
  have hR26 : ∀ (x1 : Int) (x2 : Int) (u : iST) (H : Heap) (locs : List Loc) (ls : Array Slot), inR x1 → inR x2 → kW D ca A h0 ad H0 H locs u → lv_has ls 3 [(0, .ref h0), (1, .int (jI x1)), (2, .int (jI x2))] → (fun (x1 : Int) (x2 : Int) u => ∀ (H : Heap) (locs : List Loc) (ls : Array Slot), inR x1 → inR x2 → kW D ca A h0 ad H0 H locs u → lv_has ls 3 [(0, .ref h0), (1, .int (jI x1)), (2, .int (jI x2))] → W p l e R s m args below meth c H locs 0 0 Qf (F0 m 26 ls [])) x1 x2 u → W p l e R s m args below meth c H locs 0 0 Qf (F0 m 26 ls []) := fun x1 x2 u H locs ls rx1 rx2 hw hl h => h H locs ls rx1 rx2 hw hl
  have hx := X.1.1
  have hb := X.1.2.1
  unfold w_end_26b at h
  refine lv_iload_n hx hb dX12_end_26 rfl (lv_at hl 2 rfl) ?_
  refine lv_iload_n hx hb dX12_end_27 rfl (lv_at hl 1 rfl) ?_
  refine k_icmp_ge hx hb rx2 rx1 dX12_end_28 (tgt := 54) rfl h (fun h => ?_) (fun h => ?_)
  · refine lv_aload_n hx hb dX12_end_54 rfl (lv_at hl 0 rfl) ?_
    refine lv_dup hx hb dX12_end_55 rfl ?_
    refine gS 14 374 (by decide) L_14 (fun _ _ => mF_14) rfl X hw dX12_end_56 h (fun v3 rv3 h => ?_)
    refine lv_iload_n hx hb dX12_end_59 rfl (lv_at hl 1 rfl) ?_
    refine k_iadd hx hb dX12_end_60 h (fun r4 h => ?_)
    refine pS 14 374 (by decide) L_14 rfl rfl rfl (fun _ _ _ _ _ => mSI_14) (by decide) X hw r4 dX12_end_61 h (fun H locs u hw h => ?_)
    refine lv_iconst hx hb dX12_end_64 (v := jI 0) rfl ?_
    refine lv_istore_n hx hb dX12_end_65 rfl hl (by decide) rfl (fun ls hl => ?_)
    have hl : lv_has ls 3 [(2, .int (jI 0)), (0, .ref (h0)), (1, .int (jI x1))] := hl
    exact b_end_66 X hRf hRl hret (by decide) hw (lv_sub hl [1, 0] rfl) h
  · refine lv_aload_n hx hb dX12_end_31 rfl (lv_at hl 0 rfl) ?_
    refine gA 13 44 (by decide) L_13 (fun _ _ => mF_13) rfl X hw dX12_end_32 ?_
    refine lv_aload_n hx hb dX12_end_35 rfl (lv_at hl 0 rfl) ?_
    refine gS 14 374 (by decide) L_14 (fun _ _ => mF_14) rfl X hw dX12_end_36 h (fun v7 rv7 h => ?_)
    refine lv_iload_n hx hb dX12_end_39 rfl (lv_at hl 2 rfl) ?_
    refine k_iadd hx hb dX12_end_40 h (fun r8 h => ?_)
    refine lv_aload_n hx hb dX12_end_41 rfl (lv_at hl 0 rfl) ?_
    refine gA 12 41 (by decide) L_12 (fun _ _ => mF_12) rfl X hw dX12_end_42 ?_
    refine lv_iload_n hx hb dX12_end_45 rfl (lv_at hl 2 rfl) ?_
    refine aL 12 10 9 20 (fun _ _ _ _ => mG_12) (fun _ => rfl) X hw rx2 dX12_end_46 rfl h (fun v9 rv9 h => ?_)
    refine aS 13 11 10 3000 (fun _ _ _ _ => mG_13) (fun _ => rfl) (fun _ _ _ _ _ _ => mSA_13) (by decide) X hw r8 rv9 dX12_end_47 rfl h (fun H locs u hw h => ?_)
    refine k_iinc (k := 2) hx hb dX12_end_48 hl rfl (by decide) rfl h (fun ls r10 h hl => ?_)
    have hl : lv_has ls 3 [(2, .int (jI (x2 + 1))), (0, .ref (h0)), (1, .int (jI x1))] := hl
    refine lv_goto hx hb dX12_end_51 (tgt := 26) rfl ?_
    exact hR26 _ _ _ H locs ls rx1 r10 hw (lv_sub hl [1, 2, 0] rfl) h

def w_end (a0 : Int) (Q : Int → iST → Prop) (u : iST) : Prop :=
  br (a0 < 0) (
    Q (-1) u) (
    br (20 < a0) (
      Q (-1) u) (
      rd (u.1 14) (fun v1 => 
      ov (v1 + a0) (
      br ((v1 + a0) ≤ 3000) (
        w_end_26 Q a0 0 u) (
        Q (-1) u)))))
set_option maxRecDepth 20000 in
set_option maxHeartbeats 4000000 in
theorem b_end_s (X : kX p m c cX12_end 3 s args D ca) (hRf : 0 ≤ R.frames) (hRl : 0 ≤ R.locals) {Q : Int → iST → Prop} (hret : ∀ (v : Int) (u : iST) (H : Heap) (locs : List Loc) (ls : Array Slot) (pc : Nat), inR v → Q v u → kW D ca A h0 ad H0 H locs u → decode cX12_end pc = .ok (.ireturn, 1) → W p l e R s m args below meth c H locs 0 0 Qf (F0 m pc ls [.int (jI v)])) {a0 : Int} (ra0 : inR a0) (hw : kW D ca A h0 ad H0 H locs u) (hl : lv_has ls 3 [(0, .ref h0), (1, .int (jI a0))]) (h : w_end a0 Q u) : W p l e R s m args below meth c H locs 0 0 Qf (F0 m 0 ls []) := by
  have hx := X.1.1
  have hb := X.1.2.1
  unfold w_end at h
  refine lv_iload_n hx hb dX12_end_0 rfl (lv_at hl 1 rfl) ?_
  refine k_if_lt hx hb ra0 dX12_end_1 (tgt := 22) rfl h (fun h => ?_) (fun h => ?_)
  · refine lv_iconst hx hb dX12_end_22 (v := jI (-1)) rfl ?_
    exact hret _ _ _ _ _ _ (by decide) h hw dX12_end_23
  · refine lv_iload_n hx hb dX12_end_4 rfl (lv_at hl 1 rfl) ?_
    refine lv_bipush hx hb dX12_end_5 (v := jI 20) rfl ?_
    refine k_icmp_gt hx hb ra0 (by decide) dX12_end_7 (tgt := 22) rfl h (fun h => ?_) (fun h => ?_)
    · refine lv_iconst hx hb dX12_end_22 (v := jI (-1)) rfl ?_
      exact hret _ _ _ _ _ _ (by decide) h hw dX12_end_23
    · refine lv_aload_n hx hb dX12_end_10 rfl (lv_at hl 0 rfl) ?_
      refine gS 14 374 (by decide) L_14 (fun _ _ => mF_14) rfl X hw dX12_end_11 h (fun v1 rv1 h => ?_)
      refine lv_iload_n hx hb dX12_end_14 rfl (lv_at hl 1 rfl) ?_
      refine k_iadd hx hb dX12_end_15 h (fun r2 h => ?_)
      refine lv_sipush hx hb dX12_end_16 (v := jI 3000) rfl ?_
      refine k_icmp_le hx hb r2 (by decide) dX12_end_19 (tgt := 24) rfl h (fun h => ?_) (fun h => ?_)
      · refine lv_iconst hx hb dX12_end_24 (v := jI 0) rfl ?_
        refine lv_istore_n hx hb dX12_end_25 rfl hl (by decide) rfl (fun ls hl => ?_)
        have hl : lv_has ls 3 [(2, .int (jI 0)), (0, .ref (h0)), (1, .int (jI a0))] := hl
        exact b_end_26 X hRf hRl hret ra0 (by decide) hw (lv_sub hl [1, 2, 0] rfl) h
      · refine lv_iconst hx hb dX12_end_22 (v := jI (-1)) rfl ?_
        exact hret _ _ _ _ _ _ (by decide) h hw dX12_end_23

end
theorem c_end {l : Launch} {a0 : Int} (ra0 : inR a0) {Q : Int → iST → Prop} {u : iST} (h : w_end a0 Q u) : kMI l yX12_end (.code yX12_end cX12_end 3 (some .int) :: wsM) { frames := 0, cells := 0, slots := 0, locals := 0 } [.int (jI a0)] Q u := kMI_of rfl (fun _ => Nat.le_of_ble_eq_true rfl) (fun X hRf hRl hret hw hl => b_end_s X hRf hRl hret ra0 hw hl h)

/-! fuel -/
theorem dX12_fuel_0 : decode cX12_fuel 0 = .ok (.iload_n 1, 1) := by decide +kernel
theorem dX12_fuel_1 : decode cX12_fuel 1 = .ok (.iconst 1, 1) := by decide +kernel
theorem dX12_fuel_2 : decode cX12_fuel 2 = .ok (.if_icmp .lt 10, 3) := by decide +kernel
theorem dX12_fuel_5 : decode cX12_fuel 5 = .ok (.iload_n 1, 1) := by decide +kernel
theorem dX12_fuel_6 : decode cX12_fuel 6 = .ok (.sipush 1000, 3) := by decide +kernel
theorem dX12_fuel_9 : decode cX12_fuel 9 = .ok (.if_icmp .le 5, 3) := by decide +kernel
theorem dX12_fuel_12 : decode cX12_fuel 12 = .ok (.iconst (-1), 1) := by decide +kernel
theorem dX12_fuel_13 : decode cX12_fuel 13 = .ok (.ireturn, 1) := by decide +kernel
theorem dX12_fuel_14 : decode cX12_fuel 14 = .ok (.aload_n 0, 1) := by decide +kernel
theorem dX12_fuel_15 : decode cX12_fuel 15 = .ok (.getfield 139, 3) := by decide +kernel
theorem dX12_fuel_18 : decode cX12_fuel 18 = .ok (.istore_n 2, 1) := by decide +kernel
theorem dX12_fuel_19 : decode cX12_fuel 19 = .ok (.aload_n 0, 1) := by decide +kernel
theorem dX12_fuel_20 : decode cX12_fuel 20 = .ok (.iload_n 1, 1) := by decide +kernel
theorem dX12_fuel_21 : decode cX12_fuel 21 = .ok (.putfield 139, 3) := by decide +kernel
theorem dX12_fuel_24 : decode cX12_fuel 24 = .ok (.iload_n 2, 1) := by decide +kernel
theorem dX12_fuel_25 : decode cX12_fuel 25 = .ok (.ireturn, 1) := by decide +kernel

section
variable {p : Program} {l : Launch} {e : Env} {R : Room} {s : State} {m : MethodId} {args : Array Value} {below : List Frame} {meth : Method} {c : Code} {H : Heap} {locs : List Loc} {Qf : State → Prop}
variable {ls : Array Slot} {D : va_G} {ca : Nat → ClassId} {A : Nat → Prop} {h0 : Nat} {ad : Nat → Nat} {H0 : Heap} {u : iST}
def w_fuel (a0 : Int) (Q : Int → iST → Prop) (u : iST) : Prop :=
  br (a0 < 1) (
    Q (-1) u) (
    br (a0 ≤ 1000) (
      rd (u.1 59) (fun v1 => 
      sw (iI u 59 a0) (fun u => 
      Q v1 u))) (
      Q (-1) u))
set_option maxRecDepth 20000 in
set_option maxHeartbeats 4000000 in
theorem b_fuel_s (X : kX p m c cX12_fuel 3 s args D ca) (hRf : 0 ≤ R.frames) (hRl : 0 ≤ R.locals) {Q : Int → iST → Prop} (hret : ∀ (v : Int) (u : iST) (H : Heap) (locs : List Loc) (ls : Array Slot) (pc : Nat), inR v → Q v u → kW D ca A h0 ad H0 H locs u → decode cX12_fuel pc = .ok (.ireturn, 1) → W p l e R s m args below meth c H locs 0 0 Qf (F0 m pc ls [.int (jI v)])) {a0 : Int} (ra0 : inR a0) (hw : kW D ca A h0 ad H0 H locs u) (hl : lv_has ls 3 [(0, .ref h0), (1, .int (jI a0))]) (h : w_fuel a0 Q u) : W p l e R s m args below meth c H locs 0 0 Qf (F0 m 0 ls []) := by
  have hx := X.1.1
  have hb := X.1.2.1
  unfold w_fuel at h
  refine lv_iload_n hx hb dX12_fuel_0 rfl (lv_at hl 1 rfl) ?_
  refine lv_iconst hx hb dX12_fuel_1 (v := jI 1) rfl ?_
  refine k_icmp_lt hx hb ra0 (by decide) dX12_fuel_2 (tgt := 12) rfl h (fun h => ?_) (fun h => ?_)
  · refine lv_iconst hx hb dX12_fuel_12 (v := jI (-1)) rfl ?_
    exact hret _ _ _ _ _ _ (by decide) h hw dX12_fuel_13
  · refine lv_iload_n hx hb dX12_fuel_5 rfl (lv_at hl 1 rfl) ?_
    refine lv_sipush hx hb dX12_fuel_6 (v := jI 1000) rfl ?_
    refine k_icmp_le hx hb ra0 (by decide) dX12_fuel_9 (tgt := 14) rfl h (fun h => ?_) (fun h => ?_)
    · refine lv_aload_n hx hb dX12_fuel_14 rfl (lv_at hl 0 rfl) ?_
      refine gS 59 139 (by decide) L_59 (fun _ _ => mF_59) rfl X hw dX12_fuel_15 h (fun v1 rv1 h => ?_)
      refine lv_istore_n hx hb dX12_fuel_18 rfl hl (by decide) rfl (fun ls hl => ?_)
      have hl : lv_has ls 3 [(2, .int (jI v1)), (0, .ref (h0)), (1, .int (jI a0))] := hl
      refine lv_aload_n hx hb dX12_fuel_19 rfl (lv_at hl 1 rfl) ?_
      refine lv_iload_n hx hb dX12_fuel_20 rfl (lv_at hl 2 rfl) ?_
      refine pS 59 139 (by decide) L_59 rfl rfl rfl (fun _ _ _ _ _ => mSI_59) (by decide) X hw ra0 dX12_fuel_21 h (fun H locs u hw h => ?_)
      refine lv_iload_n hx hb dX12_fuel_24 rfl (lv_at hl 0 rfl) ?_
      exact hret _ _ _ _ _ _ rv1 h hw dX12_fuel_25
    · refine lv_iconst hx hb dX12_fuel_12 (v := jI (-1)) rfl ?_
      exact hret _ _ _ _ _ _ (by decide) h hw dX12_fuel_13

end
theorem c_fuel {l : Launch} {a0 : Int} (ra0 : inR a0) {Q : Int → iST → Prop} {u : iST} (h : w_fuel a0 Q u) : kMI l yX12_fuel (.code yX12_fuel cX12_fuel 3 (some .int) :: wsM) { frames := 0, cells := 0, slots := 0, locals := 0 } [.int (jI a0)] Q u := kMI_of rfl (fun _ => Nat.le_of_ble_eq_true rfl) (fun X hRf hRl hret hw hl => b_fuel_s X hRf hRl hret ra0 hw hl h)

/-! run -/
theorem dX12_run_0 : decode cX12_run 0 = .ok (.aload_n 0, 1) := by decide +kernel
theorem dX12_run_1 : decode cX12_run 1 = .ok (.iconst 0, 1) := by decide +kernel
theorem dX12_run_2 : decode cX12_run 2 = .ok (.putfield 561, 3) := by decide +kernel
theorem dX12_run_5 : decode cX12_run 5 = .ok (.aload_n 0, 1) := by decide +kernel
theorem dX12_run_6 : decode cX12_run 6 = .ok (.iconst 0, 1) := by decide +kernel
theorem dX12_run_7 : decode cX12_run 7 = .ok (.putfield 480, 3) := by decide +kernel
theorem dX12_run_10 : decode cX12_run 10 = .ok (.aload_n 0, 1) := by decide +kernel
theorem dX12_run_11 : decode cX12_run 11 = .ok (.iconst 0, 1) := by decide +kernel
theorem dX12_run_12 : decode cX12_run 12 = .ok (.putfield 779, 3) := by decide +kernel
theorem dX12_run_15 : decode cX12_run 15 = .ok (.aload_n 0, 1) := by decide +kernel
theorem dX12_run_16 : decode cX12_run 16 = .ok (.iconst 0, 1) := by decide +kernel
theorem dX12_run_17 : decode cX12_run 17 = .ok (.putfield 751, 3) := by decide +kernel
theorem dX12_run_20 : decode cX12_run 20 = .ok (.aload_n 0, 1) := by decide +kernel
theorem dX12_run_21 : decode cX12_run 21 = .ok (.iconst 0, 1) := by decide +kernel
theorem dX12_run_22 : decode cX12_run 22 = .ok (.putfield 441, 3) := by decide +kernel
theorem dX12_run_25 : decode cX12_run 25 = .ok (.aload_n 0, 1) := by decide +kernel
theorem dX12_run_26 : decode cX12_run 26 = .ok (.aload_n 0, 1) := by decide +kernel
theorem dX12_run_27 : decode cX12_run 27 = .ok (.getfield 332, 3) := by decide +kernel
theorem dX12_run_30 : decode cX12_run 30 = .ok (.putfield 848, 3) := by decide +kernel
theorem dX12_run_33 : decode cX12_run 33 = .ok (.aload_n 0, 1) := by decide +kernel
theorem dX12_run_34 : decode cX12_run 34 = .ok (.iconst 0, 1) := by decide +kernel
theorem dX12_run_35 : decode cX12_run 35 = .ok (.putfield 733, 3) := by decide +kernel
theorem dX12_run_38 : decode cX12_run 38 = .ok (.aload_n 0, 1) := by decide +kernel
theorem dX12_run_39 : decode cX12_run 39 = .ok (.invokevirtual 995, 3) := by decide +kernel
theorem dX12_run_42 : decode cX12_run 42 = .ok (.aload_n 0, 1) := by decide +kernel
theorem dX12_run_43 : decode cX12_run 43 = .ok (.invokevirtual 998, 3) := by decide +kernel
theorem dX12_run_46 : decode cX12_run 46 = .ok (.ifCond .ne 13, 3) := by decide +kernel
theorem dX12_run_49 : decode cX12_run 49 = .ok (.aload_n 0, 1) := by decide +kernel
theorem dX12_run_50 : decode cX12_run 50 = .ok (.aload_n 0, 1) := by decide +kernel
theorem dX12_run_51 : decode cX12_run 51 = .ok (.getfield 848, 3) := by decide +kernel
theorem dX12_run_54 : decode cX12_run 54 = .ok (.invokevirtual 839, 3) := by decide +kernel
theorem dX12_run_57 : decode cX12_run 57 = .ok (.iconst 1, 1) := by decide +kernel
theorem dX12_run_58 : decode cX12_run 58 = .ok (.ireturn, 1) := by decide +kernel
theorem dX12_run_59 : decode cX12_run 59 = .ok (.aload_n 0, 1) := by decide +kernel
theorem dX12_run_60 : decode cX12_run 60 = .ok (.getfield 845, 3) := by decide +kernel
theorem dX12_run_63 : decode cX12_run 63 = .ok (.istore_n 1, 1) := by decide +kernel
theorem dX12_run_64 : decode cX12_run 64 = .ok (.aload_n 0, 1) := by decide +kernel
theorem dX12_run_65 : decode cX12_run 65 = .ok (.aload_n 0, 1) := by decide +kernel
theorem dX12_run_66 : decode cX12_run 66 = .ok (.getfield 390, 3) := by decide +kernel
theorem dX12_run_69 : decode cX12_run 69 = .ok (.invokevirtual 1001, 3) := by decide +kernel
theorem dX12_run_72 : decode cX12_run 72 = .ok (.istore_n 2, 1) := by decide +kernel
theorem dX12_run_73 : decode cX12_run 73 = .ok (.aload_n 0, 1) := by decide +kernel
theorem dX12_run_74 : decode cX12_run 74 = .ok (.iconst (-1), 1) := by decide +kernel
theorem dX12_run_75 : decode cX12_run 75 = .ok (.putfield 136, 3) := by decide +kernel
theorem dX12_run_78 : decode cX12_run 78 = .ok (.iload_n 2, 1) := by decide +kernel
theorem dX12_run_79 : decode cX12_run 79 = .ok (.iconst 5, 1) := by decide +kernel
theorem dX12_run_80 : decode cX12_run 80 = .ok (.if_icmp .eq 14, 3) := by decide +kernel
theorem dX12_run_83 : decode cX12_run 83 = .ok (.iload_n 2, 1) := by decide +kernel
theorem dX12_run_84 : decode cX12_run 84 = .ok (.bipush 6, 2) := by decide +kernel
theorem dX12_run_86 : decode cX12_run 86 = .ok (.if_icmp .eq 8, 3) := by decide +kernel
theorem dX12_run_89 : decode cX12_run 89 = .ok (.aload_n 0, 1) := by decide +kernel
theorem dX12_run_90 : decode cX12_run 90 = .ok (.iconst 0, 1) := by decide +kernel
theorem dX12_run_91 : decode cX12_run 91 = .ok (.putfield 751, 3) := by decide +kernel
theorem dX12_run_94 : decode cX12_run 94 = .ok (.aload_n 0, 1) := by decide +kernel
theorem dX12_run_95 : decode cX12_run 95 = .ok (.getfield 845, 3) := by decide +kernel
theorem dX12_run_98 : decode cX12_run 98 = .ok (.iload_n 1, 1) := by decide +kernel
theorem dX12_run_99 : decode cX12_run 99 = .ok (.if_icmp .gt 11, 3) := by decide +kernel
theorem dX12_run_102 : decode cX12_run 102 = .ok (.aload_n 0, 1) := by decide +kernel
theorem dX12_run_103 : decode cX12_run 103 = .ok (.aload_n 0, 1) := by decide +kernel
theorem dX12_run_104 : decode cX12_run 104 = .ok (.getfield 848, 3) := by decide +kernel
theorem dX12_run_107 : decode cX12_run 107 = .ok (.invokevirtual 839, 3) := by decide +kernel
theorem dX12_run_110 : decode cX12_run 110 = .ok (.iload_n 2, 1) := by decide +kernel
theorem dX12_run_111 : decode cX12_run 111 = .ok (.ireturn, 1) := by decide +kernel

section
variable {p : Program} {l : Launch} {e : Env} {R : Room} {s : State} {m : MethodId} {args : Array Value} {below : List Frame} {meth : Method} {c : Code} {H : Heap} {locs : List Loc} {Qf : State → Prop}
variable {ls : Array Slot} {D : va_G} {ca : Nat → ClassId} {A : Nat → Prop} {h0 : Nat} {ad : Nat → Nat} {H0 : Heap} {u : iST}
def w_run_94 (Q : Int → iST → Prop) (x1 : Int) (x2 : Int) (u : iST) : Prop :=
  rd (u.1 54) (fun v7 => 
  br (x1 < v7) (
    Q x2 u) (
    rd (u.1 132) (fun v8 => 
    w_forget v8 (fun u => 
    Q x2 u) u)))
set_option maxRecDepth 20000 in
set_option maxHeartbeats 4000000 in
theorem b_run_94 (X : kX p m c cX12_run 3 s args D ca) (hRf : 18 ≤ R.frames) (hRl : 425 ≤ R.locals) {Q : Int → iST → Prop} (hret : ∀ (v : Int) (u : iST) (H : Heap) (locs : List Loc) (ls : Array Slot) (pc : Nat), inR v → Q v u → kW D ca A h0 ad H0 H locs u → decode cX12_run pc = .ok (.ireturn, 1) → W p l e R s m args below meth c H locs 0 0 Qf (F0 m pc ls [.int (jI v)])) {x1 x2 : Int} (rx1 : inR x1) (rx2 : inR x2) (hw : kW D ca A h0 ad H0 H locs u) (hl : lv_has ls 3 [(0, .ref h0), (1, .int (jI x1)), (2, .int (jI x2))]) (h : w_run_94 Q x1 x2 u) : W p l e R s m args below meth c H locs 0 0 Qf (F0 m 94 ls []) := by
  have hx := X.1.1
  have hb := X.1.2.1
  unfold w_run_94 at h
  refine lv_aload_n hx hb dX12_run_94 rfl (lv_at hl 0 rfl) ?_
  refine gS 54 845 (by decide) L_54 (fun _ _ => mF_54) rfl X hw dX12_run_95 h (fun v7 rv7 h => ?_)
  refine lv_iload_n hx hb dX12_run_98 rfl (lv_at hl 1 rfl) ?_
  refine k_icmp_gt hx hb rv7 rx1 dX12_run_99 (tgt := 110) rfl h (fun h => ?_) (fun h => ?_)
  · refine lv_iload_n hx hb dX12_run_110 rfl (lv_at hl 2 rfl) ?_
    exact hret _ _ _ _ _ _ rx2 h hw dX12_run_111
  · refine lv_aload_n hx hb dX12_run_102 rfl (lv_at hl 0 rfl) ?_
    refine lv_aload_n hx hb dX12_run_103 rfl (lv_at hl 0 rfl) ?_
    refine gS 132 848 (by decide) L_132 (fun _ _ => mF_132) rfl X hw dX12_run_104 h (fun v8 rv8 h => ?_)
    refine kcV (n := 1) (c_forget rv8 h) G_forget E_forget X hw (Nat.le_trans (Nat.le_of_ble_eq_true rfl) hRf) (Nat.le_trans (Nat.le_of_ble_eq_true rfl) hRl) rfl hl.1 (Nat.le_of_ble_eq_true rfl) rfl dX12_run_107 (fun u H locs h hw => ?_)
    refine lv_iload_n hx hb dX12_run_110 rfl (lv_at hl 2 rfl) ?_
    exact hret _ _ _ _ _ _ rx2 h hw dX12_run_111

def w_run (Q : Int → iST → Prop) (u : iST) : Prop :=
  sw (iI u 60 0) (fun u => 
  sw (iI u 61 0) (fun u => 
  zt 0 (sw (iI u 62 0) (fun u => 
  sw (iI u 63 0) (fun u => 
  sw (iI u 16 0) (fun u => 
  rd (u.1 8) (fun v1 => 
  sw (iI u 132 v1) (fun u => 
  sw (iI u 117 0) (fun u => 
  w_allRulesIn (fun u => 
  w_reads (fun v3 u => 
  br (v3 ≠ 0) (
    rd (u.1 54) (fun v4 => 
    rd (u.1 33) (fun v5 => 
    w_command v5 (fun v6 u => 
    sw (iI u 57 (-1)) (fun u => 
    br (v6 = 5) (
      w_run_94 Q v4 v6 u) (
      br (v6 = 6) (
        w_run_94 Q v4 v6 u) (
        sw (iI u 63 0) (fun u => 
        w_run_94 Q v4 v6 u))))) u))) (
    rd (u.1 132) (fun v10 => 
    w_forget v10 (fun u => 
    Q 1 u) u))) u) u)))))))))
set_option maxRecDepth 20000 in
set_option maxHeartbeats 4000000 in
theorem b_run_s (X : kX p m c cX12_run 3 s args D ca) (hRf : 18 ≤ R.frames) (hRl : 425 ≤ R.locals) {Q : Int → iST → Prop} (hret : ∀ (v : Int) (u : iST) (H : Heap) (locs : List Loc) (ls : Array Slot) (pc : Nat), inR v → Q v u → kW D ca A h0 ad H0 H locs u → decode cX12_run pc = .ok (.ireturn, 1) → W p l e R s m args below meth c H locs 0 0 Qf (F0 m pc ls [.int (jI v)])) (hw : kW D ca A h0 ad H0 H locs u) (hl : lv_has ls 3 [(0, .ref h0)]) (h : w_run Q u) : W p l e R s m args below meth c H locs 0 0 Qf (F0 m 0 ls []) := by
  have hx := X.1.1
  have hb := X.1.2.1
  unfold w_run at h
  refine lv_aload_n hx hb dX12_run_0 rfl (lv_at hl 0 rfl) ?_
  refine lv_iconst hx hb dX12_run_1 (v := jI 0) rfl ?_
  refine pS 60 561 (by decide) L_60 rfl rfl rfl (fun _ _ _ _ _ => mSI_60) (by decide) X hw (by decide) dX12_run_2 h (fun H locs u hw h => ?_)
  refine lv_aload_n hx hb dX12_run_5 rfl (lv_at hl 0 rfl) ?_
  refine lv_iconst hx hb dX12_run_6 (v := jI 0) rfl ?_
  refine pS 61 480 (by decide) L_61 rfl rfl rfl (fun _ _ _ _ _ => mSI_61) (by decide) X hw (by decide) dX12_run_7 h (fun H locs u hw h => ?_)
  refine lv_aload_n hx hb dX12_run_10 rfl (lv_at hl 0 rfl) ?_
  refine lv_iconst hx hb dX12_run_11 (v := jI 0) rfl ?_
  refine pZ 62 779 (by decide) L_62 rfl rfl rfl (fun _ _ _ _ _ => mSI_62) X hw dX12_run_12 h (fun H locs u hw h => ?_)
  refine lv_aload_n hx hb dX12_run_15 rfl (lv_at hl 0 rfl) ?_
  refine lv_iconst hx hb dX12_run_16 (v := jI 0) rfl ?_
  refine pS 63 751 (by decide) L_63 rfl rfl rfl (fun _ _ _ _ _ => mSI_63) (by decide) X hw (by decide) dX12_run_17 h (fun H locs u hw h => ?_)
  refine lv_aload_n hx hb dX12_run_20 rfl (lv_at hl 0 rfl) ?_
  refine lv_iconst hx hb dX12_run_21 (v := jI 0) rfl ?_
  refine pS 16 441 (by decide) L_16 rfl rfl rfl (fun _ _ _ _ _ => mSI_16) (by decide) X hw (by decide) dX12_run_22 h (fun H locs u hw h => ?_)
  refine lv_aload_n hx hb dX12_run_25 rfl (lv_at hl 0 rfl) ?_
  refine lv_aload_n hx hb dX12_run_26 rfl (lv_at hl 0 rfl) ?_
  refine gS 8 332 (by decide) L_8 (fun _ _ => mF_8) rfl X hw dX12_run_27 h (fun v1 rv1 h => ?_)
  refine pS 132 848 (by decide) L_132 rfl rfl rfl (fun _ _ _ _ _ => mSI_132) (by decide) X hw rv1 dX12_run_30 h (fun H locs u hw h => ?_)
  refine lv_aload_n hx hb dX12_run_33 rfl (lv_at hl 0 rfl) ?_
  refine lv_iconst hx hb dX12_run_34 (v := jI 0) rfl ?_
  refine pS 117 733 (by decide) L_117 rfl rfl rfl (fun _ _ _ _ _ => mSI_117) (by decide) X hw (by decide) dX12_run_35 h (fun H locs u hw h => ?_)
  refine lv_aload_n hx hb dX12_run_38 rfl (lv_at hl 0 rfl) ?_
  refine kcV (n := 0) (c_allRulesIn h) G_allRulesIn E_allRulesIn X hw (Nat.le_trans (Nat.le_of_ble_eq_true rfl) hRf) (Nat.le_trans (Nat.le_of_ble_eq_true rfl) hRl) rfl hl.1 (Nat.le_of_ble_eq_true rfl) rfl dX12_run_39 (fun u H locs h hw => ?_)
  refine lv_aload_n hx hb dX12_run_42 rfl (lv_at hl 0 rfl) ?_
  refine kcI (n := 0) (c_reads h) G_reads E_reads X hw (Nat.le_trans (Nat.le_of_ble_eq_true rfl) hRf) (Nat.le_trans (Nat.le_of_ble_eq_true rfl) hRl) rfl hl.1 (Nat.le_of_ble_eq_true rfl) rfl dX12_run_43 (fun v3 u H locs rv3 h hw => ?_)
  refine k_if_ne hx hb rv3 dX12_run_46 (tgt := 59) rfl h (fun h => ?_) (fun h => ?_)
  · refine lv_aload_n hx hb dX12_run_59 rfl (lv_at hl 0 rfl) ?_
    refine gS 54 845 (by decide) L_54 (fun _ _ => mF_54) rfl X hw dX12_run_60 h (fun v4 rv4 h => ?_)
    refine lv_istore_n hx hb dX12_run_63 rfl hl (by decide) rfl (fun ls hl => ?_)
    have hl : lv_has ls 3 [(1, .int (jI v4)), (0, .ref (h0))] := hl
    refine lv_aload_n hx hb dX12_run_64 rfl (lv_at hl 1 rfl) ?_
    refine lv_aload_n hx hb dX12_run_65 rfl (lv_at hl 1 rfl) ?_
    refine gS 33 390 (by decide) L_33 (fun _ _ => mF_33) rfl X hw dX12_run_66 h (fun v5 rv5 h => ?_)
    refine kcI (n := 1) (c_command rv5 h) G_command E_command X hw (Nat.le_trans (Nat.le_of_ble_eq_true rfl) hRf) (Nat.le_trans (Nat.le_of_ble_eq_true rfl) hRl) rfl hl.1 (Nat.le_of_ble_eq_true rfl) rfl dX12_run_69 (fun v6 u H locs rv6 h hw => ?_)
    refine lv_istore_n hx hb dX12_run_72 rfl hl (by decide) rfl (fun ls hl => ?_)
    have hl : lv_has ls 3 [(2, .int (jI v6)), (1, .int (jI v4)), (0, .ref (h0))] := hl
    refine lv_aload_n hx hb dX12_run_73 rfl (lv_at hl 2 rfl) ?_
    refine lv_iconst hx hb dX12_run_74 (v := jI (-1)) rfl ?_
    refine pS 57 136 (by decide) L_57 rfl rfl rfl (fun _ _ _ _ _ => mSI_57) (by decide) X hw (by decide) dX12_run_75 h (fun H locs u hw h => ?_)
    refine lv_iload_n hx hb dX12_run_78 rfl (lv_at hl 0 rfl) ?_
    refine lv_iconst hx hb dX12_run_79 (v := jI 5) rfl ?_
    refine k_icmp_eq hx hb rv6 (by decide) dX12_run_80 (tgt := 94) rfl h (fun h => ?_) (fun h => ?_)
    · exact b_run_94 X hRf hRl hret rv4 rv6 hw (lv_sub hl [2, 1, 0] rfl) h
    · refine lv_iload_n hx hb dX12_run_83 rfl (lv_at hl 0 rfl) ?_
      refine lv_bipush hx hb dX12_run_84 (v := jI 6) rfl ?_
      refine k_icmp_eq hx hb rv6 (by decide) dX12_run_86 (tgt := 94) rfl h (fun h => ?_) (fun h => ?_)
      · exact b_run_94 X hRf hRl hret rv4 rv6 hw (lv_sub hl [2, 1, 0] rfl) h
      · refine lv_aload_n hx hb dX12_run_89 rfl (lv_at hl 2 rfl) ?_
        refine lv_iconst hx hb dX12_run_90 (v := jI 0) rfl ?_
        refine pS 63 751 (by decide) L_63 rfl rfl rfl (fun _ _ _ _ _ => mSI_63) (by decide) X hw (by decide) dX12_run_91 h (fun H locs u hw h => ?_)
        exact b_run_94 X hRf hRl hret rv4 rv6 hw (lv_sub hl [2, 1, 0] rfl) h
  · refine lv_aload_n hx hb dX12_run_49 rfl (lv_at hl 0 rfl) ?_
    refine lv_aload_n hx hb dX12_run_50 rfl (lv_at hl 0 rfl) ?_
    refine gS 132 848 (by decide) L_132 (fun _ _ => mF_132) rfl X hw dX12_run_51 h (fun v10 rv10 h => ?_)
    refine kcV (n := 1) (c_forget rv10 h) G_forget E_forget X hw (Nat.le_trans (Nat.le_of_ble_eq_true rfl) hRf) (Nat.le_trans (Nat.le_of_ble_eq_true rfl) hRl) rfl hl.1 (Nat.le_of_ble_eq_true rfl) rfl dX12_run_54 (fun u H locs h hw => ?_)
    refine lv_iconst hx hb dX12_run_57 (v := jI 1) rfl ?_
    exact hret _ _ _ _ _ _ (by decide) h hw dX12_run_58

end
theorem c_run {l : Launch} {Q : Int → iST → Prop} {u : iST} (h : w_run Q u) : kMI l yX12_run (.code yX12_run cX12_run 3 (some .int) :: wsM) { frames := 18, cells := 0, slots := 0, locals := 425 } [] Q u := kMI_of rfl (fun _ => Nat.le_of_ble_eq_true rfl) (fun X hRf hRl hret hw hl => b_run_s X hRf hRl hret hw hl h)

/-! fault -/
theorem dX12_fault_0 : decode cX12_fault 0 = .ok (.iload_n 1, 1) := by decide +kernel
theorem dX12_fault_1 : decode cX12_fault 1 = .ok (.ifCond .ne 10, 3) := by decide +kernel
theorem dX12_fault_4 : decode cX12_fault 4 = .ok (.aload_n 0, 1) := by decide +kernel
theorem dX12_fault_5 : decode cX12_fault 5 = .ok (.getfield 377, 3) := by decide +kernel
theorem dX12_fault_8 : decode cX12_fault 8 = .ok (.goto 28, 3) := by decide +kernel
theorem dX12_fault_11 : decode cX12_fault 11 = .ok (.iload_n 1, 1) := by decide +kernel
theorem dX12_fault_12 : decode cX12_fault 12 = .ok (.iconst 1, 1) := by decide +kernel
theorem dX12_fault_13 : decode cX12_fault 13 = .ok (.if_icmp .ne 10, 3) := by decide +kernel
theorem dX12_fault_16 : decode cX12_fault 16 = .ok (.aload_n 0, 1) := by decide +kernel
theorem dX12_fault_17 : decode cX12_fault 17 = .ok (.getfield 59, 3) := by decide +kernel
theorem dX12_fault_20 : decode cX12_fault 20 = .ok (.goto 16, 3) := by decide +kernel
theorem dX12_fault_23 : decode cX12_fault 23 = .ok (.iload_n 1, 1) := by decide +kernel
theorem dX12_fault_24 : decode cX12_fault 24 = .ok (.iconst 2, 1) := by decide +kernel
theorem dX12_fault_25 : decode cX12_fault 25 = .ok (.if_icmp .ne 10, 3) := by decide +kernel
theorem dX12_fault_28 : decode cX12_fault 28 = .ok (.aload_n 0, 1) := by decide +kernel
theorem dX12_fault_29 : decode cX12_fault 29 = .ok (.getfield 480, 3) := by decide +kernel
theorem dX12_fault_32 : decode cX12_fault 32 = .ok (.goto 4, 3) := by decide +kernel
theorem dX12_fault_35 : decode cX12_fault 35 = .ok (.iconst (-1), 1) := by decide +kernel
theorem dX12_fault_36 : decode cX12_fault 36 = .ok (.ireturn, 1) := by decide +kernel

section
variable {p : Program} {l : Launch} {e : Env} {R : Room} {s : State} {m : MethodId} {args : Array Value} {below : List Frame} {meth : Method} {c : Code} {H : Heap} {locs : List Loc} {Qf : State → Prop}
variable {ls : Array Slot} {D : va_G} {ca : Nat → ClassId} {A : Nat → Prop} {h0 : Nat} {ad : Nat → Nat} {H0 : Heap} {u : iST}
def w_fault (a0 : Int) (Q : Int → iST → Prop) (u : iST) : Prop :=
  br (a0 ≠ 0) (
    br (a0 ≠ 1) (
      br (a0 ≠ 2) (
        Q (-1) u) (
        rd (u.1 61) (fun v1 => 
        Q v1 u))) (
      rd (u.1 25) (fun v2 => 
      Q v2 u))) (
    rd (u.1 24) (fun v3 => 
    Q v3 u))
set_option maxRecDepth 20000 in
set_option maxHeartbeats 4000000 in
theorem b_fault_s (X : kX p m c cX12_fault 2 s args D ca) (hRf : 0 ≤ R.frames) (hRl : 0 ≤ R.locals) {Q : Int → iST → Prop} (hret : ∀ (v : Int) (u : iST) (H : Heap) (locs : List Loc) (ls : Array Slot) (pc : Nat), inR v → Q v u → kW D ca A h0 ad H0 H locs u → decode cX12_fault pc = .ok (.ireturn, 1) → W p l e R s m args below meth c H locs 0 0 Qf (F0 m pc ls [.int (jI v)])) {a0 : Int} (ra0 : inR a0) (hw : kW D ca A h0 ad H0 H locs u) (hl : lv_has ls 2 [(0, .ref h0), (1, .int (jI a0))]) (h : w_fault a0 Q u) : W p l e R s m args below meth c H locs 0 0 Qf (F0 m 0 ls []) := by
  have hx := X.1.1
  have hb := X.1.2.1
  unfold w_fault at h
  refine lv_iload_n hx hb dX12_fault_0 rfl (lv_at hl 1 rfl) ?_
  refine k_if_ne hx hb ra0 dX12_fault_1 (tgt := 11) rfl h (fun h => ?_) (fun h => ?_)
  · refine lv_iload_n hx hb dX12_fault_11 rfl (lv_at hl 1 rfl) ?_
    refine lv_iconst hx hb dX12_fault_12 (v := jI 1) rfl ?_
    refine k_icmp_ne hx hb ra0 (by decide) dX12_fault_13 (tgt := 23) rfl h (fun h => ?_) (fun h => ?_)
    · refine lv_iload_n hx hb dX12_fault_23 rfl (lv_at hl 1 rfl) ?_
      refine lv_iconst hx hb dX12_fault_24 (v := jI 2) rfl ?_
      refine k_icmp_ne hx hb ra0 (by decide) dX12_fault_25 (tgt := 35) rfl h (fun h => ?_) (fun h => ?_)
      · refine lv_iconst hx hb dX12_fault_35 (v := jI (-1)) rfl ?_
        exact hret _ _ _ _ _ _ (by decide) h hw dX12_fault_36
      · refine lv_aload_n hx hb dX12_fault_28 rfl (lv_at hl 0 rfl) ?_
        refine gS 61 480 (by decide) L_61 (fun _ _ => mF_61) rfl X hw dX12_fault_29 h (fun v1 rv1 h => ?_)
        refine lv_goto hx hb dX12_fault_32 (tgt := 36) rfl ?_
        exact hret _ _ _ _ _ _ rv1 h hw dX12_fault_36
    · refine lv_aload_n hx hb dX12_fault_16 rfl (lv_at hl 0 rfl) ?_
      refine gS 25 59 (by decide) L_25 (fun _ _ => mF_25) rfl X hw dX12_fault_17 h (fun v2 rv2 h => ?_)
      refine lv_goto hx hb dX12_fault_20 (tgt := 36) rfl ?_
      exact hret _ _ _ _ _ _ rv2 h hw dX12_fault_36
  · refine lv_aload_n hx hb dX12_fault_4 rfl (lv_at hl 0 rfl) ?_
    refine gS 24 377 (by decide) L_24 (fun _ _ => mF_24) rfl X hw dX12_fault_5 h (fun v3 rv3 h => ?_)
    refine lv_goto hx hb dX12_fault_8 (tgt := 36) rfl ?_
    exact hret _ _ _ _ _ _ rv3 h hw dX12_fault_36

end
theorem c_fault {l : Launch} {a0 : Int} (ra0 : inR a0) {Q : Int → iST → Prop} {u : iST} (h : w_fault a0 Q u) : kMI l yX12_fault (.code yX12_fault cX12_fault 2 (some .int) :: wsM) { frames := 0, cells := 0, slots := 0, locals := 0 } [.int (jI a0)] Q u := kMI_of rfl (fun _ => Nat.le_of_ble_eq_true rfl) (fun X hRf hRl hret hw hl => b_fault_s X hRf hRl hret ra0 hw hl h)

/-! steps -/
theorem dX12_steps_0 : decode cX12_steps 0 = .ok (.aload_n 0, 1) := by decide +kernel
theorem dX12_steps_1 : decode cX12_steps 1 = .ok (.getfield 561, 3) := by decide +kernel
theorem dX12_steps_4 : decode cX12_steps 4 = .ok (.ireturn, 1) := by decide +kernel

section
variable {p : Program} {l : Launch} {e : Env} {R : Room} {s : State} {m : MethodId} {args : Array Value} {below : List Frame} {meth : Method} {c : Code} {H : Heap} {locs : List Loc} {Qf : State → Prop}
variable {ls : Array Slot} {D : va_G} {ca : Nat → ClassId} {A : Nat → Prop} {h0 : Nat} {ad : Nat → Nat} {H0 : Heap} {u : iST}
def w_steps (Q : Int → iST → Prop) (u : iST) : Prop :=
  rd (u.1 60) (fun v1 => 
  Q v1 u)
set_option maxRecDepth 20000 in
set_option maxHeartbeats 4000000 in
theorem b_steps_s (X : kX p m c cX12_steps 1 s args D ca) (hRf : 0 ≤ R.frames) (hRl : 0 ≤ R.locals) {Q : Int → iST → Prop} (hret : ∀ (v : Int) (u : iST) (H : Heap) (locs : List Loc) (ls : Array Slot) (pc : Nat), inR v → Q v u → kW D ca A h0 ad H0 H locs u → decode cX12_steps pc = .ok (.ireturn, 1) → W p l e R s m args below meth c H locs 0 0 Qf (F0 m pc ls [.int (jI v)])) (hw : kW D ca A h0 ad H0 H locs u) (hl : lv_has ls 1 [(0, .ref h0)]) (h : w_steps Q u) : W p l e R s m args below meth c H locs 0 0 Qf (F0 m 0 ls []) := by
  have hx := X.1.1
  have hb := X.1.2.1
  unfold w_steps at h
  refine lv_aload_n hx hb dX12_steps_0 rfl (lv_at hl 0 rfl) ?_
  refine gS 60 561 (by decide) L_60 (fun _ _ => mF_60) rfl X hw dX12_steps_1 h (fun v1 rv1 h => ?_)
  exact hret _ _ _ _ _ _ rv1 h hw dX12_steps_4

end
theorem c_steps {l : Launch} {Q : Int → iST → Prop} {u : iST} (h : w_steps Q u) : kMI l yX12_steps (.code yX12_steps cX12_steps 1 (some .int) :: wsM) { frames := 0, cells := 0, slots := 0, locals := 0 } [] Q u := kMI_of rfl (fun _ => Nat.le_of_ble_eq_true rfl) (fun X hRf hRl hret hw hl => b_steps_s X hRf hRl hret hw hl h)

/-! count -/
theorem dX12_count_0 : decode cX12_count 0 = .ok (.iconst 0, 1) := by decide +kernel
theorem dX12_count_1 : decode cX12_count 1 = .ok (.istore_n 2, 1) := by decide +kernel
theorem dX12_count_2 : decode cX12_count 2 = .ok (.iconst 0, 1) := by decide +kernel
theorem dX12_count_3 : decode cX12_count 3 = .ok (.istore_n 3, 1) := by decide +kernel
theorem dX12_count_4 : decode cX12_count 4 = .ok (.iconst 0, 1) := by decide +kernel
theorem dX12_count_5 : decode cX12_count 5 = .ok (.istore 4, 2) := by decide +kernel
theorem dX12_count_7 : decode cX12_count 7 = .ok (.iload 4, 2) := by decide +kernel
theorem dX12_count_9 : decode cX12_count 9 = .ok (.aload_n 0, 1) := by decide +kernel
theorem dX12_count_10 : decode cX12_count 10 = .ok (.getfield 699, 3) := by decide +kernel
theorem dX12_count_13 : decode cX12_count 13 = .ok (.if_icmp .ge 57, 3) := by decide +kernel
theorem dX12_count_16 : decode cX12_count 16 = .ok (.iload_n 2, 1) := by decide +kernel
theorem dX12_count_17 : decode cX12_count 17 = .ok (.aload_n 0, 1) := by decide +kernel
theorem dX12_count_18 : decode cX12_count 18 = .ok (.getfield 106, 3) := by decide +kernel
theorem dX12_count_21 : decode cX12_count 21 = .ok (.iload 4, 2) := by decide +kernel
theorem dX12_count_23 : decode cX12_count 23 = .ok (.iaload, 1) := by decide +kernel
theorem dX12_count_24 : decode cX12_count 24 = .ok (.iconst (-1), 1) := by decide +kernel
theorem dX12_count_25 : decode cX12_count 25 = .ok (.if_icmp .eq 7, 3) := by decide +kernel
theorem dX12_count_28 : decode cX12_count 28 = .ok (.iconst 1, 1) := by decide +kernel
theorem dX12_count_29 : decode cX12_count 29 = .ok (.goto 4, 3) := by decide +kernel
theorem dX12_count_32 : decode cX12_count 32 = .ok (.iconst 0, 1) := by decide +kernel
theorem dX12_count_33 : decode cX12_count 33 = .ok (.iadd, 1) := by decide +kernel
theorem dX12_count_34 : decode cX12_count 34 = .ok (.istore_n 2, 1) := by decide +kernel
theorem dX12_count_35 : decode cX12_count 35 = .ok (.iload_n 3, 1) := by decide +kernel
theorem dX12_count_36 : decode cX12_count 36 = .ok (.aload_n 0, 1) := by decide +kernel
theorem dX12_count_37 : decode cX12_count 37 = .ok (.getfield 106, 3) := by decide +kernel
theorem dX12_count_40 : decode cX12_count 40 = .ok (.iload 4, 2) := by decide +kernel
theorem dX12_count_42 : decode cX12_count 42 = .ok (.iaload, 1) := by decide +kernel
theorem dX12_count_43 : decode cX12_count 43 = .ok (.iconst (-1), 1) := by decide +kernel
theorem dX12_count_44 : decode cX12_count 44 = .ok (.if_icmp .eq 17, 3) := by decide +kernel
theorem dX12_count_47 : decode cX12_count 47 = .ok (.aload_n 0, 1) := by decide +kernel
theorem dX12_count_48 : decode cX12_count 48 = .ok (.getfield 124, 3) := by decide +kernel
theorem dX12_count_51 : decode cX12_count 51 = .ok (.iload 4, 2) := by decide +kernel
theorem dX12_count_53 : decode cX12_count 53 = .ok (.baload, 1) := by decide +kernel
theorem dX12_count_54 : decode cX12_count 54 = .ok (.ifCond .eq 7, 3) := by decide +kernel
theorem dX12_count_57 : decode cX12_count 57 = .ok (.iconst 1, 1) := by decide +kernel
theorem dX12_count_58 : decode cX12_count 58 = .ok (.goto 4, 3) := by decide +kernel
theorem dX12_count_61 : decode cX12_count 61 = .ok (.iconst 0, 1) := by decide +kernel
theorem dX12_count_62 : decode cX12_count 62 = .ok (.iadd, 1) := by decide +kernel
theorem dX12_count_63 : decode cX12_count 63 = .ok (.istore_n 3, 1) := by decide +kernel
theorem dX12_count_64 : decode cX12_count 64 = .ok (.iinc 4 1, 3) := by decide +kernel
theorem dX12_count_67 : decode cX12_count 67 = .ok (.goto (-60), 3) := by decide +kernel
theorem dX12_count_70 : decode cX12_count 70 = .ok (.iload_n 1, 1) := by decide +kernel
theorem dX12_count_71 : decode cX12_count 71 = .ok (.ifCond .ne 10, 3) := by decide +kernel
theorem dX12_count_74 : decode cX12_count 74 = .ok (.aload_n 0, 1) := by decide +kernel
theorem dX12_count_75 : decode cX12_count 75 = .ok (.getfield 474, 3) := by decide +kernel
theorem dX12_count_78 : decode cX12_count 78 = .ok (.goto 46, 3) := by decide +kernel
theorem dX12_count_81 : decode cX12_count 81 = .ok (.iload_n 1, 1) := by decide +kernel
theorem dX12_count_82 : decode cX12_count 82 = .ok (.iconst 1, 1) := by decide +kernel
theorem dX12_count_83 : decode cX12_count 83 = .ok (.if_icmp .ne 10, 3) := by decide +kernel
theorem dX12_count_86 : decode cX12_count 86 = .ok (.aload_n 0, 1) := by decide +kernel
theorem dX12_count_87 : decode cX12_count 87 = .ok (.getfield 699, 3) := by decide +kernel
theorem dX12_count_90 : decode cX12_count 90 = .ok (.goto 34, 3) := by decide +kernel
theorem dX12_count_93 : decode cX12_count 93 = .ok (.iload_n 1, 1) := by decide +kernel
theorem dX12_count_94 : decode cX12_count 94 = .ok (.iconst 2, 1) := by decide +kernel
theorem dX12_count_95 : decode cX12_count 95 = .ok (.if_icmp .ne 7, 3) := by decide +kernel
theorem dX12_count_98 : decode cX12_count 98 = .ok (.iload_n 2, 1) := by decide +kernel
theorem dX12_count_99 : decode cX12_count 99 = .ok (.goto 25, 3) := by decide +kernel
theorem dX12_count_102 : decode cX12_count 102 = .ok (.iload_n 1, 1) := by decide +kernel
theorem dX12_count_103 : decode cX12_count 103 = .ok (.iconst 3, 1) := by decide +kernel
theorem dX12_count_104 : decode cX12_count 104 = .ok (.if_icmp .ne 7, 3) := by decide +kernel
theorem dX12_count_107 : decode cX12_count 107 = .ok (.iload_n 3, 1) := by decide +kernel
theorem dX12_count_108 : decode cX12_count 108 = .ok (.goto 16, 3) := by decide +kernel
theorem dX12_count_111 : decode cX12_count 111 = .ok (.iload_n 1, 1) := by decide +kernel
theorem dX12_count_112 : decode cX12_count 112 = .ok (.iconst 4, 1) := by decide +kernel
theorem dX12_count_113 : decode cX12_count 113 = .ok (.if_icmp .ne 10, 3) := by decide +kernel
theorem dX12_count_116 : decode cX12_count 116 = .ok (.aload_n 0, 1) := by decide +kernel
theorem dX12_count_117 : decode cX12_count 117 = .ok (.getfield 751, 3) := by decide +kernel
theorem dX12_count_120 : decode cX12_count 120 = .ok (.goto 4, 3) := by decide +kernel
theorem dX12_count_123 : decode cX12_count 123 = .ok (.iconst (-1), 1) := by decide +kernel
theorem dX12_count_124 : decode cX12_count 124 = .ok (.ireturn, 1) := by decide +kernel

section
variable {p : Program} {l : Launch} {e : Env} {R : Room} {s : State} {m : MethodId} {args : Array Value} {below : List Frame} {meth : Method} {c : Code} {H : Heap} {locs : List Loc} {Qf : State → Prop}
variable {ls : Array Slot} {D : va_G} {ca : Nat → ClassId} {A : Nat → Prop} {h0 : Nat} {ad : Nat → Nat} {H0 : Heap} {u : iST}
def w_count_61 (R7 : Int → Int → Int → Int → iST → Prop) (Q : Int → iST → Prop) (x1 : Int) (x2 : Int) (x4 : Int) (y0 : Int) (u : iST) : Prop :=
  ov (y0 + 0) (
  ov (x4 + 1) (
  R7 x1 x2 (y0 + 0) (x4 + 1) u))
set_option maxRecDepth 20000 in
set_option maxHeartbeats 4000000 in
theorem b_count_61 (X : kX p m c cX12_count 5 s args D ca) (hRf : 0 ≤ R.frames) (hRl : 0 ≤ R.locals) {Q : Int → iST → Prop} (hret : ∀ (v : Int) (u : iST) (H : Heap) (locs : List Loc) (ls : Array Slot) (pc : Nat), inR v → Q v u → kW D ca A h0 ad H0 H locs u → decode cX12_count pc = .ok (.ireturn, 1) → W p l e R s m args below meth c H locs 0 0 Qf (F0 m pc ls [.int (jI v)])) {R7 : Int → Int → Int → Int → iST → Prop} (hR7 : ∀ (x1 : Int) (x2 : Int) (x3 : Int) (x4 : Int) (u : iST) (H : Heap) (locs : List Loc) (ls : Array Slot), inR x1 → inR x2 → inR x3 → inR x4 → kW D ca A h0 ad H0 H locs u → lv_has ls 5 [(0, .ref h0), (1, .int (jI x1)), (2, .int (jI x2)), (3, .int (jI x3)), (4, .int (jI x4))] → R7 x1 x2 x3 x4 u → W p l e R s m args below meth c H locs 0 0 Qf (F0 m 7 ls [])) {x1 x2 x4 y0 : Int} (rx1 : inR x1) (rx2 : inR x2) (rx4 : inR x4) (ry0 : inR y0) (hw : kW D ca A h0 ad H0 H locs u) (hl : lv_has ls 5 [(0, .ref h0), (1, .int (jI x1)), (2, .int (jI x2)), (4, .int (jI x4))]) (h : w_count_61 R7 Q x1 x2 x4 y0 u) : W p l e R s m args below meth c H locs 0 0 Qf (F0 m 61 ls [.int (jI y0)]) := by
  have hx := X.1.1
  have hb := X.1.2.1
  unfold w_count_61 at h
  refine lv_iconst hx hb dX12_count_61 (v := jI 0) rfl ?_
  refine k_iadd hx hb dX12_count_62 h (fun r8 h => ?_)
  refine lv_istore_n hx hb dX12_count_63 rfl hl (by decide) rfl (fun ls hl => ?_)
  have hl : lv_has ls 5 [(3, .int (jI (y0 + 0))), (0, .ref (h0)), (1, .int (jI x1)), (2, .int (jI x2)), (4, .int (jI x4))] := hl
  refine k_iinc (k := 4) hx hb dX12_count_64 hl rfl (by decide) rfl h (fun ls r9 h hl => ?_)
  have hl : lv_has ls 5 [(4, .int (jI (x4 + 1))), (3, .int (jI (y0 + 0))), (0, .ref (h0)), (1, .int (jI x1)), (2, .int (jI x2))] := hl
  refine lv_goto hx hb dX12_count_67 (tgt := 7) rfl ?_
  exact hR7 _ _ _ _ _ H locs ls rx1 rx2 r8 r9 hw (lv_sub hl [2, 3, 4, 1, 0] rfl) h

def w_count_33 (R7 : Int → Int → Int → Int → iST → Prop) (Q : Int → iST → Prop) (x1 : Int) (x3 : Int) (x4 : Int) (y0 : Int) (y1 : Int) (u : iST) : Prop :=
  ov (y0 + y1) (
  bd x4 60 (rd (u.2.1 46 x4) (fun v7 => 
  br (v7 = (-1)) (
    w_count_61 R7 Q x1 (y0 + y1) x4 x3 u) (
    bd x4 60 (rz (u.2.1 52 x4) (fun v10 => 
    br (v10 = 0) (
      w_count_61 R7 Q x1 (y0 + y1) x4 x3 u) (
      ov (x3 + 1) (
      ov (x4 + 1) (
      R7 x1 (y0 + y1) (x3 + 1) (x4 + 1) u)))))))))
set_option maxRecDepth 20000 in
set_option maxHeartbeats 4000000 in
theorem b_count_33 (X : kX p m c cX12_count 5 s args D ca) (hRf : 0 ≤ R.frames) (hRl : 0 ≤ R.locals) {Q : Int → iST → Prop} (hret : ∀ (v : Int) (u : iST) (H : Heap) (locs : List Loc) (ls : Array Slot) (pc : Nat), inR v → Q v u → kW D ca A h0 ad H0 H locs u → decode cX12_count pc = .ok (.ireturn, 1) → W p l e R s m args below meth c H locs 0 0 Qf (F0 m pc ls [.int (jI v)])) {R7 : Int → Int → Int → Int → iST → Prop} (hR7 : ∀ (x1 : Int) (x2 : Int) (x3 : Int) (x4 : Int) (u : iST) (H : Heap) (locs : List Loc) (ls : Array Slot), inR x1 → inR x2 → inR x3 → inR x4 → kW D ca A h0 ad H0 H locs u → lv_has ls 5 [(0, .ref h0), (1, .int (jI x1)), (2, .int (jI x2)), (3, .int (jI x3)), (4, .int (jI x4))] → R7 x1 x2 x3 x4 u → W p l e R s m args below meth c H locs 0 0 Qf (F0 m 7 ls [])) {x1 x3 x4 y0 y1 : Int} (rx1 : inR x1) (rx3 : inR x3) (rx4 : inR x4) (ry0 : inR y0) (ry1 : inR y1) (hw : kW D ca A h0 ad H0 H locs u) (hl : lv_has ls 5 [(0, .ref h0), (1, .int (jI x1)), (3, .int (jI x3)), (4, .int (jI x4))]) (h : w_count_33 R7 Q x1 x3 x4 y0 y1 u) : W p l e R s m args below meth c H locs 0 0 Qf (F0 m 33 ls [.int (jI y1), .int (jI y0)]) := by
  have hx := X.1.1
  have hb := X.1.2.1
  unfold w_count_33 at h
  refine k_iadd hx hb dX12_count_33 h (fun r6 h => ?_)
  refine lv_istore_n hx hb dX12_count_34 rfl hl (by decide) rfl (fun ls hl => ?_)
  have hl : lv_has ls 5 [(2, .int (jI (y0 + y1))), (0, .ref (h0)), (1, .int (jI x1)), (3, .int (jI x3)), (4, .int (jI x4))] := hl
  refine lv_iload_n hx hb dX12_count_35 rfl (lv_at hl 3 rfl) ?_
  refine lv_aload_n hx hb dX12_count_36 rfl (lv_at hl 1 rfl) ?_
  refine gA 46 106 (by decide) L_46 (fun _ _ => mF_46) rfl X hw dX12_count_37 ?_
  refine lv_iload hx hb dX12_count_40 (lv_at hl 4 rfl) ?_
  refine aL 46 30 29 60 (fun _ _ _ _ => mG_46) (fun _ => rfl) X hw rx4 dX12_count_42 rfl h (fun v7 rv7 h => ?_)
  refine lv_iconst hx hb dX12_count_43 (v := jI (-1)) rfl ?_
  refine k_icmp_eq hx hb rv7 (by decide) dX12_count_44 (tgt := 61) rfl h (fun h => ?_) (fun h => ?_)
  · exact b_count_61 X hRf hRl hret hR7 rx1 r6 rx4 rx3 hw (lv_sub hl [1, 2, 0, 4] rfl) h
  · refine lv_aload_n hx hb dX12_count_47 rfl (lv_at hl 1 rfl) ?_
    refine gA 52 124 (by decide) L_52 (fun _ _ => mF_52) rfl X hw dX12_count_48 ?_
    refine lv_iload hx hb dX12_count_51 (lv_at hl 4 rfl) ?_
    refine aZ 52 36 35 60 (fun _ _ _ _ => mG_52) (fun _ => rfl) (by decide) X hw rx4 dX12_count_53 rfl h (fun v10 rv10 h => ?_)
    refine k_if_eq hx hb (bz_in rv10) dX12_count_54 (tgt := 61) rfl h (fun h => ?_) (fun h => ?_)
    · exact b_count_61 X hRf hRl hret hR7 rx1 r6 rx4 rx3 hw (lv_sub hl [1, 2, 0, 4] rfl) h
    · refine lv_iconst hx hb dX12_count_57 (v := jI 1) rfl ?_
      refine lv_goto hx hb dX12_count_58 (tgt := 62) rfl ?_
      refine k_iadd hx hb dX12_count_62 h (fun r11 h => ?_)
      refine lv_istore_n hx hb dX12_count_63 rfl hl (by decide) rfl (fun ls hl => ?_)
      have hl : lv_has ls 5 [(3, .int (jI (x3 + 1))), (2, .int (jI (y0 + y1))), (0, .ref (h0)), (1, .int (jI x1)), (4, .int (jI x4))] := hl
      refine k_iinc (k := 4) hx hb dX12_count_64 hl rfl (by decide) rfl h (fun ls r12 h hl => ?_)
      have hl : lv_has ls 5 [(4, .int (jI (x4 + 1))), (3, .int (jI (x3 + 1))), (2, .int (jI (y0 + y1))), (0, .ref (h0)), (1, .int (jI x1))] := hl
      refine lv_goto hx hb dX12_count_67 (tgt := 7) rfl ?_
      exact hR7 _ _ _ _ _ H locs ls rx1 r6 r11 r12 hw (lv_sub hl [3, 4, 2, 1, 0] rfl) h

def w_count_7b (R7 : Int → Int → Int → Int → iST → Prop) (Q : Int → iST → Prop) (x1 : Int) (x2 : Int) (x3 : Int) (x4 : Int) (u : iST) : Prop :=
  rd (u.1 42) (fun v1 => 
  br (v1 ≤ x4) (
    br (x1 ≠ 0) (
      br (x1 ≠ 1) (
        br (x1 ≠ 2) (
          br (x1 ≠ 3) (
            br (x1 ≠ 4) (
              Q (-1) u) (
              rd (u.1 63) (fun v2 => 
              Q v2 u))) (
            Q x3 u)) (
          Q x2 u)) (
        rd (u.1 42) (fun v3 => 
        Q v3 u))) (
      rd (u.1 35) (fun v4 => 
      Q v4 u))) (
    bd x4 60 (rd (u.2.1 46 x4) (fun v5 => 
    br (v5 = (-1)) (
      w_count_33 R7 Q x1 x3 x4 x2 0 u) (
      w_count_33 R7 Q x1 x3 x4 x2 1 u)))))
def w_count_7 (Q : Int → iST → Prop) (x1 : Int) (x2 : Int) (x3 : Int) (x4 : Int) (u : iST) : Prop := ∀ R7 : Int → Int → Int → Int → iST → Prop, (∀ (x1 : Int) (x2 : Int) (x3 : Int) (x4 : Int) (u : iST), w_count_7b R7 Q x1 x2 x3 x4 u → R7 x1 x2 x3 x4 u) → R7 x1 x2 x3 x4 u
set_option maxRecDepth 20000 in
set_option maxHeartbeats 4000000 in
theorem b_count_7 (X : kX p m c cX12_count 5 s args D ca) (hRf : 0 ≤ R.frames) (hRl : 0 ≤ R.locals) {Q : Int → iST → Prop} (hret : ∀ (v : Int) (u : iST) (H : Heap) (locs : List Loc) (ls : Array Slot) (pc : Nat), inR v → Q v u → kW D ca A h0 ad H0 H locs u → decode cX12_count pc = .ok (.ireturn, 1) → W p l e R s m args below meth c H locs 0 0 Qf (F0 m pc ls [.int (jI v)])) {x1 x2 x3 x4 : Int} (rx1 : inR x1) (rx2 : inR x2) (rx3 : inR x3) (rx4 : inR x4) (hw : kW D ca A h0 ad H0 H locs u) (hl : lv_has ls 5 [(0, .ref h0), (1, .int (jI x1)), (2, .int (jI x2)), (3, .int (jI x3)), (4, .int (jI x4))]) (h : w_count_7 Q x1 x2 x3 x4 u) : W p l e R s m args below meth c H locs 0 0 Qf (F0 m 7 ls []) := by
  refine h (fun x1 x2 x3 x4 u => ∀ (H : Heap) (locs : List Loc) (ls : Array Slot), inR x1 → inR x2 → inR x3 → inR x4 → kW D ca A h0 ad H0 H locs u → lv_has ls 5 [(0, .ref h0), (1, .int (jI x1)), (2, .int (jI x2)), (3, .int (jI x3)), (4, .int (jI x4))] → W p l e R s m args below meth c H locs 0 0 Qf (F0 m 7 ls [])) ?_ H locs ls rx1 rx2 rx3 rx4 hw hl
  clear h hl hw rx1 rx2 rx3 rx4
  intro x1 x2 x3 x4 u h H locs ls rx1 rx2 rx3 rx4 hw hl
  have hR7 : ∀ (x1 : Int) (x2 : Int) (x3 : Int) (x4 : Int) (u : iST) (H : Heap) (locs : List Loc) (ls : Array Slot), inR x1 → inR x2 → inR x3 → inR x4 → kW D ca A h0 ad H0 H locs u → lv_has ls 5 [(0, .ref h0), (1, .int (jI x1)), (2, .int (jI x2)), (3, .int (jI x3)), (4, .int (jI x4))] → (fun (x1 : Int) (x2 : Int) (x3 : Int) (x4 : Int) u => ∀ (H : Heap) (locs : List Loc) (ls : Array Slot), inR x1 → inR x2 → inR x3 → inR x4 → kW D ca A h0 ad H0 H locs u → lv_has ls 5 [(0, .ref h0), (1, .int (jI x1)), (2, .int (jI x2)), (3, .int (jI x3)), (4, .int (jI x4))] → W p l e R s m args below meth c H locs 0 0 Qf (F0 m 7 ls [])) x1 x2 x3 x4 u → W p l e R s m args below meth c H locs 0 0 Qf (F0 m 7 ls []) := fun x1 x2 x3 x4 u H locs ls rx1 rx2 rx3 rx4 hw hl h => h H locs ls rx1 rx2 rx3 rx4 hw hl
  have hx := X.1.1
  have hb := X.1.2.1
  unfold w_count_7b at h
  refine lv_iload hx hb dX12_count_7 (lv_at hl 4 rfl) ?_
  refine lv_aload_n hx hb dX12_count_9 rfl (lv_at hl 0 rfl) ?_
  refine gS 42 699 (by decide) L_42 (fun _ _ => mF_42) rfl X hw dX12_count_10 h (fun v1 rv1 h => ?_)
  refine k_icmp_ge hx hb rx4 rv1 dX12_count_13 (tgt := 70) rfl h (fun h => ?_) (fun h => ?_)
  · refine lv_iload_n hx hb dX12_count_70 rfl (lv_at hl 1 rfl) ?_
    refine k_if_ne hx hb rx1 dX12_count_71 (tgt := 81) rfl h (fun h => ?_) (fun h => ?_)
    · refine lv_iload_n hx hb dX12_count_81 rfl (lv_at hl 1 rfl) ?_
      refine lv_iconst hx hb dX12_count_82 (v := jI 1) rfl ?_
      refine k_icmp_ne hx hb rx1 (by decide) dX12_count_83 (tgt := 93) rfl h (fun h => ?_) (fun h => ?_)
      · refine lv_iload_n hx hb dX12_count_93 rfl (lv_at hl 1 rfl) ?_
        refine lv_iconst hx hb dX12_count_94 (v := jI 2) rfl ?_
        refine k_icmp_ne hx hb rx1 (by decide) dX12_count_95 (tgt := 102) rfl h (fun h => ?_) (fun h => ?_)
        · refine lv_iload_n hx hb dX12_count_102 rfl (lv_at hl 1 rfl) ?_
          refine lv_iconst hx hb dX12_count_103 (v := jI 3) rfl ?_
          refine k_icmp_ne hx hb rx1 (by decide) dX12_count_104 (tgt := 111) rfl h (fun h => ?_) (fun h => ?_)
          · refine lv_iload_n hx hb dX12_count_111 rfl (lv_at hl 1 rfl) ?_
            refine lv_iconst hx hb dX12_count_112 (v := jI 4) rfl ?_
            refine k_icmp_ne hx hb rx1 (by decide) dX12_count_113 (tgt := 123) rfl h (fun h => ?_) (fun h => ?_)
            · refine lv_iconst hx hb dX12_count_123 (v := jI (-1)) rfl ?_
              exact hret _ _ _ _ _ _ (by decide) h hw dX12_count_124
            · refine lv_aload_n hx hb dX12_count_116 rfl (lv_at hl 0 rfl) ?_
              refine gS 63 751 (by decide) L_63 (fun _ _ => mF_63) rfl X hw dX12_count_117 h (fun v2 rv2 h => ?_)
              refine lv_goto hx hb dX12_count_120 (tgt := 124) rfl ?_
              exact hret _ _ _ _ _ _ rv2 h hw dX12_count_124
          · refine lv_iload_n hx hb dX12_count_107 rfl (lv_at hl 3 rfl) ?_
            refine lv_goto hx hb dX12_count_108 (tgt := 124) rfl ?_
            exact hret _ _ _ _ _ _ rx3 h hw dX12_count_124
        · refine lv_iload_n hx hb dX12_count_98 rfl (lv_at hl 2 rfl) ?_
          refine lv_goto hx hb dX12_count_99 (tgt := 124) rfl ?_
          exact hret _ _ _ _ _ _ rx2 h hw dX12_count_124
      · refine lv_aload_n hx hb dX12_count_86 rfl (lv_at hl 0 rfl) ?_
        refine gS 42 699 (by decide) L_42 (fun _ _ => mF_42) rfl X hw dX12_count_87 h (fun v3 rv3 h => ?_)
        refine lv_goto hx hb dX12_count_90 (tgt := 124) rfl ?_
        exact hret _ _ _ _ _ _ rv3 h hw dX12_count_124
    · refine lv_aload_n hx hb dX12_count_74 rfl (lv_at hl 0 rfl) ?_
      refine gS 35 474 (by decide) L_35 (fun _ _ => mF_35) rfl X hw dX12_count_75 h (fun v4 rv4 h => ?_)
      refine lv_goto hx hb dX12_count_78 (tgt := 124) rfl ?_
      exact hret _ _ _ _ _ _ rv4 h hw dX12_count_124
  · refine lv_iload_n hx hb dX12_count_16 rfl (lv_at hl 2 rfl) ?_
    refine lv_aload_n hx hb dX12_count_17 rfl (lv_at hl 0 rfl) ?_
    refine gA 46 106 (by decide) L_46 (fun _ _ => mF_46) rfl X hw dX12_count_18 ?_
    refine lv_iload hx hb dX12_count_21 (lv_at hl 4 rfl) ?_
    refine aL 46 30 29 60 (fun _ _ _ _ => mG_46) (fun _ => rfl) X hw rx4 dX12_count_23 rfl h (fun v5 rv5 h => ?_)
    refine lv_iconst hx hb dX12_count_24 (v := jI (-1)) rfl ?_
    refine k_icmp_eq hx hb rv5 (by decide) dX12_count_25 (tgt := 32) rfl h (fun h => ?_) (fun h => ?_)
    · refine lv_iconst hx hb dX12_count_32 (v := jI 0) rfl ?_
      exact b_count_33 X hRf hRl hret hR7 rx1 rx3 rx4 rx2 (by decide) hw (lv_sub hl [0, 1, 3, 4] rfl) h
    · refine lv_iconst hx hb dX12_count_28 (v := jI 1) rfl ?_
      refine lv_goto hx hb dX12_count_29 (tgt := 33) rfl ?_
      exact b_count_33 X hRf hRl hret hR7 rx1 rx3 rx4 rx2 (by decide) hw (lv_sub hl [0, 1, 3, 4] rfl) h

def w_count (a0 : Int) (Q : Int → iST → Prop) (u : iST) : Prop :=
  w_count_7 Q a0 0 0 0 u
set_option maxRecDepth 20000 in
set_option maxHeartbeats 4000000 in
theorem b_count_s (X : kX p m c cX12_count 5 s args D ca) (hRf : 0 ≤ R.frames) (hRl : 0 ≤ R.locals) {Q : Int → iST → Prop} (hret : ∀ (v : Int) (u : iST) (H : Heap) (locs : List Loc) (ls : Array Slot) (pc : Nat), inR v → Q v u → kW D ca A h0 ad H0 H locs u → decode cX12_count pc = .ok (.ireturn, 1) → W p l e R s m args below meth c H locs 0 0 Qf (F0 m pc ls [.int (jI v)])) {a0 : Int} (ra0 : inR a0) (hw : kW D ca A h0 ad H0 H locs u) (hl : lv_has ls 5 [(0, .ref h0), (1, .int (jI a0))]) (h : w_count a0 Q u) : W p l e R s m args below meth c H locs 0 0 Qf (F0 m 0 ls []) := by
  have hx := X.1.1
  have hb := X.1.2.1
  unfold w_count at h
  refine lv_iconst hx hb dX12_count_0 (v := jI 0) rfl ?_
  refine lv_istore_n hx hb dX12_count_1 rfl hl (by decide) rfl (fun ls hl => ?_)
  have hl : lv_has ls 5 [(2, .int (jI 0)), (0, .ref (h0)), (1, .int (jI a0))] := hl
  refine lv_iconst hx hb dX12_count_2 (v := jI 0) rfl ?_
  refine lv_istore_n hx hb dX12_count_3 rfl hl (by decide) rfl (fun ls hl => ?_)
  have hl : lv_has ls 5 [(3, .int (jI 0)), (2, .int (jI 0)), (0, .ref (h0)), (1, .int (jI a0))] := hl
  refine lv_iconst hx hb dX12_count_4 (v := jI 0) rfl ?_
  refine lv_istore hx hb dX12_count_5 hl (by decide) rfl (fun ls hl => ?_)
  have hl : lv_has ls 5 [(4, .int (jI 0)), (3, .int (jI 0)), (2, .int (jI 0)), (0, .ref (h0)), (1, .int (jI a0))] := hl
  exact b_count_7 X hRf hRl hret ra0 (by decide) (by decide) (by decide) hw (lv_sub hl [3, 4, 2, 1, 0] rfl) h

end
theorem c_count {l : Launch} {a0 : Int} (ra0 : inR a0) {Q : Int → iST → Prop} {u : iST} (h : w_count a0 Q u) : kMI l yX12_count (.code yX12_count cX12_count 5 (some .int) :: wsM) { frames := 0, cells := 0, slots := 0, locals := 0 } [.int (jI a0)] Q u := kMI_of rfl (fun _ => Nat.le_of_ble_eq_true rfl) (fun X hRf hRl hret hw hl => b_count_s X hRf hRl hret ra0 hw hl h)

/-! size -/
theorem dX12_size_0 : decode cX12_size 0 = .ok (.aload_n 0, 1) := by decide +kernel
theorem dX12_size_1 : decode cX12_size 1 = .ok (.getfield 441, 3) := by decide +kernel
theorem dX12_size_4 : decode cX12_size 4 = .ok (.ireturn, 1) := by decide +kernel

section
variable {p : Program} {l : Launch} {e : Env} {R : Room} {s : State} {m : MethodId} {args : Array Value} {below : List Frame} {meth : Method} {c : Code} {H : Heap} {locs : List Loc} {Qf : State → Prop}
variable {ls : Array Slot} {D : va_G} {ca : Nat → ClassId} {A : Nat → Prop} {h0 : Nat} {ad : Nat → Nat} {H0 : Heap} {u : iST}
def w_size (Q : Int → iST → Prop) (u : iST) : Prop :=
  rd (u.1 16) (fun v1 => 
  Q v1 u)
set_option maxRecDepth 20000 in
set_option maxHeartbeats 4000000 in
theorem b_size_s (X : kX p m c cX12_size 1 s args D ca) (hRf : 0 ≤ R.frames) (hRl : 0 ≤ R.locals) {Q : Int → iST → Prop} (hret : ∀ (v : Int) (u : iST) (H : Heap) (locs : List Loc) (ls : Array Slot) (pc : Nat), inR v → Q v u → kW D ca A h0 ad H0 H locs u → decode cX12_size pc = .ok (.ireturn, 1) → W p l e R s m args below meth c H locs 0 0 Qf (F0 m pc ls [.int (jI v)])) (hw : kW D ca A h0 ad H0 H locs u) (hl : lv_has ls 1 [(0, .ref h0)]) (h : w_size Q u) : W p l e R s m args below meth c H locs 0 0 Qf (F0 m 0 ls []) := by
  have hx := X.1.1
  have hb := X.1.2.1
  unfold w_size at h
  refine lv_aload_n hx hb dX12_size_0 rfl (lv_at hl 0 rfl) ?_
  refine gS 16 441 (by decide) L_16 (fun _ _ => mF_16) rfl X hw dX12_size_1 h (fun v1 rv1 h => ?_)
  exact hret _ _ _ _ _ _ rv1 h hw dX12_size_4

end
theorem c_size {l : Launch} {Q : Int → iST → Prop} {u : iST} (h : w_size Q u) : kMI l yX12_size (.code yX12_size cX12_size 1 (some .int) :: wsM) { frames := 0, cells := 0, slots := 0, locals := 0 } [] Q u := kMI_of rfl (fun _ => Nat.le_of_ble_eq_true rfl) (fun X hRf hRl hret hw hl => b_size_s X hRf hRl hret hw hl h)

/-! letter -/
theorem dX12_letter_0 : decode cX12_letter 0 = .ok (.iload_n 1, 1) := by decide +kernel
theorem dX12_letter_1 : decode cX12_letter 1 = .ok (.ifCond .lt 20, 3) := by decide +kernel
theorem dX12_letter_4 : decode cX12_letter 4 = .ok (.iload_n 1, 1) := by decide +kernel
theorem dX12_letter_5 : decode cX12_letter 5 = .ok (.aload_n 0, 1) := by decide +kernel
theorem dX12_letter_6 : decode cX12_letter 6 = .ok (.getfield 441, 3) := by decide +kernel
theorem dX12_letter_9 : decode cX12_letter 9 = .ok (.if_icmp .ge 12, 3) := by decide +kernel
theorem dX12_letter_12 : decode cX12_letter 12 = .ok (.aload_n 0, 1) := by decide +kernel
theorem dX12_letter_13 : decode cX12_letter 13 = .ok (.getfield 47, 3) := by decide +kernel
theorem dX12_letter_16 : decode cX12_letter 16 = .ok (.iload_n 1, 1) := by decide +kernel
theorem dX12_letter_17 : decode cX12_letter 17 = .ok (.iaload, 1) := by decide +kernel
theorem dX12_letter_18 : decode cX12_letter 18 = .ok (.goto 4, 3) := by decide +kernel
theorem dX12_letter_21 : decode cX12_letter 21 = .ok (.iconst (-1), 1) := by decide +kernel
theorem dX12_letter_22 : decode cX12_letter 22 = .ok (.ireturn, 1) := by decide +kernel

section
variable {p : Program} {l : Launch} {e : Env} {R : Room} {s : State} {m : MethodId} {args : Array Value} {below : List Frame} {meth : Method} {c : Code} {H : Heap} {locs : List Loc} {Qf : State → Prop}
variable {ls : Array Slot} {D : va_G} {ca : Nat → ClassId} {A : Nat → Prop} {h0 : Nat} {ad : Nat → Nat} {H0 : Heap} {u : iST}
def w_letter (a0 : Int) (Q : Int → iST → Prop) (u : iST) : Prop :=
  br (a0 < 0) (
    Q (-1) u) (
    rd (u.1 16) (fun v1 => 
    br (v1 ≤ a0) (
      Q (-1) u) (
      bd a0 2000 (rd (u.2.1 15 a0) (fun v2 => 
      Q v2 u)))))
set_option maxRecDepth 20000 in
set_option maxHeartbeats 4000000 in
theorem b_letter_s (X : kX p m c cX12_letter 2 s args D ca) (hRf : 0 ≤ R.frames) (hRl : 0 ≤ R.locals) {Q : Int → iST → Prop} (hret : ∀ (v : Int) (u : iST) (H : Heap) (locs : List Loc) (ls : Array Slot) (pc : Nat), inR v → Q v u → kW D ca A h0 ad H0 H locs u → decode cX12_letter pc = .ok (.ireturn, 1) → W p l e R s m args below meth c H locs 0 0 Qf (F0 m pc ls [.int (jI v)])) {a0 : Int} (ra0 : inR a0) (hw : kW D ca A h0 ad H0 H locs u) (hl : lv_has ls 2 [(0, .ref h0), (1, .int (jI a0))]) (h : w_letter a0 Q u) : W p l e R s m args below meth c H locs 0 0 Qf (F0 m 0 ls []) := by
  have hx := X.1.1
  have hb := X.1.2.1
  unfold w_letter at h
  refine lv_iload_n hx hb dX12_letter_0 rfl (lv_at hl 1 rfl) ?_
  refine k_if_lt hx hb ra0 dX12_letter_1 (tgt := 21) rfl h (fun h => ?_) (fun h => ?_)
  · refine lv_iconst hx hb dX12_letter_21 (v := jI (-1)) rfl ?_
    exact hret _ _ _ _ _ _ (by decide) h hw dX12_letter_22
  · refine lv_iload_n hx hb dX12_letter_4 rfl (lv_at hl 1 rfl) ?_
    refine lv_aload_n hx hb dX12_letter_5 rfl (lv_at hl 0 rfl) ?_
    refine gS 16 441 (by decide) L_16 (fun _ _ => mF_16) rfl X hw dX12_letter_6 h (fun v1 rv1 h => ?_)
    refine k_icmp_ge hx hb ra0 rv1 dX12_letter_9 (tgt := 21) rfl h (fun h => ?_) (fun h => ?_)
    · refine lv_iconst hx hb dX12_letter_21 (v := jI (-1)) rfl ?_
      exact hret _ _ _ _ _ _ (by decide) h hw dX12_letter_22
    · refine lv_aload_n hx hb dX12_letter_12 rfl (lv_at hl 0 rfl) ?_
      refine gA 15 47 (by decide) L_15 (fun _ _ => mF_15) rfl X hw dX12_letter_13 ?_
      refine lv_iload_n hx hb dX12_letter_16 rfl (lv_at hl 1 rfl) ?_
      refine aL 15 12 11 2000 (fun _ _ _ _ => mG_15) (fun _ => rfl) X hw ra0 dX12_letter_17 rfl h (fun v2 rv2 h => ?_)
      refine lv_goto hx hb dX12_letter_18 (tgt := 22) rfl ?_
      exact hret _ _ _ _ _ _ rv2 h hw dX12_letter_22

end
theorem c_letter {l : Launch} {a0 : Int} (ra0 : inR a0) {Q : Int → iST → Prop} {u : iST} (h : w_letter a0 Q u) : kMI l yX12_letter (.code yX12_letter cX12_letter 2 (some .int) :: wsM) { frames := 0, cells := 0, slots := 0, locals := 0 } [.int (jI a0)] Q u := kMI_of rfl (fun _ => Nat.le_of_ble_eq_true rfl) (fun X hRf hRl hret hw hl => b_letter_s X hRf hRl hret ra0 hw hl h)

/-! taken -/
theorem dX12_taken_0 : decode cX12_taken 0 = .ok (.iload_n 1, 1) := by decide +kernel
theorem dX12_taken_1 : decode cX12_taken 1 = .ok (.ifCond .lt 20, 3) := by decide +kernel
theorem dX12_taken_4 : decode cX12_taken 4 = .ok (.iload_n 1, 1) := by decide +kernel
theorem dX12_taken_5 : decode cX12_taken 5 = .ok (.aload_n 0, 1) := by decide +kernel
theorem dX12_taken_6 : decode cX12_taken 6 = .ok (.getfield 845, 3) := by decide +kernel
theorem dX12_taken_9 : decode cX12_taken 9 = .ok (.if_icmp .ge 12, 3) := by decide +kernel
theorem dX12_taken_12 : decode cX12_taken 12 = .ok (.aload_n 0, 1) := by decide +kernel
theorem dX12_taken_13 : decode cX12_taken 13 = .ok (.getfield 130, 3) := by decide +kernel
theorem dX12_taken_16 : decode cX12_taken 16 = .ok (.iload_n 1, 1) := by decide +kernel
theorem dX12_taken_17 : decode cX12_taken 17 = .ok (.iaload, 1) := by decide +kernel
theorem dX12_taken_18 : decode cX12_taken 18 = .ok (.goto 4, 3) := by decide +kernel
theorem dX12_taken_21 : decode cX12_taken 21 = .ok (.iconst 0, 1) := by decide +kernel
theorem dX12_taken_22 : decode cX12_taken 22 = .ok (.ireturn, 1) := by decide +kernel

section
variable {p : Program} {l : Launch} {e : Env} {R : Room} {s : State} {m : MethodId} {args : Array Value} {below : List Frame} {meth : Method} {c : Code} {H : Heap} {locs : List Loc} {Qf : State → Prop}
variable {ls : Array Slot} {D : va_G} {ca : Nat → ClassId} {A : Nat → Prop} {h0 : Nat} {ad : Nat → Nat} {H0 : Heap} {u : iST}
def w_taken (a0 : Int) (Q : Int → iST → Prop) (u : iST) : Prop :=
  br (a0 < 0) (
    Q 0 u) (
    rd (u.1 54) (fun v1 => 
    br (v1 ≤ a0) (
      Q 0 u) (
      bd a0 100 (rd (u.2.1 55 a0) (fun v2 => 
      Q v2 u)))))
set_option maxRecDepth 20000 in
set_option maxHeartbeats 4000000 in
theorem b_taken_s (X : kX p m c cX12_taken 2 s args D ca) (hRf : 0 ≤ R.frames) (hRl : 0 ≤ R.locals) {Q : Int → iST → Prop} (hret : ∀ (v : Int) (u : iST) (H : Heap) (locs : List Loc) (ls : Array Slot) (pc : Nat), inR v → Q v u → kW D ca A h0 ad H0 H locs u → decode cX12_taken pc = .ok (.ireturn, 1) → W p l e R s m args below meth c H locs 0 0 Qf (F0 m pc ls [.int (jI v)])) {a0 : Int} (ra0 : inR a0) (hw : kW D ca A h0 ad H0 H locs u) (hl : lv_has ls 2 [(0, .ref h0), (1, .int (jI a0))]) (h : w_taken a0 Q u) : W p l e R s m args below meth c H locs 0 0 Qf (F0 m 0 ls []) := by
  have hx := X.1.1
  have hb := X.1.2.1
  unfold w_taken at h
  refine lv_iload_n hx hb dX12_taken_0 rfl (lv_at hl 1 rfl) ?_
  refine k_if_lt hx hb ra0 dX12_taken_1 (tgt := 21) rfl h (fun h => ?_) (fun h => ?_)
  · refine lv_iconst hx hb dX12_taken_21 (v := jI 0) rfl ?_
    exact hret _ _ _ _ _ _ (by decide) h hw dX12_taken_22
  · refine lv_iload_n hx hb dX12_taken_4 rfl (lv_at hl 1 rfl) ?_
    refine lv_aload_n hx hb dX12_taken_5 rfl (lv_at hl 0 rfl) ?_
    refine gS 54 845 (by decide) L_54 (fun _ _ => mF_54) rfl X hw dX12_taken_6 h (fun v1 rv1 h => ?_)
    refine k_icmp_ge hx hb ra0 rv1 dX12_taken_9 (tgt := 21) rfl h (fun h => ?_) (fun h => ?_)
    · refine lv_iconst hx hb dX12_taken_21 (v := jI 0) rfl ?_
      exact hret _ _ _ _ _ _ (by decide) h hw dX12_taken_22
    · refine lv_aload_n hx hb dX12_taken_12 rfl (lv_at hl 0 rfl) ?_
      refine gA 55 130 (by decide) L_55 (fun _ _ => mF_55) rfl X hw dX12_taken_13 ?_
      refine lv_iload_n hx hb dX12_taken_16 rfl (lv_at hl 1 rfl) ?_
      refine aL 55 38 37 100 (fun _ _ _ _ => mG_55) (fun _ => rfl) X hw ra0 dX12_taken_17 rfl h (fun v2 rv2 h => ?_)
      refine lv_goto hx hb dX12_taken_18 (tgt := 22) rfl ?_
      exact hret _ _ _ _ _ _ rv2 h hw dX12_taken_22

end
theorem c_taken {l : Launch} {a0 : Int} (ra0 : inR a0) {Q : Int → iST → Prop} {u : iST} (h : w_taken a0 Q u) : kMI l yX12_taken (.code yX12_taken cX12_taken 2 (some .int) :: wsM) { frames := 0, cells := 0, slots := 0, locals := 0 } [.int (jI a0)] Q u := kMI_of rfl (fun _ => Nat.le_of_ble_eq_true rfl) (fun X hRf hRl hret hw hl => b_taken_s X hRf hRl hret ra0 hw hl h)

/-! tell -/
theorem dX12_tell_0 : decode cX12_tell 0 = .ok (.iload_n 1, 1) := by decide +kernel
theorem dX12_tell_1 : decode cX12_tell 1 = .ok (.ifCond .lt 11, 3) := by decide +kernel
theorem dX12_tell_4 : decode cX12_tell 4 = .ok (.iload_n 1, 1) := by decide +kernel
theorem dX12_tell_5 : decode cX12_tell 5 = .ok (.aload_n 0, 1) := by decide +kernel
theorem dX12_tell_6 : decode cX12_tell 6 = .ok (.getfield 845, 3) := by decide +kernel
theorem dX12_tell_9 : decode cX12_tell 9 = .ok (.if_icmp .lt 5, 3) := by decide +kernel
theorem dX12_tell_12 : decode cX12_tell 12 = .ok (.iconst (-1), 1) := by decide +kernel
theorem dX12_tell_13 : decode cX12_tell 13 = .ok (.ireturn, 1) := by decide +kernel
theorem dX12_tell_14 : decode cX12_tell 14 = .ok (.aload_n 0, 1) := by decide +kernel
theorem dX12_tell_15 : decode cX12_tell 15 = .ok (.getfield 332, 3) := by decide +kernel
theorem dX12_tell_18 : decode cX12_tell 18 = .ok (.istore_n 2, 1) := by decide +kernel
theorem dX12_tell_19 : decode cX12_tell 19 = .ok (.iconst 0, 1) := by decide +kernel
theorem dX12_tell_20 : decode cX12_tell 20 = .ok (.istore_n 3, 1) := by decide +kernel
theorem dX12_tell_21 : decode cX12_tell 21 = .ok (.iconst 0, 1) := by decide +kernel
theorem dX12_tell_22 : decode cX12_tell 22 = .ok (.istore 4, 2) := by decide +kernel
theorem dX12_tell_24 : decode cX12_tell 24 = .ok (.iload 4, 2) := by decide +kernel
theorem dX12_tell_26 : decode cX12_tell 26 = .ok (.iload_n 1, 1) := by decide +kernel
theorem dX12_tell_27 : decode cX12_tell 27 = .ok (.if_icmp .ge 51, 3) := by decide +kernel
theorem dX12_tell_30 : decode cX12_tell 30 = .ok (.iload_n 3, 1) := by decide +kernel
theorem dX12_tell_31 : decode cX12_tell 31 = .ok (.aload_n 0, 1) := by decide +kernel
theorem dX12_tell_32 : decode cX12_tell 32 = .ok (.getfield 130, 3) := by decide +kernel
theorem dX12_tell_35 : decode cX12_tell 35 = .ok (.iload 4, 2) := by decide +kernel
theorem dX12_tell_37 : decode cX12_tell 37 = .ok (.iaload, 1) := by decide +kernel
theorem dX12_tell_38 : decode cX12_tell 38 = .ok (.iconst 1, 1) := by decide +kernel
theorem dX12_tell_39 : decode cX12_tell 39 = .ok (.if_icmp .ne 7, 3) := by decide +kernel
theorem dX12_tell_42 : decode cX12_tell 42 = .ok (.iconst 1, 1) := by decide +kernel
theorem dX12_tell_43 : decode cX12_tell 43 = .ok (.goto 4, 3) := by decide +kernel
theorem dX12_tell_46 : decode cX12_tell 46 = .ok (.iconst 0, 1) := by decide +kernel
theorem dX12_tell_47 : decode cX12_tell 47 = .ok (.aload_n 0, 1) := by decide +kernel
theorem dX12_tell_48 : decode cX12_tell 48 = .ok (.getfield 130, 3) := by decide +kernel
theorem dX12_tell_51 : decode cX12_tell 51 = .ok (.iload_n 1, 1) := by decide +kernel
theorem dX12_tell_52 : decode cX12_tell 52 = .ok (.iaload, 1) := by decide +kernel
theorem dX12_tell_53 : decode cX12_tell 53 = .ok (.iconst 1, 1) := by decide +kernel
theorem dX12_tell_54 : decode cX12_tell 54 = .ok (.if_icmp .ne 7, 3) := by decide +kernel
theorem dX12_tell_57 : decode cX12_tell 57 = .ok (.iconst 1, 1) := by decide +kernel
theorem dX12_tell_58 : decode cX12_tell 58 = .ok (.goto 4, 3) := by decide +kernel
theorem dX12_tell_61 : decode cX12_tell 61 = .ok (.iconst 0, 1) := by decide +kernel
theorem dX12_tell_62 : decode cX12_tell 62 = .ok (.if_icmp .ne 7, 3) := by decide +kernel
theorem dX12_tell_65 : decode cX12_tell 65 = .ok (.iconst 1, 1) := by decide +kernel
theorem dX12_tell_66 : decode cX12_tell 66 = .ok (.goto 4, 3) := by decide +kernel
theorem dX12_tell_69 : decode cX12_tell 69 = .ok (.iconst 0, 1) := by decide +kernel
theorem dX12_tell_70 : decode cX12_tell 70 = .ok (.iadd, 1) := by decide +kernel
theorem dX12_tell_71 : decode cX12_tell 71 = .ok (.istore_n 3, 1) := by decide +kernel
theorem dX12_tell_72 : decode cX12_tell 72 = .ok (.iinc 4 1, 3) := by decide +kernel
theorem dX12_tell_75 : decode cX12_tell 75 = .ok (.goto (-51), 3) := by decide +kernel
theorem dX12_tell_78 : decode cX12_tell 78 = .ok (.aload_n 0, 1) := by decide +kernel
theorem dX12_tell_79 : decode cX12_tell 79 = .ok (.getfield 130, 3) := by decide +kernel
theorem dX12_tell_82 : decode cX12_tell 82 = .ok (.iload_n 1, 1) := by decide +kernel
theorem dX12_tell_83 : decode cX12_tell 83 = .ok (.iaload, 1) := by decide +kernel
theorem dX12_tell_84 : decode cX12_tell 84 = .ok (.iconst 1, 1) := by decide +kernel
theorem dX12_tell_85 : decode cX12_tell 85 = .ok (.if_icmp .ne 118, 3) := by decide +kernel
theorem dX12_tell_88 : decode cX12_tell 88 = .ok (.iconst 0, 1) := by decide +kernel
theorem dX12_tell_89 : decode cX12_tell 89 = .ok (.istore 4, 2) := by decide +kernel
theorem dX12_tell_91 : decode cX12_tell 91 = .ok (.aload_n 0, 1) := by decide +kernel
theorem dX12_tell_92 : decode cX12_tell 92 = .ok (.getfield 81, 3) := by decide +kernel
theorem dX12_tell_95 : decode cX12_tell 95 = .ok (.iload_n 3, 1) := by decide +kernel
theorem dX12_tell_96 : decode cX12_tell 96 = .ok (.iaload, 1) := by decide +kernel
theorem dX12_tell_97 : decode cX12_tell 97 = .ok (.iconst 1, 1) := by decide +kernel
theorem dX12_tell_98 : decode cX12_tell 98 = .ok (.isub, 1) := by decide +kernel
theorem dX12_tell_99 : decode cX12_tell 99 = .ok (.istore 5, 2) := by decide +kernel
theorem dX12_tell_101 : decode cX12_tell 101 = .ok (.iload 5, 2) := by decide +kernel
theorem dX12_tell_103 : decode cX12_tell 103 = .ok (.ifCond .lt 29, 3) := by decide +kernel
theorem dX12_tell_106 : decode cX12_tell 106 = .ok (.aload_n 0, 1) := by decide +kernel
theorem dX12_tell_107 : decode cX12_tell 107 = .ok (.aload_n 0, 1) := by decide +kernel
theorem dX12_tell_108 : decode cX12_tell 108 = .ok (.getfield 84, 3) := by decide +kernel
theorem dX12_tell_111 : decode cX12_tell 111 = .ok (.bipush 6, 2) := by decide +kernel
theorem dX12_tell_113 : decode cX12_tell 113 = .ok (.iload_n 3, 1) := by decide +kernel
theorem dX12_tell_114 : decode cX12_tell 114 = .ok (.imul, 1) := by decide +kernel
theorem dX12_tell_115 : decode cX12_tell 115 = .ok (.iload 5, 2) := by decide +kernel
theorem dX12_tell_117 : decode cX12_tell 117 = .ok (.iadd, 1) := by decide +kernel
theorem dX12_tell_118 : decode cX12_tell 118 = .ok (.iaload, 1) := by decide +kernel
theorem dX12_tell_119 : decode cX12_tell 119 = .ok (.iload 4, 2) := by decide +kernel
theorem dX12_tell_121 : decode cX12_tell 121 = .ok (.invokevirtual 353, 3) := by decide +kernel
theorem dX12_tell_124 : decode cX12_tell 124 = .ok (.istore 4, 2) := by decide +kernel
theorem dX12_tell_126 : decode cX12_tell 126 = .ok (.iinc 5 (-1), 3) := by decide +kernel
theorem dX12_tell_129 : decode cX12_tell 129 = .ok (.goto (-28), 3) := by decide +kernel
theorem dX12_tell_132 : decode cX12_tell 132 = .ok (.aload_n 0, 1) := by decide +kernel
theorem dX12_tell_133 : decode cX12_tell 133 = .ok (.getfield 93, 3) := by decide +kernel
theorem dX12_tell_136 : decode cX12_tell 136 = .ok (.iload_n 3, 1) := by decide +kernel
theorem dX12_tell_137 : decode cX12_tell 137 = .ok (.baload, 1) := by decide +kernel
theorem dX12_tell_138 : decode cX12_tell 138 = .ok (.ifCond .eq 22, 3) := by decide +kernel
theorem dX12_tell_141 : decode cX12_tell 141 = .ok (.aload_n 0, 1) := by decide +kernel
theorem dX12_tell_142 : decode cX12_tell 142 = .ok (.aload_n 0, 1) := by decide +kernel
theorem dX12_tell_143 : decode cX12_tell 143 = .ok (.getfield 87, 3) := by decide +kernel
theorem dX12_tell_146 : decode cX12_tell 146 = .ok (.iload_n 3, 1) := by decide +kernel
theorem dX12_tell_147 : decode cX12_tell 147 = .ok (.iaload, 1) := by decide +kernel
theorem dX12_tell_148 : decode cX12_tell 148 = .ok (.aload_n 0, 1) := by decide +kernel
theorem dX12_tell_149 : decode cX12_tell 149 = .ok (.getfield 90, 3) := by decide +kernel
theorem dX12_tell_152 : decode cX12_tell 152 = .ok (.iload_n 3, 1) := by decide +kernel
theorem dX12_tell_153 : decode cX12_tell 153 = .ok (.iaload, 1) := by decide +kernel
theorem dX12_tell_154 : decode cX12_tell 154 = .ok (.invokevirtual 359, 3) := by decide +kernel
theorem dX12_tell_157 : decode cX12_tell 157 = .ok (.goto 13, 3) := by decide +kernel
theorem dX12_tell_160 : decode cX12_tell 160 = .ok (.aload_n 0, 1) := by decide +kernel
theorem dX12_tell_161 : decode cX12_tell 161 = .ok (.aload_n 0, 1) := by decide +kernel
theorem dX12_tell_162 : decode cX12_tell 162 = .ok (.getfield 87, 3) := by decide +kernel
theorem dX12_tell_165 : decode cX12_tell 165 = .ok (.iload_n 3, 1) := by decide +kernel
theorem dX12_tell_166 : decode cX12_tell 166 = .ok (.iaload, 1) := by decide +kernel
theorem dX12_tell_167 : decode cX12_tell 167 = .ok (.invokevirtual 356, 3) := by decide +kernel
theorem dX12_tell_170 : decode cX12_tell 170 = .ok (.istore 5, 2) := by decide +kernel
theorem dX12_tell_172 : decode cX12_tell 172 = .ok (.aload_n 0, 1) := by decide +kernel
theorem dX12_tell_173 : decode cX12_tell 173 = .ok (.aload_n 0, 1) := by decide +kernel
theorem dX12_tell_174 : decode cX12_tell 174 = .ok (.bipush 17, 2) := by decide +kernel
theorem dX12_tell_176 : decode cX12_tell 176 = .ok (.aload_n 0, 1) := by decide +kernel
theorem dX12_tell_177 : decode cX12_tell 177 = .ok (.aload_n 0, 1) := by decide +kernel
theorem dX12_tell_178 : decode cX12_tell 178 = .ok (.getfield 78, 3) := by decide +kernel
theorem dX12_tell_181 : decode cX12_tell 181 = .ok (.iload_n 3, 1) := by decide +kernel
theorem dX12_tell_182 : decode cX12_tell 182 = .ok (.iaload, 1) := by decide +kernel
theorem dX12_tell_183 : decode cX12_tell 183 = .ok (.aload_n 0, 1) := by decide +kernel
theorem dX12_tell_184 : decode cX12_tell 184 = .ok (.iload 4, 2) := by decide +kernel
theorem dX12_tell_186 : decode cX12_tell 186 = .ok (.iload 5, 2) := by decide +kernel
theorem dX12_tell_188 : decode cX12_tell 188 = .ok (.invokevirtual 353, 3) := by decide +kernel
theorem dX12_tell_191 : decode cX12_tell 191 = .ok (.invokevirtual 353, 3) := by decide +kernel
theorem dX12_tell_194 : decode cX12_tell 194 = .ok (.invokevirtual 353, 3) := by decide +kernel
theorem dX12_tell_197 : decode cX12_tell 197 = .ok (.invokevirtual 785, 3) := by decide +kernel
theorem dX12_tell_200 : decode cX12_tell 200 = .ok (.goto 25, 3) := by decide +kernel
theorem dX12_tell_203 : decode cX12_tell 203 = .ok (.aload_n 0, 1) := by decide +kernel
theorem dX12_tell_204 : decode cX12_tell 204 = .ok (.aload_n 0, 1) := by decide +kernel
theorem dX12_tell_205 : decode cX12_tell 205 = .ok (.bipush 18, 2) := by decide +kernel
theorem dX12_tell_207 : decode cX12_tell 207 = .ok (.aload_n 0, 1) := by decide +kernel
theorem dX12_tell_208 : decode cX12_tell 208 = .ok (.getfield 97, 3) := by decide +kernel
theorem dX12_tell_211 : decode cX12_tell 211 = .ok (.iload_n 3, 1) := by decide +kernel
theorem dX12_tell_212 : decode cX12_tell 212 = .ok (.iaload, 1) := by decide +kernel
theorem dX12_tell_213 : decode cX12_tell 213 = .ok (.aload_n 0, 1) := by decide +kernel
theorem dX12_tell_214 : decode cX12_tell 214 = .ok (.getfield 100, 3) := by decide +kernel
theorem dX12_tell_217 : decode cX12_tell 217 = .ok (.iload_n 3, 1) := by decide +kernel
theorem dX12_tell_218 : decode cX12_tell 218 = .ok (.iaload, 1) := by decide +kernel
theorem dX12_tell_219 : decode cX12_tell 219 = .ok (.invokevirtual 362, 3) := by decide +kernel
theorem dX12_tell_222 : decode cX12_tell 222 = .ok (.invokevirtual 785, 3) := by decide +kernel
theorem dX12_tell_225 : decode cX12_tell 225 = .ok (.aload_n 0, 1) := by decide +kernel
theorem dX12_tell_226 : decode cX12_tell 226 = .ok (.iload_n 2, 1) := by decide +kernel
theorem dX12_tell_227 : decode cX12_tell 227 = .ok (.invokevirtual 839, 3) := by decide +kernel
theorem dX12_tell_230 : decode cX12_tell 230 = .ok (.aload_n 0, 1) := by decide +kernel
theorem dX12_tell_231 : decode cX12_tell 231 = .ok (.getfield 441, 3) := by decide +kernel
theorem dX12_tell_234 : decode cX12_tell 234 = .ok (.ireturn, 1) := by decide +kernel

section
variable {p : Program} {l : Launch} {e : Env} {R : Room} {s : State} {m : MethodId} {args : Array Value} {below : List Frame} {meth : Method} {c : Code} {H : Heap} {locs : List Loc} {Qf : State → Prop}
variable {ls : Array Slot} {D : va_G} {ca : Nat → ClassId} {A : Nat → Prop} {h0 : Nat} {ad : Nat → Nat} {H0 : Heap} {u : iST}
def w_tell_225 (Q : Int → iST → Prop) (x2 : Int) (u : iST) : Prop :=
  w_forget x2 (fun u => 
  rd (u.1 16) (fun v9 => 
  Q v9 u)) u
set_option maxRecDepth 20000 in
set_option maxHeartbeats 4000000 in
theorem b_tell_225 (X : kX p m c cX12_tell 6 s args D ca) (hRf : 5 ≤ R.frames) (hRl : 113 ≤ R.locals) {Q : Int → iST → Prop} (hret : ∀ (v : Int) (u : iST) (H : Heap) (locs : List Loc) (ls : Array Slot) (pc : Nat), inR v → Q v u → kW D ca A h0 ad H0 H locs u → decode cX12_tell pc = .ok (.ireturn, 1) → W p l e R s m args below meth c H locs 0 0 Qf (F0 m pc ls [.int (jI v)])) {x2 : Int} (rx2 : inR x2) (hw : kW D ca A h0 ad H0 H locs u) (hl : lv_has ls 6 [(0, .ref h0), (2, .int (jI x2))]) (h : w_tell_225 Q x2 u) : W p l e R s m args below meth c H locs 0 0 Qf (F0 m 225 ls []) := by
  have hx := X.1.1
  have hb := X.1.2.1
  unfold w_tell_225 at h
  refine lv_aload_n hx hb dX12_tell_225 rfl (lv_at hl 0 rfl) ?_
  refine lv_iload_n hx hb dX12_tell_226 rfl (lv_at hl 1 rfl) ?_
  refine kcV (n := 1) (c_forget rx2 h) G_forget E_forget X hw (Nat.le_trans (Nat.le_of_ble_eq_true rfl) hRf) (Nat.le_trans (Nat.le_of_ble_eq_true rfl) hRl) rfl hl.1 (Nat.le_of_ble_eq_true rfl) rfl dX12_tell_227 (fun u H locs h hw => ?_)
  refine lv_aload_n hx hb dX12_tell_230 rfl (lv_at hl 0 rfl) ?_
  refine gS 16 441 (by decide) L_16 (fun _ _ => mF_16) rfl X hw dX12_tell_231 h (fun v9 rv9 h => ?_)
  exact hret _ _ _ _ _ _ rv9 h hw dX12_tell_234

def w_tell_170 (Q : Int → iST → Prop) (x2 : Int) (x3 : Int) (x4 : Int) (y0 : Int) (u : iST) : Prop :=
  bd x3 40 (rd (u.2.1 36 x3) (fun v15 => 
  w_pair x4 y0 (fun v16 u => 
  w_pair v15 v16 (fun v17 u => 
  w_pair 17 v17 (fun v18 u => 
  w_tellOut v18 (fun u => 
  w_tell_225 Q x2 u) u) u) u) u))
set_option maxRecDepth 20000 in
set_option maxHeartbeats 4000000 in
theorem b_tell_170 (X : kX p m c cX12_tell 6 s args D ca) (hRf : 5 ≤ R.frames) (hRl : 113 ≤ R.locals) {Q : Int → iST → Prop} (hret : ∀ (v : Int) (u : iST) (H : Heap) (locs : List Loc) (ls : Array Slot) (pc : Nat), inR v → Q v u → kW D ca A h0 ad H0 H locs u → decode cX12_tell pc = .ok (.ireturn, 1) → W p l e R s m args below meth c H locs 0 0 Qf (F0 m pc ls [.int (jI v)])) {x2 x3 x4 y0 : Int} (rx2 : inR x2) (rx3 : inR x3) (rx4 : inR x4) (ry0 : inR y0) (hw : kW D ca A h0 ad H0 H locs u) (hl : lv_has ls 6 [(0, .ref h0), (2, .int (jI x2)), (3, .int (jI x3)), (4, .int (jI x4))]) (h : w_tell_170 Q x2 x3 x4 y0 u) : W p l e R s m args below meth c H locs 0 0 Qf (F0 m 170 ls [.int (jI y0)]) := by
  have hx := X.1.1
  have hb := X.1.2.1
  unfold w_tell_170 at h
  refine lv_istore hx hb dX12_tell_170 hl (by decide) rfl (fun ls hl => ?_)
  have hl : lv_has ls 6 [(5, .int (jI y0)), (0, .ref (h0)), (2, .int (jI x2)), (3, .int (jI x3)), (4, .int (jI x4))] := hl
  refine lv_aload_n hx hb dX12_tell_172 rfl (lv_at hl 1 rfl) ?_
  refine lv_aload_n hx hb dX12_tell_173 rfl (lv_at hl 1 rfl) ?_
  refine lv_bipush hx hb dX12_tell_174 (v := jI 17) rfl ?_
  refine lv_aload_n hx hb dX12_tell_176 rfl (lv_at hl 1 rfl) ?_
  refine lv_aload_n hx hb dX12_tell_177 rfl (lv_at hl 1 rfl) ?_
  refine gA 36 78 (by decide) L_36 (fun _ _ => mF_36) rfl X hw dX12_tell_178 ?_
  refine lv_iload_n hx hb dX12_tell_181 rfl (lv_at hl 3 rfl) ?_
  refine aL 36 21 20 40 (fun _ _ _ _ => mG_36) (fun _ => rfl) X hw rx3 dX12_tell_182 rfl h (fun v15 rv15 h => ?_)
  refine lv_aload_n hx hb dX12_tell_183 rfl (lv_at hl 1 rfl) ?_
  refine lv_iload hx hb dX12_tell_184 (lv_at hl 4 rfl) ?_
  refine lv_iload hx hb dX12_tell_186 (lv_at hl 0 rfl) ?_
  refine kcI (n := 2) (c_pair rx4 ry0 h) G_pair E_pair X hw (Nat.le_trans (Nat.le_of_ble_eq_true rfl) hRf) (Nat.le_trans (Nat.le_of_ble_eq_true rfl) hRl) rfl hl.1 (Nat.le_of_ble_eq_true rfl) rfl dX12_tell_188 (fun v16 u H locs rv16 h hw => ?_)
  refine kcI (n := 2) (c_pair rv15 rv16 h) G_pair E_pair X hw (Nat.le_trans (Nat.le_of_ble_eq_true rfl) hRf) (Nat.le_trans (Nat.le_of_ble_eq_true rfl) hRl) rfl hl.1 (Nat.le_of_ble_eq_true rfl) rfl dX12_tell_191 (fun v17 u H locs rv17 h hw => ?_)
  refine kcI (n := 2) (c_pair (by decide) rv17 h) G_pair E_pair X hw (Nat.le_trans (Nat.le_of_ble_eq_true rfl) hRf) (Nat.le_trans (Nat.le_of_ble_eq_true rfl) hRl) rfl hl.1 (Nat.le_of_ble_eq_true rfl) rfl dX12_tell_194 (fun v18 u H locs rv18 h hw => ?_)
  refine kcV (n := 1) (c_tellOut rv18 h) G_tellOut E_tellOut X hw (Nat.le_trans (Nat.le_of_ble_eq_true rfl) hRf) (Nat.le_trans (Nat.le_of_ble_eq_true rfl) hRl) rfl hl.1 (Nat.le_of_ble_eq_true rfl) rfl dX12_tell_197 (fun u H locs h hw => ?_)
  refine lv_goto hx hb dX12_tell_200 (tgt := 225) rfl ?_
  exact b_tell_225 X hRf hRl hret rx2 hw (lv_sub hl [1, 2] rfl) h

def w_tell_101b (R101 : Int → Int → Int → Int → iST → Prop) (Q : Int → iST → Prop) (x2 : Int) (x3 : Int) (x4 : Int) (x5 : Int) (u : iST) : Prop :=
  br (x5 < 0) (
    bd x3 40 (rz (u.2.1 41 x3) (fun v12 => 
    br (v12 = 0) (
      bd x3 40 (rd (u.2.1 39 x3) (fun v13 => 
      w_list1 v13 (fun v14 u => 
      w_tell_170 Q x2 x3 x4 v14 u) u))) (
      bd x3 40 (rd (u.2.1 39 x3) (fun v20 => 
      bd x3 40 (rd (u.2.1 40 x3) (fun v21 => 
      w_list2 v20 v21 (fun v22 u => 
      w_tell_170 Q x2 x3 x4 v22 u) u)))))))) (
    ov (6 * x3) (
    ov ((6 * x3) + x5) (
    bd ((6 * x3) + x5) 240 (rd (u.2.1 38 ((6 * x3) + x5)) (fun v25 => 
    w_pair v25 x4 (fun v26 u => 
    ov (x5 + (-1)) (
    R101 x2 x3 v26 (x5 + (-1)) u)) u)))))
def w_tell_101 (Q : Int → iST → Prop) (x2 : Int) (x3 : Int) (x4 : Int) (x5 : Int) (u : iST) : Prop := ∀ R101 : Int → Int → Int → Int → iST → Prop, (∀ (x2 : Int) (x3 : Int) (x4 : Int) (x5 : Int) (u : iST), w_tell_101b R101 Q x2 x3 x4 x5 u → R101 x2 x3 x4 x5 u) → R101 x2 x3 x4 x5 u
set_option maxRecDepth 20000 in
set_option maxHeartbeats 4000000 in
theorem b_tell_101 (X : kX p m c cX12_tell 6 s args D ca) (hRf : 5 ≤ R.frames) (hRl : 113 ≤ R.locals) {Q : Int → iST → Prop} (hret : ∀ (v : Int) (u : iST) (H : Heap) (locs : List Loc) (ls : Array Slot) (pc : Nat), inR v → Q v u → kW D ca A h0 ad H0 H locs u → decode cX12_tell pc = .ok (.ireturn, 1) → W p l e R s m args below meth c H locs 0 0 Qf (F0 m pc ls [.int (jI v)])) {x2 x3 x4 x5 : Int} (rx2 : inR x2) (rx3 : inR x3) (rx4 : inR x4) (rx5 : inR x5) (hw : kW D ca A h0 ad H0 H locs u) (hl : lv_has ls 6 [(0, .ref h0), (2, .int (jI x2)), (3, .int (jI x3)), (4, .int (jI x4)), (5, .int (jI x5))]) (h : w_tell_101 Q x2 x3 x4 x5 u) : W p l e R s m args below meth c H locs 0 0 Qf (F0 m 101 ls []) := by
  refine h (fun x2 x3 x4 x5 u => ∀ (H : Heap) (locs : List Loc) (ls : Array Slot), inR x2 → inR x3 → inR x4 → inR x5 → kW D ca A h0 ad H0 H locs u → lv_has ls 6 [(0, .ref h0), (2, .int (jI x2)), (3, .int (jI x3)), (4, .int (jI x4)), (5, .int (jI x5))] → W p l e R s m args below meth c H locs 0 0 Qf (F0 m 101 ls [])) ?_ H locs ls rx2 rx3 rx4 rx5 hw hl
  clear h hl hw rx2 rx3 rx4 rx5
  intro x2 x3 x4 x5 u h H locs ls rx2 rx3 rx4 rx5 hw hl
  have hR101 : ∀ (x2 : Int) (x3 : Int) (x4 : Int) (x5 : Int) (u : iST) (H : Heap) (locs : List Loc) (ls : Array Slot), inR x2 → inR x3 → inR x4 → inR x5 → kW D ca A h0 ad H0 H locs u → lv_has ls 6 [(0, .ref h0), (2, .int (jI x2)), (3, .int (jI x3)), (4, .int (jI x4)), (5, .int (jI x5))] → (fun (x2 : Int) (x3 : Int) (x4 : Int) (x5 : Int) u => ∀ (H : Heap) (locs : List Loc) (ls : Array Slot), inR x2 → inR x3 → inR x4 → inR x5 → kW D ca A h0 ad H0 H locs u → lv_has ls 6 [(0, .ref h0), (2, .int (jI x2)), (3, .int (jI x3)), (4, .int (jI x4)), (5, .int (jI x5))] → W p l e R s m args below meth c H locs 0 0 Qf (F0 m 101 ls [])) x2 x3 x4 x5 u → W p l e R s m args below meth c H locs 0 0 Qf (F0 m 101 ls []) := fun x2 x3 x4 x5 u H locs ls rx2 rx3 rx4 rx5 hw hl h => h H locs ls rx2 rx3 rx4 rx5 hw hl
  have hx := X.1.1
  have hb := X.1.2.1
  unfold w_tell_101b at h
  refine lv_iload hx hb dX12_tell_101 (lv_at hl 4 rfl) ?_
  refine k_if_lt hx hb rx5 dX12_tell_103 (tgt := 132) rfl h (fun h => ?_) (fun h => ?_)
  · refine lv_aload_n hx hb dX12_tell_132 rfl (lv_at hl 0 rfl) ?_
    refine gA 41 93 (by decide) L_41 (fun _ _ => mF_41) rfl X hw dX12_tell_133 ?_
    refine lv_iload_n hx hb dX12_tell_136 rfl (lv_at hl 2 rfl) ?_
    refine aZ 41 26 25 40 (fun _ _ _ _ => mG_41) (fun _ => rfl) (by decide) X hw rx3 dX12_tell_137 rfl h (fun v12 rv12 h => ?_)
    refine k_if_eq hx hb (bz_in rv12) dX12_tell_138 (tgt := 160) rfl h (fun h => ?_) (fun h => ?_)
    · refine lv_aload_n hx hb dX12_tell_160 rfl (lv_at hl 0 rfl) ?_
      refine lv_aload_n hx hb dX12_tell_161 rfl (lv_at hl 0 rfl) ?_
      refine gA 39 87 (by decide) L_39 (fun _ _ => mF_39) rfl X hw dX12_tell_162 ?_
      refine lv_iload_n hx hb dX12_tell_165 rfl (lv_at hl 2 rfl) ?_
      refine aL 39 24 23 40 (fun _ _ _ _ => mG_39) (fun _ => rfl) X hw rx3 dX12_tell_166 rfl h (fun v13 rv13 h => ?_)
      refine kcI (n := 1) (c_list1 rv13 h) G_list1 E_list1 X hw (Nat.le_trans (Nat.le_of_ble_eq_true rfl) hRf) (Nat.le_trans (Nat.le_of_ble_eq_true rfl) hRl) rfl hl.1 (Nat.le_of_ble_eq_true rfl) rfl dX12_tell_167 (fun v14 u H locs rv14 h hw => ?_)
      exact b_tell_170 X hRf hRl hret rx2 rx3 rx4 rv14 hw (lv_sub hl [0, 1, 2, 3] rfl) h
    · refine lv_aload_n hx hb dX12_tell_141 rfl (lv_at hl 0 rfl) ?_
      refine lv_aload_n hx hb dX12_tell_142 rfl (lv_at hl 0 rfl) ?_
      refine gA 39 87 (by decide) L_39 (fun _ _ => mF_39) rfl X hw dX12_tell_143 ?_
      refine lv_iload_n hx hb dX12_tell_146 rfl (lv_at hl 2 rfl) ?_
      refine aL 39 24 23 40 (fun _ _ _ _ => mG_39) (fun _ => rfl) X hw rx3 dX12_tell_147 rfl h (fun v20 rv20 h => ?_)
      refine lv_aload_n hx hb dX12_tell_148 rfl (lv_at hl 0 rfl) ?_
      refine gA 40 90 (by decide) L_40 (fun _ _ => mF_40) rfl X hw dX12_tell_149 ?_
      refine lv_iload_n hx hb dX12_tell_152 rfl (lv_at hl 2 rfl) ?_
      refine aL 40 25 24 40 (fun _ _ _ _ => mG_40) (fun _ => rfl) X hw rx3 dX12_tell_153 rfl h (fun v21 rv21 h => ?_)
      refine kcI (n := 2) (c_list2 rv20 rv21 h) G_list2 E_list2 X hw (Nat.le_trans (Nat.le_of_ble_eq_true rfl) hRf) (Nat.le_trans (Nat.le_of_ble_eq_true rfl) hRl) rfl hl.1 (Nat.le_of_ble_eq_true rfl) rfl dX12_tell_154 (fun v22 u H locs rv22 h hw => ?_)
      refine lv_goto hx hb dX12_tell_157 (tgt := 170) rfl ?_
      exact b_tell_170 X hRf hRl hret rx2 rx3 rx4 rv22 hw (lv_sub hl [0, 1, 2, 3] rfl) h
  · refine lv_aload_n hx hb dX12_tell_106 rfl (lv_at hl 0 rfl) ?_
    refine lv_aload_n hx hb dX12_tell_107 rfl (lv_at hl 0 rfl) ?_
    refine gA 38 84 (by decide) L_38 (fun _ _ => mF_38) rfl X hw dX12_tell_108 ?_
    refine lv_bipush hx hb dX12_tell_111 (v := jI 6) rfl ?_
    refine lv_iload_n hx hb dX12_tell_113 rfl (lv_at hl 2 rfl) ?_
    refine k_imul hx hb dX12_tell_114 h (fun r23 h => ?_)
    refine lv_iload hx hb dX12_tell_115 (lv_at hl 4 rfl) ?_
    refine k_iadd hx hb dX12_tell_117 h (fun r24 h => ?_)
    refine aL 38 23 22 240 (fun _ _ _ _ => mG_38) (fun _ => rfl) X hw r24 dX12_tell_118 rfl h (fun v25 rv25 h => ?_)
    refine lv_iload hx hb dX12_tell_119 (lv_at hl 3 rfl) ?_
    refine kcI (n := 2) (c_pair rv25 rx4 h) G_pair E_pair X hw (Nat.le_trans (Nat.le_of_ble_eq_true rfl) hRf) (Nat.le_trans (Nat.le_of_ble_eq_true rfl) hRl) rfl hl.1 (Nat.le_of_ble_eq_true rfl) rfl dX12_tell_121 (fun v26 u H locs rv26 h hw => ?_)
    refine lv_istore hx hb dX12_tell_124 hl (by decide) rfl (fun ls hl => ?_)
    have hl : lv_has ls 6 [(4, .int (jI v26)), (0, .ref (h0)), (2, .int (jI x2)), (3, .int (jI x3)), (5, .int (jI x5))] := hl
    refine k_iinc (k := 4) hx hb dX12_tell_126 hl rfl (by decide) rfl h (fun ls r27 h hl => ?_)
    have hl : lv_has ls 6 [(5, .int (jI (x5 + (-1)))), (4, .int (jI v26)), (0, .ref (h0)), (2, .int (jI x2)), (3, .int (jI x3))] := hl
    refine lv_goto hx hb dX12_tell_129 (tgt := 101) rfl ?_
    exact hR101 _ _ _ _ _ H locs ls rx2 rx3 rv26 r27 hw (lv_sub hl [2, 3, 4, 1, 0] rfl) h

def w_tell_62 (R24 : Int → Int → Int → Int → iST → Prop) (Q : Int → iST → Prop) (x1 : Int) (x2 : Int) (x4 : Int) (y0 : Int) (y1 : Int) (y2 : Int) (u : iST) : Prop :=
  br (y1 ≠ y2) (
    ov (y0 + 0) (
    ov (x4 + 1) (
    R24 x1 x2 (y0 + 0) (x4 + 1) u))) (
    ov (y0 + 1) (
    ov (x4 + 1) (
    R24 x1 x2 (y0 + 1) (x4 + 1) u)))
set_option maxRecDepth 20000 in
set_option maxHeartbeats 4000000 in
theorem b_tell_62 (X : kX p m c cX12_tell 6 s args D ca) (hRf : 5 ≤ R.frames) (hRl : 113 ≤ R.locals) {Q : Int → iST → Prop} (hret : ∀ (v : Int) (u : iST) (H : Heap) (locs : List Loc) (ls : Array Slot) (pc : Nat), inR v → Q v u → kW D ca A h0 ad H0 H locs u → decode cX12_tell pc = .ok (.ireturn, 1) → W p l e R s m args below meth c H locs 0 0 Qf (F0 m pc ls [.int (jI v)])) {R24 : Int → Int → Int → Int → iST → Prop} (hR24 : ∀ (x1 : Int) (x2 : Int) (x3 : Int) (x4 : Int) (u : iST) (H : Heap) (locs : List Loc) (ls : Array Slot), inR x1 → inR x2 → inR x3 → inR x4 → kW D ca A h0 ad H0 H locs u → lv_has ls 6 [(0, .ref h0), (1, .int (jI x1)), (2, .int (jI x2)), (3, .int (jI x3)), (4, .int (jI x4))] → R24 x1 x2 x3 x4 u → W p l e R s m args below meth c H locs 0 0 Qf (F0 m 24 ls [])) {x1 x2 x4 y0 y1 y2 : Int} (rx1 : inR x1) (rx2 : inR x2) (rx4 : inR x4) (ry0 : inR y0) (ry1 : inR y1) (ry2 : inR y2) (hw : kW D ca A h0 ad H0 H locs u) (hl : lv_has ls 6 [(0, .ref h0), (1, .int (jI x1)), (2, .int (jI x2)), (4, .int (jI x4))]) (h : w_tell_62 R24 Q x1 x2 x4 y0 y1 y2 u) : W p l e R s m args below meth c H locs 0 0 Qf (F0 m 62 ls [.int (jI y2), .int (jI y1), .int (jI y0)]) := by
  have hx := X.1.1
  have hb := X.1.2.1
  unfold w_tell_62 at h
  refine k_icmp_ne hx hb ry1 ry2 dX12_tell_62 (tgt := 69) rfl h (fun h => ?_) (fun h => ?_)
  · refine lv_iconst hx hb dX12_tell_69 (v := jI 0) rfl ?_
    refine k_iadd hx hb dX12_tell_70 h (fun r30 h => ?_)
    refine lv_istore_n hx hb dX12_tell_71 rfl hl (by decide) rfl (fun ls hl => ?_)
    have hl : lv_has ls 6 [(3, .int (jI (y0 + 0))), (0, .ref (h0)), (1, .int (jI x1)), (2, .int (jI x2)), (4, .int (jI x4))] := hl
    refine k_iinc (k := 4) hx hb dX12_tell_72 hl rfl (by decide) rfl h (fun ls r31 h hl => ?_)
    have hl : lv_has ls 6 [(4, .int (jI (x4 + 1))), (3, .int (jI (y0 + 0))), (0, .ref (h0)), (1, .int (jI x1)), (2, .int (jI x2))] := hl
    refine lv_goto hx hb dX12_tell_75 (tgt := 24) rfl ?_
    exact hR24 _ _ _ _ _ H locs ls rx1 rx2 r30 r31 hw (lv_sub hl [2, 3, 4, 1, 0] rfl) h
  · refine lv_iconst hx hb dX12_tell_65 (v := jI 1) rfl ?_
    refine lv_goto hx hb dX12_tell_66 (tgt := 70) rfl ?_
    refine k_iadd hx hb dX12_tell_70 h (fun r32 h => ?_)
    refine lv_istore_n hx hb dX12_tell_71 rfl hl (by decide) rfl (fun ls hl => ?_)
    have hl : lv_has ls 6 [(3, .int (jI (y0 + 1))), (0, .ref (h0)), (1, .int (jI x1)), (2, .int (jI x2)), (4, .int (jI x4))] := hl
    refine k_iinc (k := 4) hx hb dX12_tell_72 hl rfl (by decide) rfl h (fun ls r33 h hl => ?_)
    have hl : lv_has ls 6 [(4, .int (jI (x4 + 1))), (3, .int (jI (y0 + 1))), (0, .ref (h0)), (1, .int (jI x1)), (2, .int (jI x2))] := hl
    refine lv_goto hx hb dX12_tell_75 (tgt := 24) rfl ?_
    exact hR24 _ _ _ _ _ H locs ls rx1 rx2 r32 r33 hw (lv_sub hl [2, 3, 4, 1, 0] rfl) h

def w_tell_47 (R24 : Int → Int → Int → Int → iST → Prop) (Q : Int → iST → Prop) (x1 : Int) (x2 : Int) (x4 : Int) (y0 : Int) (y1 : Int) (u : iST) : Prop :=
  bd x1 100 (rd (u.2.1 55 x1) (fun v29 => 
  br (v29 ≠ 1) (
    w_tell_62 R24 Q x1 x2 x4 y0 y1 0 u) (
    w_tell_62 R24 Q x1 x2 x4 y0 y1 1 u)))
set_option maxRecDepth 20000 in
set_option maxHeartbeats 4000000 in
theorem b_tell_47 (X : kX p m c cX12_tell 6 s args D ca) (hRf : 5 ≤ R.frames) (hRl : 113 ≤ R.locals) {Q : Int → iST → Prop} (hret : ∀ (v : Int) (u : iST) (H : Heap) (locs : List Loc) (ls : Array Slot) (pc : Nat), inR v → Q v u → kW D ca A h0 ad H0 H locs u → decode cX12_tell pc = .ok (.ireturn, 1) → W p l e R s m args below meth c H locs 0 0 Qf (F0 m pc ls [.int (jI v)])) {R24 : Int → Int → Int → Int → iST → Prop} (hR24 : ∀ (x1 : Int) (x2 : Int) (x3 : Int) (x4 : Int) (u : iST) (H : Heap) (locs : List Loc) (ls : Array Slot), inR x1 → inR x2 → inR x3 → inR x4 → kW D ca A h0 ad H0 H locs u → lv_has ls 6 [(0, .ref h0), (1, .int (jI x1)), (2, .int (jI x2)), (3, .int (jI x3)), (4, .int (jI x4))] → R24 x1 x2 x3 x4 u → W p l e R s m args below meth c H locs 0 0 Qf (F0 m 24 ls [])) {x1 x2 x4 y0 y1 : Int} (rx1 : inR x1) (rx2 : inR x2) (rx4 : inR x4) (ry0 : inR y0) (ry1 : inR y1) (hw : kW D ca A h0 ad H0 H locs u) (hl : lv_has ls 6 [(0, .ref h0), (1, .int (jI x1)), (2, .int (jI x2)), (4, .int (jI x4))]) (h : w_tell_47 R24 Q x1 x2 x4 y0 y1 u) : W p l e R s m args below meth c H locs 0 0 Qf (F0 m 47 ls [.int (jI y1), .int (jI y0)]) := by
  have hx := X.1.1
  have hb := X.1.2.1
  unfold w_tell_47 at h
  refine lv_aload_n hx hb dX12_tell_47 rfl (lv_at hl 0 rfl) ?_
  refine gA 55 130 (by decide) L_55 (fun _ _ => mF_55) rfl X hw dX12_tell_48 ?_
  refine lv_iload_n hx hb dX12_tell_51 rfl (lv_at hl 1 rfl) ?_
  refine aL 55 38 37 100 (fun _ _ _ _ => mG_55) (fun _ => rfl) X hw rx1 dX12_tell_52 rfl h (fun v29 rv29 h => ?_)
  refine lv_iconst hx hb dX12_tell_53 (v := jI 1) rfl ?_
  refine k_icmp_ne hx hb rv29 (by decide) dX12_tell_54 (tgt := 61) rfl h (fun h => ?_) (fun h => ?_)
  · refine lv_iconst hx hb dX12_tell_61 (v := jI 0) rfl ?_
    exact b_tell_62 X hRf hRl hret hR24 rx1 rx2 rx4 ry0 ry1 (by decide) hw hl h
  · refine lv_iconst hx hb dX12_tell_57 (v := jI 1) rfl ?_
    refine lv_goto hx hb dX12_tell_58 (tgt := 62) rfl ?_
    exact b_tell_62 X hRf hRl hret hR24 rx1 rx2 rx4 ry0 ry1 (by decide) hw hl h

def w_tell_24b (R24 : Int → Int → Int → Int → iST → Prop) (Q : Int → iST → Prop) (x1 : Int) (x2 : Int) (x3 : Int) (x4 : Int) (u : iST) : Prop :=
  br (x1 ≤ x4) (
    bd x1 100 (rd (u.2.1 55 x1) (fun v3 => 
    br (v3 ≠ 1) (
      bd x3 60 (rd (u.2.1 43 x3) (fun v4 => 
      bd x3 60 (rd (u.2.1 44 x3) (fun v5 => 
      w_list3 18 v4 v5 (fun v6 u => 
      w_tellOut v6 (fun u => 
      w_tell_225 Q x2 u) u) u))))) (
      bd x3 40 (rd (u.2.1 37 x3) (fun v10 => 
      ov (v10 - 1) (
      w_tell_101 Q x2 x3 0 (v10 - 1) u))))))) (
    bd x4 100 (rd (u.2.1 55 x4) (fun v28 => 
    br (v28 ≠ 1) (
      w_tell_47 R24 Q x1 x2 x4 x3 0 u) (
      w_tell_47 R24 Q x1 x2 x4 x3 1 u))))
def w_tell_24 (Q : Int → iST → Prop) (x1 : Int) (x2 : Int) (x3 : Int) (x4 : Int) (u : iST) : Prop := ∀ R24 : Int → Int → Int → Int → iST → Prop, (∀ (x1 : Int) (x2 : Int) (x3 : Int) (x4 : Int) (u : iST), w_tell_24b R24 Q x1 x2 x3 x4 u → R24 x1 x2 x3 x4 u) → R24 x1 x2 x3 x4 u
set_option maxRecDepth 20000 in
set_option maxHeartbeats 4000000 in
theorem b_tell_24 (X : kX p m c cX12_tell 6 s args D ca) (hRf : 5 ≤ R.frames) (hRl : 113 ≤ R.locals) {Q : Int → iST → Prop} (hret : ∀ (v : Int) (u : iST) (H : Heap) (locs : List Loc) (ls : Array Slot) (pc : Nat), inR v → Q v u → kW D ca A h0 ad H0 H locs u → decode cX12_tell pc = .ok (.ireturn, 1) → W p l e R s m args below meth c H locs 0 0 Qf (F0 m pc ls [.int (jI v)])) {x1 x2 x3 x4 : Int} (rx1 : inR x1) (rx2 : inR x2) (rx3 : inR x3) (rx4 : inR x4) (hw : kW D ca A h0 ad H0 H locs u) (hl : lv_has ls 6 [(0, .ref h0), (1, .int (jI x1)), (2, .int (jI x2)), (3, .int (jI x3)), (4, .int (jI x4))]) (h : w_tell_24 Q x1 x2 x3 x4 u) : W p l e R s m args below meth c H locs 0 0 Qf (F0 m 24 ls []) := by
  refine h (fun x1 x2 x3 x4 u => ∀ (H : Heap) (locs : List Loc) (ls : Array Slot), inR x1 → inR x2 → inR x3 → inR x4 → kW D ca A h0 ad H0 H locs u → lv_has ls 6 [(0, .ref h0), (1, .int (jI x1)), (2, .int (jI x2)), (3, .int (jI x3)), (4, .int (jI x4))] → W p l e R s m args below meth c H locs 0 0 Qf (F0 m 24 ls [])) ?_ H locs ls rx1 rx2 rx3 rx4 hw hl
  clear h hl hw rx1 rx2 rx3 rx4
  intro x1 x2 x3 x4 u h H locs ls rx1 rx2 rx3 rx4 hw hl
  have hR24 : ∀ (x1 : Int) (x2 : Int) (x3 : Int) (x4 : Int) (u : iST) (H : Heap) (locs : List Loc) (ls : Array Slot), inR x1 → inR x2 → inR x3 → inR x4 → kW D ca A h0 ad H0 H locs u → lv_has ls 6 [(0, .ref h0), (1, .int (jI x1)), (2, .int (jI x2)), (3, .int (jI x3)), (4, .int (jI x4))] → (fun (x1 : Int) (x2 : Int) (x3 : Int) (x4 : Int) u => ∀ (H : Heap) (locs : List Loc) (ls : Array Slot), inR x1 → inR x2 → inR x3 → inR x4 → kW D ca A h0 ad H0 H locs u → lv_has ls 6 [(0, .ref h0), (1, .int (jI x1)), (2, .int (jI x2)), (3, .int (jI x3)), (4, .int (jI x4))] → W p l e R s m args below meth c H locs 0 0 Qf (F0 m 24 ls [])) x1 x2 x3 x4 u → W p l e R s m args below meth c H locs 0 0 Qf (F0 m 24 ls []) := fun x1 x2 x3 x4 u H locs ls rx1 rx2 rx3 rx4 hw hl h => h H locs ls rx1 rx2 rx3 rx4 hw hl
  have hx := X.1.1
  have hb := X.1.2.1
  unfold w_tell_24b at h
  refine lv_iload hx hb dX12_tell_24 (lv_at hl 4 rfl) ?_
  refine lv_iload_n hx hb dX12_tell_26 rfl (lv_at hl 1 rfl) ?_
  refine k_icmp_ge hx hb rx4 rx1 dX12_tell_27 (tgt := 78) rfl h (fun h => ?_) (fun h => ?_)
  · refine lv_aload_n hx hb dX12_tell_78 rfl (lv_at hl 0 rfl) ?_
    refine gA 55 130 (by decide) L_55 (fun _ _ => mF_55) rfl X hw dX12_tell_79 ?_
    refine lv_iload_n hx hb dX12_tell_82 rfl (lv_at hl 1 rfl) ?_
    refine aL 55 38 37 100 (fun _ _ _ _ => mG_55) (fun _ => rfl) X hw rx1 dX12_tell_83 rfl h (fun v3 rv3 h => ?_)
    refine lv_iconst hx hb dX12_tell_84 (v := jI 1) rfl ?_
    refine k_icmp_ne hx hb rv3 (by decide) dX12_tell_85 (tgt := 203) rfl h (fun h => ?_) (fun h => ?_)
    · refine lv_aload_n hx hb dX12_tell_203 rfl (lv_at hl 0 rfl) ?_
      refine lv_aload_n hx hb dX12_tell_204 rfl (lv_at hl 0 rfl) ?_
      refine lv_bipush hx hb dX12_tell_205 (v := jI 18) rfl ?_
      refine lv_aload_n hx hb dX12_tell_207 rfl (lv_at hl 0 rfl) ?_
      refine gA 43 97 (by decide) L_43 (fun _ _ => mF_43) rfl X hw dX12_tell_208 ?_
      refine lv_iload_n hx hb dX12_tell_211 rfl (lv_at hl 3 rfl) ?_
      refine aL 43 27 26 60 (fun _ _ _ _ => mG_43) (fun _ => rfl) X hw rx3 dX12_tell_212 rfl h (fun v4 rv4 h => ?_)
      refine lv_aload_n hx hb dX12_tell_213 rfl (lv_at hl 0 rfl) ?_
      refine gA 44 100 (by decide) L_44 (fun _ _ => mF_44) rfl X hw dX12_tell_214 ?_
      refine lv_iload_n hx hb dX12_tell_217 rfl (lv_at hl 3 rfl) ?_
      refine aL 44 28 27 60 (fun _ _ _ _ => mG_44) (fun _ => rfl) X hw rx3 dX12_tell_218 rfl h (fun v5 rv5 h => ?_)
      refine kcI (n := 3) (c_list3 (by decide) rv4 rv5 h) G_list3 E_list3 X hw (Nat.le_trans (Nat.le_of_ble_eq_true rfl) hRf) (Nat.le_trans (Nat.le_of_ble_eq_true rfl) hRl) rfl hl.1 (Nat.le_of_ble_eq_true rfl) rfl dX12_tell_219 (fun v6 u H locs rv6 h hw => ?_)
      refine kcV (n := 1) (c_tellOut rv6 h) G_tellOut E_tellOut X hw (Nat.le_trans (Nat.le_of_ble_eq_true rfl) hRf) (Nat.le_trans (Nat.le_of_ble_eq_true rfl) hRl) rfl hl.1 (Nat.le_of_ble_eq_true rfl) rfl dX12_tell_222 (fun u H locs h hw => ?_)
      exact b_tell_225 X hRf hRl hret rx2 hw (lv_sub hl [0, 2] rfl) h
    · refine lv_iconst hx hb dX12_tell_88 (v := jI 0) rfl ?_
      refine lv_istore hx hb dX12_tell_89 hl (by decide) rfl (fun ls hl => ?_)
      have hl : lv_has ls 6 [(4, .int (jI 0)), (0, .ref (h0)), (1, .int (jI x1)), (2, .int (jI x2)), (3, .int (jI x3))] := hl
      refine lv_aload_n hx hb dX12_tell_91 rfl (lv_at hl 1 rfl) ?_
      refine gA 37 81 (by decide) L_37 (fun _ _ => mF_37) rfl X hw dX12_tell_92 ?_
      refine lv_iload_n hx hb dX12_tell_95 rfl (lv_at hl 4 rfl) ?_
      refine aL 37 22 21 40 (fun _ _ _ _ => mG_37) (fun _ => rfl) X hw rx3 dX12_tell_96 rfl h (fun v10 rv10 h => ?_)
      refine lv_iconst hx hb dX12_tell_97 (v := jI 1) rfl ?_
      refine k_isub hx hb dX12_tell_98 h (fun r11 h => ?_)
      refine lv_istore hx hb dX12_tell_99 hl (by decide) rfl (fun ls hl => ?_)
      have hl : lv_has ls 6 [(5, .int (jI (v10 - 1))), (4, .int (jI 0)), (0, .ref (h0)), (1, .int (jI x1)), (2, .int (jI x2)), (3, .int (jI x3))] := hl
      exact b_tell_101 X hRf hRl hret rx2 rx3 (by decide) r11 hw (lv_sub hl [2, 4, 5, 1, 0] rfl) h
  · refine lv_iload_n hx hb dX12_tell_30 rfl (lv_at hl 3 rfl) ?_
    refine lv_aload_n hx hb dX12_tell_31 rfl (lv_at hl 0 rfl) ?_
    refine gA 55 130 (by decide) L_55 (fun _ _ => mF_55) rfl X hw dX12_tell_32 ?_
    refine lv_iload hx hb dX12_tell_35 (lv_at hl 4 rfl) ?_
    refine aL 55 38 37 100 (fun _ _ _ _ => mG_55) (fun _ => rfl) X hw rx4 dX12_tell_37 rfl h (fun v28 rv28 h => ?_)
    refine lv_iconst hx hb dX12_tell_38 (v := jI 1) rfl ?_
    refine k_icmp_ne hx hb rv28 (by decide) dX12_tell_39 (tgt := 46) rfl h (fun h => ?_) (fun h => ?_)
    · refine lv_iconst hx hb dX12_tell_46 (v := jI 0) rfl ?_
      exact b_tell_47 X hRf hRl hret hR24 rx1 rx2 rx4 rx3 (by decide) hw (lv_sub hl [0, 1, 2, 4] rfl) h
    · refine lv_iconst hx hb dX12_tell_42 (v := jI 1) rfl ?_
      refine lv_goto hx hb dX12_tell_43 (tgt := 47) rfl ?_
      exact b_tell_47 X hRf hRl hret hR24 rx1 rx2 rx4 rx3 (by decide) hw (lv_sub hl [0, 1, 2, 4] rfl) h

def w_tell (a0 : Int) (Q : Int → iST → Prop) (u : iST) : Prop :=
  br (a0 < 0) (
    Q (-1) u) (
    rd (u.1 54) (fun v1 => 
    br (a0 < v1) (
      rd (u.1 8) (fun v2 => 
      w_tell_24 Q a0 v2 0 0 u)) (
      Q (-1) u)))
set_option maxRecDepth 20000 in
set_option maxHeartbeats 4000000 in
theorem b_tell_s (X : kX p m c cX12_tell 6 s args D ca) (hRf : 5 ≤ R.frames) (hRl : 113 ≤ R.locals) {Q : Int → iST → Prop} (hret : ∀ (v : Int) (u : iST) (H : Heap) (locs : List Loc) (ls : Array Slot) (pc : Nat), inR v → Q v u → kW D ca A h0 ad H0 H locs u → decode cX12_tell pc = .ok (.ireturn, 1) → W p l e R s m args below meth c H locs 0 0 Qf (F0 m pc ls [.int (jI v)])) {a0 : Int} (ra0 : inR a0) (hw : kW D ca A h0 ad H0 H locs u) (hl : lv_has ls 6 [(0, .ref h0), (1, .int (jI a0))]) (h : w_tell a0 Q u) : W p l e R s m args below meth c H locs 0 0 Qf (F0 m 0 ls []) := by
  have hx := X.1.1
  have hb := X.1.2.1
  unfold w_tell at h
  refine lv_iload_n hx hb dX12_tell_0 rfl (lv_at hl 1 rfl) ?_
  refine k_if_lt hx hb ra0 dX12_tell_1 (tgt := 12) rfl h (fun h => ?_) (fun h => ?_)
  · refine lv_iconst hx hb dX12_tell_12 (v := jI (-1)) rfl ?_
    exact hret _ _ _ _ _ _ (by decide) h hw dX12_tell_13
  · refine lv_iload_n hx hb dX12_tell_4 rfl (lv_at hl 1 rfl) ?_
    refine lv_aload_n hx hb dX12_tell_5 rfl (lv_at hl 0 rfl) ?_
    refine gS 54 845 (by decide) L_54 (fun _ _ => mF_54) rfl X hw dX12_tell_6 h (fun v1 rv1 h => ?_)
    refine k_icmp_lt hx hb ra0 rv1 dX12_tell_9 (tgt := 14) rfl h (fun h => ?_) (fun h => ?_)
    · refine lv_aload_n hx hb dX12_tell_14 rfl (lv_at hl 0 rfl) ?_
      refine gS 8 332 (by decide) L_8 (fun _ _ => mF_8) rfl X hw dX12_tell_15 h (fun v2 rv2 h => ?_)
      refine lv_istore_n hx hb dX12_tell_18 rfl hl (by decide) rfl (fun ls hl => ?_)
      have hl : lv_has ls 6 [(2, .int (jI v2)), (0, .ref (h0)), (1, .int (jI a0))] := hl
      refine lv_iconst hx hb dX12_tell_19 (v := jI 0) rfl ?_
      refine lv_istore_n hx hb dX12_tell_20 rfl hl (by decide) rfl (fun ls hl => ?_)
      have hl : lv_has ls 6 [(3, .int (jI 0)), (2, .int (jI v2)), (0, .ref (h0)), (1, .int (jI a0))] := hl
      refine lv_iconst hx hb dX12_tell_21 (v := jI 0) rfl ?_
      refine lv_istore hx hb dX12_tell_22 hl (by decide) rfl (fun ls hl => ?_)
      have hl : lv_has ls 6 [(4, .int (jI 0)), (3, .int (jI 0)), (2, .int (jI v2)), (0, .ref (h0)), (1, .int (jI a0))] := hl
      exact b_tell_24 X hRf hRl hret ra0 rv2 (by decide) (by decide) hw (lv_sub hl [3, 4, 2, 1, 0] rfl) h
    · refine lv_iconst hx hb dX12_tell_12 (v := jI (-1)) rfl ?_
      exact hret _ _ _ _ _ _ (by decide) h hw dX12_tell_13

end
theorem c_tell {l : Launch} {a0 : Int} (ra0 : inR a0) {Q : Int → iST → Prop} {u : iST} (h : w_tell a0 Q u) : kMI l yX12_tell (.code yX12_tell cX12_tell 6 (some .int) :: wsM) { frames := 5, cells := 0, slots := 0, locals := 113 } [.int (jI a0)] Q u := kMI_of rfl (fun _ => Nat.le_of_ble_eq_true rfl) (fun X hRf hRl hret hw hl => b_tell_s X hRf hRl hret ra0 hw hl h)
