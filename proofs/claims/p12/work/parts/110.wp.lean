/-! isProved -/
theorem dX12_isProved_0 : decode cX12_isProved 0 = .ok (.bipush 30, 2) := by decide +kernel
theorem dX12_isProved_2 : decode cX12_isProved 2 = .ok (.iload_n 1, 1) := by decide +kernel
theorem dX12_isProved_3 : decode cX12_isProved 3 = .ok (.imul, 1) := by decide +kernel
theorem dX12_isProved_4 : decode cX12_isProved 4 = .ok (.istore_n 2, 1) := by decide +kernel
theorem dX12_isProved_5 : decode cX12_isProved 5 = .ok (.iload_n 2, 1) := by decide +kernel
theorem dX12_isProved_6 : decode cX12_isProved 6 = .ok (.bipush 30, 2) := by decide +kernel
theorem dX12_isProved_8 : decode cX12_isProved 8 = .ok (.iload_n 1, 1) := by decide +kernel
theorem dX12_isProved_9 : decode cX12_isProved 9 = .ok (.imul, 1) := by decide +kernel
theorem dX12_isProved_10 : decode cX12_isProved 10 = .ok (.aload_n 0, 1) := by decide +kernel
theorem dX12_isProved_11 : decode cX12_isProved 11 = .ok (.getfield 245, 3) := by decide +kernel
theorem dX12_isProved_14 : decode cX12_isProved 14 = .ok (.iload_n 1, 1) := by decide +kernel
theorem dX12_isProved_15 : decode cX12_isProved 15 = .ok (.iaload, 1) := by decide +kernel
theorem dX12_isProved_16 : decode cX12_isProved 16 = .ok (.iadd, 1) := by decide +kernel
theorem dX12_isProved_17 : decode cX12_isProved 17 = .ok (.if_icmp .ge 97, 3) := by decide +kernel
theorem dX12_isProved_20 : decode cX12_isProved 20 = .ok (.aload_n 0, 1) := by decide +kernel
theorem dX12_isProved_21 : decode cX12_isProved 21 = .ok (.getfield 242, 3) := by decide +kernel
theorem dX12_isProved_24 : decode cX12_isProved 24 = .ok (.iload_n 2, 1) := by decide +kernel
theorem dX12_isProved_25 : decode cX12_isProved 25 = .ok (.iaload, 1) := by decide +kernel
theorem dX12_isProved_26 : decode cX12_isProved 26 = .ok (.istore_n 3, 1) := by decide +kernel
theorem dX12_isProved_27 : decode cX12_isProved 27 = .ok (.aload_n 0, 1) := by decide +kernel
theorem dX12_isProved_28 : decode cX12_isProved 28 = .ok (.iload_n 3, 1) := by decide +kernel
theorem dX12_isProved_29 : decode cX12_isProved 29 = .ok (.invokevirtual 546, 3) := by decide +kernel
theorem dX12_isProved_32 : decode cX12_isProved 32 = .ok (.ifCond .eq 9, 3) := by decide +kernel
theorem dX12_isProved_35 : decode cX12_isProved 35 = .ok (.iload_n 3, 1) := by decide +kernel
theorem dX12_isProved_36 : decode cX12_isProved 36 = .ok (.ifCond .eq 5, 3) := by decide +kernel
theorem dX12_isProved_39 : decode cX12_isProved 39 = .ok (.iconst 1, 1) := by decide +kernel
theorem dX12_isProved_40 : decode cX12_isProved 40 = .ok (.ireturn, 1) := by decide +kernel
theorem dX12_isProved_41 : decode cX12_isProved 41 = .ok (.bipush 30, 2) := by decide +kernel
theorem dX12_isProved_43 : decode cX12_isProved 43 = .ok (.iload_n 1, 1) := by decide +kernel
theorem dX12_isProved_44 : decode cX12_isProved 44 = .ok (.imul, 1) := by decide +kernel
theorem dX12_isProved_45 : decode cX12_isProved 45 = .ok (.istore 4, 2) := by decide +kernel
theorem dX12_isProved_47 : decode cX12_isProved 47 = .ok (.iload 4, 2) := by decide +kernel
theorem dX12_isProved_49 : decode cX12_isProved 49 = .ok (.bipush 30, 2) := by decide +kernel
theorem dX12_isProved_51 : decode cX12_isProved 51 = .ok (.iload_n 1, 1) := by decide +kernel
theorem dX12_isProved_52 : decode cX12_isProved 52 = .ok (.imul, 1) := by decide +kernel
theorem dX12_isProved_53 : decode cX12_isProved 53 = .ok (.aload_n 0, 1) := by decide +kernel
theorem dX12_isProved_54 : decode cX12_isProved 54 = .ok (.getfield 245, 3) := by decide +kernel
theorem dX12_isProved_57 : decode cX12_isProved 57 = .ok (.iload_n 1, 1) := by decide +kernel
theorem dX12_isProved_58 : decode cX12_isProved 58 = .ok (.iaload, 1) := by decide +kernel
theorem dX12_isProved_59 : decode cX12_isProved 59 = .ok (.iadd, 1) := by decide +kernel
theorem dX12_isProved_60 : decode cX12_isProved 60 = .ok (.if_icmp .ge 48, 3) := by decide +kernel
theorem dX12_isProved_63 : decode cX12_isProved 63 = .ok (.aload_n 0, 1) := by decide +kernel
theorem dX12_isProved_64 : decode cX12_isProved 64 = .ok (.aload_n 0, 1) := by decide +kernel
theorem dX12_isProved_65 : decode cX12_isProved 65 = .ok (.getfield 242, 3) := by decide +kernel
theorem dX12_isProved_68 : decode cX12_isProved 68 = .ok (.iload 4, 2) := by decide +kernel
theorem dX12_isProved_70 : decode cX12_isProved 70 = .ok (.iaload, 1) := by decide +kernel
theorem dX12_isProved_71 : decode cX12_isProved 71 = .ok (.bipush 15, 2) := by decide +kernel
theorem dX12_isProved_73 : decode cX12_isProved 73 = .ok (.invokevirtual 542, 3) := by decide +kernel
theorem dX12_isProved_76 : decode cX12_isProved 76 = .ok (.ifCond .eq 26, 3) := by decide +kernel
theorem dX12_isProved_79 : decode cX12_isProved 79 = .ok (.aload_n 0, 1) := by decide +kernel
theorem dX12_isProved_80 : decode cX12_isProved 80 = .ok (.getfield 8, 3) := by decide +kernel
theorem dX12_isProved_83 : decode cX12_isProved 83 = .ok (.aload_n 0, 1) := by decide +kernel
theorem dX12_isProved_84 : decode cX12_isProved 84 = .ok (.getfield 14, 3) := by decide +kernel
theorem dX12_isProved_87 : decode cX12_isProved 87 = .ok (.aload_n 0, 1) := by decide +kernel
theorem dX12_isProved_88 : decode cX12_isProved 88 = .ok (.getfield 242, 3) := by decide +kernel
theorem dX12_isProved_91 : decode cX12_isProved 91 = .ok (.iload 4, 2) := by decide +kernel
theorem dX12_isProved_93 : decode cX12_isProved 93 = .ok (.iaload, 1) := by decide +kernel
theorem dX12_isProved_94 : decode cX12_isProved 94 = .ok (.iaload, 1) := by decide +kernel
theorem dX12_isProved_95 : decode cX12_isProved 95 = .ok (.iaload, 1) := by decide +kernel
theorem dX12_isProved_96 : decode cX12_isProved 96 = .ok (.iload_n 3, 1) := by decide +kernel
theorem dX12_isProved_97 : decode cX12_isProved 97 = .ok (.if_icmp .ne 5, 3) := by decide +kernel
theorem dX12_isProved_100 : decode cX12_isProved 100 = .ok (.iconst 1, 1) := by decide +kernel
theorem dX12_isProved_101 : decode cX12_isProved 101 = .ok (.ireturn, 1) := by decide +kernel
theorem dX12_isProved_102 : decode cX12_isProved 102 = .ok (.iinc 4 1, 3) := by decide +kernel
theorem dX12_isProved_105 : decode cX12_isProved 105 = .ok (.goto (-58), 3) := by decide +kernel
theorem dX12_isProved_108 : decode cX12_isProved 108 = .ok (.iinc 2 1, 3) := by decide +kernel
theorem dX12_isProved_111 : decode cX12_isProved 111 = .ok (.goto (-106), 3) := by decide +kernel
theorem dX12_isProved_114 : decode cX12_isProved 114 = .ok (.iconst 0, 1) := by decide +kernel
theorem dX12_isProved_115 : decode cX12_isProved 115 = .ok (.ireturn, 1) := by decide +kernel

section
variable {p : Program} {l : Launch} {e : Env} {R : Room} {s : State} {m : MethodId} {args : Array Value} {below : List Frame} {meth : Method} {c : Code} {H : Heap} {locs : List Loc} {Qf : State → Prop}
variable {ls : Array Slot} {D : va_G} {ca : Nat → ClassId} {A : Nat → Prop} {h0 : Nat} {ad : Nat → Nat} {H0 : Heap} {u : iST}
def w_isProved_47b (R5 : Int → Int → iST → Prop) (R47 : Int → Int → Int → Int → iST → Prop) (Q : Int → iST → Prop) (x1 : Int) (x2 : Int) (x3 : Int) (x4 : Int) (u : iST) : Prop :=
  ov (30 * x1) (
  bd x1 2300 (rd (u.2.1 115 x1) (fun v9 => 
  ov ((30 * x1) + v9) (
  br (((30 * x1) + v9) ≤ x4) (
    ov (x2 + 1) (
    R5 x1 (x2 + 1) u)) (
    bd x4 69000 (rd (u.2.1 114 x4) (fun v12 => 
    w_isCallOf v12 15 (fun v13 u => 
    br (v13 = 0) (
      ov (x4 + 1) (
      R47 x1 x2 x3 (x4 + 1) u)) (
      bd x4 69000 (rd (u.2.1 114 x4) (fun v15 => 
      bd v15 452000 (rd (u.2.1 1 v15) (fun v16 => 
      bd v16 452000 (rd (u.2.1 0 v16) (fun v17 => 
      br (v17 ≠ x3) (
        ov (x4 + 1) (
        R47 x1 x2 x3 (x4 + 1) u)) (
        zt 1 (Q 1 u)))))))))) u)))))))
def w_isProved_47 (R5 : Int → Int → iST → Prop) (Q : Int → iST → Prop) (x1 : Int) (x2 : Int) (x3 : Int) (x4 : Int) (u : iST) : Prop := ∀ R47 : Int → Int → Int → Int → iST → Prop, (∀ (x1 : Int) (x2 : Int) (x3 : Int) (x4 : Int) (u : iST), w_isProved_47b R5 R47 Q x1 x2 x3 x4 u → R47 x1 x2 x3 x4 u) → R47 x1 x2 x3 x4 u
set_option maxRecDepth 20000 in
set_option maxHeartbeats 4000000 in
theorem b_isProved_47 (X : kX p m c cX12_isProved 5 s args D ca) (hRf : 3 ≤ R.frames) (hRl : 63 ≤ R.locals) {Q : Int → iST → Prop} (hret : ∀ (v : Int) (u : iST) (H : Heap) (locs : List Loc) (ls : Array Slot) (pc : Nat), bz v → Q v u → kW D ca A h0 ad H0 H locs u → decode cX12_isProved pc = .ok (.ireturn, 1) → W p l e R s m args below meth c H locs 0 0 Qf (F0 m pc ls [.int (jI v)])) {R5 : Int → Int → iST → Prop} (hR5 : ∀ (x1 : Int) (x2 : Int) (u : iST) (H : Heap) (locs : List Loc) (ls : Array Slot), inR x1 → inR x2 → kW D ca A h0 ad H0 H locs u → lv_has ls 5 [(0, .ref h0), (1, .int (jI x1)), (2, .int (jI x2))] → R5 x1 x2 u → W p l e R s m args below meth c H locs 0 0 Qf (F0 m 5 ls [])) {x1 x2 x3 x4 : Int} (rx1 : inR x1) (rx2 : inR x2) (rx3 : inR x3) (rx4 : inR x4) (hw : kW D ca A h0 ad H0 H locs u) (hl : lv_has ls 5 [(0, .ref h0), (1, .int (jI x1)), (2, .int (jI x2)), (3, .int (jI x3)), (4, .int (jI x4))]) (h : w_isProved_47 R5 Q x1 x2 x3 x4 u) : W p l e R s m args below meth c H locs 0 0 Qf (F0 m 47 ls []) := by
  refine h (fun x1 x2 x3 x4 u => ∀ (H : Heap) (locs : List Loc) (ls : Array Slot), inR x1 → inR x2 → inR x3 → inR x4 → kW D ca A h0 ad H0 H locs u → lv_has ls 5 [(0, .ref h0), (1, .int (jI x1)), (2, .int (jI x2)), (3, .int (jI x3)), (4, .int (jI x4))] → W p l e R s m args below meth c H locs 0 0 Qf (F0 m 47 ls [])) ?_ H locs ls rx1 rx2 rx3 rx4 hw hl
  clear h hl hw rx1 rx2 rx3 rx4
  intro x1 x2 x3 x4 u h H locs ls rx1 rx2 rx3 rx4 hw hl
  have hR47 : ∀ (x1 : Int) (x2 : Int) (x3 : Int) (x4 : Int) (u : iST) (H : Heap) (locs : List Loc) (ls : Array Slot), inR x1 → inR x2 → inR x3 → inR x4 → kW D ca A h0 ad H0 H locs u → lv_has ls 5 [(0, .ref h0), (1, .int (jI x1)), (2, .int (jI x2)), (3, .int (jI x3)), (4, .int (jI x4))] → (fun (x1 : Int) (x2 : Int) (x3 : Int) (x4 : Int) u => ∀ (H : Heap) (locs : List Loc) (ls : Array Slot), inR x1 → inR x2 → inR x3 → inR x4 → kW D ca A h0 ad H0 H locs u → lv_has ls 5 [(0, .ref h0), (1, .int (jI x1)), (2, .int (jI x2)), (3, .int (jI x3)), (4, .int (jI x4))] → W p l e R s m args below meth c H locs 0 0 Qf (F0 m 47 ls [])) x1 x2 x3 x4 u → W p l e R s m args below meth c H locs 0 0 Qf (F0 m 47 ls []) := fun x1 x2 x3 x4 u H locs ls rx1 rx2 rx3 rx4 hw hl h => h H locs ls rx1 rx2 rx3 rx4 hw hl
  have hx := X.1.1
  have hb := X.1.2.1
  unfold w_isProved_47b at h
  refine lv_iload hx hb dX12_isProved_47 (lv_at hl 4 rfl) ?_
  refine lv_bipush hx hb dX12_isProved_49 (v := jI 30) rfl ?_
  refine lv_iload_n hx hb dX12_isProved_51 rfl (lv_at hl 1 rfl) ?_
  refine k_imul hx hb dX12_isProved_52 h (fun r8 h => ?_)
  refine lv_aload_n hx hb dX12_isProved_53 rfl (lv_at hl 0 rfl) ?_
  refine gA 115 245 (by decide) L_115 (fun _ _ => mF_115) rfl X hw dX12_isProved_54 ?_
  refine lv_iload_n hx hb dX12_isProved_57 rfl (lv_at hl 1 rfl) ?_
  refine aL 115 74 73 2300 (fun _ _ _ _ => mG_115) (fun _ => rfl) X hw rx1 dX12_isProved_58 rfl h (fun v9 rv9 h => ?_)
  refine k_iadd hx hb dX12_isProved_59 h (fun r10 h => ?_)
  refine k_icmp_ge hx hb rx4 r10 dX12_isProved_60 (tgt := 108) rfl h (fun h => ?_) (fun h => ?_)
  · refine k_iinc (k := 2) hx hb dX12_isProved_108 hl rfl (by decide) rfl h (fun ls r11 h hl => ?_)
    have hl : lv_has ls 5 [(2, .int (jI (x2 + 1))), (0, .ref (h0)), (1, .int (jI x1)), (3, .int (jI x3)), (4, .int (jI x4))] := hl
    refine lv_goto hx hb dX12_isProved_111 (tgt := 5) rfl ?_
    exact hR5 _ _ _ H locs ls rx1 r11 hw (lv_sub hl [1, 2, 0] rfl) h
  · refine lv_aload_n hx hb dX12_isProved_63 rfl (lv_at hl 0 rfl) ?_
    refine lv_aload_n hx hb dX12_isProved_64 rfl (lv_at hl 0 rfl) ?_
    refine gA 114 242 (by decide) L_114 (fun _ _ => mF_114) rfl X hw dX12_isProved_65 ?_
    refine lv_iload hx hb dX12_isProved_68 (lv_at hl 4 rfl) ?_
    refine aL 114 73 72 69000 (fun _ _ _ _ => mG_114) (fun _ => rfl) X hw rx4 dX12_isProved_70 rfl h (fun v12 rv12 h => ?_)
    refine lv_bipush hx hb dX12_isProved_71 (v := jI 15) rfl ?_
    refine kcI (n := 2) (c_isCallOf rv12 (by decide) h) G_isCallOf E_isCallOf X hw (Nat.le_trans (Nat.le_of_ble_eq_true rfl) hRf) (Nat.le_trans (Nat.le_of_ble_eq_true rfl) hRl) rfl hl.1 (Nat.le_of_ble_eq_true rfl) rfl dX12_isProved_73 (fun v13 u H locs rv13 h hw => ?_)
    refine k_if_eq hx hb rv13 dX12_isProved_76 (tgt := 102) rfl h (fun h => ?_) (fun h => ?_)
    · refine k_iinc (k := 4) hx hb dX12_isProved_102 hl rfl (by decide) rfl h (fun ls r14 h hl => ?_)
      have hl : lv_has ls 5 [(4, .int (jI (x4 + 1))), (0, .ref (h0)), (1, .int (jI x1)), (2, .int (jI x2)), (3, .int (jI x3))] := hl
      refine lv_goto hx hb dX12_isProved_105 (tgt := 47) rfl ?_
      exact hR47 _ _ _ _ _ H locs ls rx1 rx2 rx3 r14 hw (lv_sub hl [1, 2, 3, 4, 0] rfl) h
    · refine lv_aload_n hx hb dX12_isProved_79 rfl (lv_at hl 0 rfl) ?_
      refine gA 0 8 (by decide) L_0 (fun _ _ => mF_0) rfl X hw dX12_isProved_80 ?_
      refine lv_aload_n hx hb dX12_isProved_83 rfl (lv_at hl 0 rfl) ?_
      refine gA 1 14 (by decide) L_1 (fun _ _ => mF_1) rfl X hw dX12_isProved_84 ?_
      refine lv_aload_n hx hb dX12_isProved_87 rfl (lv_at hl 0 rfl) ?_
      refine gA 114 242 (by decide) L_114 (fun _ _ => mF_114) rfl X hw dX12_isProved_88 ?_
      refine lv_iload hx hb dX12_isProved_91 (lv_at hl 4 rfl) ?_
      refine aL 114 73 72 69000 (fun _ _ _ _ => mG_114) (fun _ => rfl) X hw rx4 dX12_isProved_93 rfl h (fun v15 rv15 h => ?_)
      refine aL 1 2 1 452000 (fun _ _ _ _ => mG_1) (fun _ => rfl) X hw rv15 dX12_isProved_94 rfl h (fun v16 rv16 h => ?_)
      refine aL 0 1 0 452000 (fun _ _ _ _ => mG_0) (fun _ => rfl) X hw rv16 dX12_isProved_95 rfl h (fun v17 rv17 h => ?_)
      refine lv_iload_n hx hb dX12_isProved_96 rfl (lv_at hl 3 rfl) ?_
      refine k_icmp_ne hx hb rv17 rx3 dX12_isProved_97 (tgt := 102) rfl h (fun h => ?_) (fun h => ?_)
      · refine k_iinc (k := 4) hx hb dX12_isProved_102 hl rfl (by decide) rfl h (fun ls r18 h hl => ?_)
        have hl : lv_has ls 5 [(4, .int (jI (x4 + 1))), (0, .ref (h0)), (1, .int (jI x1)), (2, .int (jI x2)), (3, .int (jI x3))] := hl
        refine lv_goto hx hb dX12_isProved_105 (tgt := 47) rfl ?_
        exact hR47 _ _ _ _ _ H locs ls rx1 rx2 rx3 r18 hw (lv_sub hl [1, 2, 3, 4, 0] rfl) h
      · refine lv_iconst hx hb dX12_isProved_100 (v := jI 1) rfl ?_
        exact hret _ _ _ _ _ _ h.1 h.2 hw dX12_isProved_101

def w_isProved_41 (R5 : Int → Int → iST → Prop) (Q : Int → iST → Prop) (x1 : Int) (x2 : Int) (x3 : Int) (u : iST) : Prop :=
  ov (30 * x1) (
  w_isProved_47 R5 Q x1 x2 x3 (30 * x1) u)
set_option maxRecDepth 20000 in
set_option maxHeartbeats 4000000 in
theorem b_isProved_41 (X : kX p m c cX12_isProved 5 s args D ca) (hRf : 3 ≤ R.frames) (hRl : 63 ≤ R.locals) {Q : Int → iST → Prop} (hret : ∀ (v : Int) (u : iST) (H : Heap) (locs : List Loc) (ls : Array Slot) (pc : Nat), bz v → Q v u → kW D ca A h0 ad H0 H locs u → decode cX12_isProved pc = .ok (.ireturn, 1) → W p l e R s m args below meth c H locs 0 0 Qf (F0 m pc ls [.int (jI v)])) {R5 : Int → Int → iST → Prop} (hR5 : ∀ (x1 : Int) (x2 : Int) (u : iST) (H : Heap) (locs : List Loc) (ls : Array Slot), inR x1 → inR x2 → kW D ca A h0 ad H0 H locs u → lv_has ls 5 [(0, .ref h0), (1, .int (jI x1)), (2, .int (jI x2))] → R5 x1 x2 u → W p l e R s m args below meth c H locs 0 0 Qf (F0 m 5 ls [])) {x1 x2 x3 : Int} (rx1 : inR x1) (rx2 : inR x2) (rx3 : inR x3) (hw : kW D ca A h0 ad H0 H locs u) (hl : lv_has ls 5 [(0, .ref h0), (1, .int (jI x1)), (2, .int (jI x2)), (3, .int (jI x3))]) (h : w_isProved_41 R5 Q x1 x2 x3 u) : W p l e R s m args below meth c H locs 0 0 Qf (F0 m 41 ls []) := by
  have hx := X.1.1
  have hb := X.1.2.1
  unfold w_isProved_41 at h
  refine lv_bipush hx hb dX12_isProved_41 (v := jI 30) rfl ?_
  refine lv_iload_n hx hb dX12_isProved_43 rfl (lv_at hl 1 rfl) ?_
  refine k_imul hx hb dX12_isProved_44 h (fun r7 h => ?_)
  refine lv_istore hx hb dX12_isProved_45 hl (by decide) rfl (fun ls hl => ?_)
  have hl : lv_has ls 5 [(4, .int (jI (30 * x1))), (0, .ref (h0)), (1, .int (jI x1)), (2, .int (jI x2)), (3, .int (jI x3))] := hl
  exact b_isProved_47 X hRf hRl hret hR5 rx1 rx2 rx3 r7 hw (lv_sub hl [1, 2, 3, 4, 0] rfl) h

def w_isProved_5b (R5 : Int → Int → iST → Prop) (Q : Int → iST → Prop) (x1 : Int) (x2 : Int) (u : iST) : Prop :=
  ov (30 * x1) (
  bd x1 2300 (rd (u.2.1 115 x1) (fun v3 => 
  ov ((30 * x1) + v3) (
  br (((30 * x1) + v3) ≤ x2) (
    zt 0 (Q 0 u)) (
    bd x2 69000 (rd (u.2.1 114 x2) (fun v5 => 
    w_isConstant v5 (fun v6 u => 
    br (v6 = 0) (
      w_isProved_41 R5 Q x1 x2 v5 u) (
      br (v5 = 0) (
        w_isProved_41 R5 Q x1 x2 v5 u) (
        zt 1 (Q 1 u)))) u)))))))
def w_isProved_5 (Q : Int → iST → Prop) (x1 : Int) (x2 : Int) (u : iST) : Prop := ∀ R5 : Int → Int → iST → Prop, (∀ (x1 : Int) (x2 : Int) (u : iST), w_isProved_5b R5 Q x1 x2 u → R5 x1 x2 u) → R5 x1 x2 u
set_option maxRecDepth 20000 in
set_option maxHeartbeats 4000000 in
theorem b_isProved_5 (X : kX p m c cX12_isProved 5 s args D ca) (hRf : 3 ≤ R.frames) (hRl : 63 ≤ R.locals) {Q : Int → iST → Prop} (hret : ∀ (v : Int) (u : iST) (H : Heap) (locs : List Loc) (ls : Array Slot) (pc : Nat), bz v → Q v u → kW D ca A h0 ad H0 H locs u → decode cX12_isProved pc = .ok (.ireturn, 1) → W p l e R s m args below meth c H locs 0 0 Qf (F0 m pc ls [.int (jI v)])) {x1 x2 : Int} (rx1 : inR x1) (rx2 : inR x2) (hw : kW D ca A h0 ad H0 H locs u) (hl : lv_has ls 5 [(0, .ref h0), (1, .int (jI x1)), (2, .int (jI x2))]) (h : w_isProved_5 Q x1 x2 u) : W p l e R s m args below meth c H locs 0 0 Qf (F0 m 5 ls []) := by
  refine h (fun x1 x2 u => ∀ (H : Heap) (locs : List Loc) (ls : Array Slot), inR x1 → inR x2 → kW D ca A h0 ad H0 H locs u → lv_has ls 5 [(0, .ref h0), (1, .int (jI x1)), (2, .int (jI x2))] → W p l e R s m args below meth c H locs 0 0 Qf (F0 m 5 ls [])) ?_ H locs ls rx1 rx2 hw hl
  clear h hl hw rx1 rx2
  intro x1 x2 u h H locs ls rx1 rx2 hw hl
  have hR5 : ∀ (x1 : Int) (x2 : Int) (u : iST) (H : Heap) (locs : List Loc) (ls : Array Slot), inR x1 → inR x2 → kW D ca A h0 ad H0 H locs u → lv_has ls 5 [(0, .ref h0), (1, .int (jI x1)), (2, .int (jI x2))] → (fun (x1 : Int) (x2 : Int) u => ∀ (H : Heap) (locs : List Loc) (ls : Array Slot), inR x1 → inR x2 → kW D ca A h0 ad H0 H locs u → lv_has ls 5 [(0, .ref h0), (1, .int (jI x1)), (2, .int (jI x2))] → W p l e R s m args below meth c H locs 0 0 Qf (F0 m 5 ls [])) x1 x2 u → W p l e R s m args below meth c H locs 0 0 Qf (F0 m 5 ls []) := fun x1 x2 u H locs ls rx1 rx2 hw hl h => h H locs ls rx1 rx2 hw hl
  have hx := X.1.1
  have hb := X.1.2.1
  unfold w_isProved_5b at h
  refine lv_iload_n hx hb dX12_isProved_5 rfl (lv_at hl 2 rfl) ?_
  refine lv_bipush hx hb dX12_isProved_6 (v := jI 30) rfl ?_
  refine lv_iload_n hx hb dX12_isProved_8 rfl (lv_at hl 1 rfl) ?_
  refine k_imul hx hb dX12_isProved_9 h (fun r2 h => ?_)
  refine lv_aload_n hx hb dX12_isProved_10 rfl (lv_at hl 0 rfl) ?_
  refine gA 115 245 (by decide) L_115 (fun _ _ => mF_115) rfl X hw dX12_isProved_11 ?_
  refine lv_iload_n hx hb dX12_isProved_14 rfl (lv_at hl 1 rfl) ?_
  refine aL 115 74 73 2300 (fun _ _ _ _ => mG_115) (fun _ => rfl) X hw rx1 dX12_isProved_15 rfl h (fun v3 rv3 h => ?_)
  refine k_iadd hx hb dX12_isProved_16 h (fun r4 h => ?_)
  refine k_icmp_ge hx hb rx2 r4 dX12_isProved_17 (tgt := 114) rfl h (fun h => ?_) (fun h => ?_)
  · refine lv_iconst hx hb dX12_isProved_114 (v := jI 0) rfl ?_
    exact hret _ _ _ _ _ _ h.1 h.2 hw dX12_isProved_115
  · refine lv_aload_n hx hb dX12_isProved_20 rfl (lv_at hl 0 rfl) ?_
    refine gA 114 242 (by decide) L_114 (fun _ _ => mF_114) rfl X hw dX12_isProved_21 ?_
    refine lv_iload_n hx hb dX12_isProved_24 rfl (lv_at hl 2 rfl) ?_
    refine aL 114 73 72 69000 (fun _ _ _ _ => mG_114) (fun _ => rfl) X hw rx2 dX12_isProved_25 rfl h (fun v5 rv5 h => ?_)
    refine lv_istore_n hx hb dX12_isProved_26 rfl hl (by decide) rfl (fun ls hl => ?_)
    have hl : lv_has ls 5 [(3, .int (jI v5)), (0, .ref (h0)), (1, .int (jI x1)), (2, .int (jI x2))] := hl
    refine lv_aload_n hx hb dX12_isProved_27 rfl (lv_at hl 1 rfl) ?_
    refine lv_iload_n hx hb dX12_isProved_28 rfl (lv_at hl 0 rfl) ?_
    refine kcI (n := 1) (c_isConstant rv5 h) G_isConstant E_isConstant X hw (Nat.le_trans (Nat.le_of_ble_eq_true rfl) hRf) (Nat.le_trans (Nat.le_of_ble_eq_true rfl) hRl) rfl hl.1 (Nat.le_of_ble_eq_true rfl) rfl dX12_isProved_29 (fun v6 u H locs rv6 h hw => ?_)
    refine k_if_eq hx hb rv6 dX12_isProved_32 (tgt := 41) rfl h (fun h => ?_) (fun h => ?_)
    · exact b_isProved_41 X hRf hRl hret hR5 rx1 rx2 rv5 hw (lv_sub hl [1, 2, 3, 0] rfl) h
    · refine lv_iload_n hx hb dX12_isProved_35 rfl (lv_at hl 0 rfl) ?_
      refine k_if_eq hx hb rv5 dX12_isProved_36 (tgt := 41) rfl h (fun h => ?_) (fun h => ?_)
      · exact b_isProved_41 X hRf hRl hret hR5 rx1 rx2 rv5 hw (lv_sub hl [1, 2, 3, 0] rfl) h
      · refine lv_iconst hx hb dX12_isProved_39 (v := jI 1) rfl ?_
        exact hret _ _ _ _ _ _ h.1 h.2 hw dX12_isProved_40

def w_isProved (a0 : Int) (Q : Int → iST → Prop) (u : iST) : Prop :=
  ov (30 * a0) (
  w_isProved_5 Q a0 (30 * a0) u)
set_option maxRecDepth 20000 in
set_option maxHeartbeats 4000000 in
theorem b_isProved_s (X : kX p m c cX12_isProved 5 s args D ca) (hRf : 3 ≤ R.frames) (hRl : 63 ≤ R.locals) {Q : Int → iST → Prop} (hret : ∀ (v : Int) (u : iST) (H : Heap) (locs : List Loc) (ls : Array Slot) (pc : Nat), bz v → Q v u → kW D ca A h0 ad H0 H locs u → decode cX12_isProved pc = .ok (.ireturn, 1) → W p l e R s m args below meth c H locs 0 0 Qf (F0 m pc ls [.int (jI v)])) {a0 : Int} (ra0 : inR a0) (hw : kW D ca A h0 ad H0 H locs u) (hl : lv_has ls 5 [(0, .ref h0), (1, .int (jI a0))]) (h : w_isProved a0 Q u) : W p l e R s m args below meth c H locs 0 0 Qf (F0 m 0 ls []) := by
  have hx := X.1.1
  have hb := X.1.2.1
  unfold w_isProved at h
  refine lv_bipush hx hb dX12_isProved_0 (v := jI 30) rfl ?_
  refine lv_iload_n hx hb dX12_isProved_2 rfl (lv_at hl 1 rfl) ?_
  refine k_imul hx hb dX12_isProved_3 h (fun r1 h => ?_)
  refine lv_istore_n hx hb dX12_isProved_4 rfl hl (by decide) rfl (fun ls hl => ?_)
  have hl : lv_has ls 5 [(2, .int (jI (30 * a0))), (0, .ref (h0)), (1, .int (jI a0))] := hl
  exact b_isProved_5 X hRf hRl hret ra0 r1 hw (lv_sub hl [1, 2, 0] rfl) h

end
theorem c_isProved {l : Launch} {a0 : Int} (ra0 : inR a0) {Q : Int → iST → Prop} {u : iST} (h : w_isProved a0 Q u) : kMI l yX12_isProved (.code yX12_isProved cX12_isProved 5 (some .boolean) :: wsM) { frames := 3, cells := 0, slots := 0, locals := 63 } [.int (jI a0)] Q u := kMZ_of rfl (fun _ => Nat.le_of_ble_eq_true rfl) (fun X hRf hRl hret hw hl => b_isProved_s X hRf hRl hret ra0 hw hl h)

/-! removeAt -/
theorem dX12_removeAt_0 : decode cX12_removeAt 0 = .ok (.aload_n 0, 1) := by decide +kernel
theorem dX12_removeAt_1 : decode cX12_removeAt 1 = .ok (.getfield 245, 3) := by decide +kernel
theorem dX12_removeAt_4 : decode cX12_removeAt 4 = .ok (.iload_n 1, 1) := by decide +kernel
theorem dX12_removeAt_5 : decode cX12_removeAt 5 = .ok (.dup2, 1) := by decide +kernel
theorem dX12_removeAt_6 : decode cX12_removeAt 6 = .ok (.iaload, 1) := by decide +kernel
theorem dX12_removeAt_7 : decode cX12_removeAt 7 = .ok (.iconst 1, 1) := by decide +kernel
theorem dX12_removeAt_8 : decode cX12_removeAt 8 = .ok (.isub, 1) := by decide +kernel
theorem dX12_removeAt_9 : decode cX12_removeAt 9 = .ok (.iastore, 1) := by decide +kernel
theorem dX12_removeAt_10 : decode cX12_removeAt 10 = .ok (.bipush 30, 2) := by decide +kernel
theorem dX12_removeAt_12 : decode cX12_removeAt 12 = .ok (.iload_n 1, 1) := by decide +kernel
theorem dX12_removeAt_13 : decode cX12_removeAt 13 = .ok (.imul, 1) := by decide +kernel
theorem dX12_removeAt_14 : decode cX12_removeAt 14 = .ok (.iload_n 2, 1) := by decide +kernel
theorem dX12_removeAt_15 : decode cX12_removeAt 15 = .ok (.iadd, 1) := by decide +kernel
theorem dX12_removeAt_16 : decode cX12_removeAt 16 = .ok (.istore_n 3, 1) := by decide +kernel
theorem dX12_removeAt_17 : decode cX12_removeAt 17 = .ok (.iload_n 3, 1) := by decide +kernel
theorem dX12_removeAt_18 : decode cX12_removeAt 18 = .ok (.bipush 30, 2) := by decide +kernel
theorem dX12_removeAt_20 : decode cX12_removeAt 20 = .ok (.iload_n 1, 1) := by decide +kernel
theorem dX12_removeAt_21 : decode cX12_removeAt 21 = .ok (.imul, 1) := by decide +kernel
theorem dX12_removeAt_22 : decode cX12_removeAt 22 = .ok (.aload_n 0, 1) := by decide +kernel
theorem dX12_removeAt_23 : decode cX12_removeAt 23 = .ok (.getfield 245, 3) := by decide +kernel
theorem dX12_removeAt_26 : decode cX12_removeAt 26 = .ok (.iload_n 1, 1) := by decide +kernel
theorem dX12_removeAt_27 : decode cX12_removeAt 27 = .ok (.iaload, 1) := by decide +kernel
theorem dX12_removeAt_28 : decode cX12_removeAt 28 = .ok (.iadd, 1) := by decide +kernel
theorem dX12_removeAt_29 : decode cX12_removeAt 29 = .ok (.if_icmp .ge 23, 3) := by decide +kernel
theorem dX12_removeAt_32 : decode cX12_removeAt 32 = .ok (.aload_n 0, 1) := by decide +kernel
theorem dX12_removeAt_33 : decode cX12_removeAt 33 = .ok (.getfield 242, 3) := by decide +kernel
theorem dX12_removeAt_36 : decode cX12_removeAt 36 = .ok (.iload_n 3, 1) := by decide +kernel
theorem dX12_removeAt_37 : decode cX12_removeAt 37 = .ok (.aload_n 0, 1) := by decide +kernel
theorem dX12_removeAt_38 : decode cX12_removeAt 38 = .ok (.getfield 242, 3) := by decide +kernel
theorem dX12_removeAt_41 : decode cX12_removeAt 41 = .ok (.iload_n 3, 1) := by decide +kernel
theorem dX12_removeAt_42 : decode cX12_removeAt 42 = .ok (.iconst 1, 1) := by decide +kernel
theorem dX12_removeAt_43 : decode cX12_removeAt 43 = .ok (.iadd, 1) := by decide +kernel
theorem dX12_removeAt_44 : decode cX12_removeAt 44 = .ok (.iaload, 1) := by decide +kernel
theorem dX12_removeAt_45 : decode cX12_removeAt 45 = .ok (.iastore, 1) := by decide +kernel
theorem dX12_removeAt_46 : decode cX12_removeAt 46 = .ok (.iinc 3 1, 3) := by decide +kernel
theorem dX12_removeAt_49 : decode cX12_removeAt 49 = .ok (.goto (-32), 3) := by decide +kernel
theorem dX12_removeAt_52 : decode cX12_removeAt 52 = .ok (.return_, 1) := by decide +kernel

section
variable {p : Program} {l : Launch} {e : Env} {R : Room} {s : State} {m : MethodId} {args : Array Value} {below : List Frame} {meth : Method} {c : Code} {H : Heap} {locs : List Loc} {Qf : State → Prop}
variable {ls : Array Slot} {D : va_G} {ca : Nat → ClassId} {A : Nat → Prop} {h0 : Nat} {ad : Nat → Nat} {H0 : Heap} {u : iST}
def w_removeAt_17b (R17 : Int → Int → iST → Prop) (Q : iST → Prop) (x1 : Int) (x3 : Int) (u : iST) : Prop :=
  ov (30 * x1) (
  bd x1 2300 (rd (u.2.1 115 x1) (fun v6 => 
  ov ((30 * x1) + v6) (
  br (((30 * x1) + v6) ≤ x3) (
    Q u) (
    ov (x3 + 1) (
    bd (x3 + 1) 69000 (rd (u.2.1 114 (x3 + 1)) (fun v9 => 
    bd x3 69000 (sw (iA u 114 x3 v9) (fun u => 
    ov (x3 + 1) (
    R17 x1 (x3 + 1) u)))))))))))
def w_removeAt_17 (Q : iST → Prop) (x1 : Int) (x3 : Int) (u : iST) : Prop := ∀ R17 : Int → Int → iST → Prop, (∀ (x1 : Int) (x3 : Int) (u : iST), w_removeAt_17b R17 Q x1 x3 u → R17 x1 x3 u) → R17 x1 x3 u
set_option maxRecDepth 20000 in
set_option maxHeartbeats 4000000 in
theorem b_removeAt_17 (X : kX p m c cX12_removeAt 4 s args D ca) (hRf : 0 ≤ R.frames) (hRl : 0 ≤ R.locals) {Q : iST → Prop} (hret : ∀ (u : iST) (H : Heap) (locs : List Loc) (ls : Array Slot) (pc : Nat), Q u → kW D ca A h0 ad H0 H locs u → decode cX12_removeAt pc = .ok (.return_, 1) → W p l e R s m args below meth c H locs 0 0 Qf (F0 m pc ls [])) {x1 x3 : Int} (rx1 : inR x1) (rx3 : inR x3) (hw : kW D ca A h0 ad H0 H locs u) (hl : lv_has ls 4 [(0, .ref h0), (1, .int (jI x1)), (3, .int (jI x3))]) (h : w_removeAt_17 Q x1 x3 u) : W p l e R s m args below meth c H locs 0 0 Qf (F0 m 17 ls []) := by
  refine h (fun x1 x3 u => ∀ (H : Heap) (locs : List Loc) (ls : Array Slot), inR x1 → inR x3 → kW D ca A h0 ad H0 H locs u → lv_has ls 4 [(0, .ref h0), (1, .int (jI x1)), (3, .int (jI x3))] → W p l e R s m args below meth c H locs 0 0 Qf (F0 m 17 ls [])) ?_ H locs ls rx1 rx3 hw hl
  clear h hl hw rx1 rx3
  intro x1 x3 u h H locs ls rx1 rx3 hw hl
  have hR17 : ∀ (x1 : Int) (x3 : Int) (u : iST) (H : Heap) (locs : List Loc) (ls : Array Slot), inR x1 → inR x3 → kW D ca A h0 ad H0 H locs u → lv_has ls 4 [(0, .ref h0), (1, .int (jI x1)), (3, .int (jI x3))] → (fun (x1 : Int) (x3 : Int) u => ∀ (H : Heap) (locs : List Loc) (ls : Array Slot), inR x1 → inR x3 → kW D ca A h0 ad H0 H locs u → lv_has ls 4 [(0, .ref h0), (1, .int (jI x1)), (3, .int (jI x3))] → W p l e R s m args below meth c H locs 0 0 Qf (F0 m 17 ls [])) x1 x3 u → W p l e R s m args below meth c H locs 0 0 Qf (F0 m 17 ls []) := fun x1 x3 u H locs ls rx1 rx3 hw hl h => h H locs ls rx1 rx3 hw hl
  have hx := X.1.1
  have hb := X.1.2.1
  unfold w_removeAt_17b at h
  refine lv_iload_n hx hb dX12_removeAt_17 rfl (lv_at hl 2 rfl) ?_
  refine lv_bipush hx hb dX12_removeAt_18 (v := jI 30) rfl ?_
  refine lv_iload_n hx hb dX12_removeAt_20 rfl (lv_at hl 1 rfl) ?_
  refine k_imul hx hb dX12_removeAt_21 h (fun r5 h => ?_)
  refine lv_aload_n hx hb dX12_removeAt_22 rfl (lv_at hl 0 rfl) ?_
  refine gA 115 245 (by decide) L_115 (fun _ _ => mF_115) rfl X hw dX12_removeAt_23 ?_
  refine lv_iload_n hx hb dX12_removeAt_26 rfl (lv_at hl 1 rfl) ?_
  refine aL 115 74 73 2300 (fun _ _ _ _ => mG_115) (fun _ => rfl) X hw rx1 dX12_removeAt_27 rfl h (fun v6 rv6 h => ?_)
  refine k_iadd hx hb dX12_removeAt_28 h (fun r7 h => ?_)
  refine k_icmp_ge hx hb rx3 r7 dX12_removeAt_29 (tgt := 52) rfl h (fun h => ?_) (fun h => ?_)
  · exact hret _ _ _ _ _ h hw dX12_removeAt_52
  · refine lv_aload_n hx hb dX12_removeAt_32 rfl (lv_at hl 0 rfl) ?_
    refine gA 114 242 (by decide) L_114 (fun _ _ => mF_114) rfl X hw dX12_removeAt_33 ?_
    refine lv_iload_n hx hb dX12_removeAt_36 rfl (lv_at hl 2 rfl) ?_
    refine lv_aload_n hx hb dX12_removeAt_37 rfl (lv_at hl 0 rfl) ?_
    refine gA 114 242 (by decide) L_114 (fun _ _ => mF_114) rfl X hw dX12_removeAt_38 ?_
    refine lv_iload_n hx hb dX12_removeAt_41 rfl (lv_at hl 2 rfl) ?_
    refine lv_iconst hx hb dX12_removeAt_42 (v := jI 1) rfl ?_
    refine k_iadd hx hb dX12_removeAt_43 h (fun r8 h => ?_)
    refine aL 114 73 72 69000 (fun _ _ _ _ => mG_114) (fun _ => rfl) X hw r8 dX12_removeAt_44 rfl h (fun v9 rv9 h => ?_)
    refine aS 114 73 72 69000 (fun _ _ _ _ => mG_114) (fun _ => rfl) (fun _ _ _ _ _ _ => mSA_114) (by decide) X hw rx3 rv9 dX12_removeAt_45 rfl h (fun H locs u hw h => ?_)
    refine k_iinc (k := 2) hx hb dX12_removeAt_46 hl rfl (by decide) rfl h (fun ls r10 h hl => ?_)
    have hl : lv_has ls 4 [(3, .int (jI (x3 + 1))), (0, .ref (h0)), (1, .int (jI x1))] := hl
    refine lv_goto hx hb dX12_removeAt_49 (tgt := 17) rfl ?_
    exact hR17 _ _ _ H locs ls rx1 r10 hw (lv_sub hl [1, 2, 0] rfl) h

def w_removeAt (a0 : Int) (a1 : Int) (Q : iST → Prop) (u : iST) : Prop :=
  bd a0 2300 (rd (u.2.1 115 a0) (fun v1 => 
  ov (v1 - 1) (
  bd a0 2300 (sw (iA u 115 a0 (v1 - 1)) (fun u => 
  ov (30 * a0) (
  ov ((30 * a0) + a1) (
  w_removeAt_17 Q a0 ((30 * a0) + a1) u)))))))
set_option maxRecDepth 20000 in
set_option maxHeartbeats 4000000 in
theorem b_removeAt_s (X : kX p m c cX12_removeAt 4 s args D ca) (hRf : 0 ≤ R.frames) (hRl : 0 ≤ R.locals) {Q : iST → Prop} (hret : ∀ (u : iST) (H : Heap) (locs : List Loc) (ls : Array Slot) (pc : Nat), Q u → kW D ca A h0 ad H0 H locs u → decode cX12_removeAt pc = .ok (.return_, 1) → W p l e R s m args below meth c H locs 0 0 Qf (F0 m pc ls [])) {a0 a1 : Int} (ra0 : inR a0) (ra1 : inR a1) (hw : kW D ca A h0 ad H0 H locs u) (hl : lv_has ls 4 [(0, .ref h0), (1, .int (jI a0)), (2, .int (jI a1))]) (h : w_removeAt a0 a1 Q u) : W p l e R s m args below meth c H locs 0 0 Qf (F0 m 0 ls []) := by
  have hx := X.1.1
  have hb := X.1.2.1
  unfold w_removeAt at h
  refine lv_aload_n hx hb dX12_removeAt_0 rfl (lv_at hl 0 rfl) ?_
  refine gA 115 245 (by decide) L_115 (fun _ _ => mF_115) rfl X hw dX12_removeAt_1 ?_
  refine lv_iload_n hx hb dX12_removeAt_4 rfl (lv_at hl 1 rfl) ?_
  refine lv_dup2_11 hx hb dX12_removeAt_5 rfl rfl ?_
  refine aL 115 74 73 2300 (fun _ _ _ _ => mG_115) (fun _ => rfl) X hw ra0 dX12_removeAt_6 rfl h (fun v1 rv1 h => ?_)
  refine lv_iconst hx hb dX12_removeAt_7 (v := jI 1) rfl ?_
  refine k_isub hx hb dX12_removeAt_8 h (fun r2 h => ?_)
  refine aS 115 74 73 2300 (fun _ _ _ _ => mG_115) (fun _ => rfl) (fun _ _ _ _ _ _ => mSA_115) (by decide) X hw ra0 r2 dX12_removeAt_9 rfl h (fun H locs u hw h => ?_)
  refine lv_bipush hx hb dX12_removeAt_10 (v := jI 30) rfl ?_
  refine lv_iload_n hx hb dX12_removeAt_12 rfl (lv_at hl 1 rfl) ?_
  refine k_imul hx hb dX12_removeAt_13 h (fun r3 h => ?_)
  refine lv_iload_n hx hb dX12_removeAt_14 rfl (lv_at hl 2 rfl) ?_
  refine k_iadd hx hb dX12_removeAt_15 h (fun r4 h => ?_)
  refine lv_istore_n hx hb dX12_removeAt_16 rfl hl (by decide) rfl (fun ls hl => ?_)
  have hl : lv_has ls 4 [(3, .int (jI ((30 * a0) + a1))), (0, .ref (h0)), (1, .int (jI a0)), (2, .int (jI a1))] := hl
  exact b_removeAt_17 X hRf hRl hret ra0 r4 hw (lv_sub hl [1, 2, 0] rfl) h

end
theorem c_removeAt {l : Launch} {a0 : Int} {a1 : Int} (ra0 : inR a0) (ra1 : inR a1) {Q : iST → Prop} {u : iST} (h : w_removeAt a0 a1 Q u) : kMV l yX12_removeAt (.code yX12_removeAt cX12_removeAt 4 none :: wsM) { frames := 0, cells := 0, slots := 0, locals := 0 } [.int (jI a0), .int (jI a1)] Q u := kMV_of rfl (fun _ => Nat.le_of_ble_eq_true rfl) (fun X hRf hRl hret hw hl => b_removeAt_s X hRf hRl hret ra0 ra1 hw hl h)

/-! changeTo -/
theorem dX12_changeTo_0 : decode cX12_changeTo 0 = .ok (.iconst 0, 1) := by decide +kernel
theorem dX12_changeTo_1 : decode cX12_changeTo 1 = .ok (.istore 4, 2) := by decide +kernel
theorem dX12_changeTo_3 : decode cX12_changeTo 3 = .ok (.iload 4, 2) := by decide +kernel
theorem dX12_changeTo_5 : decode cX12_changeTo 5 = .ok (.iload_n 2, 1) := by decide +kernel
theorem dX12_changeTo_6 : decode cX12_changeTo 6 = .ok (.if_icmp .ge 33, 3) := by decide +kernel
theorem dX12_changeTo_9 : decode cX12_changeTo 9 = .ok (.aload_n 0, 1) := by decide +kernel
theorem dX12_changeTo_10 : decode cX12_changeTo 10 = .ok (.getfield 242, 3) := by decide +kernel
theorem dX12_changeTo_13 : decode cX12_changeTo 13 = .ok (.bipush 30, 2) := by decide +kernel
theorem dX12_changeTo_15 : decode cX12_changeTo 15 = .ok (.iload_n 1, 1) := by decide +kernel
theorem dX12_changeTo_16 : decode cX12_changeTo 16 = .ok (.imul, 1) := by decide +kernel
theorem dX12_changeTo_17 : decode cX12_changeTo 17 = .ok (.iload 4, 2) := by decide +kernel
theorem dX12_changeTo_19 : decode cX12_changeTo 19 = .ok (.iadd, 1) := by decide +kernel
theorem dX12_changeTo_20 : decode cX12_changeTo 20 = .ok (.iaload, 1) := by decide +kernel
theorem dX12_changeTo_21 : decode cX12_changeTo 21 = .ok (.iload_n 3, 1) := by decide +kernel
theorem dX12_changeTo_22 : decode cX12_changeTo 22 = .ok (.if_icmp .ne 11, 3) := by decide +kernel
theorem dX12_changeTo_25 : decode cX12_changeTo 25 = .ok (.aload_n 0, 1) := by decide +kernel
theorem dX12_changeTo_26 : decode cX12_changeTo 26 = .ok (.iload_n 1, 1) := by decide +kernel
theorem dX12_changeTo_27 : decode cX12_changeTo 27 = .ok (.iload_n 2, 1) := by decide +kernel
theorem dX12_changeTo_28 : decode cX12_changeTo 28 = .ok (.invokevirtual 736, 3) := by decide +kernel
theorem dX12_changeTo_31 : decode cX12_changeTo 31 = .ok (.iconst 0, 1) := by decide +kernel
theorem dX12_changeTo_32 : decode cX12_changeTo 32 = .ok (.ireturn, 1) := by decide +kernel
theorem dX12_changeTo_33 : decode cX12_changeTo 33 = .ok (.iinc 4 1, 3) := by decide +kernel
theorem dX12_changeTo_36 : decode cX12_changeTo 36 = .ok (.goto (-33), 3) := by decide +kernel
theorem dX12_changeTo_39 : decode cX12_changeTo 39 = .ok (.aload_n 0, 1) := by decide +kernel
theorem dX12_changeTo_40 : decode cX12_changeTo 40 = .ok (.getfield 242, 3) := by decide +kernel
theorem dX12_changeTo_43 : decode cX12_changeTo 43 = .ok (.bipush 30, 2) := by decide +kernel
theorem dX12_changeTo_45 : decode cX12_changeTo 45 = .ok (.iload_n 1, 1) := by decide +kernel
theorem dX12_changeTo_46 : decode cX12_changeTo 46 = .ok (.imul, 1) := by decide +kernel
theorem dX12_changeTo_47 : decode cX12_changeTo 47 = .ok (.iload_n 2, 1) := by decide +kernel
theorem dX12_changeTo_48 : decode cX12_changeTo 48 = .ok (.iadd, 1) := by decide +kernel
theorem dX12_changeTo_49 : decode cX12_changeTo 49 = .ok (.iload_n 3, 1) := by decide +kernel
theorem dX12_changeTo_50 : decode cX12_changeTo 50 = .ok (.iastore, 1) := by decide +kernel
theorem dX12_changeTo_51 : decode cX12_changeTo 51 = .ok (.iload_n 2, 1) := by decide +kernel
theorem dX12_changeTo_52 : decode cX12_changeTo 52 = .ok (.iconst 1, 1) := by decide +kernel
theorem dX12_changeTo_53 : decode cX12_changeTo 53 = .ok (.iadd, 1) := by decide +kernel
theorem dX12_changeTo_54 : decode cX12_changeTo 54 = .ok (.istore 4, 2) := by decide +kernel
theorem dX12_changeTo_56 : decode cX12_changeTo 56 = .ok (.iload 4, 2) := by decide +kernel
theorem dX12_changeTo_58 : decode cX12_changeTo 58 = .ok (.aload_n 0, 1) := by decide +kernel
theorem dX12_changeTo_59 : decode cX12_changeTo 59 = .ok (.getfield 245, 3) := by decide +kernel
theorem dX12_changeTo_62 : decode cX12_changeTo 62 = .ok (.iload_n 1, 1) := by decide +kernel
theorem dX12_changeTo_63 : decode cX12_changeTo 63 = .ok (.iaload, 1) := by decide +kernel
theorem dX12_changeTo_64 : decode cX12_changeTo 64 = .ok (.if_icmp .ge 35, 3) := by decide +kernel
theorem dX12_changeTo_67 : decode cX12_changeTo 67 = .ok (.aload_n 0, 1) := by decide +kernel
theorem dX12_changeTo_68 : decode cX12_changeTo 68 = .ok (.getfield 242, 3) := by decide +kernel
theorem dX12_changeTo_71 : decode cX12_changeTo 71 = .ok (.bipush 30, 2) := by decide +kernel
theorem dX12_changeTo_73 : decode cX12_changeTo 73 = .ok (.iload_n 1, 1) := by decide +kernel
theorem dX12_changeTo_74 : decode cX12_changeTo 74 = .ok (.imul, 1) := by decide +kernel
theorem dX12_changeTo_75 : decode cX12_changeTo 75 = .ok (.iload 4, 2) := by decide +kernel
theorem dX12_changeTo_77 : decode cX12_changeTo 77 = .ok (.iadd, 1) := by decide +kernel
theorem dX12_changeTo_78 : decode cX12_changeTo 78 = .ok (.iaload, 1) := by decide +kernel
theorem dX12_changeTo_79 : decode cX12_changeTo 79 = .ok (.iload_n 3, 1) := by decide +kernel
theorem dX12_changeTo_80 : decode cX12_changeTo 80 = .ok (.if_icmp .ne 13, 3) := by decide +kernel
theorem dX12_changeTo_83 : decode cX12_changeTo 83 = .ok (.aload_n 0, 1) := by decide +kernel
theorem dX12_changeTo_84 : decode cX12_changeTo 84 = .ok (.iload_n 1, 1) := by decide +kernel
theorem dX12_changeTo_85 : decode cX12_changeTo 85 = .ok (.iload 4, 2) := by decide +kernel
theorem dX12_changeTo_87 : decode cX12_changeTo 87 = .ok (.invokevirtual 736, 3) := by decide +kernel
theorem dX12_changeTo_90 : decode cX12_changeTo 90 = .ok (.iinc 4 (-1), 3) := by decide +kernel
theorem dX12_changeTo_93 : decode cX12_changeTo 93 = .ok (.iinc 4 1, 3) := by decide +kernel
theorem dX12_changeTo_96 : decode cX12_changeTo 96 = .ok (.goto (-40), 3) := by decide +kernel
theorem dX12_changeTo_99 : decode cX12_changeTo 99 = .ok (.iconst 1, 1) := by decide +kernel
theorem dX12_changeTo_100 : decode cX12_changeTo 100 = .ok (.ireturn, 1) := by decide +kernel

section
variable {p : Program} {l : Launch} {e : Env} {R : Room} {s : State} {m : MethodId} {args : Array Value} {below : List Frame} {meth : Method} {c : Code} {H : Heap} {locs : List Loc} {Qf : State → Prop}
variable {ls : Array Slot} {D : va_G} {ca : Nat → ClassId} {A : Nat → Prop} {h0 : Nat} {ad : Nat → Nat} {H0 : Heap} {u : iST}
def w_changeTo_56b (R56 : Int → Int → Int → iST → Prop) (Q : Int → iST → Prop) (x1 : Int) (x3 : Int) (x4 : Int) (u : iST) : Prop :=
  bd x1 2300 (rd (u.2.1 115 x1) (fun v4 => 
  br (v4 ≤ x4) (
    zt 1 (Q 1 u)) (
    ov (30 * x1) (
    ov ((30 * x1) + x4) (
    bd ((30 * x1) + x4) 69000 (rd (u.2.1 114 ((30 * x1) + x4)) (fun v7 => 
    br (v7 ≠ x3) (
      ov (x4 + 1) (
      R56 x1 x3 (x4 + 1) u)) (
      w_removeAt x1 x4 (fun u => 
      ov (x4 + (-1)) (
      ov ((x4 + (-1)) + 1) (
      R56 x1 x3 ((x4 + (-1)) + 1) u))) u))))))))
def w_changeTo_56 (Q : Int → iST → Prop) (x1 : Int) (x3 : Int) (x4 : Int) (u : iST) : Prop := ∀ R56 : Int → Int → Int → iST → Prop, (∀ (x1 : Int) (x3 : Int) (x4 : Int) (u : iST), w_changeTo_56b R56 Q x1 x3 x4 u → R56 x1 x3 x4 u) → R56 x1 x3 x4 u
set_option maxRecDepth 20000 in
set_option maxHeartbeats 4000000 in
theorem b_changeTo_56 (X : kX p m c cX12_changeTo 5 s args D ca) (hRf : 1 ≤ R.frames) (hRl : 23 ≤ R.locals) {Q : Int → iST → Prop} (hret : ∀ (v : Int) (u : iST) (H : Heap) (locs : List Loc) (ls : Array Slot) (pc : Nat), bz v → Q v u → kW D ca A h0 ad H0 H locs u → decode cX12_changeTo pc = .ok (.ireturn, 1) → W p l e R s m args below meth c H locs 0 0 Qf (F0 m pc ls [.int (jI v)])) {x1 x3 x4 : Int} (rx1 : inR x1) (rx3 : inR x3) (rx4 : inR x4) (hw : kW D ca A h0 ad H0 H locs u) (hl : lv_has ls 5 [(0, .ref h0), (1, .int (jI x1)), (3, .int (jI x3)), (4, .int (jI x4))]) (h : w_changeTo_56 Q x1 x3 x4 u) : W p l e R s m args below meth c H locs 0 0 Qf (F0 m 56 ls []) := by
  refine h (fun x1 x3 x4 u => ∀ (H : Heap) (locs : List Loc) (ls : Array Slot), inR x1 → inR x3 → inR x4 → kW D ca A h0 ad H0 H locs u → lv_has ls 5 [(0, .ref h0), (1, .int (jI x1)), (3, .int (jI x3)), (4, .int (jI x4))] → W p l e R s m args below meth c H locs 0 0 Qf (F0 m 56 ls [])) ?_ H locs ls rx1 rx3 rx4 hw hl
  clear h hl hw rx1 rx3 rx4
  intro x1 x3 x4 u h H locs ls rx1 rx3 rx4 hw hl
  have hR56 : ∀ (x1 : Int) (x3 : Int) (x4 : Int) (u : iST) (H : Heap) (locs : List Loc) (ls : Array Slot), inR x1 → inR x3 → inR x4 → kW D ca A h0 ad H0 H locs u → lv_has ls 5 [(0, .ref h0), (1, .int (jI x1)), (3, .int (jI x3)), (4, .int (jI x4))] → (fun (x1 : Int) (x3 : Int) (x4 : Int) u => ∀ (H : Heap) (locs : List Loc) (ls : Array Slot), inR x1 → inR x3 → inR x4 → kW D ca A h0 ad H0 H locs u → lv_has ls 5 [(0, .ref h0), (1, .int (jI x1)), (3, .int (jI x3)), (4, .int (jI x4))] → W p l e R s m args below meth c H locs 0 0 Qf (F0 m 56 ls [])) x1 x3 x4 u → W p l e R s m args below meth c H locs 0 0 Qf (F0 m 56 ls []) := fun x1 x3 x4 u H locs ls rx1 rx3 rx4 hw hl h => h H locs ls rx1 rx3 rx4 hw hl
  have hx := X.1.1
  have hb := X.1.2.1
  unfold w_changeTo_56b at h
  refine lv_iload hx hb dX12_changeTo_56 (lv_at hl 3 rfl) ?_
  refine lv_aload_n hx hb dX12_changeTo_58 rfl (lv_at hl 0 rfl) ?_
  refine gA 115 245 (by decide) L_115 (fun _ _ => mF_115) rfl X hw dX12_changeTo_59 ?_
  refine lv_iload_n hx hb dX12_changeTo_62 rfl (lv_at hl 1 rfl) ?_
  refine aL 115 74 73 2300 (fun _ _ _ _ => mG_115) (fun _ => rfl) X hw rx1 dX12_changeTo_63 rfl h (fun v4 rv4 h => ?_)
  refine k_icmp_ge hx hb rx4 rv4 dX12_changeTo_64 (tgt := 99) rfl h (fun h => ?_) (fun h => ?_)
  · refine lv_iconst hx hb dX12_changeTo_99 (v := jI 1) rfl ?_
    exact hret _ _ _ _ _ _ h.1 h.2 hw dX12_changeTo_100
  · refine lv_aload_n hx hb dX12_changeTo_67 rfl (lv_at hl 0 rfl) ?_
    refine gA 114 242 (by decide) L_114 (fun _ _ => mF_114) rfl X hw dX12_changeTo_68 ?_
    refine lv_bipush hx hb dX12_changeTo_71 (v := jI 30) rfl ?_
    refine lv_iload_n hx hb dX12_changeTo_73 rfl (lv_at hl 1 rfl) ?_
    refine k_imul hx hb dX12_changeTo_74 h (fun r5 h => ?_)
    refine lv_iload hx hb dX12_changeTo_75 (lv_at hl 3 rfl) ?_
    refine k_iadd hx hb dX12_changeTo_77 h (fun r6 h => ?_)
    refine aL 114 73 72 69000 (fun _ _ _ _ => mG_114) (fun _ => rfl) X hw r6 dX12_changeTo_78 rfl h (fun v7 rv7 h => ?_)
    refine lv_iload_n hx hb dX12_changeTo_79 rfl (lv_at hl 2 rfl) ?_
    refine k_icmp_ne hx hb rv7 rx3 dX12_changeTo_80 (tgt := 93) rfl h (fun h => ?_) (fun h => ?_)
    · refine k_iinc (k := 3) hx hb dX12_changeTo_93 hl rfl (by decide) rfl h (fun ls r8 h hl => ?_)
      have hl : lv_has ls 5 [(4, .int (jI (x4 + 1))), (0, .ref (h0)), (1, .int (jI x1)), (3, .int (jI x3))] := hl
      refine lv_goto hx hb dX12_changeTo_96 (tgt := 56) rfl ?_
      exact hR56 _ _ _ _ H locs ls rx1 rx3 r8 hw (lv_sub hl [1, 2, 3, 0] rfl) h
    · refine lv_aload_n hx hb dX12_changeTo_83 rfl (lv_at hl 0 rfl) ?_
      refine lv_iload_n hx hb dX12_changeTo_84 rfl (lv_at hl 1 rfl) ?_
      refine lv_iload hx hb dX12_changeTo_85 (lv_at hl 3 rfl) ?_
      refine kcV (n := 2) (c_removeAt rx1 rx4 h) G_removeAt E_removeAt X hw (Nat.le_trans (Nat.le_of_ble_eq_true rfl) hRf) (Nat.le_trans (Nat.le_of_ble_eq_true rfl) hRl) rfl hl.1 (Nat.le_of_ble_eq_true rfl) rfl dX12_changeTo_87 (fun u H locs h hw => ?_)
      refine k_iinc (k := 3) hx hb dX12_changeTo_90 hl rfl (by decide) rfl h (fun ls r10 h hl => ?_)
      have hl : lv_has ls 5 [(4, .int (jI (x4 + (-1)))), (0, .ref (h0)), (1, .int (jI x1)), (3, .int (jI x3))] := hl
      refine k_iinc (k := 0) hx hb dX12_changeTo_93 hl rfl (by decide) rfl h (fun ls r11 h hl => ?_)
      have hl : lv_has ls 5 [(4, .int (jI ((x4 + (-1)) + 1))), (0, .ref (h0)), (1, .int (jI x1)), (3, .int (jI x3))] := hl
      refine lv_goto hx hb dX12_changeTo_96 (tgt := 56) rfl ?_
      exact hR56 _ _ _ _ H locs ls rx1 rx3 r11 hw (lv_sub hl [1, 2, 3, 0] rfl) h

def w_changeTo_3b (R3 : Int → Int → Int → Int → iST → Prop) (Q : Int → iST → Prop) (x1 : Int) (x2 : Int) (x3 : Int) (x4 : Int) (u : iST) : Prop :=
  br (x2 ≤ x4) (
    ov (30 * x1) (
    ov ((30 * x1) + x2) (
    bd ((30 * x1) + x2) 69000 (sw (iA u 114 ((30 * x1) + x2) x3) (fun u => 
    ov (x2 + 1) (
    w_changeTo_56 Q x1 x3 (x2 + 1) u)))))) (
    ov (30 * x1) (
    ov ((30 * x1) + x4) (
    bd ((30 * x1) + x4) 69000 (rd (u.2.1 114 ((30 * x1) + x4)) (fun v14 => 
    br (v14 ≠ x3) (
      ov (x4 + 1) (
      R3 x1 x2 x3 (x4 + 1) u)) (
      w_removeAt x1 x2 (fun u => 
      zt 0 (Q 0 u)) u))))))
def w_changeTo_3 (Q : Int → iST → Prop) (x1 : Int) (x2 : Int) (x3 : Int) (x4 : Int) (u : iST) : Prop := ∀ R3 : Int → Int → Int → Int → iST → Prop, (∀ (x1 : Int) (x2 : Int) (x3 : Int) (x4 : Int) (u : iST), w_changeTo_3b R3 Q x1 x2 x3 x4 u → R3 x1 x2 x3 x4 u) → R3 x1 x2 x3 x4 u
set_option maxRecDepth 20000 in
set_option maxHeartbeats 4000000 in
theorem b_changeTo_3 (X : kX p m c cX12_changeTo 5 s args D ca) (hRf : 1 ≤ R.frames) (hRl : 23 ≤ R.locals) {Q : Int → iST → Prop} (hret : ∀ (v : Int) (u : iST) (H : Heap) (locs : List Loc) (ls : Array Slot) (pc : Nat), bz v → Q v u → kW D ca A h0 ad H0 H locs u → decode cX12_changeTo pc = .ok (.ireturn, 1) → W p l e R s m args below meth c H locs 0 0 Qf (F0 m pc ls [.int (jI v)])) {x1 x2 x3 x4 : Int} (rx1 : inR x1) (rx2 : inR x2) (rx3 : inR x3) (rx4 : inR x4) (hw : kW D ca A h0 ad H0 H locs u) (hl : lv_has ls 5 [(0, .ref h0), (1, .int (jI x1)), (2, .int (jI x2)), (3, .int (jI x3)), (4, .int (jI x4))]) (h : w_changeTo_3 Q x1 x2 x3 x4 u) : W p l e R s m args below meth c H locs 0 0 Qf (F0 m 3 ls []) := by
  refine h (fun x1 x2 x3 x4 u => ∀ (H : Heap) (locs : List Loc) (ls : Array Slot), inR x1 → inR x2 → inR x3 → inR x4 → kW D ca A h0 ad H0 H locs u → lv_has ls 5 [(0, .ref h0), (1, .int (jI x1)), (2, .int (jI x2)), (3, .int (jI x3)), (4, .int (jI x4))] → W p l e R s m args below meth c H locs 0 0 Qf (F0 m 3 ls [])) ?_ H locs ls rx1 rx2 rx3 rx4 hw hl
  clear h hl hw rx1 rx2 rx3 rx4
  intro x1 x2 x3 x4 u h H locs ls rx1 rx2 rx3 rx4 hw hl
  have hR3 : ∀ (x1 : Int) (x2 : Int) (x3 : Int) (x4 : Int) (u : iST) (H : Heap) (locs : List Loc) (ls : Array Slot), inR x1 → inR x2 → inR x3 → inR x4 → kW D ca A h0 ad H0 H locs u → lv_has ls 5 [(0, .ref h0), (1, .int (jI x1)), (2, .int (jI x2)), (3, .int (jI x3)), (4, .int (jI x4))] → (fun (x1 : Int) (x2 : Int) (x3 : Int) (x4 : Int) u => ∀ (H : Heap) (locs : List Loc) (ls : Array Slot), inR x1 → inR x2 → inR x3 → inR x4 → kW D ca A h0 ad H0 H locs u → lv_has ls 5 [(0, .ref h0), (1, .int (jI x1)), (2, .int (jI x2)), (3, .int (jI x3)), (4, .int (jI x4))] → W p l e R s m args below meth c H locs 0 0 Qf (F0 m 3 ls [])) x1 x2 x3 x4 u → W p l e R s m args below meth c H locs 0 0 Qf (F0 m 3 ls []) := fun x1 x2 x3 x4 u H locs ls rx1 rx2 rx3 rx4 hw hl h => h H locs ls rx1 rx2 rx3 rx4 hw hl
  have hx := X.1.1
  have hb := X.1.2.1
  unfold w_changeTo_3b at h
  refine lv_iload hx hb dX12_changeTo_3 (lv_at hl 4 rfl) ?_
  refine lv_iload_n hx hb dX12_changeTo_5 rfl (lv_at hl 2 rfl) ?_
  refine k_icmp_ge hx hb rx4 rx2 dX12_changeTo_6 (tgt := 39) rfl h (fun h => ?_) (fun h => ?_)
  · refine lv_aload_n hx hb dX12_changeTo_39 rfl (lv_at hl 0 rfl) ?_
    refine gA 114 242 (by decide) L_114 (fun _ _ => mF_114) rfl X hw dX12_changeTo_40 ?_
    refine lv_bipush hx hb dX12_changeTo_43 (v := jI 30) rfl ?_
    refine lv_iload_n hx hb dX12_changeTo_45 rfl (lv_at hl 1 rfl) ?_
    refine k_imul hx hb dX12_changeTo_46 h (fun r1 h => ?_)
    refine lv_iload_n hx hb dX12_changeTo_47 rfl (lv_at hl 2 rfl) ?_
    refine k_iadd hx hb dX12_changeTo_48 h (fun r2 h => ?_)
    refine lv_iload_n hx hb dX12_changeTo_49 rfl (lv_at hl 3 rfl) ?_
    refine aS 114 73 72 69000 (fun _ _ _ _ => mG_114) (fun _ => rfl) (fun _ _ _ _ _ _ => mSA_114) (by decide) X hw r2 rx3 dX12_changeTo_50 rfl h (fun H locs u hw h => ?_)
    refine lv_iload_n hx hb dX12_changeTo_51 rfl (lv_at hl 2 rfl) ?_
    refine lv_iconst hx hb dX12_changeTo_52 (v := jI 1) rfl ?_
    refine k_iadd hx hb dX12_changeTo_53 h (fun r3 h => ?_)
    refine lv_istore hx hb dX12_changeTo_54 hl (by decide) rfl (fun ls hl => ?_)
    have hl : lv_has ls 5 [(4, .int (jI (x2 + 1))), (0, .ref (h0)), (1, .int (jI x1)), (2, .int (jI x2)), (3, .int (jI x3))] := hl
    exact b_changeTo_56 X hRf hRl hret rx1 rx3 r3 hw (lv_sub hl [1, 2, 4, 0] rfl) h
  · refine lv_aload_n hx hb dX12_changeTo_9 rfl (lv_at hl 0 rfl) ?_
    refine gA 114 242 (by decide) L_114 (fun _ _ => mF_114) rfl X hw dX12_changeTo_10 ?_
    refine lv_bipush hx hb dX12_changeTo_13 (v := jI 30) rfl ?_
    refine lv_iload_n hx hb dX12_changeTo_15 rfl (lv_at hl 1 rfl) ?_
    refine k_imul hx hb dX12_changeTo_16 h (fun r12 h => ?_)
    refine lv_iload hx hb dX12_changeTo_17 (lv_at hl 4 rfl) ?_
    refine k_iadd hx hb dX12_changeTo_19 h (fun r13 h => ?_)
    refine aL 114 73 72 69000 (fun _ _ _ _ => mG_114) (fun _ => rfl) X hw r13 dX12_changeTo_20 rfl h (fun v14 rv14 h => ?_)
    refine lv_iload_n hx hb dX12_changeTo_21 rfl (lv_at hl 3 rfl) ?_
    refine k_icmp_ne hx hb rv14 rx3 dX12_changeTo_22 (tgt := 33) rfl h (fun h => ?_) (fun h => ?_)
    · refine k_iinc (k := 4) hx hb dX12_changeTo_33 hl rfl (by decide) rfl h (fun ls r15 h hl => ?_)
      have hl : lv_has ls 5 [(4, .int (jI (x4 + 1))), (0, .ref (h0)), (1, .int (jI x1)), (2, .int (jI x2)), (3, .int (jI x3))] := hl
      refine lv_goto hx hb dX12_changeTo_36 (tgt := 3) rfl ?_
      exact hR3 _ _ _ _ _ H locs ls rx1 rx2 rx3 r15 hw (lv_sub hl [1, 2, 3, 4, 0] rfl) h
    · refine lv_aload_n hx hb dX12_changeTo_25 rfl (lv_at hl 0 rfl) ?_
      refine lv_iload_n hx hb dX12_changeTo_26 rfl (lv_at hl 1 rfl) ?_
      refine lv_iload_n hx hb dX12_changeTo_27 rfl (lv_at hl 2 rfl) ?_
      refine kcV (n := 2) (c_removeAt rx1 rx2 h) G_removeAt E_removeAt X hw (Nat.le_trans (Nat.le_of_ble_eq_true rfl) hRf) (Nat.le_trans (Nat.le_of_ble_eq_true rfl) hRl) rfl hl.1 (Nat.le_of_ble_eq_true rfl) rfl dX12_changeTo_28 (fun u H locs h hw => ?_)
      refine lv_iconst hx hb dX12_changeTo_31 (v := jI 0) rfl ?_
      exact hret _ _ _ _ _ _ h.1 h.2 hw dX12_changeTo_32

def w_changeTo (a0 : Int) (a1 : Int) (a2 : Int) (Q : Int → iST → Prop) (u : iST) : Prop :=
  w_changeTo_3 Q a0 a1 a2 0 u
set_option maxRecDepth 20000 in
set_option maxHeartbeats 4000000 in
theorem b_changeTo_s (X : kX p m c cX12_changeTo 5 s args D ca) (hRf : 1 ≤ R.frames) (hRl : 23 ≤ R.locals) {Q : Int → iST → Prop} (hret : ∀ (v : Int) (u : iST) (H : Heap) (locs : List Loc) (ls : Array Slot) (pc : Nat), bz v → Q v u → kW D ca A h0 ad H0 H locs u → decode cX12_changeTo pc = .ok (.ireturn, 1) → W p l e R s m args below meth c H locs 0 0 Qf (F0 m pc ls [.int (jI v)])) {a0 a1 a2 : Int} (ra0 : inR a0) (ra1 : inR a1) (ra2 : inR a2) (hw : kW D ca A h0 ad H0 H locs u) (hl : lv_has ls 5 [(0, .ref h0), (1, .int (jI a0)), (2, .int (jI a1)), (3, .int (jI a2))]) (h : w_changeTo a0 a1 a2 Q u) : W p l e R s m args below meth c H locs 0 0 Qf (F0 m 0 ls []) := by
  have hx := X.1.1
  have hb := X.1.2.1
  unfold w_changeTo at h
  refine lv_iconst hx hb dX12_changeTo_0 (v := jI 0) rfl ?_
  refine lv_istore hx hb dX12_changeTo_1 hl (by decide) rfl (fun ls hl => ?_)
  have hl : lv_has ls 5 [(4, .int (jI 0)), (0, .ref (h0)), (1, .int (jI a0)), (2, .int (jI a1)), (3, .int (jI a2))] := hl
  exact b_changeTo_3 X hRf hRl hret ra0 ra1 ra2 (by decide) hw (lv_sub hl [1, 2, 3, 4, 0] rfl) h

end
theorem c_changeTo {l : Launch} {a0 : Int} {a1 : Int} {a2 : Int} (ra0 : inR a0) (ra1 : inR a1) (ra2 : inR a2) {Q : Int → iST → Prop} {u : iST} (h : w_changeTo a0 a1 a2 Q u) : kMI l yX12_changeTo (.code yX12_changeTo cX12_changeTo 5 (some .boolean) :: wsM) { frames := 1, cells := 0, slots := 0, locals := 23 } [.int (jI a0), .int (jI a1), .int (jI a2)] Q u := kMZ_of rfl (fun _ => Nat.le_of_ble_eq_true rfl) (fun X hRf hRl hret hw hl => b_changeTo_s X hRf hRl hret ra0 ra1 ra2 hw hl h)

/-! together -/
theorem dX12_together_0 : decode cX12_together 0 = .ok (.iconst 0, 1) := by decide +kernel
theorem dX12_together_1 : decode cX12_together 1 = .ok (.istore_n 2, 1) := by decide +kernel
theorem dX12_together_2 : decode cX12_together 2 = .ok (.iconst 0, 1) := by decide +kernel
theorem dX12_together_3 : decode cX12_together 3 = .ok (.istore_n 3, 1) := by decide +kernel
theorem dX12_together_4 : decode cX12_together 4 = .ok (.iload_n 3, 1) := by decide +kernel
theorem dX12_together_5 : decode cX12_together 5 = .ok (.aload_n 0, 1) := by decide +kernel
theorem dX12_together_6 : decode cX12_together 6 = .ok (.getfield 245, 3) := by decide +kernel
theorem dX12_together_9 : decode cX12_together 9 = .ok (.iload_n 1, 1) := by decide +kernel
theorem dX12_together_10 : decode cX12_together 10 = .ok (.iaload, 1) := by decide +kernel
theorem dX12_together_11 : decode cX12_together 11 = .ok (.if_icmp .ge 27, 3) := by decide +kernel
theorem dX12_together_14 : decode cX12_together 14 = .ok (.iload_n 2, 1) := by decide +kernel
theorem dX12_together_15 : decode cX12_together 15 = .ok (.aload_n 0, 1) := by decide +kernel
theorem dX12_together_16 : decode cX12_together 16 = .ok (.aload_n 0, 1) := by decide +kernel
theorem dX12_together_17 : decode cX12_together 17 = .ok (.getfield 242, 3) := by decide +kernel
theorem dX12_together_20 : decode cX12_together 20 = .ok (.bipush 30, 2) := by decide +kernel
theorem dX12_together_22 : decode cX12_together 22 = .ok (.iload_n 1, 1) := by decide +kernel
theorem dX12_together_23 : decode cX12_together 23 = .ok (.imul, 1) := by decide +kernel
theorem dX12_together_24 : decode cX12_together 24 = .ok (.iload_n 3, 1) := by decide +kernel
theorem dX12_together_25 : decode cX12_together 25 = .ok (.iadd, 1) := by decide +kernel
theorem dX12_together_26 : decode cX12_together 26 = .ok (.iaload, 1) := by decide +kernel
theorem dX12_together_27 : decode cX12_together 27 = .ok (.invokevirtual 489, 3) := by decide +kernel
theorem dX12_together_30 : decode cX12_together 30 = .ok (.iadd, 1) := by decide +kernel
theorem dX12_together_31 : decode cX12_together 31 = .ok (.istore_n 2, 1) := by decide +kernel
theorem dX12_together_32 : decode cX12_together 32 = .ok (.iinc 3 1, 3) := by decide +kernel
theorem dX12_together_35 : decode cX12_together 35 = .ok (.goto (-31), 3) := by decide +kernel
theorem dX12_together_38 : decode cX12_together 38 = .ok (.iload_n 2, 1) := by decide +kernel
theorem dX12_together_39 : decode cX12_together 39 = .ok (.ireturn, 1) := by decide +kernel

section
variable {p : Program} {l : Launch} {e : Env} {R : Room} {s : State} {m : MethodId} {args : Array Value} {below : List Frame} {meth : Method} {c : Code} {H : Heap} {locs : List Loc} {Qf : State → Prop}
variable {ls : Array Slot} {D : va_G} {ca : Nat → ClassId} {A : Nat → Prop} {h0 : Nat} {ad : Nat → Nat} {H0 : Heap} {u : iST}
def w_together_4b (R4 : Int → Int → Int → iST → Prop) (Q : Int → iST → Prop) (x1 : Int) (x2 : Int) (x3 : Int) (u : iST) : Prop :=
  bd x1 2300 (rd (u.2.1 115 x1) (fun v1 => 
  br (v1 ≤ x3) (
    Q x2 u) (
    ov (30 * x1) (
    ov ((30 * x1) + x3) (
    bd ((30 * x1) + x3) 69000 (rd (u.2.1 114 ((30 * x1) + x3)) (fun v4 => 
    w_sizeOf v4 (fun v5 u => 
    ov (x2 + v5) (
    ov (x3 + 1) (
    R4 x1 (x2 + v5) (x3 + 1) u))) u)))))))
def w_together_4 (Q : Int → iST → Prop) (x1 : Int) (x2 : Int) (x3 : Int) (u : iST) : Prop := ∀ R4 : Int → Int → Int → iST → Prop, (∀ (x1 : Int) (x2 : Int) (x3 : Int) (u : iST), w_together_4b R4 Q x1 x2 x3 u → R4 x1 x2 x3 u) → R4 x1 x2 x3 u
set_option maxRecDepth 20000 in
set_option maxHeartbeats 4000000 in
theorem b_together_4 (X : kX p m c cX12_together 4 s args D ca) (hRf : 3 ≤ R.frames) (hRl : 63 ≤ R.locals) {Q : Int → iST → Prop} (hret : ∀ (v : Int) (u : iST) (H : Heap) (locs : List Loc) (ls : Array Slot) (pc : Nat), inR v → Q v u → kW D ca A h0 ad H0 H locs u → decode cX12_together pc = .ok (.ireturn, 1) → W p l e R s m args below meth c H locs 0 0 Qf (F0 m pc ls [.int (jI v)])) {x1 x2 x3 : Int} (rx1 : inR x1) (rx2 : inR x2) (rx3 : inR x3) (hw : kW D ca A h0 ad H0 H locs u) (hl : lv_has ls 4 [(0, .ref h0), (1, .int (jI x1)), (2, .int (jI x2)), (3, .int (jI x3))]) (h : w_together_4 Q x1 x2 x3 u) : W p l e R s m args below meth c H locs 0 0 Qf (F0 m 4 ls []) := by
  refine h (fun x1 x2 x3 u => ∀ (H : Heap) (locs : List Loc) (ls : Array Slot), inR x1 → inR x2 → inR x3 → kW D ca A h0 ad H0 H locs u → lv_has ls 4 [(0, .ref h0), (1, .int (jI x1)), (2, .int (jI x2)), (3, .int (jI x3))] → W p l e R s m args below meth c H locs 0 0 Qf (F0 m 4 ls [])) ?_ H locs ls rx1 rx2 rx3 hw hl
  clear h hl hw rx1 rx2 rx3
  intro x1 x2 x3 u h H locs ls rx1 rx2 rx3 hw hl
  have hR4 : ∀ (x1 : Int) (x2 : Int) (x3 : Int) (u : iST) (H : Heap) (locs : List Loc) (ls : Array Slot), inR x1 → inR x2 → inR x3 → kW D ca A h0 ad H0 H locs u → lv_has ls 4 [(0, .ref h0), (1, .int (jI x1)), (2, .int (jI x2)), (3, .int (jI x3))] → (fun (x1 : Int) (x2 : Int) (x3 : Int) u => ∀ (H : Heap) (locs : List Loc) (ls : Array Slot), inR x1 → inR x2 → inR x3 → kW D ca A h0 ad H0 H locs u → lv_has ls 4 [(0, .ref h0), (1, .int (jI x1)), (2, .int (jI x2)), (3, .int (jI x3))] → W p l e R s m args below meth c H locs 0 0 Qf (F0 m 4 ls [])) x1 x2 x3 u → W p l e R s m args below meth c H locs 0 0 Qf (F0 m 4 ls []) := fun x1 x2 x3 u H locs ls rx1 rx2 rx3 hw hl h => h H locs ls rx1 rx2 rx3 hw hl
  have hx := X.1.1
  have hb := X.1.2.1
  unfold w_together_4b at h
  refine lv_iload_n hx hb dX12_together_4 rfl (lv_at hl 3 rfl) ?_
  refine lv_aload_n hx hb dX12_together_5 rfl (lv_at hl 0 rfl) ?_
  refine gA 115 245 (by decide) L_115 (fun _ _ => mF_115) rfl X hw dX12_together_6 ?_
  refine lv_iload_n hx hb dX12_together_9 rfl (lv_at hl 1 rfl) ?_
  refine aL 115 74 73 2300 (fun _ _ _ _ => mG_115) (fun _ => rfl) X hw rx1 dX12_together_10 rfl h (fun v1 rv1 h => ?_)
  refine k_icmp_ge hx hb rx3 rv1 dX12_together_11 (tgt := 38) rfl h (fun h => ?_) (fun h => ?_)
  · refine lv_iload_n hx hb dX12_together_38 rfl (lv_at hl 2 rfl) ?_
    exact hret _ _ _ _ _ _ rx2 h hw dX12_together_39
  · refine lv_iload_n hx hb dX12_together_14 rfl (lv_at hl 2 rfl) ?_
    refine lv_aload_n hx hb dX12_together_15 rfl (lv_at hl 0 rfl) ?_
    refine lv_aload_n hx hb dX12_together_16 rfl (lv_at hl 0 rfl) ?_
    refine gA 114 242 (by decide) L_114 (fun _ _ => mF_114) rfl X hw dX12_together_17 ?_
    refine lv_bipush hx hb dX12_together_20 (v := jI 30) rfl ?_
    refine lv_iload_n hx hb dX12_together_22 rfl (lv_at hl 1 rfl) ?_
    refine k_imul hx hb dX12_together_23 h (fun r2 h => ?_)
    refine lv_iload_n hx hb dX12_together_24 rfl (lv_at hl 3 rfl) ?_
    refine k_iadd hx hb dX12_together_25 h (fun r3 h => ?_)
    refine aL 114 73 72 69000 (fun _ _ _ _ => mG_114) (fun _ => rfl) X hw r3 dX12_together_26 rfl h (fun v4 rv4 h => ?_)
    refine kcI (n := 1) (c_sizeOf rv4 h) G_sizeOf E_sizeOf X hw (Nat.le_trans (Nat.le_of_ble_eq_true rfl) hRf) (Nat.le_trans (Nat.le_of_ble_eq_true rfl) hRl) rfl hl.1 (Nat.le_of_ble_eq_true rfl) rfl dX12_together_27 (fun v5 u H locs rv5 h hw => ?_)
    refine k_iadd hx hb dX12_together_30 h (fun r6 h => ?_)
    refine lv_istore_n hx hb dX12_together_31 rfl hl (by decide) rfl (fun ls hl => ?_)
    have hl : lv_has ls 4 [(2, .int (jI (x2 + v5))), (0, .ref (h0)), (1, .int (jI x1)), (3, .int (jI x3))] := hl
    refine k_iinc (k := 3) hx hb dX12_together_32 hl rfl (by decide) rfl h (fun ls r7 h hl => ?_)
    have hl : lv_has ls 4 [(3, .int (jI (x3 + 1))), (2, .int (jI (x2 + v5))), (0, .ref (h0)), (1, .int (jI x1))] := hl
    refine lv_goto hx hb dX12_together_35 (tgt := 4) rfl ?_
    exact hR4 _ _ _ _ H locs ls rx1 r6 r7 hw (lv_sub hl [2, 3, 1, 0] rfl) h

def w_together (a0 : Int) (Q : Int → iST → Prop) (u : iST) : Prop :=
  w_together_4 Q a0 0 0 u
set_option maxRecDepth 20000 in
set_option maxHeartbeats 4000000 in
theorem b_together_s (X : kX p m c cX12_together 4 s args D ca) (hRf : 3 ≤ R.frames) (hRl : 63 ≤ R.locals) {Q : Int → iST → Prop} (hret : ∀ (v : Int) (u : iST) (H : Heap) (locs : List Loc) (ls : Array Slot) (pc : Nat), inR v → Q v u → kW D ca A h0 ad H0 H locs u → decode cX12_together pc = .ok (.ireturn, 1) → W p l e R s m args below meth c H locs 0 0 Qf (F0 m pc ls [.int (jI v)])) {a0 : Int} (ra0 : inR a0) (hw : kW D ca A h0 ad H0 H locs u) (hl : lv_has ls 4 [(0, .ref h0), (1, .int (jI a0))]) (h : w_together a0 Q u) : W p l e R s m args below meth c H locs 0 0 Qf (F0 m 0 ls []) := by
  have hx := X.1.1
  have hb := X.1.2.1
  unfold w_together at h
  refine lv_iconst hx hb dX12_together_0 (v := jI 0) rfl ?_
  refine lv_istore_n hx hb dX12_together_1 rfl hl (by decide) rfl (fun ls hl => ?_)
  have hl : lv_has ls 4 [(2, .int (jI 0)), (0, .ref (h0)), (1, .int (jI a0))] := hl
  refine lv_iconst hx hb dX12_together_2 (v := jI 0) rfl ?_
  refine lv_istore_n hx hb dX12_together_3 rfl hl (by decide) rfl (fun ls hl => ?_)
  have hl : lv_has ls 4 [(3, .int (jI 0)), (2, .int (jI 0)), (0, .ref (h0)), (1, .int (jI a0))] := hl
  exact b_together_4 X hRf hRl hret ra0 (by decide) (by decide) hw (lv_sub hl [2, 3, 1, 0] rfl) h

end
theorem c_together {l : Launch} {a0 : Int} (ra0 : inR a0) {Q : Int → iST → Prop} {u : iST} (h : w_together a0 Q u) : kMI l yX12_together (.code yX12_together cX12_together 4 (some .int) :: wsM) { frames := 3, cells := 0, slots := 0, locals := 63 } [.int (jI a0)] Q u := kMI_of rfl (fun _ => Nat.le_of_ble_eq_true rfl) (fun X hRf hRl hret hw hl => b_together_s X hRf hRl hret ra0 hw hl h)

/-! splitRow -/
theorem dX12_splitRow_0 : decode cX12_splitRow 0 = .ok (.aload_n 0, 1) := by decide +kernel
theorem dX12_splitRow_1 : decode cX12_splitRow 1 = .ok (.iconst 0, 1) := by decide +kernel
theorem dX12_splitRow_2 : decode cX12_splitRow 2 = .ok (.putfield 727, 3) := by decide +kernel
theorem dX12_splitRow_5 : decode cX12_splitRow 5 = .ok (.iconst 0, 1) := by decide +kernel
theorem dX12_splitRow_6 : decode cX12_splitRow 6 = .ok (.istore 5, 2) := by decide +kernel
theorem dX12_splitRow_8 : decode cX12_splitRow 8 = .ok (.iload 5, 2) := by decide +kernel
theorem dX12_splitRow_10 : decode cX12_splitRow 10 = .ok (.aload_n 0, 1) := by decide +kernel
theorem dX12_splitRow_11 : decode cX12_splitRow 11 = .ok (.getfield 245, 3) := by decide +kernel
theorem dX12_splitRow_14 : decode cX12_splitRow 14 = .ok (.iload_n 1, 1) := by decide +kernel
theorem dX12_splitRow_15 : decode cX12_splitRow 15 = .ok (.iaload, 1) := by decide +kernel
theorem dX12_splitRow_16 : decode cX12_splitRow 16 = .ok (.if_icmp .ge 45, 3) := by decide +kernel
theorem dX12_splitRow_19 : decode cX12_splitRow 19 = .ok (.iload 5, 2) := by decide +kernel
theorem dX12_splitRow_21 : decode cX12_splitRow 21 = .ok (.iload_n 2, 1) := by decide +kernel
theorem dX12_splitRow_22 : decode cX12_splitRow 22 = .ok (.if_icmp .eq 22, 3) := by decide +kernel
theorem dX12_splitRow_25 : decode cX12_splitRow 25 = .ok (.aload_n 0, 1) := by decide +kernel
theorem dX12_splitRow_26 : decode cX12_splitRow 26 = .ok (.aload_n 0, 1) := by decide +kernel
theorem dX12_splitRow_27 : decode cX12_splitRow 27 = .ok (.getfield 242, 3) := by decide +kernel
theorem dX12_splitRow_30 : decode cX12_splitRow 30 = .ok (.bipush 30, 2) := by decide +kernel
theorem dX12_splitRow_32 : decode cX12_splitRow 32 = .ok (.iload_n 1, 1) := by decide +kernel
theorem dX12_splitRow_33 : decode cX12_splitRow 33 = .ok (.imul, 1) := by decide +kernel
theorem dX12_splitRow_34 : decode cX12_splitRow 34 = .ok (.iload 5, 2) := by decide +kernel
theorem dX12_splitRow_36 : decode cX12_splitRow 36 = .ok (.iadd, 1) := by decide +kernel
theorem dX12_splitRow_37 : decode cX12_splitRow 37 = .ok (.iaload, 1) := by decide +kernel
theorem dX12_splitRow_38 : decode cX12_splitRow 38 = .ok (.invokevirtual 739, 3) := by decide +kernel
theorem dX12_splitRow_41 : decode cX12_splitRow 41 = .ok (.goto 14, 3) := by decide +kernel
theorem dX12_splitRow_44 : decode cX12_splitRow 44 = .ok (.aload_n 0, 1) := by decide +kernel
theorem dX12_splitRow_45 : decode cX12_splitRow 45 = .ok (.iload_n 3, 1) := by decide +kernel
theorem dX12_splitRow_46 : decode cX12_splitRow 46 = .ok (.invokevirtual 739, 3) := by decide +kernel
theorem dX12_splitRow_49 : decode cX12_splitRow 49 = .ok (.aload_n 0, 1) := by decide +kernel
theorem dX12_splitRow_50 : decode cX12_splitRow 50 = .ok (.iload 4, 2) := by decide +kernel
theorem dX12_splitRow_52 : decode cX12_splitRow 52 = .ok (.invokevirtual 739, 3) := by decide +kernel
theorem dX12_splitRow_55 : decode cX12_splitRow 55 = .ok (.iinc 5 1, 3) := by decide +kernel
theorem dX12_splitRow_58 : decode cX12_splitRow 58 = .ok (.goto (-50), 3) := by decide +kernel
theorem dX12_splitRow_61 : decode cX12_splitRow 61 = .ok (.aload_n 0, 1) := by decide +kernel
theorem dX12_splitRow_62 : decode cX12_splitRow 62 = .ok (.aload_n 0, 1) := by decide +kernel
theorem dX12_splitRow_63 : decode cX12_splitRow 63 = .ok (.getfield 248, 3) := by decide +kernel
theorem dX12_splitRow_66 : decode cX12_splitRow 66 = .ok (.iload_n 1, 1) := by decide +kernel
theorem dX12_splitRow_67 : decode cX12_splitRow 67 = .ok (.iaload, 1) := by decide +kernel
theorem dX12_splitRow_68 : decode cX12_splitRow 68 = .ok (.iconst 1, 1) := by decide +kernel
theorem dX12_splitRow_69 : decode cX12_splitRow 69 = .ok (.iadd, 1) := by decide +kernel
theorem dX12_splitRow_70 : decode cX12_splitRow 70 = .ok (.invokevirtual 742, 3) := by decide +kernel
theorem dX12_splitRow_73 : decode cX12_splitRow 73 = .ok (.ireturn, 1) := by decide +kernel

section
variable {p : Program} {l : Launch} {e : Env} {R : Room} {s : State} {m : MethodId} {args : Array Value} {below : List Frame} {meth : Method} {c : Code} {H : Heap} {locs : List Loc} {Qf : State → Prop}
variable {ls : Array Slot} {D : va_G} {ca : Nat → ClassId} {A : Nat → Prop} {h0 : Nat} {ad : Nat → Nat} {H0 : Heap} {u : iST}
def w_splitRow_8b (R8 : Int → Int → Int → Int → Int → iST → Prop) (Q : Int → iST → Prop) (x1 : Int) (x2 : Int) (x3 : Int) (x4 : Int) (x5 : Int) (u : iST) : Prop :=
  bd x1 2300 (rd (u.2.1 115 x1) (fun v1 => 
  br (v1 ≤ x5) (
    bd x1 2300 (rd (u.2.1 116 x1) (fun v2 => 
    ov (v2 + 1) (
    w_row (v2 + 1) (fun v4 u => 
    Q v4 u) u)))) (
    br (x5 = x2) (
      w_put x3 (fun u => 
      w_put x4 (fun u => 
      ov (x5 + 1) (
      R8 x1 x2 x3 x4 (x5 + 1) u)) u) u) (
      ov (30 * x1) (
      ov ((30 * x1) + x5) (
      bd ((30 * x1) + x5) 69000 (rd (u.2.1 114 ((30 * x1) + x5)) (fun v10 => 
      w_put v10 (fun u => 
      ov (x5 + 1) (
      R8 x1 x2 x3 x4 (x5 + 1) u)) u))))))))
def w_splitRow_8 (Q : Int → iST → Prop) (x1 : Int) (x2 : Int) (x3 : Int) (x4 : Int) (x5 : Int) (u : iST) : Prop := ∀ R8 : Int → Int → Int → Int → Int → iST → Prop, (∀ (x1 : Int) (x2 : Int) (x3 : Int) (x4 : Int) (x5 : Int) (u : iST), w_splitRow_8b R8 Q x1 x2 x3 x4 x5 u → R8 x1 x2 x3 x4 x5 u) → R8 x1 x2 x3 x4 x5 u
set_option maxRecDepth 20000 in
set_option maxHeartbeats 4000000 in
theorem b_splitRow_8 (X : kX p m c cX12_splitRow 6 s args D ca) (hRf : 5 ≤ R.frames) (hRl : 107 ≤ R.locals) {Q : Int → iST → Prop} (hret : ∀ (v : Int) (u : iST) (H : Heap) (locs : List Loc) (ls : Array Slot) (pc : Nat), inR v → Q v u → kW D ca A h0 ad H0 H locs u → decode cX12_splitRow pc = .ok (.ireturn, 1) → W p l e R s m args below meth c H locs 0 0 Qf (F0 m pc ls [.int (jI v)])) {x1 x2 x3 x4 x5 : Int} (rx1 : inR x1) (rx2 : inR x2) (rx3 : inR x3) (rx4 : inR x4) (rx5 : inR x5) (hw : kW D ca A h0 ad H0 H locs u) (hl : lv_has ls 6 [(0, .ref h0), (1, .int (jI x1)), (2, .int (jI x2)), (3, .int (jI x3)), (4, .int (jI x4)), (5, .int (jI x5))]) (h : w_splitRow_8 Q x1 x2 x3 x4 x5 u) : W p l e R s m args below meth c H locs 0 0 Qf (F0 m 8 ls []) := by
  refine h (fun x1 x2 x3 x4 x5 u => ∀ (H : Heap) (locs : List Loc) (ls : Array Slot), inR x1 → inR x2 → inR x3 → inR x4 → inR x5 → kW D ca A h0 ad H0 H locs u → lv_has ls 6 [(0, .ref h0), (1, .int (jI x1)), (2, .int (jI x2)), (3, .int (jI x3)), (4, .int (jI x4)), (5, .int (jI x5))] → W p l e R s m args below meth c H locs 0 0 Qf (F0 m 8 ls [])) ?_ H locs ls rx1 rx2 rx3 rx4 rx5 hw hl
  clear h hl hw rx1 rx2 rx3 rx4 rx5
  intro x1 x2 x3 x4 x5 u h H locs ls rx1 rx2 rx3 rx4 rx5 hw hl
  have hR8 : ∀ (x1 : Int) (x2 : Int) (x3 : Int) (x4 : Int) (x5 : Int) (u : iST) (H : Heap) (locs : List Loc) (ls : Array Slot), inR x1 → inR x2 → inR x3 → inR x4 → inR x5 → kW D ca A h0 ad H0 H locs u → lv_has ls 6 [(0, .ref h0), (1, .int (jI x1)), (2, .int (jI x2)), (3, .int (jI x3)), (4, .int (jI x4)), (5, .int (jI x5))] → (fun (x1 : Int) (x2 : Int) (x3 : Int) (x4 : Int) (x5 : Int) u => ∀ (H : Heap) (locs : List Loc) (ls : Array Slot), inR x1 → inR x2 → inR x3 → inR x4 → inR x5 → kW D ca A h0 ad H0 H locs u → lv_has ls 6 [(0, .ref h0), (1, .int (jI x1)), (2, .int (jI x2)), (3, .int (jI x3)), (4, .int (jI x4)), (5, .int (jI x5))] → W p l e R s m args below meth c H locs 0 0 Qf (F0 m 8 ls [])) x1 x2 x3 x4 x5 u → W p l e R s m args below meth c H locs 0 0 Qf (F0 m 8 ls []) := fun x1 x2 x3 x4 x5 u H locs ls rx1 rx2 rx3 rx4 rx5 hw hl h => h H locs ls rx1 rx2 rx3 rx4 rx5 hw hl
  have hx := X.1.1
  have hb := X.1.2.1
  unfold w_splitRow_8b at h
  refine lv_iload hx hb dX12_splitRow_8 (lv_at hl 5 rfl) ?_
  refine lv_aload_n hx hb dX12_splitRow_10 rfl (lv_at hl 0 rfl) ?_
  refine gA 115 245 (by decide) L_115 (fun _ _ => mF_115) rfl X hw dX12_splitRow_11 ?_
  refine lv_iload_n hx hb dX12_splitRow_14 rfl (lv_at hl 1 rfl) ?_
  refine aL 115 74 73 2300 (fun _ _ _ _ => mG_115) (fun _ => rfl) X hw rx1 dX12_splitRow_15 rfl h (fun v1 rv1 h => ?_)
  refine k_icmp_ge hx hb rx5 rv1 dX12_splitRow_16 (tgt := 61) rfl h (fun h => ?_) (fun h => ?_)
  · refine lv_aload_n hx hb dX12_splitRow_61 rfl (lv_at hl 0 rfl) ?_
    refine lv_aload_n hx hb dX12_splitRow_62 rfl (lv_at hl 0 rfl) ?_
    refine gA 116 248 (by decide) L_116 (fun _ _ => mF_116) rfl X hw dX12_splitRow_63 ?_
    refine lv_iload_n hx hb dX12_splitRow_66 rfl (lv_at hl 1 rfl) ?_
    refine aL 116 75 74 2300 (fun _ _ _ _ => mG_116) (fun _ => rfl) X hw rx1 dX12_splitRow_67 rfl h (fun v2 rv2 h => ?_)
    refine lv_iconst hx hb dX12_splitRow_68 (v := jI 1) rfl ?_
    refine k_iadd hx hb dX12_splitRow_69 h (fun r3 h => ?_)
    refine kcI (n := 1) (c_row r3 h) G_row E_row X hw (Nat.le_trans (Nat.le_of_ble_eq_true rfl) hRf) (Nat.le_trans (Nat.le_of_ble_eq_true rfl) hRl) rfl hl.1 (Nat.le_of_ble_eq_true rfl) rfl dX12_splitRow_70 (fun v4 u H locs rv4 h hw => ?_)
    exact hret _ _ _ _ _ _ rv4 h hw dX12_splitRow_73
  · refine lv_iload hx hb dX12_splitRow_19 (lv_at hl 5 rfl) ?_
    refine lv_iload_n hx hb dX12_splitRow_21 rfl (lv_at hl 2 rfl) ?_
    refine k_icmp_eq hx hb rx5 rx2 dX12_splitRow_22 (tgt := 44) rfl h (fun h => ?_) (fun h => ?_)
    · refine lv_aload_n hx hb dX12_splitRow_44 rfl (lv_at hl 0 rfl) ?_
      refine lv_iload_n hx hb dX12_splitRow_45 rfl (lv_at hl 3 rfl) ?_
      refine kcV (n := 1) (c_put rx3 h) G_put E_put X hw (Nat.le_trans (Nat.le_of_ble_eq_true rfl) hRf) (Nat.le_trans (Nat.le_of_ble_eq_true rfl) hRl) rfl hl.1 (Nat.le_of_ble_eq_true rfl) rfl dX12_splitRow_46 (fun u H locs h hw => ?_)
      refine lv_aload_n hx hb dX12_splitRow_49 rfl (lv_at hl 0 rfl) ?_
      refine lv_iload hx hb dX12_splitRow_50 (lv_at hl 4 rfl) ?_
      refine kcV (n := 1) (c_put rx4 h) G_put E_put X hw (Nat.le_trans (Nat.le_of_ble_eq_true rfl) hRf) (Nat.le_trans (Nat.le_of_ble_eq_true rfl) hRl) rfl hl.1 (Nat.le_of_ble_eq_true rfl) rfl dX12_splitRow_52 (fun u H locs h hw => ?_)
      refine k_iinc (k := 5) hx hb dX12_splitRow_55 hl rfl (by decide) rfl h (fun ls r7 h hl => ?_)
      have hl : lv_has ls 6 [(5, .int (jI (x5 + 1))), (0, .ref (h0)), (1, .int (jI x1)), (2, .int (jI x2)), (3, .int (jI x3)), (4, .int (jI x4))] := hl
      refine lv_goto hx hb dX12_splitRow_58 (tgt := 8) rfl ?_
      exact hR8 _ _ _ _ _ _ H locs ls rx1 rx2 rx3 rx4 r7 hw (lv_sub hl [1, 2, 3, 4, 5, 0] rfl) h
    · refine lv_aload_n hx hb dX12_splitRow_25 rfl (lv_at hl 0 rfl) ?_
      refine lv_aload_n hx hb dX12_splitRow_26 rfl (lv_at hl 0 rfl) ?_
      refine gA 114 242 (by decide) L_114 (fun _ _ => mF_114) rfl X hw dX12_splitRow_27 ?_
      refine lv_bipush hx hb dX12_splitRow_30 (v := jI 30) rfl ?_
      refine lv_iload_n hx hb dX12_splitRow_32 rfl (lv_at hl 1 rfl) ?_
      refine k_imul hx hb dX12_splitRow_33 h (fun r8 h => ?_)
      refine lv_iload hx hb dX12_splitRow_34 (lv_at hl 5 rfl) ?_
      refine k_iadd hx hb dX12_splitRow_36 h (fun r9 h => ?_)
      refine aL 114 73 72 69000 (fun _ _ _ _ => mG_114) (fun _ => rfl) X hw r9 dX12_splitRow_37 rfl h (fun v10 rv10 h => ?_)
      refine kcV (n := 1) (c_put rv10 h) G_put E_put X hw (Nat.le_trans (Nat.le_of_ble_eq_true rfl) hRf) (Nat.le_trans (Nat.le_of_ble_eq_true rfl) hRl) rfl hl.1 (Nat.le_of_ble_eq_true rfl) rfl dX12_splitRow_38 (fun u H locs h hw => ?_)
      refine lv_goto hx hb dX12_splitRow_41 (tgt := 55) rfl ?_
      refine k_iinc (k := 5) hx hb dX12_splitRow_55 hl rfl (by decide) rfl h (fun ls r12 h hl => ?_)
      have hl : lv_has ls 6 [(5, .int (jI (x5 + 1))), (0, .ref (h0)), (1, .int (jI x1)), (2, .int (jI x2)), (3, .int (jI x3)), (4, .int (jI x4))] := hl
      refine lv_goto hx hb dX12_splitRow_58 (tgt := 8) rfl ?_
      exact hR8 _ _ _ _ _ _ H locs ls rx1 rx2 rx3 rx4 r12 hw (lv_sub hl [1, 2, 3, 4, 5, 0] rfl) h

def w_splitRow (a0 : Int) (a1 : Int) (a2 : Int) (a3 : Int) (Q : Int → iST → Prop) (u : iST) : Prop :=
  sw (iI u 122 0) (fun u => 
  w_splitRow_8 Q a0 a1 a2 a3 0 u)
set_option maxRecDepth 20000 in
set_option maxHeartbeats 4000000 in
theorem b_splitRow_s (X : kX p m c cX12_splitRow 6 s args D ca) (hRf : 5 ≤ R.frames) (hRl : 107 ≤ R.locals) {Q : Int → iST → Prop} (hret : ∀ (v : Int) (u : iST) (H : Heap) (locs : List Loc) (ls : Array Slot) (pc : Nat), inR v → Q v u → kW D ca A h0 ad H0 H locs u → decode cX12_splitRow pc = .ok (.ireturn, 1) → W p l e R s m args below meth c H locs 0 0 Qf (F0 m pc ls [.int (jI v)])) {a0 a1 a2 a3 : Int} (ra0 : inR a0) (ra1 : inR a1) (ra2 : inR a2) (ra3 : inR a3) (hw : kW D ca A h0 ad H0 H locs u) (hl : lv_has ls 6 [(0, .ref h0), (1, .int (jI a0)), (2, .int (jI a1)), (3, .int (jI a2)), (4, .int (jI a3))]) (h : w_splitRow a0 a1 a2 a3 Q u) : W p l e R s m args below meth c H locs 0 0 Qf (F0 m 0 ls []) := by
  have hx := X.1.1
  have hb := X.1.2.1
  unfold w_splitRow at h
  refine lv_aload_n hx hb dX12_splitRow_0 rfl (lv_at hl 0 rfl) ?_
  refine lv_iconst hx hb dX12_splitRow_1 (v := jI 0) rfl ?_
  refine pS 122 727 (by decide) L_122 rfl rfl rfl (fun _ _ _ _ _ => mSI_122) (by decide) X hw (by decide) dX12_splitRow_2 h (fun H locs u hw h => ?_)
  refine lv_iconst hx hb dX12_splitRow_5 (v := jI 0) rfl ?_
  refine lv_istore hx hb dX12_splitRow_6 hl (by decide) rfl (fun ls hl => ?_)
  have hl : lv_has ls 6 [(5, .int (jI 0)), (0, .ref (h0)), (1, .int (jI a0)), (2, .int (jI a1)), (3, .int (jI a2)), (4, .int (jI a3))] := hl
  exact b_splitRow_8 X hRf hRl hret ra0 ra1 ra2 ra3 (by decide) hw (lv_sub hl [1, 2, 3, 4, 5, 0] rfl) h

end
theorem c_splitRow {l : Launch} {a0 : Int} {a1 : Int} {a2 : Int} {a3 : Int} (ra0 : inR a0) (ra1 : inR a1) (ra2 : inR a2) (ra3 : inR a3) {Q : Int → iST → Prop} {u : iST} (h : w_splitRow a0 a1 a2 a3 Q u) : kMI l yX12_splitRow (.code yX12_splitRow cX12_splitRow 6 (some .int) :: wsM) { frames := 5, cells := 0, slots := 0, locals := 107 } [.int (jI a0), .int (jI a1), .int (jI a2), .int (jI a3)] Q u := kMI_of rfl (fun _ => Nat.le_of_ble_eq_true rfl) (fun X hRf hRl hret hw hl => b_splitRow_s X hRf hRl hret ra0 ra1 ra2 ra3 hw hl h)

/-! split -/
theorem dX12_split_0 : decode cX12_split 0 = .ok (.aload_n 0, 1) := by decide +kernel
theorem dX12_split_1 : decode cX12_split 1 = .ok (.iload_n 3, 1) := by decide +kernel
theorem dX12_split_2 : decode cX12_split 2 = .ok (.bipush 15, 2) := by decide +kernel
theorem dX12_split_4 : decode cX12_split 4 = .ok (.invokevirtual 542, 3) := by decide +kernel
theorem dX12_split_7 : decode cX12_split 7 = .ok (.istore 4, 2) := by decide +kernel
theorem dX12_split_9 : decode cX12_split 9 = .ok (.iload 4, 2) := by decide +kernel
theorem dX12_split_11 : decode cX12_split 11 = .ok (.ifCond .eq 17, 3) := by decide +kernel
theorem dX12_split_14 : decode cX12_split 14 = .ok (.aload_n 0, 1) := by decide +kernel
theorem dX12_split_15 : decode cX12_split 15 = .ok (.getfield 8, 3) := by decide +kernel
theorem dX12_split_18 : decode cX12_split 18 = .ok (.aload_n 0, 1) := by decide +kernel
theorem dX12_split_19 : decode cX12_split 19 = .ok (.getfield 14, 3) := by decide +kernel
theorem dX12_split_22 : decode cX12_split 22 = .ok (.iload_n 3, 1) := by decide +kernel
theorem dX12_split_23 : decode cX12_split 23 = .ok (.iaload, 1) := by decide +kernel
theorem dX12_split_24 : decode cX12_split 24 = .ok (.iaload, 1) := by decide +kernel
theorem dX12_split_25 : decode cX12_split 25 = .ok (.goto 4, 3) := by decide +kernel
theorem dX12_split_28 : decode cX12_split 28 = .ok (.iload_n 3, 1) := by decide +kernel
theorem dX12_split_29 : decode cX12_split 29 = .ok (.istore 5, 2) := by decide +kernel
theorem dX12_split_31 : decode cX12_split 31 = .ok (.aload_n 0, 1) := by decide +kernel
theorem dX12_split_32 : decode cX12_split 32 = .ok (.iload 5, 2) := by decide +kernel
theorem dX12_split_34 : decode cX12_split 34 = .ok (.iconst 1, 1) := by decide +kernel
theorem dX12_split_35 : decode cX12_split 35 = .ok (.invokevirtual 592, 3) := by decide +kernel
theorem dX12_split_38 : decode cX12_split 38 = .ok (.istore 6, 2) := by decide +kernel
theorem dX12_split_40 : decode cX12_split 40 = .ok (.iload 4, 2) := by decide +kernel
theorem dX12_split_42 : decode cX12_split 42 = .ok (.ifCond .eq 17, 3) := by decide +kernel
theorem dX12_split_45 : decode cX12_split 45 = .ok (.aload_n 0, 1) := by decide +kernel
theorem dX12_split_46 : decode cX12_split 46 = .ok (.aload_n 0, 1) := by decide +kernel
theorem dX12_split_47 : decode cX12_split 47 = .ok (.iload 5, 2) := by decide +kernel
theorem dX12_split_49 : decode cX12_split 49 = .ok (.iconst 2, 1) := by decide +kernel
theorem dX12_split_50 : decode cX12_split 50 = .ok (.invokevirtual 592, 3) := by decide +kernel
theorem dX12_split_53 : decode cX12_split 53 = .ok (.invokevirtual 659, 3) := by decide +kernel
theorem dX12_split_56 : decode cX12_split 56 = .ok (.goto 10, 3) := by decide +kernel
theorem dX12_split_59 : decode cX12_split 59 = .ok (.aload_n 0, 1) := by decide +kernel
theorem dX12_split_60 : decode cX12_split 60 = .ok (.iload 5, 2) := by decide +kernel
theorem dX12_split_62 : decode cX12_split 62 = .ok (.iconst 2, 1) := by decide +kernel
theorem dX12_split_63 : decode cX12_split 63 = .ok (.invokevirtual 592, 3) := by decide +kernel
theorem dX12_split_66 : decode cX12_split 66 = .ok (.istore 7, 2) := by decide +kernel
theorem dX12_split_68 : decode cX12_split 68 = .ok (.iload 4, 2) := by decide +kernel
theorem dX12_split_70 : decode cX12_split 70 = .ok (.ifCond .eq 17, 3) := by decide +kernel
theorem dX12_split_73 : decode cX12_split 73 = .ok (.aload_n 0, 1) := by decide +kernel
theorem dX12_split_74 : decode cX12_split 74 = .ok (.aload_n 0, 1) := by decide +kernel
theorem dX12_split_75 : decode cX12_split 75 = .ok (.iload 5, 2) := by decide +kernel
theorem dX12_split_77 : decode cX12_split 77 = .ok (.iconst 3, 1) := by decide +kernel
theorem dX12_split_78 : decode cX12_split 78 = .ok (.invokevirtual 592, 3) := by decide +kernel
theorem dX12_split_81 : decode cX12_split 81 = .ok (.invokevirtual 659, 3) := by decide +kernel
theorem dX12_split_84 : decode cX12_split 84 = .ok (.goto 10, 3) := by decide +kernel
theorem dX12_split_87 : decode cX12_split 87 = .ok (.aload_n 0, 1) := by decide +kernel
theorem dX12_split_88 : decode cX12_split 88 = .ok (.iload 5, 2) := by decide +kernel
theorem dX12_split_90 : decode cX12_split 90 = .ok (.iconst 3, 1) := by decide +kernel
theorem dX12_split_91 : decode cX12_split 91 = .ok (.invokevirtual 592, 3) := by decide +kernel
theorem dX12_split_94 : decode cX12_split 94 = .ok (.istore 8, 2) := by decide +kernel
theorem dX12_split_96 : decode cX12_split 96 = .ok (.aload_n 0, 1) := by decide +kernel
theorem dX12_split_97 : decode cX12_split 97 = .ok (.iload_n 1, 1) := by decide +kernel
theorem dX12_split_98 : decode cX12_split 98 = .ok (.iload_n 2, 1) := by decide +kernel
theorem dX12_split_99 : decode cX12_split 99 = .ok (.aload_n 0, 1) := by decide +kernel
theorem dX12_split_100 : decode cX12_split 100 = .ok (.iload 6, 2) := by decide +kernel
theorem dX12_split_102 : decode cX12_split 102 = .ok (.invokevirtual 659, 3) := by decide +kernel
theorem dX12_split_105 : decode cX12_split 105 = .ok (.iload 7, 2) := by decide +kernel
theorem dX12_split_107 : decode cX12_split 107 = .ok (.invokevirtual 745, 3) := by decide +kernel
theorem dX12_split_110 : decode cX12_split 110 = .ok (.istore 9, 2) := by decide +kernel
theorem dX12_split_112 : decode cX12_split 112 = .ok (.aload_n 0, 1) := by decide +kernel
theorem dX12_split_113 : decode cX12_split 113 = .ok (.getfield 480, 3) := by decide +kernel
theorem dX12_split_116 : decode cX12_split 116 = .ok (.ifCond .ne 16, 3) := by decide +kernel
theorem dX12_split_119 : decode cX12_split 119 = .ok (.aload_n 0, 1) := by decide +kernel
theorem dX12_split_120 : decode cX12_split 120 = .ok (.iload_n 1, 1) := by decide +kernel
theorem dX12_split_121 : decode cX12_split 121 = .ok (.iload_n 2, 1) := by decide +kernel
theorem dX12_split_122 : decode cX12_split 122 = .ok (.iload 6, 2) := by decide +kernel
theorem dX12_split_124 : decode cX12_split 124 = .ok (.iload 8, 2) := by decide +kernel
theorem dX12_split_126 : decode cX12_split 126 = .ok (.invokevirtual 745, 3) := by decide +kernel
theorem dX12_split_129 : decode cX12_split 129 = .ok (.goto 4, 3) := by decide +kernel
theorem dX12_split_132 : decode cX12_split 132 = .ok (.iconst 0, 1) := by decide +kernel
theorem dX12_split_133 : decode cX12_split 133 = .ok (.istore 10, 2) := by decide +kernel
theorem dX12_split_135 : decode cX12_split 135 = .ok (.aload_n 0, 1) := by decide +kernel
theorem dX12_split_136 : decode cX12_split 136 = .ok (.dup, 1) := by decide +kernel
theorem dX12_split_137 : decode cX12_split 137 = .ok (.getfield 748, 3) := by decide +kernel
theorem dX12_split_140 : decode cX12_split 140 = .ok (.iconst 1, 1) := by decide +kernel
theorem dX12_split_141 : decode cX12_split 141 = .ok (.isub, 1) := by decide +kernel
theorem dX12_split_142 : decode cX12_split 142 = .ok (.putfield 748, 3) := by decide +kernel
theorem dX12_split_145 : decode cX12_split 145 = .ok (.aload_n 0, 1) := by decide +kernel
theorem dX12_split_146 : decode cX12_split 146 = .ok (.getfield 251, 3) := by decide +kernel
theorem dX12_split_149 : decode cX12_split 149 = .ok (.aload_n 0, 1) := by decide +kernel
theorem dX12_split_150 : decode cX12_split 150 = .ok (.getfield 748, 3) := by decide +kernel
theorem dX12_split_153 : decode cX12_split 153 = .ok (.iload 10, 2) := by decide +kernel
theorem dX12_split_155 : decode cX12_split 155 = .ok (.iastore, 1) := by decide +kernel
theorem dX12_split_156 : decode cX12_split 156 = .ok (.aload_n 0, 1) := by decide +kernel
theorem dX12_split_157 : decode cX12_split 157 = .ok (.getfield 251, 3) := by decide +kernel
theorem dX12_split_160 : decode cX12_split 160 = .ok (.aload_n 0, 1) := by decide +kernel
theorem dX12_split_161 : decode cX12_split 161 = .ok (.getfield 748, 3) := by decide +kernel
theorem dX12_split_164 : decode cX12_split 164 = .ok (.iconst 1, 1) := by decide +kernel
theorem dX12_split_165 : decode cX12_split 165 = .ok (.iadd, 1) := by decide +kernel
theorem dX12_split_166 : decode cX12_split 166 = .ok (.iload 9, 2) := by decide +kernel
theorem dX12_split_168 : decode cX12_split 168 = .ok (.iastore, 1) := by decide +kernel
theorem dX12_split_169 : decode cX12_split 169 = .ok (.aload_n 0, 1) := by decide +kernel
theorem dX12_split_170 : decode cX12_split 170 = .ok (.dup, 1) := by decide +kernel
theorem dX12_split_171 : decode cX12_split 171 = .ok (.getfield 748, 3) := by decide +kernel
theorem dX12_split_174 : decode cX12_split 174 = .ok (.iconst 2, 1) := by decide +kernel
theorem dX12_split_175 : decode cX12_split 175 = .ok (.iadd, 1) := by decide +kernel
theorem dX12_split_176 : decode cX12_split 176 = .ok (.putfield 748, 3) := by decide +kernel
theorem dX12_split_179 : decode cX12_split 179 = .ok (.return_, 1) := by decide +kernel

section
variable {p : Program} {l : Launch} {e : Env} {R : Room} {s : State} {m : MethodId} {args : Array Value} {below : List Frame} {meth : Method} {c : Code} {H : Heap} {locs : List Loc} {Qf : State → Prop}
variable {ls : Array Slot} {D : va_G} {ca : Nat → ClassId} {A : Nat → Prop} {h0 : Nat} {ad : Nat → Nat} {H0 : Heap} {u : iST}
def w_split_133 (Q : iST → Prop) (x9 : Int) (y0 : Int) (u : iST) : Prop :=
  rd (u.1 119) (fun v8 => 
  ov (v8 - 1) (
  sw (iI u 119 (v8 - 1)) (fun u => 
  rd (u.1 119) (fun v10 => 
  bd v10 2300 (sw (iA u 118 v10 y0) (fun u => 
  rd (u.1 119) (fun v11 => 
  ov (v11 + 1) (
  bd (v11 + 1) 2300 (sw (iA u 118 (v11 + 1) x9) (fun u => 
  rd (u.1 119) (fun v13 => 
  ov (v13 + 2) (
  sw (iI u 119 (v13 + 2)) (fun u => 
  Q u)))))))))))))
set_option maxRecDepth 20000 in
set_option maxHeartbeats 4000000 in
theorem b_split_133 (X : kX p m c cX12_split 11 s args D ca) (hRf : 6 ≤ R.frames) (hRl : 135 ≤ R.locals) {Q : iST → Prop} (hret : ∀ (u : iST) (H : Heap) (locs : List Loc) (ls : Array Slot) (pc : Nat), Q u → kW D ca A h0 ad H0 H locs u → decode cX12_split pc = .ok (.return_, 1) → W p l e R s m args below meth c H locs 0 0 Qf (F0 m pc ls [])) {x9 y0 : Int} (rx9 : inR x9) (ry0 : inR y0) (hw : kW D ca A h0 ad H0 H locs u) (hl : lv_has ls 11 [(0, .ref h0), (9, .int (jI x9))]) (h : w_split_133 Q x9 y0 u) : W p l e R s m args below meth c H locs 0 0 Qf (F0 m 133 ls [.int (jI y0)]) := by
  have hx := X.1.1
  have hb := X.1.2.1
  unfold w_split_133 at h
  refine lv_istore hx hb dX12_split_133 hl (by decide) rfl (fun ls hl => ?_)
  have hl : lv_has ls 11 [(10, .int (jI y0)), (0, .ref (h0)), (9, .int (jI x9))] := hl
  refine lv_aload_n hx hb dX12_split_135 rfl (lv_at hl 1 rfl) ?_
  refine lv_dup hx hb dX12_split_136 rfl ?_
  refine gS 119 748 (by decide) L_119 (fun _ _ => mF_119) rfl X hw dX12_split_137 h (fun v8 rv8 h => ?_)
  refine lv_iconst hx hb dX12_split_140 (v := jI 1) rfl ?_
  refine k_isub hx hb dX12_split_141 h (fun r9 h => ?_)
  refine pS 119 748 (by decide) L_119 rfl rfl rfl (fun _ _ _ _ _ => mSI_119) (by decide) X hw r9 dX12_split_142 h (fun H locs u hw h => ?_)
  refine lv_aload_n hx hb dX12_split_145 rfl (lv_at hl 1 rfl) ?_
  refine gA 118 251 (by decide) L_118 (fun _ _ => mF_118) rfl X hw dX12_split_146 ?_
  refine lv_aload_n hx hb dX12_split_149 rfl (lv_at hl 1 rfl) ?_
  refine gS 119 748 (by decide) L_119 (fun _ _ => mF_119) rfl X hw dX12_split_150 h (fun v10 rv10 h => ?_)
  refine lv_iload hx hb dX12_split_153 (lv_at hl 0 rfl) ?_
  refine aS 118 76 75 2300 (fun _ _ _ _ => mG_118) (fun _ => rfl) (fun _ _ _ _ _ _ => mSA_118) (by decide) X hw rv10 ry0 dX12_split_155 rfl h (fun H locs u hw h => ?_)
  refine lv_aload_n hx hb dX12_split_156 rfl (lv_at hl 1 rfl) ?_
  refine gA 118 251 (by decide) L_118 (fun _ _ => mF_118) rfl X hw dX12_split_157 ?_
  refine lv_aload_n hx hb dX12_split_160 rfl (lv_at hl 1 rfl) ?_
  refine gS 119 748 (by decide) L_119 (fun _ _ => mF_119) rfl X hw dX12_split_161 h (fun v11 rv11 h => ?_)
  refine lv_iconst hx hb dX12_split_164 (v := jI 1) rfl ?_
  refine k_iadd hx hb dX12_split_165 h (fun r12 h => ?_)
  refine lv_iload hx hb dX12_split_166 (lv_at hl 2 rfl) ?_
  refine aS 118 76 75 2300 (fun _ _ _ _ => mG_118) (fun _ => rfl) (fun _ _ _ _ _ _ => mSA_118) (by decide) X hw r12 rx9 dX12_split_168 rfl h (fun H locs u hw h => ?_)
  refine lv_aload_n hx hb dX12_split_169 rfl (lv_at hl 1 rfl) ?_
  refine lv_dup hx hb dX12_split_170 rfl ?_
  refine gS 119 748 (by decide) L_119 (fun _ _ => mF_119) rfl X hw dX12_split_171 h (fun v13 rv13 h => ?_)
  refine lv_iconst hx hb dX12_split_174 (v := jI 2) rfl ?_
  refine k_iadd hx hb dX12_split_175 h (fun r14 h => ?_)
  refine pS 119 748 (by decide) L_119 rfl rfl rfl (fun _ _ _ _ _ => mSI_119) (by decide) X hw r14 dX12_split_176 h (fun H locs u hw h => ?_)
  exact hret _ _ _ _ _ h hw dX12_split_179

def w_split_94 (Q : iST → Prop) (x1 : Int) (x2 : Int) (x6 : Int) (x7 : Int) (y0 : Int) (u : iST) : Prop :=
  w_notOf x6 (fun v5 u => 
  w_splitRow x1 x2 v5 x7 (fun v6 u => 
  rd (u.1 61) (fun v7 => 
  br (v7 ≠ 0) (
    w_split_133 Q v6 0 u) (
    w_splitRow x1 x2 x6 y0 (fun v15 u => 
    w_split_133 Q v6 v15 u) u))) u) u
set_option maxRecDepth 20000 in
set_option maxHeartbeats 4000000 in
theorem b_split_94 (X : kX p m c cX12_split 11 s args D ca) (hRf : 6 ≤ R.frames) (hRl : 135 ≤ R.locals) {Q : iST → Prop} (hret : ∀ (u : iST) (H : Heap) (locs : List Loc) (ls : Array Slot) (pc : Nat), Q u → kW D ca A h0 ad H0 H locs u → decode cX12_split pc = .ok (.return_, 1) → W p l e R s m args below meth c H locs 0 0 Qf (F0 m pc ls [])) {x1 x2 x6 x7 y0 : Int} (rx1 : inR x1) (rx2 : inR x2) (rx6 : inR x6) (rx7 : inR x7) (ry0 : inR y0) (hw : kW D ca A h0 ad H0 H locs u) (hl : lv_has ls 11 [(0, .ref h0), (1, .int (jI x1)), (2, .int (jI x2)), (6, .int (jI x6)), (7, .int (jI x7))]) (h : w_split_94 Q x1 x2 x6 x7 y0 u) : W p l e R s m args below meth c H locs 0 0 Qf (F0 m 94 ls [.int (jI y0)]) := by
  have hx := X.1.1
  have hb := X.1.2.1
  unfold w_split_94 at h
  refine lv_istore hx hb dX12_split_94 hl (by decide) rfl (fun ls hl => ?_)
  have hl : lv_has ls 11 [(8, .int (jI y0)), (0, .ref (h0)), (1, .int (jI x1)), (2, .int (jI x2)), (6, .int (jI x6)), (7, .int (jI x7))] := hl
  refine lv_aload_n hx hb dX12_split_96 rfl (lv_at hl 1 rfl) ?_
  refine lv_iload_n hx hb dX12_split_97 rfl (lv_at hl 2 rfl) ?_
  refine lv_iload_n hx hb dX12_split_98 rfl (lv_at hl 3 rfl) ?_
  refine lv_aload_n hx hb dX12_split_99 rfl (lv_at hl 1 rfl) ?_
  refine lv_iload hx hb dX12_split_100 (lv_at hl 4 rfl) ?_
  refine kcI (n := 1) (c_notOf rx6 h) G_notOf E_notOf X hw (Nat.le_trans (Nat.le_of_ble_eq_true rfl) hRf) (Nat.le_trans (Nat.le_of_ble_eq_true rfl) hRl) rfl hl.1 (Nat.le_of_ble_eq_true rfl) rfl dX12_split_102 (fun v5 u H locs rv5 h hw => ?_)
  refine lv_iload hx hb dX12_split_105 (lv_at hl 5 rfl) ?_
  refine kcI (n := 4) (c_splitRow rx1 rx2 rv5 rx7 h) G_splitRow E_splitRow X hw (Nat.le_trans (Nat.le_of_ble_eq_true rfl) hRf) (Nat.le_trans (Nat.le_of_ble_eq_true rfl) hRl) rfl hl.1 (Nat.le_of_ble_eq_true rfl) rfl dX12_split_107 (fun v6 u H locs rv6 h hw => ?_)
  refine lv_istore hx hb dX12_split_110 hl (by decide) rfl (fun ls hl => ?_)
  have hl : lv_has ls 11 [(9, .int (jI v6)), (8, .int (jI y0)), (0, .ref (h0)), (1, .int (jI x1)), (2, .int (jI x2)), (6, .int (jI x6)), (7, .int (jI x7))] := hl
  refine lv_aload_n hx hb dX12_split_112 rfl (lv_at hl 2 rfl) ?_
  refine gS 61 480 (by decide) L_61 (fun _ _ => mF_61) rfl X hw dX12_split_113 h (fun v7 rv7 h => ?_)
  refine k_if_ne hx hb rv7 dX12_split_116 (tgt := 132) rfl h (fun h => ?_) (fun h => ?_)
  · refine lv_iconst hx hb dX12_split_132 (v := jI 0) rfl ?_
    exact b_split_133 X hRf hRl hret rv6 (by decide) hw (lv_sub hl [2, 0] rfl) h
  · refine lv_aload_n hx hb dX12_split_119 rfl (lv_at hl 2 rfl) ?_
    refine lv_iload_n hx hb dX12_split_120 rfl (lv_at hl 3 rfl) ?_
    refine lv_iload_n hx hb dX12_split_121 rfl (lv_at hl 4 rfl) ?_
    refine lv_iload hx hb dX12_split_122 (lv_at hl 5 rfl) ?_
    refine lv_iload hx hb dX12_split_124 (lv_at hl 1 rfl) ?_
    refine kcI (n := 4) (c_splitRow rx1 rx2 rx6 ry0 h) G_splitRow E_splitRow X hw (Nat.le_trans (Nat.le_of_ble_eq_true rfl) hRf) (Nat.le_trans (Nat.le_of_ble_eq_true rfl) hRl) rfl hl.1 (Nat.le_of_ble_eq_true rfl) rfl dX12_split_126 (fun v15 u H locs rv15 h hw => ?_)
    refine lv_goto hx hb dX12_split_129 (tgt := 133) rfl ?_
    exact b_split_133 X hRf hRl hret rv6 rv15 hw (lv_sub hl [2, 0] rfl) h

def w_split_66 (Q : iST → Prop) (x1 : Int) (x2 : Int) (x4 : Int) (x5 : Int) (x6 : Int) (y0 : Int) (u : iST) : Prop :=
  br (x4 = 0) (
    w_term x5 3 (fun v4 u => 
    w_split_94 Q x1 x2 x6 y0 v4 u) u) (
    w_term x5 3 (fun v16 u => 
    w_notOf v16 (fun v17 u => 
    w_split_94 Q x1 x2 x6 y0 v17 u) u) u)
set_option maxRecDepth 20000 in
set_option maxHeartbeats 4000000 in
theorem b_split_66 (X : kX p m c cX12_split 11 s args D ca) (hRf : 6 ≤ R.frames) (hRl : 135 ≤ R.locals) {Q : iST → Prop} (hret : ∀ (u : iST) (H : Heap) (locs : List Loc) (ls : Array Slot) (pc : Nat), Q u → kW D ca A h0 ad H0 H locs u → decode cX12_split pc = .ok (.return_, 1) → W p l e R s m args below meth c H locs 0 0 Qf (F0 m pc ls [])) {x1 x2 x4 x5 x6 y0 : Int} (rx1 : inR x1) (rx2 : inR x2) (rx4 : inR x4) (rx5 : inR x5) (rx6 : inR x6) (ry0 : inR y0) (hw : kW D ca A h0 ad H0 H locs u) (hl : lv_has ls 11 [(0, .ref h0), (1, .int (jI x1)), (2, .int (jI x2)), (4, .int (jI x4)), (5, .int (jI x5)), (6, .int (jI x6))]) (h : w_split_66 Q x1 x2 x4 x5 x6 y0 u) : W p l e R s m args below meth c H locs 0 0 Qf (F0 m 66 ls [.int (jI y0)]) := by
  have hx := X.1.1
  have hb := X.1.2.1
  unfold w_split_66 at h
  refine lv_istore hx hb dX12_split_66 hl (by decide) rfl (fun ls hl => ?_)
  have hl : lv_has ls 11 [(7, .int (jI y0)), (0, .ref (h0)), (1, .int (jI x1)), (2, .int (jI x2)), (4, .int (jI x4)), (5, .int (jI x5)), (6, .int (jI x6))] := hl
  refine lv_iload hx hb dX12_split_68 (lv_at hl 4 rfl) ?_
  refine k_if_eq hx hb rx4 dX12_split_70 (tgt := 87) rfl h (fun h => ?_) (fun h => ?_)
  · refine lv_aload_n hx hb dX12_split_87 rfl (lv_at hl 1 rfl) ?_
    refine lv_iload hx hb dX12_split_88 (lv_at hl 5 rfl) ?_
    refine lv_iconst hx hb dX12_split_90 (v := jI 3) rfl ?_
    refine kcI (n := 2) (c_term rx5 (by decide) h) G_term E_term X hw (Nat.le_trans (Nat.le_of_ble_eq_true rfl) hRf) (Nat.le_trans (Nat.le_of_ble_eq_true rfl) hRl) rfl hl.1 (Nat.le_of_ble_eq_true rfl) rfl dX12_split_91 (fun v4 u H locs rv4 h hw => ?_)
    exact b_split_94 X hRf hRl hret rx1 rx2 rx6 ry0 rv4 hw (lv_sub hl [1, 2, 3, 6, 0] rfl) h
  · refine lv_aload_n hx hb dX12_split_73 rfl (lv_at hl 1 rfl) ?_
    refine lv_aload_n hx hb dX12_split_74 rfl (lv_at hl 1 rfl) ?_
    refine lv_iload hx hb dX12_split_75 (lv_at hl 5 rfl) ?_
    refine lv_iconst hx hb dX12_split_77 (v := jI 3) rfl ?_
    refine kcI (n := 2) (c_term rx5 (by decide) h) G_term E_term X hw (Nat.le_trans (Nat.le_of_ble_eq_true rfl) hRf) (Nat.le_trans (Nat.le_of_ble_eq_true rfl) hRl) rfl hl.1 (Nat.le_of_ble_eq_true rfl) rfl dX12_split_78 (fun v16 u H locs rv16 h hw => ?_)
    refine kcI (n := 1) (c_notOf rv16 h) G_notOf E_notOf X hw (Nat.le_trans (Nat.le_of_ble_eq_true rfl) hRf) (Nat.le_trans (Nat.le_of_ble_eq_true rfl) hRl) rfl hl.1 (Nat.le_of_ble_eq_true rfl) rfl dX12_split_81 (fun v17 u H locs rv17 h hw => ?_)
    refine lv_goto hx hb dX12_split_84 (tgt := 94) rfl ?_
    exact b_split_94 X hRf hRl hret rx1 rx2 rx6 ry0 rv17 hw (lv_sub hl [1, 2, 3, 6, 0] rfl) h

def w_split_29 (Q : iST → Prop) (x1 : Int) (x2 : Int) (x4 : Int) (y0 : Int) (u : iST) : Prop :=
  w_term y0 1 (fun v2 u => 
  br (x4 = 0) (
    w_term y0 2 (fun v3 u => 
    w_split_66 Q x1 x2 x4 y0 v2 v3 u) u) (
    w_term y0 2 (fun v18 u => 
    w_notOf v18 (fun v19 u => 
    w_split_66 Q x1 x2 x4 y0 v2 v19 u) u) u)) u
set_option maxRecDepth 20000 in
set_option maxHeartbeats 4000000 in
theorem b_split_29 (X : kX p m c cX12_split 11 s args D ca) (hRf : 6 ≤ R.frames) (hRl : 135 ≤ R.locals) {Q : iST → Prop} (hret : ∀ (u : iST) (H : Heap) (locs : List Loc) (ls : Array Slot) (pc : Nat), Q u → kW D ca A h0 ad H0 H locs u → decode cX12_split pc = .ok (.return_, 1) → W p l e R s m args below meth c H locs 0 0 Qf (F0 m pc ls [])) {x1 x2 x4 y0 : Int} (rx1 : inR x1) (rx2 : inR x2) (rx4 : inR x4) (ry0 : inR y0) (hw : kW D ca A h0 ad H0 H locs u) (hl : lv_has ls 11 [(0, .ref h0), (1, .int (jI x1)), (2, .int (jI x2)), (4, .int (jI x4))]) (h : w_split_29 Q x1 x2 x4 y0 u) : W p l e R s m args below meth c H locs 0 0 Qf (F0 m 29 ls [.int (jI y0)]) := by
  have hx := X.1.1
  have hb := X.1.2.1
  unfold w_split_29 at h
  refine lv_istore hx hb dX12_split_29 hl (by decide) rfl (fun ls hl => ?_)
  have hl : lv_has ls 11 [(5, .int (jI y0)), (0, .ref (h0)), (1, .int (jI x1)), (2, .int (jI x2)), (4, .int (jI x4))] := hl
  refine lv_aload_n hx hb dX12_split_31 rfl (lv_at hl 1 rfl) ?_
  refine lv_iload hx hb dX12_split_32 (lv_at hl 0 rfl) ?_
  refine lv_iconst hx hb dX12_split_34 (v := jI 1) rfl ?_
  refine kcI (n := 2) (c_term ry0 (by decide) h) G_term E_term X hw (Nat.le_trans (Nat.le_of_ble_eq_true rfl) hRf) (Nat.le_trans (Nat.le_of_ble_eq_true rfl) hRl) rfl hl.1 (Nat.le_of_ble_eq_true rfl) rfl dX12_split_35 (fun v2 u H locs rv2 h hw => ?_)
  refine lv_istore hx hb dX12_split_38 hl (by decide) rfl (fun ls hl => ?_)
  have hl : lv_has ls 11 [(6, .int (jI v2)), (5, .int (jI y0)), (0, .ref (h0)), (1, .int (jI x1)), (2, .int (jI x2)), (4, .int (jI x4))] := hl
  refine lv_iload hx hb dX12_split_40 (lv_at hl 5 rfl) ?_
  refine k_if_eq hx hb rx4 dX12_split_42 (tgt := 59) rfl h (fun h => ?_) (fun h => ?_)
  · refine lv_aload_n hx hb dX12_split_59 rfl (lv_at hl 2 rfl) ?_
    refine lv_iload hx hb dX12_split_60 (lv_at hl 1 rfl) ?_
    refine lv_iconst hx hb dX12_split_62 (v := jI 2) rfl ?_
    refine kcI (n := 2) (c_term ry0 (by decide) h) G_term E_term X hw (Nat.le_trans (Nat.le_of_ble_eq_true rfl) hRf) (Nat.le_trans (Nat.le_of_ble_eq_true rfl) hRl) rfl hl.1 (Nat.le_of_ble_eq_true rfl) rfl dX12_split_63 (fun v3 u H locs rv3 h hw => ?_)
    exact b_split_66 X hRf hRl hret rx1 rx2 rx4 ry0 rv2 rv3 hw (lv_sub hl [2, 3, 4, 5, 1, 0] rfl) h
  · refine lv_aload_n hx hb dX12_split_45 rfl (lv_at hl 2 rfl) ?_
    refine lv_aload_n hx hb dX12_split_46 rfl (lv_at hl 2 rfl) ?_
    refine lv_iload hx hb dX12_split_47 (lv_at hl 1 rfl) ?_
    refine lv_iconst hx hb dX12_split_49 (v := jI 2) rfl ?_
    refine kcI (n := 2) (c_term ry0 (by decide) h) G_term E_term X hw (Nat.le_trans (Nat.le_of_ble_eq_true rfl) hRf) (Nat.le_trans (Nat.le_of_ble_eq_true rfl) hRl) rfl hl.1 (Nat.le_of_ble_eq_true rfl) rfl dX12_split_50 (fun v18 u H locs rv18 h hw => ?_)
    refine kcI (n := 1) (c_notOf rv18 h) G_notOf E_notOf X hw (Nat.le_trans (Nat.le_of_ble_eq_true rfl) hRf) (Nat.le_trans (Nat.le_of_ble_eq_true rfl) hRl) rfl hl.1 (Nat.le_of_ble_eq_true rfl) rfl dX12_split_53 (fun v19 u H locs rv19 h hw => ?_)
    refine lv_goto hx hb dX12_split_56 (tgt := 66) rfl ?_
    exact b_split_66 X hRf hRl hret rx1 rx2 rx4 ry0 rv2 rv19 hw (lv_sub hl [2, 3, 4, 5, 1, 0] rfl) h

def w_split (a0 : Int) (a1 : Int) (a2 : Int) (Q : iST → Prop) (u : iST) : Prop :=
  w_isCallOf a2 15 (fun v1 u => 
  br (v1 = 0) (
    w_split_29 Q a0 a1 v1 a2 u) (
    bd a2 452000 (rd (u.2.1 1 a2) (fun v20 => 
    bd v20 452000 (rd (u.2.1 0 v20) (fun v21 => 
    w_split_29 Q a0 a1 v1 v21 u)))))) u
set_option maxRecDepth 20000 in
set_option maxHeartbeats 4000000 in
theorem b_split_s (X : kX p m c cX12_split 11 s args D ca) (hRf : 6 ≤ R.frames) (hRl : 135 ≤ R.locals) {Q : iST → Prop} (hret : ∀ (u : iST) (H : Heap) (locs : List Loc) (ls : Array Slot) (pc : Nat), Q u → kW D ca A h0 ad H0 H locs u → decode cX12_split pc = .ok (.return_, 1) → W p l e R s m args below meth c H locs 0 0 Qf (F0 m pc ls [])) {a0 a1 a2 : Int} (ra0 : inR a0) (ra1 : inR a1) (ra2 : inR a2) (hw : kW D ca A h0 ad H0 H locs u) (hl : lv_has ls 11 [(0, .ref h0), (1, .int (jI a0)), (2, .int (jI a1)), (3, .int (jI a2))]) (h : w_split a0 a1 a2 Q u) : W p l e R s m args below meth c H locs 0 0 Qf (F0 m 0 ls []) := by
  have hx := X.1.1
  have hb := X.1.2.1
  unfold w_split at h
  refine lv_aload_n hx hb dX12_split_0 rfl (lv_at hl 0 rfl) ?_
  refine lv_iload_n hx hb dX12_split_1 rfl (lv_at hl 3 rfl) ?_
  refine lv_bipush hx hb dX12_split_2 (v := jI 15) rfl ?_
  refine kcI (n := 2) (c_isCallOf ra2 (by decide) h) G_isCallOf E_isCallOf X hw (Nat.le_trans (Nat.le_of_ble_eq_true rfl) hRf) (Nat.le_trans (Nat.le_of_ble_eq_true rfl) hRl) rfl hl.1 (Nat.le_of_ble_eq_true rfl) rfl dX12_split_4 (fun v1 u H locs rv1 h hw => ?_)
  refine lv_istore hx hb dX12_split_7 hl (by decide) rfl (fun ls hl => ?_)
  have hl : lv_has ls 11 [(4, .int (jI v1)), (0, .ref (h0)), (1, .int (jI a0)), (2, .int (jI a1)), (3, .int (jI a2))] := hl
  refine lv_iload hx hb dX12_split_9 (lv_at hl 0 rfl) ?_
  refine k_if_eq hx hb rv1 dX12_split_11 (tgt := 28) rfl h (fun h => ?_) (fun h => ?_)
  · refine lv_iload_n hx hb dX12_split_28 rfl (lv_at hl 4 rfl) ?_
    exact b_split_29 X hRf hRl hret ra0 ra1 rv1 ra2 hw (lv_sub hl [1, 2, 3, 0] rfl) h
  · refine lv_aload_n hx hb dX12_split_14 rfl (lv_at hl 1 rfl) ?_
    refine gA 0 8 (by decide) L_0 (fun _ _ => mF_0) rfl X hw dX12_split_15 ?_
    refine lv_aload_n hx hb dX12_split_18 rfl (lv_at hl 1 rfl) ?_
    refine gA 1 14 (by decide) L_1 (fun _ _ => mF_1) rfl X hw dX12_split_19 ?_
    refine lv_iload_n hx hb dX12_split_22 rfl (lv_at hl 4 rfl) ?_
    refine aL 1 2 1 452000 (fun _ _ _ _ => mG_1) (fun _ => rfl) X hw ra2 dX12_split_23 rfl h (fun v20 rv20 h => ?_)
    refine aL 0 1 0 452000 (fun _ _ _ _ => mG_0) (fun _ => rfl) X hw rv20 dX12_split_24 rfl h (fun v21 rv21 h => ?_)
    refine lv_goto hx hb dX12_split_25 (tgt := 29) rfl ?_
    exact b_split_29 X hRf hRl hret ra0 ra1 rv1 rv21 hw (lv_sub hl [1, 2, 3, 0] rfl) h

end
theorem c_split {l : Launch} {a0 : Int} {a1 : Int} {a2 : Int} (ra0 : inR a0) (ra1 : inR a1) (ra2 : inR a2) {Q : iST → Prop} {u : iST} (h : w_split a0 a1 a2 Q u) : kMV l yX12_split (.code yX12_split cX12_split 11 none :: wsM) { frames := 6, cells := 0, slots := 0, locals := 135 } [.int (jI a0), .int (jI a1), .int (jI a2)] Q u := kMV_of rfl (fun _ => Nat.le_of_ble_eq_true rfl) (fun X hRf hRl hret hw hl => b_split_s X hRf hRl hret ra0 ra1 ra2 hw hl h)

/-! splits -/
theorem dX12_splits_0 : decode cX12_splits 0 = .ok (.aload_n 0, 1) := by decide +kernel
theorem dX12_splits_1 : decode cX12_splits 1 = .ok (.iload_n 1, 1) := by decide +kernel
theorem dX12_splits_2 : decode cX12_splits 2 = .ok (.iconst 3, 1) := by decide +kernel
theorem dX12_splits_3 : decode cX12_splits 3 = .ok (.invokevirtual 542, 3) := by decide +kernel
theorem dX12_splits_6 : decode cX12_splits 6 = .ok (.ifCond .ne 32, 3) := by decide +kernel
theorem dX12_splits_9 : decode cX12_splits 9 = .ok (.aload_n 0, 1) := by decide +kernel
theorem dX12_splits_10 : decode cX12_splits 10 = .ok (.iload_n 1, 1) := by decide +kernel
theorem dX12_splits_11 : decode cX12_splits 11 = .ok (.bipush 15, 2) := by decide +kernel
theorem dX12_splits_13 : decode cX12_splits 13 = .ok (.invokevirtual 542, 3) := by decide +kernel
theorem dX12_splits_16 : decode cX12_splits 16 = .ok (.ifCond .eq 26, 3) := by decide +kernel
theorem dX12_splits_19 : decode cX12_splits 19 = .ok (.aload_n 0, 1) := by decide +kernel
theorem dX12_splits_20 : decode cX12_splits 20 = .ok (.aload_n 0, 1) := by decide +kernel
theorem dX12_splits_21 : decode cX12_splits 21 = .ok (.getfield 8, 3) := by decide +kernel
theorem dX12_splits_24 : decode cX12_splits 24 = .ok (.aload_n 0, 1) := by decide +kernel
theorem dX12_splits_25 : decode cX12_splits 25 = .ok (.getfield 14, 3) := by decide +kernel
theorem dX12_splits_28 : decode cX12_splits 28 = .ok (.iload_n 1, 1) := by decide +kernel
theorem dX12_splits_29 : decode cX12_splits 29 = .ok (.iaload, 1) := by decide +kernel
theorem dX12_splits_30 : decode cX12_splits 30 = .ok (.iaload, 1) := by decide +kernel
theorem dX12_splits_31 : decode cX12_splits 31 = .ok (.iconst 3, 1) := by decide +kernel
theorem dX12_splits_32 : decode cX12_splits 32 = .ok (.invokevirtual 542, 3) := by decide +kernel
theorem dX12_splits_35 : decode cX12_splits 35 = .ok (.ifCond .eq 7, 3) := by decide +kernel
theorem dX12_splits_38 : decode cX12_splits 38 = .ok (.iconst 1, 1) := by decide +kernel
theorem dX12_splits_39 : decode cX12_splits 39 = .ok (.goto 4, 3) := by decide +kernel
theorem dX12_splits_42 : decode cX12_splits 42 = .ok (.iconst 0, 1) := by decide +kernel
theorem dX12_splits_43 : decode cX12_splits 43 = .ok (.ireturn, 1) := by decide +kernel

section
variable {p : Program} {l : Launch} {e : Env} {R : Room} {s : State} {m : MethodId} {args : Array Value} {below : List Frame} {meth : Method} {c : Code} {H : Heap} {locs : List Loc} {Qf : State → Prop}
variable {ls : Array Slot} {D : va_G} {ca : Nat → ClassId} {A : Nat → Prop} {h0 : Nat} {ad : Nat → Nat} {H0 : Heap} {u : iST}
def w_splits (a0 : Int) (Q : Int → iST → Prop) (u : iST) : Prop :=
  w_isCallOf a0 3 (fun v1 u => 
  br (v1 ≠ 0) (
    zt 1 (Q 1 u)) (
    w_isCallOf a0 15 (fun v2 u => 
    br (v2 = 0) (
      zt 0 (Q 0 u)) (
      bd a0 452000 (rd (u.2.1 1 a0) (fun v3 => 
      bd v3 452000 (rd (u.2.1 0 v3) (fun v4 => 
      w_isCallOf v4 3 (fun v5 u => 
      br (v5 = 0) (
        zt 0 (Q 0 u)) (
        zt 1 (Q 1 u))) u)))))) u)) u
set_option maxRecDepth 20000 in
set_option maxHeartbeats 4000000 in
theorem b_splits_s (X : kX p m c cX12_splits 2 s args D ca) (hRf : 2 ≤ R.frames) (hRl : 43 ≤ R.locals) {Q : Int → iST → Prop} (hret : ∀ (v : Int) (u : iST) (H : Heap) (locs : List Loc) (ls : Array Slot) (pc : Nat), bz v → Q v u → kW D ca A h0 ad H0 H locs u → decode cX12_splits pc = .ok (.ireturn, 1) → W p l e R s m args below meth c H locs 0 0 Qf (F0 m pc ls [.int (jI v)])) {a0 : Int} (ra0 : inR a0) (hw : kW D ca A h0 ad H0 H locs u) (hl : lv_has ls 2 [(0, .ref h0), (1, .int (jI a0))]) (h : w_splits a0 Q u) : W p l e R s m args below meth c H locs 0 0 Qf (F0 m 0 ls []) := by
  have hx := X.1.1
  have hb := X.1.2.1
  unfold w_splits at h
  refine lv_aload_n hx hb dX12_splits_0 rfl (lv_at hl 0 rfl) ?_
  refine lv_iload_n hx hb dX12_splits_1 rfl (lv_at hl 1 rfl) ?_
  refine lv_iconst hx hb dX12_splits_2 (v := jI 3) rfl ?_
  refine kcI (n := 2) (c_isCallOf ra0 (by decide) h) G_isCallOf E_isCallOf X hw (Nat.le_trans (Nat.le_of_ble_eq_true rfl) hRf) (Nat.le_trans (Nat.le_of_ble_eq_true rfl) hRl) rfl hl.1 (Nat.le_of_ble_eq_true rfl) rfl dX12_splits_3 (fun v1 u H locs rv1 h hw => ?_)
  refine k_if_ne hx hb rv1 dX12_splits_6 (tgt := 38) rfl h (fun h => ?_) (fun h => ?_)
  · refine lv_iconst hx hb dX12_splits_38 (v := jI 1) rfl ?_
    refine lv_goto hx hb dX12_splits_39 (tgt := 43) rfl ?_
    exact hret _ _ _ _ _ _ h.1 h.2 hw dX12_splits_43
  · refine lv_aload_n hx hb dX12_splits_9 rfl (lv_at hl 0 rfl) ?_
    refine lv_iload_n hx hb dX12_splits_10 rfl (lv_at hl 1 rfl) ?_
    refine lv_bipush hx hb dX12_splits_11 (v := jI 15) rfl ?_
    refine kcI (n := 2) (c_isCallOf ra0 (by decide) h) G_isCallOf E_isCallOf X hw (Nat.le_trans (Nat.le_of_ble_eq_true rfl) hRf) (Nat.le_trans (Nat.le_of_ble_eq_true rfl) hRl) rfl hl.1 (Nat.le_of_ble_eq_true rfl) rfl dX12_splits_13 (fun v2 u H locs rv2 h hw => ?_)
    refine k_if_eq hx hb rv2 dX12_splits_16 (tgt := 42) rfl h (fun h => ?_) (fun h => ?_)
    · refine lv_iconst hx hb dX12_splits_42 (v := jI 0) rfl ?_
      exact hret _ _ _ _ _ _ h.1 h.2 hw dX12_splits_43
    · refine lv_aload_n hx hb dX12_splits_19 rfl (lv_at hl 0 rfl) ?_
      refine lv_aload_n hx hb dX12_splits_20 rfl (lv_at hl 0 rfl) ?_
      refine gA 0 8 (by decide) L_0 (fun _ _ => mF_0) rfl X hw dX12_splits_21 ?_
      refine lv_aload_n hx hb dX12_splits_24 rfl (lv_at hl 0 rfl) ?_
      refine gA 1 14 (by decide) L_1 (fun _ _ => mF_1) rfl X hw dX12_splits_25 ?_
      refine lv_iload_n hx hb dX12_splits_28 rfl (lv_at hl 1 rfl) ?_
      refine aL 1 2 1 452000 (fun _ _ _ _ => mG_1) (fun _ => rfl) X hw ra0 dX12_splits_29 rfl h (fun v3 rv3 h => ?_)
      refine aL 0 1 0 452000 (fun _ _ _ _ => mG_0) (fun _ => rfl) X hw rv3 dX12_splits_30 rfl h (fun v4 rv4 h => ?_)
      refine lv_iconst hx hb dX12_splits_31 (v := jI 3) rfl ?_
      refine kcI (n := 2) (c_isCallOf rv4 (by decide) h) G_isCallOf E_isCallOf X hw (Nat.le_trans (Nat.le_of_ble_eq_true rfl) hRf) (Nat.le_trans (Nat.le_of_ble_eq_true rfl) hRl) rfl hl.1 (Nat.le_of_ble_eq_true rfl) rfl dX12_splits_32 (fun v5 u H locs rv5 h hw => ?_)
      refine k_if_eq hx hb rv5 dX12_splits_35 (tgt := 42) rfl h (fun h => ?_) (fun h => ?_)
      · refine lv_iconst hx hb dX12_splits_42 (v := jI 0) rfl ?_
        exact hret _ _ _ _ _ _ h.1 h.2 hw dX12_splits_43
      · refine lv_iconst hx hb dX12_splits_38 (v := jI 1) rfl ?_
        refine lv_goto hx hb dX12_splits_39 (tgt := 43) rfl ?_
        exact hret _ _ _ _ _ _ h.1 h.2 hw dX12_splits_43

end
theorem c_splits {l : Launch} {a0 : Int} (ra0 : inR a0) {Q : Int → iST → Prop} {u : iST} (h : w_splits a0 Q u) : kMI l yX12_splits (.code yX12_splits cX12_splits 2 (some .boolean) :: wsM) { frames := 2, cells := 0, slots := 0, locals := 43 } [.int (jI a0)] Q u := kMZ_of rfl (fun _ => Nat.le_of_ble_eq_true rfl) (fun X hRf hRl hret hw hl => b_splits_s X hRf hRl hret ra0 hw hl h)

/-! leave -/
theorem dX12_leave_0 : decode cX12_leave 0 = .ok (.aload_n 0, 1) := by decide +kernel
theorem dX12_leave_1 : decode cX12_leave 1 = .ok (.getfield 254, 3) := by decide +kernel
theorem dX12_leave_4 : decode cX12_leave 4 = .ok (.aload_n 0, 1) := by decide +kernel
theorem dX12_leave_5 : decode cX12_leave 5 = .ok (.getfield 751, 3) := by decide +kernel
theorem dX12_leave_8 : decode cX12_leave 8 = .ok (.iload_n 1, 1) := by decide +kernel
theorem dX12_leave_9 : decode cX12_leave 9 = .ok (.iastore, 1) := by decide +kernel
theorem dX12_leave_10 : decode cX12_leave 10 = .ok (.aload_n 0, 1) := by decide +kernel
theorem dX12_leave_11 : decode cX12_leave 11 = .ok (.dup, 1) := by decide +kernel
theorem dX12_leave_12 : decode cX12_leave 12 = .ok (.getfield 751, 3) := by decide +kernel
theorem dX12_leave_15 : decode cX12_leave 15 = .ok (.iconst 1, 1) := by decide +kernel
theorem dX12_leave_16 : decode cX12_leave 16 = .ok (.iadd, 1) := by decide +kernel
theorem dX12_leave_17 : decode cX12_leave 17 = .ok (.putfield 751, 3) := by decide +kernel
theorem dX12_leave_20 : decode cX12_leave 20 = .ok (.aload_n 0, 1) := by decide +kernel
theorem dX12_leave_21 : decode cX12_leave 21 = .ok (.dup, 1) := by decide +kernel
theorem dX12_leave_22 : decode cX12_leave 22 = .ok (.getfield 748, 3) := by decide +kernel
theorem dX12_leave_25 : decode cX12_leave 25 = .ok (.iconst 1, 1) := by decide +kernel
theorem dX12_leave_26 : decode cX12_leave 26 = .ok (.isub, 1) := by decide +kernel
theorem dX12_leave_27 : decode cX12_leave 27 = .ok (.putfield 748, 3) := by decide +kernel
theorem dX12_leave_30 : decode cX12_leave 30 = .ok (.return_, 1) := by decide +kernel

section
variable {p : Program} {l : Launch} {e : Env} {R : Room} {s : State} {m : MethodId} {args : Array Value} {below : List Frame} {meth : Method} {c : Code} {H : Heap} {locs : List Loc} {Qf : State → Prop}
variable {ls : Array Slot} {D : va_G} {ca : Nat → ClassId} {A : Nat → Prop} {h0 : Nat} {ad : Nat → Nat} {H0 : Heap} {u : iST}
def w_leave (a0 : Int) (Q : iST → Prop) (u : iST) : Prop :=
  rd (u.1 63) (fun v1 => 
  bd v1 20 (sw (iA u 120 v1 a0) (fun u => 
  rd (u.1 63) (fun v2 => 
  ov (v2 + 1) (
  sw (iI u 63 (v2 + 1)) (fun u => 
  rd (u.1 119) (fun v4 => 
  ov (v4 - 1) (
  sw (iI u 119 (v4 - 1)) (fun u => 
  Q u)))))))))
set_option maxRecDepth 20000 in
set_option maxHeartbeats 4000000 in
theorem b_leave_s (X : kX p m c cX12_leave 2 s args D ca) (hRf : 0 ≤ R.frames) (hRl : 0 ≤ R.locals) {Q : iST → Prop} (hret : ∀ (u : iST) (H : Heap) (locs : List Loc) (ls : Array Slot) (pc : Nat), Q u → kW D ca A h0 ad H0 H locs u → decode cX12_leave pc = .ok (.return_, 1) → W p l e R s m args below meth c H locs 0 0 Qf (F0 m pc ls [])) {a0 : Int} (ra0 : inR a0) (hw : kW D ca A h0 ad H0 H locs u) (hl : lv_has ls 2 [(0, .ref h0), (1, .int (jI a0))]) (h : w_leave a0 Q u) : W p l e R s m args below meth c H locs 0 0 Qf (F0 m 0 ls []) := by
  have hx := X.1.1
  have hb := X.1.2.1
  unfold w_leave at h
  refine lv_aload_n hx hb dX12_leave_0 rfl (lv_at hl 0 rfl) ?_
  refine gA 120 254 (by decide) L_120 (fun _ _ => mF_120) rfl X hw dX12_leave_1 ?_
  refine lv_aload_n hx hb dX12_leave_4 rfl (lv_at hl 0 rfl) ?_
  refine gS 63 751 (by decide) L_63 (fun _ _ => mF_63) rfl X hw dX12_leave_5 h (fun v1 rv1 h => ?_)
  refine lv_iload_n hx hb dX12_leave_8 rfl (lv_at hl 1 rfl) ?_
  refine aS 120 77 76 20 (fun _ _ _ _ => mG_120) (fun _ => rfl) (fun _ _ _ _ _ _ => mSA_120) (by decide) X hw rv1 ra0 dX12_leave_9 rfl h (fun H locs u hw h => ?_)
  refine lv_aload_n hx hb dX12_leave_10 rfl (lv_at hl 0 rfl) ?_
  refine lv_dup hx hb dX12_leave_11 rfl ?_
  refine gS 63 751 (by decide) L_63 (fun _ _ => mF_63) rfl X hw dX12_leave_12 h (fun v2 rv2 h => ?_)
  refine lv_iconst hx hb dX12_leave_15 (v := jI 1) rfl ?_
  refine k_iadd hx hb dX12_leave_16 h (fun r3 h => ?_)
  refine pS 63 751 (by decide) L_63 rfl rfl rfl (fun _ _ _ _ _ => mSI_63) (by decide) X hw r3 dX12_leave_17 h (fun H locs u hw h => ?_)
  refine lv_aload_n hx hb dX12_leave_20 rfl (lv_at hl 0 rfl) ?_
  refine lv_dup hx hb dX12_leave_21 rfl ?_
  refine gS 119 748 (by decide) L_119 (fun _ _ => mF_119) rfl X hw dX12_leave_22 h (fun v4 rv4 h => ?_)
  refine lv_iconst hx hb dX12_leave_25 (v := jI 1) rfl ?_
  refine k_isub hx hb dX12_leave_26 h (fun r5 h => ?_)
  refine pS 119 748 (by decide) L_119 rfl rfl rfl (fun _ _ _ _ _ => mSI_119) (by decide) X hw r5 dX12_leave_27 h (fun H locs u hw h => ?_)
  exact hret _ _ _ _ _ h hw dX12_leave_30

end
theorem c_leave {l : Launch} {a0 : Int} (ra0 : inR a0) {Q : iST → Prop} {u : iST} (h : w_leave a0 Q u) : kMV l yX12_leave (.code yX12_leave cX12_leave 2 none :: wsM) { frames := 0, cells := 0, slots := 0, locals := 0 } [.int (jI a0)] Q u := kMV_of rfl (fun _ => Nat.le_of_ble_eq_true rfl) (fun X hRf hRl hret hw hl => b_leave_s X hRf hRl hret ra0 hw hl h)

/-! round -/
theorem dX12_round_0 : decode cX12_round 0 = .ok (.iconst 0, 1) := by decide +kernel
theorem dX12_round_1 : decode cX12_round 1 = .ok (.istore_n 2, 1) := by decide +kernel
theorem dX12_round_2 : decode cX12_round 2 = .ok (.iconst 0, 1) := by decide +kernel
theorem dX12_round_3 : decode cX12_round 3 = .ok (.istore_n 3, 1) := by decide +kernel
theorem dX12_round_4 : decode cX12_round 4 = .ok (.iload_n 3, 1) := by decide +kernel
theorem dX12_round_5 : decode cX12_round 5 = .ok (.aload_n 0, 1) := by decide +kernel
theorem dX12_round_6 : decode cX12_round 6 = .ok (.getfield 245, 3) := by decide +kernel
theorem dX12_round_9 : decode cX12_round 9 = .ok (.iload_n 1, 1) := by decide +kernel
theorem dX12_round_10 : decode cX12_round 10 = .ok (.iaload, 1) := by decide +kernel
theorem dX12_round_11 : decode cX12_round 11 = .ok (.if_icmp .ge 213, 3) := by decide +kernel
theorem dX12_round_14 : decode cX12_round 14 = .ok (.aload_n 0, 1) := by decide +kernel
theorem dX12_round_15 : decode cX12_round 15 = .ok (.iconst 0, 1) := by decide +kernel
theorem dX12_round_16 : decode cX12_round 16 = .ok (.putfield 625, 3) := by decide +kernel
theorem dX12_round_19 : decode cX12_round 19 = .ok (.iconst 0, 1) := by decide +kernel
theorem dX12_round_20 : decode cX12_round 20 = .ok (.istore 4, 2) := by decide +kernel
theorem dX12_round_22 : decode cX12_round 22 = .ok (.iload 4, 2) := by decide +kernel
theorem dX12_round_24 : decode cX12_round 24 = .ok (.aload_n 0, 1) := by decide +kernel
theorem dX12_round_25 : decode cX12_round 25 = .ok (.getfield 245, 3) := by decide +kernel
theorem dX12_round_28 : decode cX12_round 28 = .ok (.iload_n 1, 1) := by decide +kernel
theorem dX12_round_29 : decode cX12_round 29 = .ok (.iaload, 1) := by decide +kernel
theorem dX12_round_30 : decode cX12_round 30 = .ok (.if_icmp .ge 42, 3) := by decide +kernel
theorem dX12_round_33 : decode cX12_round 33 = .ok (.aload_n 0, 1) := by decide +kernel
theorem dX12_round_34 : decode cX12_round 34 = .ok (.getfield 480, 3) := by decide +kernel
theorem dX12_round_37 : decode cX12_round 37 = .ok (.ifCond .ne 35, 3) := by decide +kernel
theorem dX12_round_40 : decode cX12_round 40 = .ok (.iload 4, 2) := by decide +kernel
theorem dX12_round_42 : decode cX12_round 42 = .ok (.iload_n 3, 1) := by decide +kernel
theorem dX12_round_43 : decode cX12_round 43 = .ok (.if_icmp .eq 23, 3) := by decide +kernel
theorem dX12_round_46 : decode cX12_round 46 = .ok (.aload_n 0, 1) := by decide +kernel
theorem dX12_round_47 : decode cX12_round 47 = .ok (.aload_n 0, 1) := by decide +kernel
theorem dX12_round_48 : decode cX12_round 48 = .ok (.aload_n 0, 1) := by decide +kernel
theorem dX12_round_49 : decode cX12_round 49 = .ok (.getfield 242, 3) := by decide +kernel
theorem dX12_round_52 : decode cX12_round 52 = .ok (.bipush 30, 2) := by decide +kernel
theorem dX12_round_54 : decode cX12_round 54 = .ok (.iload_n 1, 1) := by decide +kernel
theorem dX12_round_55 : decode cX12_round 55 = .ok (.imul, 1) := by decide +kernel
theorem dX12_round_56 : decode cX12_round 56 = .ok (.iload 4, 2) := by decide +kernel
theorem dX12_round_58 : decode cX12_round 58 = .ok (.iadd, 1) := by decide +kernel
theorem dX12_round_59 : decode cX12_round 59 = .ok (.iaload, 1) := by decide +kernel
theorem dX12_round_60 : decode cX12_round 60 = .ok (.invokevirtual 659, 3) := by decide +kernel
theorem dX12_round_63 : decode cX12_round 63 = .ok (.invokevirtual 662, 3) := by decide +kernel
theorem dX12_round_66 : decode cX12_round 66 = .ok (.iinc 4 1, 3) := by decide +kernel
theorem dX12_round_69 : decode cX12_round 69 = .ok (.goto (-47), 3) := by decide +kernel
theorem dX12_round_72 : decode cX12_round 72 = .ok (.aload_n 0, 1) := by decide +kernel
theorem dX12_round_73 : decode cX12_round 73 = .ok (.getfield 242, 3) := by decide +kernel
theorem dX12_round_76 : decode cX12_round 76 = .ok (.bipush 30, 2) := by decide +kernel
theorem dX12_round_78 : decode cX12_round 78 = .ok (.iload_n 1, 1) := by decide +kernel
theorem dX12_round_79 : decode cX12_round 79 = .ok (.imul, 1) := by decide +kernel
theorem dX12_round_80 : decode cX12_round 80 = .ok (.iload_n 3, 1) := by decide +kernel
theorem dX12_round_81 : decode cX12_round 81 = .ok (.iadd, 1) := by decide +kernel
theorem dX12_round_82 : decode cX12_round 82 = .ok (.iaload, 1) := by decide +kernel
theorem dX12_round_83 : decode cX12_round 83 = .ok (.istore 4, 2) := by decide +kernel
theorem dX12_round_85 : decode cX12_round 85 = .ok (.aload_n 0, 1) := by decide +kernel
theorem dX12_round_86 : decode cX12_round 86 = .ok (.getfield 480, 3) := by decide +kernel
theorem dX12_round_89 : decode cX12_round 89 = .ok (.ifCond .ne 13, 3) := by decide +kernel
theorem dX12_round_92 : decode cX12_round 92 = .ok (.aload_n 0, 1) := by decide +kernel
theorem dX12_round_93 : decode cX12_round 93 = .ok (.iload 4, 2) := by decide +kernel
theorem dX12_round_95 : decode cX12_round 95 = .ok (.iconst 1, 1) := by decide +kernel
theorem dX12_round_96 : decode cX12_round 96 = .ok (.invokevirtual 754, 3) := by decide +kernel
theorem dX12_round_99 : decode cX12_round 99 = .ok (.goto 5, 3) := by decide +kernel
theorem dX12_round_102 : decode cX12_round 102 = .ok (.iload 4, 2) := by decide +kernel
theorem dX12_round_104 : decode cX12_round 104 = .ok (.istore 5, 2) := by decide +kernel
theorem dX12_round_106 : decode cX12_round 106 = .ok (.aload_n 0, 1) := by decide +kernel
theorem dX12_round_107 : decode cX12_round 107 = .ok (.getfield 480, 3) := by decide +kernel
theorem dX12_round_110 : decode cX12_round 110 = .ok (.ifCond .eq 4, 3) := by decide +kernel
theorem dX12_round_113 : decode cX12_round 113 = .ok (.return_, 1) := by decide +kernel
theorem dX12_round_114 : decode cX12_round 114 = .ok (.iload 5, 2) := by decide +kernel
theorem dX12_round_116 : decode cX12_round 116 = .ok (.iconst 1, 1) := by decide +kernel
theorem dX12_round_117 : decode cX12_round 117 = .ok (.if_icmp .ne 14, 3) := by decide +kernel
theorem dX12_round_120 : decode cX12_round 120 = .ok (.aload_n 0, 1) := by decide +kernel
theorem dX12_round_121 : decode cX12_round 121 = .ok (.dup, 1) := by decide +kernel
theorem dX12_round_122 : decode cX12_round 122 = .ok (.getfield 748, 3) := by decide +kernel
theorem dX12_round_125 : decode cX12_round 125 = .ok (.iconst 1, 1) := by decide +kernel
theorem dX12_round_126 : decode cX12_round 126 = .ok (.isub, 1) := by decide +kernel
theorem dX12_round_127 : decode cX12_round 127 = .ok (.putfield 748, 3) := by decide +kernel
theorem dX12_round_130 : decode cX12_round 130 = .ok (.return_, 1) := by decide +kernel
theorem dX12_round_131 : decode cX12_round 131 = .ok (.aload_n 0, 1) := by decide +kernel
theorem dX12_round_132 : decode cX12_round 132 = .ok (.iload 5, 2) := by decide +kernel
theorem dX12_round_134 : decode cX12_round 134 = .ok (.invokevirtual 757, 3) := by decide +kernel
theorem dX12_round_137 : decode cX12_round 137 = .ok (.ifCond .eq 12, 3) := by decide +kernel
theorem dX12_round_140 : decode cX12_round 140 = .ok (.aload_n 0, 1) := by decide +kernel
theorem dX12_round_141 : decode cX12_round 141 = .ok (.iload_n 1, 1) := by decide +kernel
theorem dX12_round_142 : decode cX12_round 142 = .ok (.iload_n 3, 1) := by decide +kernel
theorem dX12_round_143 : decode cX12_round 143 = .ok (.iload 5, 2) := by decide +kernel
theorem dX12_round_145 : decode cX12_round 145 = .ok (.invokevirtual 760, 3) := by decide +kernel
theorem dX12_round_148 : decode cX12_round 148 = .ok (.return_, 1) := by decide +kernel
theorem dX12_round_149 : decode cX12_round 149 = .ok (.iconst 1, 1) := by decide +kernel
theorem dX12_round_150 : decode cX12_round 150 = .ok (.istore 6, 2) := by decide +kernel
theorem dX12_round_152 : decode cX12_round 152 = .ok (.iload 5, 2) := by decide +kernel
theorem dX12_round_154 : decode cX12_round 154 = .ok (.ifCond .ne 15, 3) := by decide +kernel
theorem dX12_round_157 : decode cX12_round 157 = .ok (.aload_n 0, 1) := by decide +kernel
theorem dX12_round_158 : decode cX12_round 158 = .ok (.iload_n 1, 1) := by decide +kernel
theorem dX12_round_159 : decode cX12_round 159 = .ok (.iload_n 3, 1) := by decide +kernel
theorem dX12_round_160 : decode cX12_round 160 = .ok (.invokevirtual 736, 3) := by decide +kernel
theorem dX12_round_163 : decode cX12_round 163 = .ok (.iconst 0, 1) := by decide +kernel
theorem dX12_round_164 : decode cX12_round 164 = .ok (.istore 6, 2) := by decide +kernel
theorem dX12_round_166 : decode cX12_round 166 = .ok (.goto 20, 3) := by decide +kernel
theorem dX12_round_169 : decode cX12_round 169 = .ok (.iload 5, 2) := by decide +kernel
theorem dX12_round_171 : decode cX12_round 171 = .ok (.iload 4, 2) := by decide +kernel
theorem dX12_round_173 : decode cX12_round 173 = .ok (.if_icmp .eq 13, 3) := by decide +kernel
theorem dX12_round_176 : decode cX12_round 176 = .ok (.aload_n 0, 1) := by decide +kernel
theorem dX12_round_177 : decode cX12_round 177 = .ok (.iload_n 1, 1) := by decide +kernel
theorem dX12_round_178 : decode cX12_round 178 = .ok (.iload_n 3, 1) := by decide +kernel
theorem dX12_round_179 : decode cX12_round 179 = .ok (.iload 5, 2) := by decide +kernel
theorem dX12_round_181 : decode cX12_round 181 = .ok (.invokevirtual 763, 3) := by decide +kernel
theorem dX12_round_184 : decode cX12_round 184 = .ok (.istore 6, 2) := by decide +kernel
theorem dX12_round_186 : decode cX12_round 186 = .ok (.iload_n 2, 1) := by decide +kernel
theorem dX12_round_187 : decode cX12_round 187 = .ok (.ifCond .ne 15, 3) := by decide +kernel
theorem dX12_round_190 : decode cX12_round 190 = .ok (.iload 5, 2) := by decide +kernel
theorem dX12_round_192 : decode cX12_round 192 = .ok (.iload 4, 2) := by decide +kernel
theorem dX12_round_194 : decode cX12_round 194 = .ok (.if_icmp .ne 8, 3) := by decide +kernel
theorem dX12_round_197 : decode cX12_round 197 = .ok (.iload 5, 2) := by decide +kernel
theorem dX12_round_199 : decode cX12_round 199 = .ok (.ifCond .ne 7, 3) := by decide +kernel
theorem dX12_round_202 : decode cX12_round 202 = .ok (.iconst 1, 1) := by decide +kernel
theorem dX12_round_203 : decode cX12_round 203 = .ok (.goto 4, 3) := by decide +kernel
theorem dX12_round_206 : decode cX12_round 206 = .ok (.iconst 0, 1) := by decide +kernel
theorem dX12_round_207 : decode cX12_round 207 = .ok (.istore_n 2, 1) := by decide +kernel
theorem dX12_round_208 : decode cX12_round 208 = .ok (.iload_n 3, 1) := by decide +kernel
theorem dX12_round_209 : decode cX12_round 209 = .ok (.iload 6, 2) := by decide +kernel
theorem dX12_round_211 : decode cX12_round 211 = .ok (.ifCond .eq 7, 3) := by decide +kernel
theorem dX12_round_214 : decode cX12_round 214 = .ok (.iconst 1, 1) := by decide +kernel
theorem dX12_round_215 : decode cX12_round 215 = .ok (.goto 4, 3) := by decide +kernel
theorem dX12_round_218 : decode cX12_round 218 = .ok (.iconst 0, 1) := by decide +kernel
theorem dX12_round_219 : decode cX12_round 219 = .ok (.iadd, 1) := by decide +kernel
theorem dX12_round_220 : decode cX12_round 220 = .ok (.istore_n 3, 1) := by decide +kernel
theorem dX12_round_221 : decode cX12_round 221 = .ok (.goto (-217), 3) := by decide +kernel
theorem dX12_round_224 : decode cX12_round 224 = .ok (.aload_n 0, 1) := by decide +kernel
theorem dX12_round_225 : decode cX12_round 225 = .ok (.getfield 248, 3) := by decide +kernel
theorem dX12_round_228 : decode cX12_round 228 = .ok (.iload_n 1, 1) := by decide +kernel
theorem dX12_round_229 : decode cX12_round 229 = .ok (.dup2, 1) := by decide +kernel
theorem dX12_round_230 : decode cX12_round 230 = .ok (.iaload, 1) := by decide +kernel
theorem dX12_round_231 : decode cX12_round 231 = .ok (.iconst 1, 1) := by decide +kernel
theorem dX12_round_232 : decode cX12_round 232 = .ok (.iadd, 1) := by decide +kernel
theorem dX12_round_233 : decode cX12_round 233 = .ok (.iastore, 1) := by decide +kernel
theorem dX12_round_234 : decode cX12_round 234 = .ok (.iload_n 2, 1) := by decide +kernel
theorem dX12_round_235 : decode cX12_round 235 = .ok (.ifCond .ne 11, 3) := by decide +kernel
theorem dX12_round_238 : decode cX12_round 238 = .ok (.aload_n 0, 1) := by decide +kernel
theorem dX12_round_239 : decode cX12_round 239 = .ok (.iload_n 1, 1) := by decide +kernel
theorem dX12_round_240 : decode cX12_round 240 = .ok (.invokevirtual 767, 3) := by decide +kernel
theorem dX12_round_243 : decode cX12_round 243 = .ok (.goto 19, 3) := by decide +kernel
theorem dX12_round_246 : decode cX12_round 246 = .ok (.aload_n 0, 1) := by decide +kernel
theorem dX12_round_247 : decode cX12_round 247 = .ok (.iload_n 1, 1) := by decide +kernel
theorem dX12_round_248 : decode cX12_round 248 = .ok (.invokevirtual 770, 3) := by decide +kernel
theorem dX12_round_251 : decode cX12_round 251 = .ok (.sipush 400, 3) := by decide +kernel
theorem dX12_round_254 : decode cX12_round 254 = .ok (.if_icmp .le 8, 3) := by decide +kernel
theorem dX12_round_257 : decode cX12_round 257 = .ok (.aload_n 0, 1) := by decide +kernel
theorem dX12_round_258 : decode cX12_round 258 = .ok (.iconst 4, 1) := by decide +kernel
theorem dX12_round_259 : decode cX12_round 259 = .ok (.invokevirtual 517, 3) := by decide +kernel
theorem dX12_round_262 : decode cX12_round 262 = .ok (.return_, 1) := by decide +kernel

section
variable {p : Program} {l : Launch} {e : Env} {R : Room} {s : State} {m : MethodId} {args : Array Value} {below : List Frame} {meth : Method} {c : Code} {H : Heap} {locs : List Loc} {Qf : State → Prop}
variable {ls : Array Slot} {D : va_G} {ca : Nat → ClassId} {A : Nat → Prop} {h0 : Nat} {ad : Nat → Nat} {H0 : Heap} {u : iST}
def w_round_207 (R4 : Int → Int → Int → iST → Prop) (Q : iST → Prop) (x1 : Int) (x3 : Int) (x6 : Int) (y0 : Int) (u : iST) : Prop :=
  br (x6 = 0) (
    ov (x3 + 0) (
    R4 x1 y0 (x3 + 0) u)) (
    ov (x3 + 1) (
    R4 x1 y0 (x3 + 1) u))
set_option maxRecDepth 20000 in
set_option maxHeartbeats 4000000 in
theorem b_round_207 (X : kX p m c cX12_round 7 s args D ca) (hRf : 13 ≤ R.frames) (hRl : 304 ≤ R.locals) {Q : iST → Prop} (hret : ∀ (u : iST) (H : Heap) (locs : List Loc) (ls : Array Slot) (pc : Nat), Q u → kW D ca A h0 ad H0 H locs u → decode cX12_round pc = .ok (.return_, 1) → W p l e R s m args below meth c H locs 0 0 Qf (F0 m pc ls [])) {R4 : Int → Int → Int → iST → Prop} (hR4 : ∀ (x1 : Int) (x2 : Int) (x3 : Int) (u : iST) (H : Heap) (locs : List Loc) (ls : Array Slot), inR x1 → inR x2 → inR x3 → kW D ca A h0 ad H0 H locs u → lv_has ls 7 [(0, .ref h0), (1, .int (jI x1)), (2, .int (jI x2)), (3, .int (jI x3))] → R4 x1 x2 x3 u → W p l e R s m args below meth c H locs 0 0 Qf (F0 m 4 ls [])) {x1 x3 x6 y0 : Int} (rx1 : inR x1) (rx3 : inR x3) (rx6 : inR x6) (ry0 : inR y0) (hw : kW D ca A h0 ad H0 H locs u) (hl : lv_has ls 7 [(0, .ref h0), (1, .int (jI x1)), (3, .int (jI x3)), (6, .int (jI x6))]) (h : w_round_207 R4 Q x1 x3 x6 y0 u) : W p l e R s m args below meth c H locs 0 0 Qf (F0 m 207 ls [.int (jI y0)]) := by
  have hx := X.1.1
  have hb := X.1.2.1
  unfold w_round_207 at h
  refine lv_istore_n hx hb dX12_round_207 rfl hl (by decide) rfl (fun ls hl => ?_)
  have hl : lv_has ls 7 [(2, .int (jI y0)), (0, .ref (h0)), (1, .int (jI x1)), (3, .int (jI x3)), (6, .int (jI x6))] := hl
  refine lv_iload_n hx hb dX12_round_208 rfl (lv_at hl 3 rfl) ?_
  refine lv_iload hx hb dX12_round_209 (lv_at hl 4 rfl) ?_
  refine k_if_eq hx hb rx6 dX12_round_211 (tgt := 218) rfl h (fun h => ?_) (fun h => ?_)
  · refine lv_iconst hx hb dX12_round_218 (v := jI 0) rfl ?_
    refine k_iadd hx hb dX12_round_219 h (fun r14 h => ?_)
    refine lv_istore_n hx hb dX12_round_220 rfl hl (by decide) rfl (fun ls hl => ?_)
    have hl : lv_has ls 7 [(3, .int (jI (x3 + 0))), (2, .int (jI y0)), (0, .ref (h0)), (1, .int (jI x1)), (6, .int (jI x6))] := hl
    refine lv_goto hx hb dX12_round_221 (tgt := 4) rfl ?_
    exact hR4 _ _ _ _ H locs ls rx1 ry0 r14 hw (lv_sub hl [2, 3, 1, 0] rfl) h
  · refine lv_iconst hx hb dX12_round_214 (v := jI 1) rfl ?_
    refine lv_goto hx hb dX12_round_215 (tgt := 219) rfl ?_
    refine k_iadd hx hb dX12_round_219 h (fun r15 h => ?_)
    refine lv_istore_n hx hb dX12_round_220 rfl hl (by decide) rfl (fun ls hl => ?_)
    have hl : lv_has ls 7 [(3, .int (jI (x3 + 1))), (2, .int (jI y0)), (0, .ref (h0)), (1, .int (jI x1)), (6, .int (jI x6))] := hl
    refine lv_goto hx hb dX12_round_221 (tgt := 4) rfl ?_
    exact hR4 _ _ _ _ H locs ls rx1 ry0 r15 hw (lv_sub hl [2, 3, 1, 0] rfl) h

def w_round_202 (R4 : Int → Int → Int → iST → Prop) (Q : iST → Prop) (x1 : Int) (x3 : Int) (x6 : Int) (u : iST) : Prop :=
  w_round_207 R4 Q x1 x3 x6 1 u
set_option maxRecDepth 20000 in
set_option maxHeartbeats 4000000 in
theorem b_round_202 (X : kX p m c cX12_round 7 s args D ca) (hRf : 13 ≤ R.frames) (hRl : 304 ≤ R.locals) {Q : iST → Prop} (hret : ∀ (u : iST) (H : Heap) (locs : List Loc) (ls : Array Slot) (pc : Nat), Q u → kW D ca A h0 ad H0 H locs u → decode cX12_round pc = .ok (.return_, 1) → W p l e R s m args below meth c H locs 0 0 Qf (F0 m pc ls [])) {R4 : Int → Int → Int → iST → Prop} (hR4 : ∀ (x1 : Int) (x2 : Int) (x3 : Int) (u : iST) (H : Heap) (locs : List Loc) (ls : Array Slot), inR x1 → inR x2 → inR x3 → kW D ca A h0 ad H0 H locs u → lv_has ls 7 [(0, .ref h0), (1, .int (jI x1)), (2, .int (jI x2)), (3, .int (jI x3))] → R4 x1 x2 x3 u → W p l e R s m args below meth c H locs 0 0 Qf (F0 m 4 ls [])) {x1 x3 x6 : Int} (rx1 : inR x1) (rx3 : inR x3) (rx6 : inR x6) (hw : kW D ca A h0 ad H0 H locs u) (hl : lv_has ls 7 [(0, .ref h0), (1, .int (jI x1)), (3, .int (jI x3)), (6, .int (jI x6))]) (h : w_round_202 R4 Q x1 x3 x6 u) : W p l e R s m args below meth c H locs 0 0 Qf (F0 m 202 ls []) := by
  have hx := X.1.1
  have hb := X.1.2.1
  unfold w_round_202 at h
  refine lv_iconst hx hb dX12_round_202 (v := jI 1) rfl ?_
  refine lv_goto hx hb dX12_round_203 (tgt := 207) rfl ?_
  exact b_round_207 X hRf hRl hret hR4 rx1 rx3 rx6 (by decide) hw hl h

def w_round_186 (R4 : Int → Int → Int → iST → Prop) (Q : iST → Prop) (x1 : Int) (x2 : Int) (x3 : Int) (x4 : Int) (x5 : Int) (x6 : Int) (u : iST) : Prop :=
  br (x2 ≠ 0) (
    w_round_202 R4 Q x1 x3 x6 u) (
    br (x5 ≠ x4) (
      w_round_202 R4 Q x1 x3 x6 u) (
      br (x5 ≠ 0) (
        w_round_207 R4 Q x1 x3 x6 0 u) (
        w_round_202 R4 Q x1 x3 x6 u)))
set_option maxRecDepth 20000 in
set_option maxHeartbeats 4000000 in
theorem b_round_186 (X : kX p m c cX12_round 7 s args D ca) (hRf : 13 ≤ R.frames) (hRl : 304 ≤ R.locals) {Q : iST → Prop} (hret : ∀ (u : iST) (H : Heap) (locs : List Loc) (ls : Array Slot) (pc : Nat), Q u → kW D ca A h0 ad H0 H locs u → decode cX12_round pc = .ok (.return_, 1) → W p l e R s m args below meth c H locs 0 0 Qf (F0 m pc ls [])) {R4 : Int → Int → Int → iST → Prop} (hR4 : ∀ (x1 : Int) (x2 : Int) (x3 : Int) (u : iST) (H : Heap) (locs : List Loc) (ls : Array Slot), inR x1 → inR x2 → inR x3 → kW D ca A h0 ad H0 H locs u → lv_has ls 7 [(0, .ref h0), (1, .int (jI x1)), (2, .int (jI x2)), (3, .int (jI x3))] → R4 x1 x2 x3 u → W p l e R s m args below meth c H locs 0 0 Qf (F0 m 4 ls [])) {x1 x2 x3 x4 x5 x6 : Int} (rx1 : inR x1) (rx2 : inR x2) (rx3 : inR x3) (rx4 : inR x4) (rx5 : inR x5) (rx6 : inR x6) (hw : kW D ca A h0 ad H0 H locs u) (hl : lv_has ls 7 [(0, .ref h0), (1, .int (jI x1)), (2, .int (jI x2)), (3, .int (jI x3)), (4, .int (jI x4)), (5, .int (jI x5)), (6, .int (jI x6))]) (h : w_round_186 R4 Q x1 x2 x3 x4 x5 x6 u) : W p l e R s m args below meth c H locs 0 0 Qf (F0 m 186 ls []) := by
  have hx := X.1.1
  have hb := X.1.2.1
  unfold w_round_186 at h
  refine lv_iload_n hx hb dX12_round_186 rfl (lv_at hl 2 rfl) ?_
  refine k_if_ne hx hb rx2 dX12_round_187 (tgt := 202) rfl h (fun h => ?_) (fun h => ?_)
  · exact b_round_202 X hRf hRl hret hR4 rx1 rx3 rx6 hw (lv_sub hl [0, 1, 3, 6] rfl) h
  · refine lv_iload hx hb dX12_round_190 (lv_at hl 5 rfl) ?_
    refine lv_iload hx hb dX12_round_192 (lv_at hl 4 rfl) ?_
    refine k_icmp_ne hx hb rx5 rx4 dX12_round_194 (tgt := 202) rfl h (fun h => ?_) (fun h => ?_)
    · exact b_round_202 X hRf hRl hret hR4 rx1 rx3 rx6 hw (lv_sub hl [0, 1, 3, 6] rfl) h
    · refine lv_iload hx hb dX12_round_197 (lv_at hl 5 rfl) ?_
      refine k_if_ne hx hb rx5 dX12_round_199 (tgt := 206) rfl h (fun h => ?_) (fun h => ?_)
      · refine lv_iconst hx hb dX12_round_206 (v := jI 0) rfl ?_
        exact b_round_207 X hRf hRl hret hR4 rx1 rx3 rx6 (by decide) hw (lv_sub hl [0, 1, 3, 6] rfl) h
      · exact b_round_202 X hRf hRl hret hR4 rx1 rx3 rx6 hw (lv_sub hl [0, 1, 3, 6] rfl) h

def w_round_104 (R4 : Int → Int → Int → iST → Prop) (Q : iST → Prop) (x1 : Int) (x2 : Int) (x3 : Int) (x4 : Int) (y0 : Int) (u : iST) : Prop :=
  rd (u.1 61) (fun v12 => 
  br (v12 = 0) (
    br (y0 ≠ 1) (
      w_splits y0 (fun v13 u => 
      br (v13 = 0) (
        br (y0 ≠ 0) (
          br (y0 = x4) (
            w_round_186 R4 Q x1 x2 x3 x4 y0 1 u) (
            w_changeTo x1 x3 y0 (fun v16 u => 
            w_round_186 R4 Q x1 x2 x3 x4 y0 v16 u) u)) (
          w_removeAt x1 x3 (fun u => 
          w_round_186 R4 Q x1 x2 x3 x4 y0 0 u) u)) (
        w_split x1 x3 y0 (fun u => 
        Q u) u)) u) (
      rd (u.1 119) (fun v19 => 
      ov (v19 - 1) (
      sw (iI u 119 (v19 - 1)) (fun u => 
      Q u))))) (
    Q u))
set_option maxRecDepth 20000 in
set_option maxHeartbeats 4000000 in
theorem b_round_104 (X : kX p m c cX12_round 7 s args D ca) (hRf : 13 ≤ R.frames) (hRl : 304 ≤ R.locals) {Q : iST → Prop} (hret : ∀ (u : iST) (H : Heap) (locs : List Loc) (ls : Array Slot) (pc : Nat), Q u → kW D ca A h0 ad H0 H locs u → decode cX12_round pc = .ok (.return_, 1) → W p l e R s m args below meth c H locs 0 0 Qf (F0 m pc ls [])) {R4 : Int → Int → Int → iST → Prop} (hR4 : ∀ (x1 : Int) (x2 : Int) (x3 : Int) (u : iST) (H : Heap) (locs : List Loc) (ls : Array Slot), inR x1 → inR x2 → inR x3 → kW D ca A h0 ad H0 H locs u → lv_has ls 7 [(0, .ref h0), (1, .int (jI x1)), (2, .int (jI x2)), (3, .int (jI x3))] → R4 x1 x2 x3 u → W p l e R s m args below meth c H locs 0 0 Qf (F0 m 4 ls [])) {x1 x2 x3 x4 y0 : Int} (rx1 : inR x1) (rx2 : inR x2) (rx3 : inR x3) (rx4 : inR x4) (ry0 : inR y0) (hw : kW D ca A h0 ad H0 H locs u) (hl : lv_has ls 7 [(0, .ref h0), (1, .int (jI x1)), (2, .int (jI x2)), (3, .int (jI x3)), (4, .int (jI x4))]) (h : w_round_104 R4 Q x1 x2 x3 x4 y0 u) : W p l e R s m args below meth c H locs 0 0 Qf (F0 m 104 ls [.int (jI y0)]) := by
  have hx := X.1.1
  have hb := X.1.2.1
  unfold w_round_104 at h
  refine lv_istore hx hb dX12_round_104 hl (by decide) rfl (fun ls hl => ?_)
  have hl : lv_has ls 7 [(5, .int (jI y0)), (0, .ref (h0)), (1, .int (jI x1)), (2, .int (jI x2)), (3, .int (jI x3)), (4, .int (jI x4))] := hl
  refine lv_aload_n hx hb dX12_round_106 rfl (lv_at hl 1 rfl) ?_
  refine gS 61 480 (by decide) L_61 (fun _ _ => mF_61) rfl X hw dX12_round_107 h (fun v12 rv12 h => ?_)
  refine k_if_eq hx hb rv12 dX12_round_110 (tgt := 114) rfl h (fun h => ?_) (fun h => ?_)
  · refine lv_iload hx hb dX12_round_114 (lv_at hl 0 rfl) ?_
    refine lv_iconst hx hb dX12_round_116 (v := jI 1) rfl ?_
    refine k_icmp_ne hx hb ry0 (by decide) dX12_round_117 (tgt := 131) rfl h (fun h => ?_) (fun h => ?_)
    · refine lv_aload_n hx hb dX12_round_131 rfl (lv_at hl 1 rfl) ?_
      refine lv_iload hx hb dX12_round_132 (lv_at hl 0 rfl) ?_
      refine kcI (n := 1) (c_splits ry0 h) G_splits E_splits X hw (Nat.le_trans (Nat.le_of_ble_eq_true rfl) hRf) (Nat.le_trans (Nat.le_of_ble_eq_true rfl) hRl) rfl hl.1 (Nat.le_of_ble_eq_true rfl) rfl dX12_round_134 (fun v13 u H locs rv13 h hw => ?_)
      refine k_if_eq hx hb rv13 dX12_round_137 (tgt := 149) rfl h (fun h => ?_) (fun h => ?_)
      · refine lv_iconst hx hb dX12_round_149 (v := jI 1) rfl ?_
        refine lv_istore hx hb dX12_round_150 hl (by decide) rfl (fun ls hl => ?_)
        have hl : lv_has ls 7 [(6, .int (jI 1)), (5, .int (jI y0)), (0, .ref (h0)), (1, .int (jI x1)), (2, .int (jI x2)), (3, .int (jI x3)), (4, .int (jI x4))] := hl
        refine lv_iload hx hb dX12_round_152 (lv_at hl 1 rfl) ?_
        refine k_if_ne hx hb ry0 dX12_round_154 (tgt := 169) rfl h (fun h => ?_) (fun h => ?_)
        · refine lv_iload hx hb dX12_round_169 (lv_at hl 1 rfl) ?_
          refine lv_iload hx hb dX12_round_171 (lv_at hl 6 rfl) ?_
          refine k_icmp_eq hx hb ry0 rx4 dX12_round_173 (tgt := 186) rfl h (fun h => ?_) (fun h => ?_)
          · exact b_round_186 X hRf hRl hret hR4 rx1 rx2 rx3 rx4 ry0 (by decide) hw (lv_sub hl [2, 3, 4, 5, 6, 1, 0] rfl) h
          · refine lv_aload_n hx hb dX12_round_176 rfl (lv_at hl 2 rfl) ?_
            refine lv_iload_n hx hb dX12_round_177 rfl (lv_at hl 3 rfl) ?_
            refine lv_iload_n hx hb dX12_round_178 rfl (lv_at hl 5 rfl) ?_
            refine lv_iload hx hb dX12_round_179 (lv_at hl 1 rfl) ?_
            refine kcI (n := 3) (c_changeTo rx1 rx3 ry0 h) G_changeTo E_changeTo X hw (Nat.le_trans (Nat.le_of_ble_eq_true rfl) hRf) (Nat.le_trans (Nat.le_of_ble_eq_true rfl) hRl) rfl hl.1 (Nat.le_of_ble_eq_true rfl) rfl dX12_round_181 (fun v16 u H locs rv16 h hw => ?_)
            refine lv_istore hx hb dX12_round_184 hl (by decide) rfl (fun ls hl => ?_)
            have hl : lv_has ls 7 [(6, .int (jI v16)), (5, .int (jI y0)), (0, .ref (h0)), (1, .int (jI x1)), (2, .int (jI x2)), (3, .int (jI x3)), (4, .int (jI x4))] := hl
            exact b_round_186 X hRf hRl hret hR4 rx1 rx2 rx3 rx4 ry0 rv16 hw (lv_sub hl [2, 3, 4, 5, 6, 1, 0] rfl) h
        · refine lv_aload_n hx hb dX12_round_157 rfl (lv_at hl 2 rfl) ?_
          refine lv_iload_n hx hb dX12_round_158 rfl (lv_at hl 3 rfl) ?_
          refine lv_iload_n hx hb dX12_round_159 rfl (lv_at hl 5 rfl) ?_
          refine kcV (n := 2) (c_removeAt rx1 rx3 h) G_removeAt E_removeAt X hw (Nat.le_trans (Nat.le_of_ble_eq_true rfl) hRf) (Nat.le_trans (Nat.le_of_ble_eq_true rfl) hRl) rfl hl.1 (Nat.le_of_ble_eq_true rfl) rfl dX12_round_160 (fun u H locs h hw => ?_)
          refine lv_iconst hx hb dX12_round_163 (v := jI 0) rfl ?_
          refine lv_istore hx hb dX12_round_164 hl (by decide) rfl (fun ls hl => ?_)
          have hl : lv_has ls 7 [(6, .int (jI 0)), (5, .int (jI y0)), (0, .ref (h0)), (1, .int (jI x1)), (2, .int (jI x2)), (3, .int (jI x3)), (4, .int (jI x4))] := hl
          refine lv_goto hx hb dX12_round_166 (tgt := 186) rfl ?_
          exact b_round_186 X hRf hRl hret hR4 rx1 rx2 rx3 rx4 ry0 (by decide) hw (lv_sub hl [2, 3, 4, 5, 6, 1, 0] rfl) h
      · refine lv_aload_n hx hb dX12_round_140 rfl (lv_at hl 1 rfl) ?_
        refine lv_iload_n hx hb dX12_round_141 rfl (lv_at hl 2 rfl) ?_
        refine lv_iload_n hx hb dX12_round_142 rfl (lv_at hl 4 rfl) ?_
        refine lv_iload hx hb dX12_round_143 (lv_at hl 0 rfl) ?_
        refine kcV (n := 3) (c_split rx1 rx3 ry0 h) G_split E_split X hw (Nat.le_trans (Nat.le_of_ble_eq_true rfl) hRf) (Nat.le_trans (Nat.le_of_ble_eq_true rfl) hRl) rfl hl.1 (Nat.le_of_ble_eq_true rfl) rfl dX12_round_145 (fun u H locs h hw => ?_)
        exact hret _ _ _ _ _ h hw dX12_round_148
    · refine lv_aload_n hx hb dX12_round_120 rfl (lv_at hl 1 rfl) ?_
      refine lv_dup hx hb dX12_round_121 rfl ?_
      refine gS 119 748 (by decide) L_119 (fun _ _ => mF_119) rfl X hw dX12_round_122 h (fun v19 rv19 h => ?_)
      refine lv_iconst hx hb dX12_round_125 (v := jI 1) rfl ?_
      refine k_isub hx hb dX12_round_126 h (fun r20 h => ?_)
      refine pS 119 748 (by decide) L_119 rfl rfl rfl (fun _ _ _ _ _ => mSI_119) (by decide) X hw r20 dX12_round_127 h (fun H locs u hw h => ?_)
      exact hret _ _ _ _ _ h hw dX12_round_130
  · exact hret _ _ _ _ _ h hw dX12_round_113

def w_round_72 (R4 : Int → Int → Int → iST → Prop) (Q : iST → Prop) (x1 : Int) (x2 : Int) (x3 : Int) (u : iST) : Prop :=
  ov (30 * x1) (
  ov ((30 * x1) + x3) (
  bd ((30 * x1) + x3) 69000 (rd (u.2.1 114 ((30 * x1) + x3)) (fun v10 => 
  rd (u.1 61) (fun v11 => 
  br (v11 ≠ 0) (
    w_round_104 R4 Q x1 x2 x3 v10 v10 u) (
    w_rewritten v10 1 (fun v21 u => 
    w_round_104 R4 Q x1 x2 x3 v10 v21 u) u))))))
set_option maxRecDepth 20000 in
set_option maxHeartbeats 4000000 in
theorem b_round_72 (X : kX p m c cX12_round 7 s args D ca) (hRf : 13 ≤ R.frames) (hRl : 304 ≤ R.locals) {Q : iST → Prop} (hret : ∀ (u : iST) (H : Heap) (locs : List Loc) (ls : Array Slot) (pc : Nat), Q u → kW D ca A h0 ad H0 H locs u → decode cX12_round pc = .ok (.return_, 1) → W p l e R s m args below meth c H locs 0 0 Qf (F0 m pc ls [])) {R4 : Int → Int → Int → iST → Prop} (hR4 : ∀ (x1 : Int) (x2 : Int) (x3 : Int) (u : iST) (H : Heap) (locs : List Loc) (ls : Array Slot), inR x1 → inR x2 → inR x3 → kW D ca A h0 ad H0 H locs u → lv_has ls 7 [(0, .ref h0), (1, .int (jI x1)), (2, .int (jI x2)), (3, .int (jI x3))] → R4 x1 x2 x3 u → W p l e R s m args below meth c H locs 0 0 Qf (F0 m 4 ls [])) {x1 x2 x3 : Int} (rx1 : inR x1) (rx2 : inR x2) (rx3 : inR x3) (hw : kW D ca A h0 ad H0 H locs u) (hl : lv_has ls 7 [(0, .ref h0), (1, .int (jI x1)), (2, .int (jI x2)), (3, .int (jI x3))]) (h : w_round_72 R4 Q x1 x2 x3 u) : W p l e R s m args below meth c H locs 0 0 Qf (F0 m 72 ls []) := by
  have hx := X.1.1
  have hb := X.1.2.1
  unfold w_round_72 at h
  refine lv_aload_n hx hb dX12_round_72 rfl (lv_at hl 0 rfl) ?_
  refine gA 114 242 (by decide) L_114 (fun _ _ => mF_114) rfl X hw dX12_round_73 ?_
  refine lv_bipush hx hb dX12_round_76 (v := jI 30) rfl ?_
  refine lv_iload_n hx hb dX12_round_78 rfl (lv_at hl 1 rfl) ?_
  refine k_imul hx hb dX12_round_79 h (fun r8 h => ?_)
  refine lv_iload_n hx hb dX12_round_80 rfl (lv_at hl 3 rfl) ?_
  refine k_iadd hx hb dX12_round_81 h (fun r9 h => ?_)
  refine aL 114 73 72 69000 (fun _ _ _ _ => mG_114) (fun _ => rfl) X hw r9 dX12_round_82 rfl h (fun v10 rv10 h => ?_)
  refine lv_istore hx hb dX12_round_83 hl (by decide) rfl (fun ls hl => ?_)
  have hl : lv_has ls 7 [(4, .int (jI v10)), (0, .ref (h0)), (1, .int (jI x1)), (2, .int (jI x2)), (3, .int (jI x3))] := hl
  refine lv_aload_n hx hb dX12_round_85 rfl (lv_at hl 1 rfl) ?_
  refine gS 61 480 (by decide) L_61 (fun _ _ => mF_61) rfl X hw dX12_round_86 h (fun v11 rv11 h => ?_)
  refine k_if_ne hx hb rv11 dX12_round_89 (tgt := 102) rfl h (fun h => ?_) (fun h => ?_)
  · refine lv_iload hx hb dX12_round_102 (lv_at hl 0 rfl) ?_
    exact b_round_104 X hRf hRl hret hR4 rx1 rx2 rx3 rv10 rv10 hw (lv_sub hl [1, 2, 3, 4, 0] rfl) h
  · refine lv_aload_n hx hb dX12_round_92 rfl (lv_at hl 1 rfl) ?_
    refine lv_iload hx hb dX12_round_93 (lv_at hl 0 rfl) ?_
    refine lv_iconst hx hb dX12_round_95 (v := jI 1) rfl ?_
    refine kcI (n := 2) (c_rewritten rv10 (by decide) h) G_rewritten E_rewritten X hw (Nat.le_trans (Nat.le_of_ble_eq_true rfl) hRf) (Nat.le_trans (Nat.le_of_ble_eq_true rfl) hRl) rfl hl.1 (Nat.le_of_ble_eq_true rfl) rfl dX12_round_96 (fun v21 u H locs rv21 h hw => ?_)
    refine lv_goto hx hb dX12_round_99 (tgt := 104) rfl ?_
    exact b_round_104 X hRf hRl hret hR4 rx1 rx2 rx3 rv10 rv21 hw (lv_sub hl [1, 2, 3, 4, 0] rfl) h

def w_round_22b (R4 : Int → Int → Int → iST → Prop) (R22 : Int → Int → Int → Int → iST → Prop) (Q : iST → Prop) (x1 : Int) (x2 : Int) (x3 : Int) (x4 : Int) (u : iST) : Prop :=
  bd x1 2300 (rd (u.2.1 115 x1) (fun v7 => 
  br (v7 ≤ x4) (
    w_round_72 R4 Q x1 x2 x3 u) (
    rd (u.1 61) (fun v22 => 
    br (v22 ≠ 0) (
      w_round_72 R4 Q x1 x2 x3 u) (
      br (x4 = x3) (
        ov (x4 + 1) (
        R22 x1 x2 x3 (x4 + 1) u)) (
        ov (30 * x1) (
        ov ((30 * x1) + x4) (
        bd ((30 * x1) + x4) 69000 (rd (u.2.1 114 ((30 * x1) + x4)) (fun v26 => 
        w_notOf v26 (fun v27 u => 
        w_push v27 (fun u => 
        ov (x4 + 1) (
        R22 x1 x2 x3 (x4 + 1) u)) u) u))))))))))
def w_round_22 (R4 : Int → Int → Int → iST → Prop) (Q : iST → Prop) (x1 : Int) (x2 : Int) (x3 : Int) (x4 : Int) (u : iST) : Prop := ∀ R22 : Int → Int → Int → Int → iST → Prop, (∀ (x1 : Int) (x2 : Int) (x3 : Int) (x4 : Int) (u : iST), w_round_22b R4 R22 Q x1 x2 x3 x4 u → R22 x1 x2 x3 x4 u) → R22 x1 x2 x3 x4 u
set_option maxRecDepth 20000 in
set_option maxHeartbeats 4000000 in
theorem b_round_22 (X : kX p m c cX12_round 7 s args D ca) (hRf : 13 ≤ R.frames) (hRl : 304 ≤ R.locals) {Q : iST → Prop} (hret : ∀ (u : iST) (H : Heap) (locs : List Loc) (ls : Array Slot) (pc : Nat), Q u → kW D ca A h0 ad H0 H locs u → decode cX12_round pc = .ok (.return_, 1) → W p l e R s m args below meth c H locs 0 0 Qf (F0 m pc ls [])) {R4 : Int → Int → Int → iST → Prop} (hR4 : ∀ (x1 : Int) (x2 : Int) (x3 : Int) (u : iST) (H : Heap) (locs : List Loc) (ls : Array Slot), inR x1 → inR x2 → inR x3 → kW D ca A h0 ad H0 H locs u → lv_has ls 7 [(0, .ref h0), (1, .int (jI x1)), (2, .int (jI x2)), (3, .int (jI x3))] → R4 x1 x2 x3 u → W p l e R s m args below meth c H locs 0 0 Qf (F0 m 4 ls [])) {x1 x2 x3 x4 : Int} (rx1 : inR x1) (rx2 : inR x2) (rx3 : inR x3) (rx4 : inR x4) (hw : kW D ca A h0 ad H0 H locs u) (hl : lv_has ls 7 [(0, .ref h0), (1, .int (jI x1)), (2, .int (jI x2)), (3, .int (jI x3)), (4, .int (jI x4))]) (h : w_round_22 R4 Q x1 x2 x3 x4 u) : W p l e R s m args below meth c H locs 0 0 Qf (F0 m 22 ls []) := by
  refine h (fun x1 x2 x3 x4 u => ∀ (H : Heap) (locs : List Loc) (ls : Array Slot), inR x1 → inR x2 → inR x3 → inR x4 → kW D ca A h0 ad H0 H locs u → lv_has ls 7 [(0, .ref h0), (1, .int (jI x1)), (2, .int (jI x2)), (3, .int (jI x3)), (4, .int (jI x4))] → W p l e R s m args below meth c H locs 0 0 Qf (F0 m 22 ls [])) ?_ H locs ls rx1 rx2 rx3 rx4 hw hl
  clear h hl hw rx1 rx2 rx3 rx4
  intro x1 x2 x3 x4 u h H locs ls rx1 rx2 rx3 rx4 hw hl
  have hR22 : ∀ (x1 : Int) (x2 : Int) (x3 : Int) (x4 : Int) (u : iST) (H : Heap) (locs : List Loc) (ls : Array Slot), inR x1 → inR x2 → inR x3 → inR x4 → kW D ca A h0 ad H0 H locs u → lv_has ls 7 [(0, .ref h0), (1, .int (jI x1)), (2, .int (jI x2)), (3, .int (jI x3)), (4, .int (jI x4))] → (fun (x1 : Int) (x2 : Int) (x3 : Int) (x4 : Int) u => ∀ (H : Heap) (locs : List Loc) (ls : Array Slot), inR x1 → inR x2 → inR x3 → inR x4 → kW D ca A h0 ad H0 H locs u → lv_has ls 7 [(0, .ref h0), (1, .int (jI x1)), (2, .int (jI x2)), (3, .int (jI x3)), (4, .int (jI x4))] → W p l e R s m args below meth c H locs 0 0 Qf (F0 m 22 ls [])) x1 x2 x3 x4 u → W p l e R s m args below meth c H locs 0 0 Qf (F0 m 22 ls []) := fun x1 x2 x3 x4 u H locs ls rx1 rx2 rx3 rx4 hw hl h => h H locs ls rx1 rx2 rx3 rx4 hw hl
  have hx := X.1.1
  have hb := X.1.2.1
  unfold w_round_22b at h
  refine lv_iload hx hb dX12_round_22 (lv_at hl 4 rfl) ?_
  refine lv_aload_n hx hb dX12_round_24 rfl (lv_at hl 0 rfl) ?_
  refine gA 115 245 (by decide) L_115 (fun _ _ => mF_115) rfl X hw dX12_round_25 ?_
  refine lv_iload_n hx hb dX12_round_28 rfl (lv_at hl 1 rfl) ?_
  refine aL 115 74 73 2300 (fun _ _ _ _ => mG_115) (fun _ => rfl) X hw rx1 dX12_round_29 rfl h (fun v7 rv7 h => ?_)
  refine k_icmp_ge hx hb rx4 rv7 dX12_round_30 (tgt := 72) rfl h (fun h => ?_) (fun h => ?_)
  · exact b_round_72 X hRf hRl hret hR4 rx1 rx2 rx3 hw (lv_sub hl [0, 1, 2, 3] rfl) h
  · refine lv_aload_n hx hb dX12_round_33 rfl (lv_at hl 0 rfl) ?_
    refine gS 61 480 (by decide) L_61 (fun _ _ => mF_61) rfl X hw dX12_round_34 h (fun v22 rv22 h => ?_)
    refine k_if_ne hx hb rv22 dX12_round_37 (tgt := 72) rfl h (fun h => ?_) (fun h => ?_)
    · exact b_round_72 X hRf hRl hret hR4 rx1 rx2 rx3 hw (lv_sub hl [0, 1, 2, 3] rfl) h
    · refine lv_iload hx hb dX12_round_40 (lv_at hl 4 rfl) ?_
      refine lv_iload_n hx hb dX12_round_42 rfl (lv_at hl 3 rfl) ?_
      refine k_icmp_eq hx hb rx4 rx3 dX12_round_43 (tgt := 66) rfl h (fun h => ?_) (fun h => ?_)
      · refine k_iinc (k := 4) hx hb dX12_round_66 hl rfl (by decide) rfl h (fun ls r23 h hl => ?_)
        have hl : lv_has ls 7 [(4, .int (jI (x4 + 1))), (0, .ref (h0)), (1, .int (jI x1)), (2, .int (jI x2)), (3, .int (jI x3))] := hl
        refine lv_goto hx hb dX12_round_69 (tgt := 22) rfl ?_
        exact hR22 _ _ _ _ _ H locs ls rx1 rx2 rx3 r23 hw (lv_sub hl [1, 2, 3, 4, 0] rfl) h
      · refine lv_aload_n hx hb dX12_round_46 rfl (lv_at hl 0 rfl) ?_
        refine lv_aload_n hx hb dX12_round_47 rfl (lv_at hl 0 rfl) ?_
        refine lv_aload_n hx hb dX12_round_48 rfl (lv_at hl 0 rfl) ?_
        refine gA 114 242 (by decide) L_114 (fun _ _ => mF_114) rfl X hw dX12_round_49 ?_
        refine lv_bipush hx hb dX12_round_52 (v := jI 30) rfl ?_
        refine lv_iload_n hx hb dX12_round_54 rfl (lv_at hl 1 rfl) ?_
        refine k_imul hx hb dX12_round_55 h (fun r24 h => ?_)
        refine lv_iload hx hb dX12_round_56 (lv_at hl 4 rfl) ?_
        refine k_iadd hx hb dX12_round_58 h (fun r25 h => ?_)
        refine aL 114 73 72 69000 (fun _ _ _ _ => mG_114) (fun _ => rfl) X hw r25 dX12_round_59 rfl h (fun v26 rv26 h => ?_)
        refine kcI (n := 1) (c_notOf rv26 h) G_notOf E_notOf X hw (Nat.le_trans (Nat.le_of_ble_eq_true rfl) hRf) (Nat.le_trans (Nat.le_of_ble_eq_true rfl) hRl) rfl hl.1 (Nat.le_of_ble_eq_true rfl) rfl dX12_round_60 (fun v27 u H locs rv27 h hw => ?_)
        refine kcV (n := 1) (c_push rv27 h) G_push E_push X hw (Nat.le_trans (Nat.le_of_ble_eq_true rfl) hRf) (Nat.le_trans (Nat.le_of_ble_eq_true rfl) hRl) rfl hl.1 (Nat.le_of_ble_eq_true rfl) rfl dX12_round_63 (fun u H locs h hw => ?_)
        refine k_iinc (k := 4) hx hb dX12_round_66 hl rfl (by decide) rfl h (fun ls r29 h hl => ?_)
        have hl : lv_has ls 7 [(4, .int (jI (x4 + 1))), (0, .ref (h0)), (1, .int (jI x1)), (2, .int (jI x2)), (3, .int (jI x3))] := hl
        refine lv_goto hx hb dX12_round_69 (tgt := 22) rfl ?_
        exact hR22 _ _ _ _ _ H locs ls rx1 rx2 rx3 r29 hw (lv_sub hl [1, 2, 3, 4, 0] rfl) h

def w_round_4b (R4 : Int → Int → Int → iST → Prop) (Q : iST → Prop) (x1 : Int) (x2 : Int) (x3 : Int) (u : iST) : Prop :=
  bd x1 2300 (rd (u.2.1 115 x1) (fun v1 => 
  br (v1 ≤ x3) (
    bd x1 2300 (rd (u.2.1 116 x1) (fun v2 => 
    ov (v2 + 1) (
    bd x1 2300 (sw (iA u 116 x1 (v2 + 1)) (fun u => 
    br (x2 ≠ 0) (
      w_together x1 (fun v4 u => 
      br (v4 ≤ 400) (
        Q u) (
        w_fail 4 (fun u => 
        Q u) u)) u) (
      w_leave x1 (fun u => 
      Q u) u))))))) (
    sw (iI u 109 0) (fun u => 
    w_round_22 R4 Q x1 x2 x3 0 u))))
def w_round_4 (Q : iST → Prop) (x1 : Int) (x2 : Int) (x3 : Int) (u : iST) : Prop := ∀ R4 : Int → Int → Int → iST → Prop, (∀ (x1 : Int) (x2 : Int) (x3 : Int) (u : iST), w_round_4b R4 Q x1 x2 x3 u → R4 x1 x2 x3 u) → R4 x1 x2 x3 u
set_option maxRecDepth 20000 in
set_option maxHeartbeats 4000000 in
theorem b_round_4 (X : kX p m c cX12_round 7 s args D ca) (hRf : 13 ≤ R.frames) (hRl : 304 ≤ R.locals) {Q : iST → Prop} (hret : ∀ (u : iST) (H : Heap) (locs : List Loc) (ls : Array Slot) (pc : Nat), Q u → kW D ca A h0 ad H0 H locs u → decode cX12_round pc = .ok (.return_, 1) → W p l e R s m args below meth c H locs 0 0 Qf (F0 m pc ls [])) {x1 x2 x3 : Int} (rx1 : inR x1) (rx2 : inR x2) (rx3 : inR x3) (hw : kW D ca A h0 ad H0 H locs u) (hl : lv_has ls 7 [(0, .ref h0), (1, .int (jI x1)), (2, .int (jI x2)), (3, .int (jI x3))]) (h : w_round_4 Q x1 x2 x3 u) : W p l e R s m args below meth c H locs 0 0 Qf (F0 m 4 ls []) := by
  refine h (fun x1 x2 x3 u => ∀ (H : Heap) (locs : List Loc) (ls : Array Slot), inR x1 → inR x2 → inR x3 → kW D ca A h0 ad H0 H locs u → lv_has ls 7 [(0, .ref h0), (1, .int (jI x1)), (2, .int (jI x2)), (3, .int (jI x3))] → W p l e R s m args below meth c H locs 0 0 Qf (F0 m 4 ls [])) ?_ H locs ls rx1 rx2 rx3 hw hl
  clear h hl hw rx1 rx2 rx3
  intro x1 x2 x3 u h H locs ls rx1 rx2 rx3 hw hl
  have hR4 : ∀ (x1 : Int) (x2 : Int) (x3 : Int) (u : iST) (H : Heap) (locs : List Loc) (ls : Array Slot), inR x1 → inR x2 → inR x3 → kW D ca A h0 ad H0 H locs u → lv_has ls 7 [(0, .ref h0), (1, .int (jI x1)), (2, .int (jI x2)), (3, .int (jI x3))] → (fun (x1 : Int) (x2 : Int) (x3 : Int) u => ∀ (H : Heap) (locs : List Loc) (ls : Array Slot), inR x1 → inR x2 → inR x3 → kW D ca A h0 ad H0 H locs u → lv_has ls 7 [(0, .ref h0), (1, .int (jI x1)), (2, .int (jI x2)), (3, .int (jI x3))] → W p l e R s m args below meth c H locs 0 0 Qf (F0 m 4 ls [])) x1 x2 x3 u → W p l e R s m args below meth c H locs 0 0 Qf (F0 m 4 ls []) := fun x1 x2 x3 u H locs ls rx1 rx2 rx3 hw hl h => h H locs ls rx1 rx2 rx3 hw hl
  have hx := X.1.1
  have hb := X.1.2.1
  unfold w_round_4b at h
  refine lv_iload_n hx hb dX12_round_4 rfl (lv_at hl 3 rfl) ?_
  refine lv_aload_n hx hb dX12_round_5 rfl (lv_at hl 0 rfl) ?_
  refine gA 115 245 (by decide) L_115 (fun _ _ => mF_115) rfl X hw dX12_round_6 ?_
  refine lv_iload_n hx hb dX12_round_9 rfl (lv_at hl 1 rfl) ?_
  refine aL 115 74 73 2300 (fun _ _ _ _ => mG_115) (fun _ => rfl) X hw rx1 dX12_round_10 rfl h (fun v1 rv1 h => ?_)
  refine k_icmp_ge hx hb rx3 rv1 dX12_round_11 (tgt := 224) rfl h (fun h => ?_) (fun h => ?_)
  · refine lv_aload_n hx hb dX12_round_224 rfl (lv_at hl 0 rfl) ?_
    refine gA 116 248 (by decide) L_116 (fun _ _ => mF_116) rfl X hw dX12_round_225 ?_
    refine lv_iload_n hx hb dX12_round_228 rfl (lv_at hl 1 rfl) ?_
    refine lv_dup2_11 hx hb dX12_round_229 rfl rfl ?_
    refine aL 116 75 74 2300 (fun _ _ _ _ => mG_116) (fun _ => rfl) X hw rx1 dX12_round_230 rfl h (fun v2 rv2 h => ?_)
    refine lv_iconst hx hb dX12_round_231 (v := jI 1) rfl ?_
    refine k_iadd hx hb dX12_round_232 h (fun r3 h => ?_)
    refine aS 116 75 74 2300 (fun _ _ _ _ => mG_116) (fun _ => rfl) (fun _ _ _ _ _ _ => mSA_116) (by decide) X hw rx1 r3 dX12_round_233 rfl h (fun H locs u hw h => ?_)
    refine lv_iload_n hx hb dX12_round_234 rfl (lv_at hl 2 rfl) ?_
    refine k_if_ne hx hb rx2 dX12_round_235 (tgt := 246) rfl h (fun h => ?_) (fun h => ?_)
    · refine lv_aload_n hx hb dX12_round_246 rfl (lv_at hl 0 rfl) ?_
      refine lv_iload_n hx hb dX12_round_247 rfl (lv_at hl 1 rfl) ?_
      refine kcI (n := 1) (c_together rx1 h) G_together E_together X hw (Nat.le_trans (Nat.le_of_ble_eq_true rfl) hRf) (Nat.le_trans (Nat.le_of_ble_eq_true rfl) hRl) rfl hl.1 (Nat.le_of_ble_eq_true rfl) rfl dX12_round_248 (fun v4 u H locs rv4 h hw => ?_)
      refine lv_sipush hx hb dX12_round_251 (v := jI 400) rfl ?_
      refine k_icmp_le hx hb rv4 (by decide) dX12_round_254 (tgt := 262) rfl h (fun h => ?_) (fun h => ?_)
      · exact hret _ _ _ _ _ h hw dX12_round_262
      · refine lv_aload_n hx hb dX12_round_257 rfl (lv_at hl 0 rfl) ?_
        refine lv_iconst hx hb dX12_round_258 (v := jI 4) rfl ?_
        refine kcV (n := 1) (c_fail (by decide) h) G_fail E_fail X hw (Nat.le_trans (Nat.le_of_ble_eq_true rfl) hRf) (Nat.le_trans (Nat.le_of_ble_eq_true rfl) hRl) rfl hl.1 (Nat.le_of_ble_eq_true rfl) rfl dX12_round_259 (fun u H locs h hw => ?_)
        exact hret _ _ _ _ _ h hw dX12_round_262
    · refine lv_aload_n hx hb dX12_round_238 rfl (lv_at hl 0 rfl) ?_
      refine lv_iload_n hx hb dX12_round_239 rfl (lv_at hl 1 rfl) ?_
      refine kcV (n := 1) (c_leave rx1 h) G_leave E_leave X hw (Nat.le_trans (Nat.le_of_ble_eq_true rfl) hRf) (Nat.le_trans (Nat.le_of_ble_eq_true rfl) hRl) rfl hl.1 (Nat.le_of_ble_eq_true rfl) rfl dX12_round_240 (fun u H locs h hw => ?_)
      refine lv_goto hx hb dX12_round_243 (tgt := 262) rfl ?_
      exact hret _ _ _ _ _ h hw dX12_round_262
  · refine lv_aload_n hx hb dX12_round_14 rfl (lv_at hl 0 rfl) ?_
    refine lv_iconst hx hb dX12_round_15 (v := jI 0) rfl ?_
    refine pS 109 625 (by decide) L_109 rfl rfl rfl (fun _ _ _ _ _ => mSI_109) (by decide) X hw (by decide) dX12_round_16 h (fun H locs u hw h => ?_)
    refine lv_iconst hx hb dX12_round_19 (v := jI 0) rfl ?_
    refine lv_istore hx hb dX12_round_20 hl (by decide) rfl (fun ls hl => ?_)
    have hl : lv_has ls 7 [(4, .int (jI 0)), (0, .ref (h0)), (1, .int (jI x1)), (2, .int (jI x2)), (3, .int (jI x3))] := hl
    exact b_round_22 X hRf hRl hret hR4 rx1 rx2 rx3 (by decide) hw (lv_sub hl [1, 2, 3, 4, 0] rfl) h

def w_round (a0 : Int) (Q : iST → Prop) (u : iST) : Prop :=
  w_round_4 Q a0 0 0 u
set_option maxRecDepth 20000 in
set_option maxHeartbeats 4000000 in
theorem b_round_s (X : kX p m c cX12_round 7 s args D ca) (hRf : 13 ≤ R.frames) (hRl : 304 ≤ R.locals) {Q : iST → Prop} (hret : ∀ (u : iST) (H : Heap) (locs : List Loc) (ls : Array Slot) (pc : Nat), Q u → kW D ca A h0 ad H0 H locs u → decode cX12_round pc = .ok (.return_, 1) → W p l e R s m args below meth c H locs 0 0 Qf (F0 m pc ls [])) {a0 : Int} (ra0 : inR a0) (hw : kW D ca A h0 ad H0 H locs u) (hl : lv_has ls 7 [(0, .ref h0), (1, .int (jI a0))]) (h : w_round a0 Q u) : W p l e R s m args below meth c H locs 0 0 Qf (F0 m 0 ls []) := by
  have hx := X.1.1
  have hb := X.1.2.1
  unfold w_round at h
  refine lv_iconst hx hb dX12_round_0 (v := jI 0) rfl ?_
  refine lv_istore_n hx hb dX12_round_1 rfl hl (by decide) rfl (fun ls hl => ?_)
  have hl : lv_has ls 7 [(2, .int (jI 0)), (0, .ref (h0)), (1, .int (jI a0))] := hl
  refine lv_iconst hx hb dX12_round_2 (v := jI 0) rfl ?_
  refine lv_istore_n hx hb dX12_round_3 rfl hl (by decide) rfl (fun ls hl => ?_)
  have hl : lv_has ls 7 [(3, .int (jI 0)), (2, .int (jI 0)), (0, .ref (h0)), (1, .int (jI a0))] := hl
  exact b_round_4 X hRf hRl hret ra0 (by decide) (by decide) hw (lv_sub hl [2, 3, 1, 0] rfl) h

end
theorem c_round {l : Launch} {a0 : Int} (ra0 : inR a0) {Q : iST → Prop} {u : iST} (h : w_round a0 Q u) : kMV l yX12_round (.code yX12_round cX12_round 7 none :: wsM) { frames := 13, cells := 0, slots := 0, locals := 304 } [.int (jI a0)] Q u := kMV_of rfl (fun _ => Nat.le_of_ble_eq_true rfl) (fun X hRf hRl hret hw hl => b_round_s X hRf hRl hret ra0 hw hl h)
