/-! hypotheses -/
theorem dX12_hypotheses_0 : decode cX12_hypotheses 0 = .ok (.iconst 1, 1) := by decide +kernel
theorem dX12_hypotheses_1 : decode cX12_hypotheses 1 = .ok (.istore_n 3, 1) := by decide +kernel
theorem dX12_hypotheses_2 : decode cX12_hypotheses 2 = .ok (.aload_n 0, 1) := by decide +kernel
theorem dX12_hypotheses_3 : decode cX12_hypotheses 3 = .ok (.getfield 235, 3) := by decide +kernel
theorem dX12_hypotheses_6 : decode cX12_hypotheses 6 = .ok (.iconst 0, 1) := by decide +kernel
theorem dX12_hypotheses_7 : decode cX12_hypotheses 7 = .ok (.iload_n 2, 1) := by decide +kernel
theorem dX12_hypotheses_8 : decode cX12_hypotheses 8 = .ok (.iastore, 1) := by decide +kernel
theorem dX12_hypotheses_9 : decode cX12_hypotheses 9 = .ok (.iload_n 3, 1) := by decide +kernel
theorem dX12_hypotheses_10 : decode cX12_hypotheses 10 = .ok (.ifCond .le 99, 3) := by decide +kernel
theorem dX12_hypotheses_13 : decode cX12_hypotheses 13 = .ok (.iinc 3 (-1), 3) := by decide +kernel
theorem dX12_hypotheses_16 : decode cX12_hypotheses 16 = .ok (.aload_n 0, 1) := by decide +kernel
theorem dX12_hypotheses_17 : decode cX12_hypotheses 17 = .ok (.getfield 235, 3) := by decide +kernel
theorem dX12_hypotheses_20 : decode cX12_hypotheses 20 = .ok (.iload_n 3, 1) := by decide +kernel
theorem dX12_hypotheses_21 : decode cX12_hypotheses 21 = .ok (.iaload, 1) := by decide +kernel
theorem dX12_hypotheses_22 : decode cX12_hypotheses 22 = .ok (.istore 4, 2) := by decide +kernel
theorem dX12_hypotheses_24 : decode cX12_hypotheses 24 = .ok (.aload_n 0, 1) := by decide +kernel
theorem dX12_hypotheses_25 : decode cX12_hypotheses 25 = .ok (.iload 4, 2) := by decide +kernel
theorem dX12_hypotheses_27 : decode cX12_hypotheses 27 = .ok (.iconst 3, 1) := by decide +kernel
theorem dX12_hypotheses_28 : decode cX12_hypotheses 28 = .ok (.invokevirtual 542, 3) := by decide +kernel
theorem dX12_hypotheses_31 : decode cX12_hypotheses 31 = .ok (.ifCond .eq 47, 3) := by decide +kernel
theorem dX12_hypotheses_34 : decode cX12_hypotheses 34 = .ok (.aload_n 0, 1) := by decide +kernel
theorem dX12_hypotheses_35 : decode cX12_hypotheses 35 = .ok (.iload 4, 2) := by decide +kernel
theorem dX12_hypotheses_37 : decode cX12_hypotheses 37 = .ok (.iconst 3, 1) := by decide +kernel
theorem dX12_hypotheses_38 : decode cX12_hypotheses 38 = .ok (.invokevirtual 592, 3) := by decide +kernel
theorem dX12_hypotheses_41 : decode cX12_hypotheses 41 = .ok (.ifCond .ne 37, 3) := by decide +kernel
theorem dX12_hypotheses_44 : decode cX12_hypotheses 44 = .ok (.aload_n 0, 1) := by decide +kernel
theorem dX12_hypotheses_45 : decode cX12_hypotheses 45 = .ok (.getfield 235, 3) := by decide +kernel
theorem dX12_hypotheses_48 : decode cX12_hypotheses 48 = .ok (.iload_n 3, 1) := by decide +kernel
theorem dX12_hypotheses_49 : decode cX12_hypotheses 49 = .ok (.aload_n 0, 1) := by decide +kernel
theorem dX12_hypotheses_50 : decode cX12_hypotheses 50 = .ok (.iload 4, 2) := by decide +kernel
theorem dX12_hypotheses_52 : decode cX12_hypotheses 52 = .ok (.iconst 2, 1) := by decide +kernel
theorem dX12_hypotheses_53 : decode cX12_hypotheses 53 = .ok (.invokevirtual 592, 3) := by decide +kernel
theorem dX12_hypotheses_56 : decode cX12_hypotheses 56 = .ok (.iastore, 1) := by decide +kernel
theorem dX12_hypotheses_57 : decode cX12_hypotheses 57 = .ok (.aload_n 0, 1) := by decide +kernel
theorem dX12_hypotheses_58 : decode cX12_hypotheses 58 = .ok (.getfield 235, 3) := by decide +kernel
theorem dX12_hypotheses_61 : decode cX12_hypotheses 61 = .ok (.iload_n 3, 1) := by decide +kernel
theorem dX12_hypotheses_62 : decode cX12_hypotheses 62 = .ok (.iconst 1, 1) := by decide +kernel
theorem dX12_hypotheses_63 : decode cX12_hypotheses 63 = .ok (.iadd, 1) := by decide +kernel
theorem dX12_hypotheses_64 : decode cX12_hypotheses 64 = .ok (.aload_n 0, 1) := by decide +kernel
theorem dX12_hypotheses_65 : decode cX12_hypotheses 65 = .ok (.iload 4, 2) := by decide +kernel
theorem dX12_hypotheses_67 : decode cX12_hypotheses 67 = .ok (.iconst 1, 1) := by decide +kernel
theorem dX12_hypotheses_68 : decode cX12_hypotheses 68 = .ok (.invokevirtual 592, 3) := by decide +kernel
theorem dX12_hypotheses_71 : decode cX12_hypotheses 71 = .ok (.iastore, 1) := by decide +kernel
theorem dX12_hypotheses_72 : decode cX12_hypotheses 72 = .ok (.iinc 3 2, 3) := by decide +kernel
theorem dX12_hypotheses_75 : decode cX12_hypotheses 75 = .ok (.goto 31, 3) := by decide +kernel
theorem dX12_hypotheses_78 : decode cX12_hypotheses 78 = .ok (.aload_n 0, 1) := by decide +kernel
theorem dX12_hypotheses_79 : decode cX12_hypotheses 79 = .ok (.getfield 115, 3) := by decide +kernel
theorem dX12_hypotheses_82 : decode cX12_hypotheses 82 = .ok (.bipush 120, 2) := by decide +kernel
theorem dX12_hypotheses_84 : decode cX12_hypotheses 84 = .ok (.iload_n 1, 1) := by decide +kernel
theorem dX12_hypotheses_85 : decode cX12_hypotheses 85 = .ok (.imul, 1) := by decide +kernel
theorem dX12_hypotheses_86 : decode cX12_hypotheses 86 = .ok (.aload_n 0, 1) := by decide +kernel
theorem dX12_hypotheses_87 : decode cX12_hypotheses 87 = .ok (.getfield 112, 3) := by decide +kernel
theorem dX12_hypotheses_90 : decode cX12_hypotheses 90 = .ok (.iload_n 1, 1) := by decide +kernel
theorem dX12_hypotheses_91 : decode cX12_hypotheses 91 = .ok (.iaload, 1) := by decide +kernel
theorem dX12_hypotheses_92 : decode cX12_hypotheses 92 = .ok (.iadd, 1) := by decide +kernel
theorem dX12_hypotheses_93 : decode cX12_hypotheses 93 = .ok (.iload 4, 2) := by decide +kernel
theorem dX12_hypotheses_95 : decode cX12_hypotheses 95 = .ok (.iastore, 1) := by decide +kernel
theorem dX12_hypotheses_96 : decode cX12_hypotheses 96 = .ok (.aload_n 0, 1) := by decide +kernel
theorem dX12_hypotheses_97 : decode cX12_hypotheses 97 = .ok (.getfield 112, 3) := by decide +kernel
theorem dX12_hypotheses_100 : decode cX12_hypotheses 100 = .ok (.iload_n 1, 1) := by decide +kernel
theorem dX12_hypotheses_101 : decode cX12_hypotheses 101 = .ok (.dup2, 1) := by decide +kernel
theorem dX12_hypotheses_102 : decode cX12_hypotheses 102 = .ok (.iaload, 1) := by decide +kernel
theorem dX12_hypotheses_103 : decode cX12_hypotheses 103 = .ok (.iconst 1, 1) := by decide +kernel
theorem dX12_hypotheses_104 : decode cX12_hypotheses 104 = .ok (.iadd, 1) := by decide +kernel
theorem dX12_hypotheses_105 : decode cX12_hypotheses 105 = .ok (.iastore, 1) := by decide +kernel
theorem dX12_hypotheses_106 : decode cX12_hypotheses 106 = .ok (.goto (-97), 3) := by decide +kernel
theorem dX12_hypotheses_109 : decode cX12_hypotheses 109 = .ok (.return_, 1) := by decide +kernel

section
variable {p : Program} {l : Launch} {e : Env} {R : Room} {s : State} {m : MethodId} {args : Array Value} {below : List Frame} {meth : Method} {c : Code} {H : Heap} {locs : List Loc} {Qf : State → Prop}
variable {ls : Array Slot} {D : va_G} {ca : Nat → ClassId} {A : Nat → Prop} {h0 : Nat} {ad : Nat → Nat} {H0 : Heap} {u : iST}
def w_hypotheses_78 (R9 : Int → Int → iST → Prop) (Q : iST → Prop) (x1 : Int) (x3 : Int) (x4 : Int) (u : iST) : Prop :=
  ov (120 * x1) (
  bd x1 60 (rd (u.2.1 48 x1) (fun v5 => 
  ov ((120 * x1) + v5) (
  bd ((120 * x1) + v5) 7200 (sw (iA u 49 ((120 * x1) + v5) x4) (fun u => 
  bd x1 60 (rd (u.2.1 48 x1) (fun v7 => 
  ov (v7 + 1) (
  bd x1 60 (sw (iA u 48 x1 (v7 + 1)) (fun u => 
  R9 x1 x3 u)))))))))))
set_option maxRecDepth 20000 in
set_option maxHeartbeats 4000000 in
theorem b_hypotheses_78 (X : kX p m c cX12_hypotheses 5 s args D ca) (hRf : 2 ≤ R.frames) (hRl : 46 ≤ R.locals) {Q : iST → Prop} (hret : ∀ (u : iST) (H : Heap) (locs : List Loc) (ls : Array Slot) (pc : Nat), Q u → kW D ca A h0 ad H0 H locs u → decode cX12_hypotheses pc = .ok (.return_, 1) → W p l e R s m args below meth c H locs 0 0 Qf (F0 m pc ls [])) {R9 : Int → Int → iST → Prop} (hR9 : ∀ (x1 : Int) (x3 : Int) (u : iST) (H : Heap) (locs : List Loc) (ls : Array Slot), inR x1 → inR x3 → kW D ca A h0 ad H0 H locs u → lv_has ls 5 [(0, .ref h0), (1, .int (jI x1)), (3, .int (jI x3))] → R9 x1 x3 u → W p l e R s m args below meth c H locs 0 0 Qf (F0 m 9 ls [])) {x1 x3 x4 : Int} (rx1 : inR x1) (rx3 : inR x3) (rx4 : inR x4) (hw : kW D ca A h0 ad H0 H locs u) (hl : lv_has ls 5 [(0, .ref h0), (1, .int (jI x1)), (3, .int (jI x3)), (4, .int (jI x4))]) (h : w_hypotheses_78 R9 Q x1 x3 x4 u) : W p l e R s m args below meth c H locs 0 0 Qf (F0 m 78 ls []) := by
  have hx := X.1.1
  have hb := X.1.2.1
  unfold w_hypotheses_78 at h
  refine lv_aload_n hx hb dX12_hypotheses_78 rfl (lv_at hl 0 rfl) ?_
  refine gA 49 115 (by decide) L_49 (fun _ _ => mF_49) rfl X hw dX12_hypotheses_79 ?_
  refine lv_bipush hx hb dX12_hypotheses_82 (v := jI 120) rfl ?_
  refine lv_iload_n hx hb dX12_hypotheses_84 rfl (lv_at hl 1 rfl) ?_
  refine k_imul hx hb dX12_hypotheses_85 h (fun r4 h => ?_)
  refine lv_aload_n hx hb dX12_hypotheses_86 rfl (lv_at hl 0 rfl) ?_
  refine gA 48 112 (by decide) L_48 (fun _ _ => mF_48) rfl X hw dX12_hypotheses_87 ?_
  refine lv_iload_n hx hb dX12_hypotheses_90 rfl (lv_at hl 1 rfl) ?_
  refine aL 48 32 31 60 (fun _ _ _ _ => mG_48) (fun _ => rfl) X hw rx1 dX12_hypotheses_91 rfl h (fun v5 rv5 h => ?_)
  refine k_iadd hx hb dX12_hypotheses_92 h (fun r6 h => ?_)
  refine lv_iload hx hb dX12_hypotheses_93 (lv_at hl 3 rfl) ?_
  refine aS 49 33 32 7200 (fun _ _ _ _ => mG_49) (fun _ => rfl) (fun _ _ _ _ _ _ => mSA_49) (by decide) X hw r6 rx4 dX12_hypotheses_95 rfl h (fun H locs u hw h => ?_)
  refine lv_aload_n hx hb dX12_hypotheses_96 rfl (lv_at hl 0 rfl) ?_
  refine gA 48 112 (by decide) L_48 (fun _ _ => mF_48) rfl X hw dX12_hypotheses_97 ?_
  refine lv_iload_n hx hb dX12_hypotheses_100 rfl (lv_at hl 1 rfl) ?_
  refine lv_dup2_11 hx hb dX12_hypotheses_101 rfl rfl ?_
  refine aL 48 32 31 60 (fun _ _ _ _ => mG_48) (fun _ => rfl) X hw rx1 dX12_hypotheses_102 rfl h (fun v7 rv7 h => ?_)
  refine lv_iconst hx hb dX12_hypotheses_103 (v := jI 1) rfl ?_
  refine k_iadd hx hb dX12_hypotheses_104 h (fun r8 h => ?_)
  refine aS 48 32 31 60 (fun _ _ _ _ => mG_48) (fun _ => rfl) (fun _ _ _ _ _ _ => mSA_48) (by decide) X hw rx1 r8 dX12_hypotheses_105 rfl h (fun H locs u hw h => ?_)
  refine lv_goto hx hb dX12_hypotheses_106 (tgt := 9) rfl ?_
  exact hR9 _ _ _ H locs ls rx1 rx3 hw (lv_sub hl [0, 1, 2] rfl) h

def w_hypotheses_9b (R9 : Int → Int → iST → Prop) (Q : iST → Prop) (x1 : Int) (x3 : Int) (u : iST) : Prop :=
  br (x3 ≤ 0) (
    Q u) (
    ov (x3 + (-1)) (
    bd (x3 + (-1)) 800 (rd (u.2.1 112 (x3 + (-1))) (fun v2 => 
    w_isCallOf v2 3 (fun v3 u => 
    br (v3 = 0) (
      w_hypotheses_78 R9 Q x1 (x3 + (-1)) v2 u) (
      w_term v2 3 (fun v9 u => 
      br (v9 ≠ 0) (
        w_hypotheses_78 R9 Q x1 (x3 + (-1)) v2 u) (
        w_term v2 2 (fun v10 u => 
        bd (x3 + (-1)) 800 (sw (iA u 112 (x3 + (-1)) v10) (fun u => 
        ov ((x3 + (-1)) + 1) (
        w_term v2 1 (fun v12 u => 
        bd ((x3 + (-1)) + 1) 800 (sw (iA u 112 ((x3 + (-1)) + 1) v12) (fun u => 
        ov ((x3 + (-1)) + 2) (
        R9 x1 ((x3 + (-1)) + 2) u)))) u)))) u)) u)) u))))
def w_hypotheses_9 (Q : iST → Prop) (x1 : Int) (x3 : Int) (u : iST) : Prop := ∀ R9 : Int → Int → iST → Prop, (∀ (x1 : Int) (x3 : Int) (u : iST), w_hypotheses_9b R9 Q x1 x3 u → R9 x1 x3 u) → R9 x1 x3 u
set_option maxRecDepth 20000 in
set_option maxHeartbeats 4000000 in
theorem b_hypotheses_9 (X : kX p m c cX12_hypotheses 5 s args D ca) (hRf : 2 ≤ R.frames) (hRl : 46 ≤ R.locals) {Q : iST → Prop} (hret : ∀ (u : iST) (H : Heap) (locs : List Loc) (ls : Array Slot) (pc : Nat), Q u → kW D ca A h0 ad H0 H locs u → decode cX12_hypotheses pc = .ok (.return_, 1) → W p l e R s m args below meth c H locs 0 0 Qf (F0 m pc ls [])) {x1 x3 : Int} (rx1 : inR x1) (rx3 : inR x3) (hw : kW D ca A h0 ad H0 H locs u) (hl : lv_has ls 5 [(0, .ref h0), (1, .int (jI x1)), (3, .int (jI x3))]) (h : w_hypotheses_9 Q x1 x3 u) : W p l e R s m args below meth c H locs 0 0 Qf (F0 m 9 ls []) := by
  refine h (fun x1 x3 u => ∀ (H : Heap) (locs : List Loc) (ls : Array Slot), inR x1 → inR x3 → kW D ca A h0 ad H0 H locs u → lv_has ls 5 [(0, .ref h0), (1, .int (jI x1)), (3, .int (jI x3))] → W p l e R s m args below meth c H locs 0 0 Qf (F0 m 9 ls [])) ?_ H locs ls rx1 rx3 hw hl
  clear h hl hw rx1 rx3
  intro x1 x3 u h H locs ls rx1 rx3 hw hl
  have hR9 : ∀ (x1 : Int) (x3 : Int) (u : iST) (H : Heap) (locs : List Loc) (ls : Array Slot), inR x1 → inR x3 → kW D ca A h0 ad H0 H locs u → lv_has ls 5 [(0, .ref h0), (1, .int (jI x1)), (3, .int (jI x3))] → (fun (x1 : Int) (x3 : Int) u => ∀ (H : Heap) (locs : List Loc) (ls : Array Slot), inR x1 → inR x3 → kW D ca A h0 ad H0 H locs u → lv_has ls 5 [(0, .ref h0), (1, .int (jI x1)), (3, .int (jI x3))] → W p l e R s m args below meth c H locs 0 0 Qf (F0 m 9 ls [])) x1 x3 u → W p l e R s m args below meth c H locs 0 0 Qf (F0 m 9 ls []) := fun x1 x3 u H locs ls rx1 rx3 hw hl h => h H locs ls rx1 rx3 hw hl
  have hx := X.1.1
  have hb := X.1.2.1
  unfold w_hypotheses_9b at h
  refine lv_iload_n hx hb dX12_hypotheses_9 rfl (lv_at hl 2 rfl) ?_
  refine k_if_le hx hb rx3 dX12_hypotheses_10 (tgt := 109) rfl h (fun h => ?_) (fun h => ?_)
  · exact hret _ _ _ _ _ h hw dX12_hypotheses_109
  · refine k_iinc (k := 2) hx hb dX12_hypotheses_13 hl rfl (by decide) rfl h (fun ls r1 h hl => ?_)
    have hl : lv_has ls 5 [(3, .int (jI (x3 + (-1)))), (0, .ref (h0)), (1, .int (jI x1))] := hl
    refine lv_aload_n hx hb dX12_hypotheses_16 rfl (lv_at hl 1 rfl) ?_
    refine gA 112 235 (by decide) L_112 (fun _ _ => mF_112) rfl X hw dX12_hypotheses_17 ?_
    refine lv_iload_n hx hb dX12_hypotheses_20 rfl (lv_at hl 0 rfl) ?_
    refine aL 112 71 70 800 (fun _ _ _ _ => mG_112) (fun _ => rfl) X hw r1 dX12_hypotheses_21 rfl h (fun v2 rv2 h => ?_)
    refine lv_istore hx hb dX12_hypotheses_22 hl (by decide) rfl (fun ls hl => ?_)
    have hl : lv_has ls 5 [(4, .int (jI v2)), (3, .int (jI (x3 + (-1)))), (0, .ref (h0)), (1, .int (jI x1))] := hl
    refine lv_aload_n hx hb dX12_hypotheses_24 rfl (lv_at hl 2 rfl) ?_
    refine lv_iload hx hb dX12_hypotheses_25 (lv_at hl 0 rfl) ?_
    refine lv_iconst hx hb dX12_hypotheses_27 (v := jI 3) rfl ?_
    refine kcI (n := 2) (c_isCallOf rv2 (by decide) h) G_isCallOf E_isCallOf X hw (Nat.le_trans (Nat.le_of_ble_eq_true rfl) hRf) (Nat.le_trans (Nat.le_of_ble_eq_true rfl) hRl) rfl hl.1 (Nat.le_of_ble_eq_true rfl) rfl dX12_hypotheses_28 (fun v3 u H locs rv3 h hw => ?_)
    refine k_if_eq hx hb rv3 dX12_hypotheses_31 (tgt := 78) rfl h (fun h => ?_) (fun h => ?_)
    · exact b_hypotheses_78 X hRf hRl hret hR9 rx1 r1 rv2 hw (lv_sub hl [2, 3, 1, 0] rfl) h
    · refine lv_aload_n hx hb dX12_hypotheses_34 rfl (lv_at hl 2 rfl) ?_
      refine lv_iload hx hb dX12_hypotheses_35 (lv_at hl 0 rfl) ?_
      refine lv_iconst hx hb dX12_hypotheses_37 (v := jI 3) rfl ?_
      refine kcI (n := 2) (c_term rv2 (by decide) h) G_term E_term X hw (Nat.le_trans (Nat.le_of_ble_eq_true rfl) hRf) (Nat.le_trans (Nat.le_of_ble_eq_true rfl) hRl) rfl hl.1 (Nat.le_of_ble_eq_true rfl) rfl dX12_hypotheses_38 (fun v9 u H locs rv9 h hw => ?_)
      refine k_if_ne hx hb rv9 dX12_hypotheses_41 (tgt := 78) rfl h (fun h => ?_) (fun h => ?_)
      · exact b_hypotheses_78 X hRf hRl hret hR9 rx1 r1 rv2 hw (lv_sub hl [2, 3, 1, 0] rfl) h
      · refine lv_aload_n hx hb dX12_hypotheses_44 rfl (lv_at hl 2 rfl) ?_
        refine gA 112 235 (by decide) L_112 (fun _ _ => mF_112) rfl X hw dX12_hypotheses_45 ?_
        refine lv_iload_n hx hb dX12_hypotheses_48 rfl (lv_at hl 1 rfl) ?_
        refine lv_aload_n hx hb dX12_hypotheses_49 rfl (lv_at hl 2 rfl) ?_
        refine lv_iload hx hb dX12_hypotheses_50 (lv_at hl 0 rfl) ?_
        refine lv_iconst hx hb dX12_hypotheses_52 (v := jI 2) rfl ?_
        refine kcI (n := 2) (c_term rv2 (by decide) h) G_term E_term X hw (Nat.le_trans (Nat.le_of_ble_eq_true rfl) hRf) (Nat.le_trans (Nat.le_of_ble_eq_true rfl) hRl) rfl hl.1 (Nat.le_of_ble_eq_true rfl) rfl dX12_hypotheses_53 (fun v10 u H locs rv10 h hw => ?_)
        refine aS 112 71 70 800 (fun _ _ _ _ => mG_112) (fun _ => rfl) (fun _ _ _ _ _ _ => mSA_112) (by decide) X hw r1 rv10 dX12_hypotheses_56 rfl h (fun H locs u hw h => ?_)
        refine lv_aload_n hx hb dX12_hypotheses_57 rfl (lv_at hl 2 rfl) ?_
        refine gA 112 235 (by decide) L_112 (fun _ _ => mF_112) rfl X hw dX12_hypotheses_58 ?_
        refine lv_iload_n hx hb dX12_hypotheses_61 rfl (lv_at hl 1 rfl) ?_
        refine lv_iconst hx hb dX12_hypotheses_62 (v := jI 1) rfl ?_
        refine k_iadd hx hb dX12_hypotheses_63 h (fun r11 h => ?_)
        refine lv_aload_n hx hb dX12_hypotheses_64 rfl (lv_at hl 2 rfl) ?_
        refine lv_iload hx hb dX12_hypotheses_65 (lv_at hl 0 rfl) ?_
        refine lv_iconst hx hb dX12_hypotheses_67 (v := jI 1) rfl ?_
        refine kcI (n := 2) (c_term rv2 (by decide) h) G_term E_term X hw (Nat.le_trans (Nat.le_of_ble_eq_true rfl) hRf) (Nat.le_trans (Nat.le_of_ble_eq_true rfl) hRl) rfl hl.1 (Nat.le_of_ble_eq_true rfl) rfl dX12_hypotheses_68 (fun v12 u H locs rv12 h hw => ?_)
        refine aS 112 71 70 800 (fun _ _ _ _ => mG_112) (fun _ => rfl) (fun _ _ _ _ _ _ => mSA_112) (by decide) X hw r11 rv12 dX12_hypotheses_71 rfl h (fun H locs u hw h => ?_)
        refine k_iinc (k := 1) hx hb dX12_hypotheses_72 hl rfl (by decide) rfl h (fun ls r13 h hl => ?_)
        have hl : lv_has ls 5 [(3, .int (jI ((x3 + (-1)) + 2))), (4, .int (jI v2)), (0, .ref (h0)), (1, .int (jI x1))] := hl
        refine lv_goto hx hb dX12_hypotheses_75 (tgt := 106) rfl ?_
        refine lv_goto hx hb dX12_hypotheses_106 (tgt := 9) rfl ?_
        exact hR9 _ _ _ H locs ls rx1 r13 hw (lv_sub hl [2, 3, 0] rfl) h

def w_hypotheses (a0 : Int) (a1 : Int) (Q : iST → Prop) (u : iST) : Prop :=
  bd 0 800 (sw (iA u 112 0 a1) (fun u => 
  w_hypotheses_9 Q a0 1 u))
set_option maxRecDepth 20000 in
set_option maxHeartbeats 4000000 in
theorem b_hypotheses_s (X : kX p m c cX12_hypotheses 5 s args D ca) (hRf : 2 ≤ R.frames) (hRl : 46 ≤ R.locals) {Q : iST → Prop} (hret : ∀ (u : iST) (H : Heap) (locs : List Loc) (ls : Array Slot) (pc : Nat), Q u → kW D ca A h0 ad H0 H locs u → decode cX12_hypotheses pc = .ok (.return_, 1) → W p l e R s m args below meth c H locs 0 0 Qf (F0 m pc ls [])) {a0 a1 : Int} (ra0 : inR a0) (ra1 : inR a1) (hw : kW D ca A h0 ad H0 H locs u) (hl : lv_has ls 5 [(0, .ref h0), (1, .int (jI a0)), (2, .int (jI a1))]) (h : w_hypotheses a0 a1 Q u) : W p l e R s m args below meth c H locs 0 0 Qf (F0 m 0 ls []) := by
  have hx := X.1.1
  have hb := X.1.2.1
  unfold w_hypotheses at h
  refine lv_iconst hx hb dX12_hypotheses_0 (v := jI 1) rfl ?_
  refine lv_istore_n hx hb dX12_hypotheses_1 rfl hl (by decide) rfl (fun ls hl => ?_)
  have hl : lv_has ls 5 [(3, .int (jI 1)), (0, .ref (h0)), (1, .int (jI a0)), (2, .int (jI a1))] := hl
  refine lv_aload_n hx hb dX12_hypotheses_2 rfl (lv_at hl 1 rfl) ?_
  refine gA 112 235 (by decide) L_112 (fun _ _ => mF_112) rfl X hw dX12_hypotheses_3 ?_
  refine lv_iconst hx hb dX12_hypotheses_6 (v := jI 0) rfl ?_
  refine lv_iload_n hx hb dX12_hypotheses_7 rfl (lv_at hl 3 rfl) ?_
  refine aS 112 71 70 800 (fun _ _ _ _ => mG_112) (fun _ => rfl) (fun _ _ _ _ _ _ => mSA_112) (by decide) X hw (by decide) ra1 dX12_hypotheses_8 rfl h (fun H locs u hw h => ?_)
  exact b_hypotheses_9 X hRf hRl hret ra0 (by decide) hw (lv_sub hl [1, 2, 0] rfl) h

end
theorem c_hypotheses {l : Launch} {a0 : Int} {a1 : Int} (ra0 : inR a0) (ra1 : inR a1) {Q : iST → Prop} {u : iST} (h : w_hypotheses a0 a1 Q u) : kMV l yX12_hypotheses (.code yX12_hypotheses cX12_hypotheses 5 none :: wsM) { frames := 2, cells := 0, slots := 0, locals := 46 } [.int (jI a0), .int (jI a1)] Q u := kMV_of rfl (fun _ => Nat.le_of_ble_eq_true rfl) (fun X hRf hRl hret hw hl => b_hypotheses_s X hRf hRl hret ra0 ra1 hw hl h)

/-! covers -/
theorem dX12_covers_0 : decode cX12_covers 0 = .ok (.aload_n 0, 1) := by decide +kernel
theorem dX12_covers_1 : decode cX12_covers 1 = .ok (.iload_n 2, 1) := by decide +kernel
theorem dX12_covers_2 : decode cX12_covers 2 = .ok (.invokevirtual 797, 3) := by decide +kernel
theorem dX12_covers_5 : decode cX12_covers 5 = .ok (.aload_n 0, 1) := by decide +kernel
theorem dX12_covers_6 : decode cX12_covers 6 = .ok (.getfield 558, 3) := by decide +kernel
theorem dX12_covers_9 : decode cX12_covers 9 = .ok (.istore_n 3, 1) := by decide +kernel
theorem dX12_covers_10 : decode cX12_covers 10 = .ok (.iconst 0, 1) := by decide +kernel
theorem dX12_covers_11 : decode cX12_covers 11 = .ok (.istore 4, 2) := by decide +kernel
theorem dX12_covers_13 : decode cX12_covers 13 = .ok (.iload 4, 2) := by decide +kernel
theorem dX12_covers_15 : decode cX12_covers 15 = .ok (.iload_n 3, 1) := by decide +kernel
theorem dX12_covers_16 : decode cX12_covers 16 = .ok (.if_icmp .ge 26, 3) := by decide +kernel
theorem dX12_covers_19 : decode cX12_covers 19 = .ok (.aload_n 0, 1) := by decide +kernel
theorem dX12_covers_20 : decode cX12_covers 20 = .ok (.iload_n 1, 1) := by decide +kernel
theorem dX12_covers_21 : decode cX12_covers 21 = .ok (.aload_n 0, 1) := by decide +kernel
theorem dX12_covers_22 : decode cX12_covers 22 = .ok (.getfield 166, 3) := by decide +kernel
theorem dX12_covers_25 : decode cX12_covers 25 = .ok (.iload 4, 2) := by decide +kernel
theorem dX12_covers_27 : decode cX12_covers 27 = .ok (.iaload, 1) := by decide +kernel
theorem dX12_covers_28 : decode cX12_covers 28 = .ok (.invokevirtual 857, 3) := by decide +kernel
theorem dX12_covers_31 : decode cX12_covers 31 = .ok (.ifCond .ne 5, 3) := by decide +kernel
theorem dX12_covers_34 : decode cX12_covers 34 = .ok (.iconst 0, 1) := by decide +kernel
theorem dX12_covers_35 : decode cX12_covers 35 = .ok (.ireturn, 1) := by decide +kernel
theorem dX12_covers_36 : decode cX12_covers 36 = .ok (.iinc 4 1, 3) := by decide +kernel
theorem dX12_covers_39 : decode cX12_covers 39 = .ok (.goto (-26), 3) := by decide +kernel
theorem dX12_covers_42 : decode cX12_covers 42 = .ok (.iconst 1, 1) := by decide +kernel
theorem dX12_covers_43 : decode cX12_covers 43 = .ok (.ireturn, 1) := by decide +kernel

section
variable {p : Program} {l : Launch} {e : Env} {R : Room} {s : State} {m : MethodId} {args : Array Value} {below : List Frame} {meth : Method} {c : Code} {H : Heap} {locs : List Loc} {Qf : State → Prop}
variable {ls : Array Slot} {D : va_G} {ca : Nat → ClassId} {A : Nat → Prop} {h0 : Nat} {ad : Nat → Nat} {H0 : Heap} {u : iST}
def w_covers_13b (R13 : Int → Int → Int → iST → Prop) (Q : Int → iST → Prop) (x1 : Int) (x3 : Int) (x4 : Int) (u : iST) : Prop :=
  br (x3 ≤ x4) (
    zt 1 (Q 1 u)) (
    bd x4 130 (rd (u.2.1 77 x4) (fun v3 => 
    w_hasVariable x1 v3 (fun v4 u => 
    br (v4 ≠ 0) (
      ov (x4 + 1) (
      R13 x1 x3 (x4 + 1) u)) (
      zt 0 (Q 0 u))) u)))
def w_covers_13 (Q : Int → iST → Prop) (x1 : Int) (x3 : Int) (x4 : Int) (u : iST) : Prop := ∀ R13 : Int → Int → Int → iST → Prop, (∀ (x1 : Int) (x3 : Int) (x4 : Int) (u : iST), w_covers_13b R13 Q x1 x3 x4 u → R13 x1 x3 x4 u) → R13 x1 x3 x4 u
set_option maxRecDepth 20000 in
set_option maxHeartbeats 4000000 in
theorem b_covers_13 (X : kX p m c cX12_covers 5 s args D ca) (hRf : 4 ≤ R.frames) (hRl : 91 ≤ R.locals) {Q : Int → iST → Prop} (hret : ∀ (v : Int) (u : iST) (H : Heap) (locs : List Loc) (ls : Array Slot) (pc : Nat), bz v → Q v u → kW D ca A h0 ad H0 H locs u → decode cX12_covers pc = .ok (.ireturn, 1) → W p l e R s m args below meth c H locs 0 0 Qf (F0 m pc ls [.int (jI v)])) {x1 x3 x4 : Int} (rx1 : inR x1) (rx3 : inR x3) (rx4 : inR x4) (hw : kW D ca A h0 ad H0 H locs u) (hl : lv_has ls 5 [(0, .ref h0), (1, .int (jI x1)), (3, .int (jI x3)), (4, .int (jI x4))]) (h : w_covers_13 Q x1 x3 x4 u) : W p l e R s m args below meth c H locs 0 0 Qf (F0 m 13 ls []) := by
  refine h (fun x1 x3 x4 u => ∀ (H : Heap) (locs : List Loc) (ls : Array Slot), inR x1 → inR x3 → inR x4 → kW D ca A h0 ad H0 H locs u → lv_has ls 5 [(0, .ref h0), (1, .int (jI x1)), (3, .int (jI x3)), (4, .int (jI x4))] → W p l e R s m args below meth c H locs 0 0 Qf (F0 m 13 ls [])) ?_ H locs ls rx1 rx3 rx4 hw hl
  clear h hl hw rx1 rx3 rx4
  intro x1 x3 x4 u h H locs ls rx1 rx3 rx4 hw hl
  have hR13 : ∀ (x1 : Int) (x3 : Int) (x4 : Int) (u : iST) (H : Heap) (locs : List Loc) (ls : Array Slot), inR x1 → inR x3 → inR x4 → kW D ca A h0 ad H0 H locs u → lv_has ls 5 [(0, .ref h0), (1, .int (jI x1)), (3, .int (jI x3)), (4, .int (jI x4))] → (fun (x1 : Int) (x3 : Int) (x4 : Int) u => ∀ (H : Heap) (locs : List Loc) (ls : Array Slot), inR x1 → inR x3 → inR x4 → kW D ca A h0 ad H0 H locs u → lv_has ls 5 [(0, .ref h0), (1, .int (jI x1)), (3, .int (jI x3)), (4, .int (jI x4))] → W p l e R s m args below meth c H locs 0 0 Qf (F0 m 13 ls [])) x1 x3 x4 u → W p l e R s m args below meth c H locs 0 0 Qf (F0 m 13 ls []) := fun x1 x3 x4 u H locs ls rx1 rx3 rx4 hw hl h => h H locs ls rx1 rx3 rx4 hw hl
  have hx := X.1.1
  have hb := X.1.2.1
  unfold w_covers_13b at h
  refine lv_iload hx hb dX12_covers_13 (lv_at hl 3 rfl) ?_
  refine lv_iload_n hx hb dX12_covers_15 rfl (lv_at hl 2 rfl) ?_
  refine k_icmp_ge hx hb rx4 rx3 dX12_covers_16 (tgt := 42) rfl h (fun h => ?_) (fun h => ?_)
  · refine lv_iconst hx hb dX12_covers_42 (v := jI 1) rfl ?_
    exact hret _ _ _ _ _ _ h.1 h.2 hw dX12_covers_43
  · refine lv_aload_n hx hb dX12_covers_19 rfl (lv_at hl 0 rfl) ?_
    refine lv_iload_n hx hb dX12_covers_20 rfl (lv_at hl 1 rfl) ?_
    refine lv_aload_n hx hb dX12_covers_21 rfl (lv_at hl 0 rfl) ?_
    refine gA 77 166 (by decide) L_77 (fun _ _ => mF_77) rfl X hw dX12_covers_22 ?_
    refine lv_iload hx hb dX12_covers_25 (lv_at hl 3 rfl) ?_
    refine aL 77 48 47 130 (fun _ _ _ _ => mG_77) (fun _ => rfl) X hw rx4 dX12_covers_27 rfl h (fun v3 rv3 h => ?_)
    refine kcI (n := 2) (c_hasVariable rx1 rv3 h) G_hasVariable E_hasVariable X hw (Nat.le_trans (Nat.le_of_ble_eq_true rfl) hRf) (Nat.le_trans (Nat.le_of_ble_eq_true rfl) hRl) rfl hl.1 (Nat.le_of_ble_eq_true rfl) rfl dX12_covers_28 (fun v4 u H locs rv4 h hw => ?_)
    refine k_if_ne hx hb rv4 dX12_covers_31 (tgt := 36) rfl h (fun h => ?_) (fun h => ?_)
    · refine k_iinc (k := 3) hx hb dX12_covers_36 hl rfl (by decide) rfl h (fun ls r5 h hl => ?_)
      have hl : lv_has ls 5 [(4, .int (jI (x4 + 1))), (0, .ref (h0)), (1, .int (jI x1)), (3, .int (jI x3))] := hl
      refine lv_goto hx hb dX12_covers_39 (tgt := 13) rfl ?_
      exact hR13 _ _ _ _ H locs ls rx1 rx3 r5 hw (lv_sub hl [1, 2, 3, 0] rfl) h
    · refine lv_iconst hx hb dX12_covers_34 (v := jI 0) rfl ?_
      exact hret _ _ _ _ _ _ h.1 h.2 hw dX12_covers_35

def w_covers (a0 : Int) (a1 : Int) (Q : Int → iST → Prop) (u : iST) : Prop :=
  w_variablesOf a1 (fun u => 
  rd (u.1 78) (fun v2 => 
  w_covers_13 Q a0 v2 0 u)) u
set_option maxRecDepth 20000 in
set_option maxHeartbeats 4000000 in
theorem b_covers_s (X : kX p m c cX12_covers 5 s args D ca) (hRf : 4 ≤ R.frames) (hRl : 91 ≤ R.locals) {Q : Int → iST → Prop} (hret : ∀ (v : Int) (u : iST) (H : Heap) (locs : List Loc) (ls : Array Slot) (pc : Nat), bz v → Q v u → kW D ca A h0 ad H0 H locs u → decode cX12_covers pc = .ok (.ireturn, 1) → W p l e R s m args below meth c H locs 0 0 Qf (F0 m pc ls [.int (jI v)])) {a0 a1 : Int} (ra0 : inR a0) (ra1 : inR a1) (hw : kW D ca A h0 ad H0 H locs u) (hl : lv_has ls 5 [(0, .ref h0), (1, .int (jI a0)), (2, .int (jI a1))]) (h : w_covers a0 a1 Q u) : W p l e R s m args below meth c H locs 0 0 Qf (F0 m 0 ls []) := by
  have hx := X.1.1
  have hb := X.1.2.1
  unfold w_covers at h
  refine lv_aload_n hx hb dX12_covers_0 rfl (lv_at hl 0 rfl) ?_
  refine lv_iload_n hx hb dX12_covers_1 rfl (lv_at hl 2 rfl) ?_
  refine kcV (n := 1) (c_variablesOf ra1 h) G_variablesOf E_variablesOf X hw (Nat.le_trans (Nat.le_of_ble_eq_true rfl) hRf) (Nat.le_trans (Nat.le_of_ble_eq_true rfl) hRl) rfl hl.1 (Nat.le_of_ble_eq_true rfl) rfl dX12_covers_2 (fun u H locs h hw => ?_)
  refine lv_aload_n hx hb dX12_covers_5 rfl (lv_at hl 0 rfl) ?_
  refine gS 78 558 (by decide) L_78 (fun _ _ => mF_78) rfl X hw dX12_covers_6 h (fun v2 rv2 h => ?_)
  refine lv_istore_n hx hb dX12_covers_9 rfl hl (by decide) rfl (fun ls hl => ?_)
  have hl : lv_has ls 5 [(3, .int (jI v2)), (0, .ref (h0)), (1, .int (jI a0)), (2, .int (jI a1))] := hl
  refine lv_iconst hx hb dX12_covers_10 (v := jI 0) rfl ?_
  refine lv_istore hx hb dX12_covers_11 hl (by decide) rfl (fun ls hl => ?_)
  have hl : lv_has ls 5 [(4, .int (jI 0)), (3, .int (jI v2)), (0, .ref (h0)), (1, .int (jI a0)), (2, .int (jI a1))] := hl
  exact b_covers_13 X hRf hRl hret ra0 rv2 (by decide) hw (lv_sub hl [2, 3, 1, 0] rfl) h

end
theorem c_covers {l : Launch} {a0 : Int} {a1 : Int} (ra0 : inR a0) (ra1 : inR a1) {Q : Int → iST → Prop} {u : iST} (h : w_covers a0 a1 Q u) : kMI l yX12_covers (.code yX12_covers cX12_covers 5 (some .boolean) :: wsM) { frames := 4, cells := 0, slots := 0, locals := 91 } [.int (jI a0), .int (jI a1)] Q u := kMZ_of rfl (fun _ => Nat.le_of_ble_eq_true rfl) (fun X hRf hRl hret hw hl => b_covers_s X hRf hRl hret ra0 ra1 hw hl h)

/-! ruleOf -/
theorem dX12_ruleOf_0 : decode cX12_ruleOf 0 = .ok (.iload_n 2, 1) := by decide +kernel
theorem dX12_ruleOf_1 : decode cX12_ruleOf 1 = .ok (.istore_n 3, 1) := by decide +kernel
theorem dX12_ruleOf_2 : decode cX12_ruleOf 2 = .ok (.aload_n 0, 1) := by decide +kernel
theorem dX12_ruleOf_3 : decode cX12_ruleOf 3 = .ok (.getfield 112, 3) := by decide +kernel
theorem dX12_ruleOf_6 : decode cX12_ruleOf 6 = .ok (.iload_n 1, 1) := by decide +kernel
theorem dX12_ruleOf_7 : decode cX12_ruleOf 7 = .ok (.iconst 0, 1) := by decide +kernel
theorem dX12_ruleOf_8 : decode cX12_ruleOf 8 = .ok (.iastore, 1) := by decide +kernel
theorem dX12_ruleOf_9 : decode cX12_ruleOf 9 = .ok (.aload_n 0, 1) := by decide +kernel
theorem dX12_ruleOf_10 : decode cX12_ruleOf 10 = .ok (.iload_n 3, 1) := by decide +kernel
theorem dX12_ruleOf_11 : decode cX12_ruleOf 11 = .ok (.bipush 6, 2) := by decide +kernel
theorem dX12_ruleOf_13 : decode cX12_ruleOf 13 = .ok (.invokevirtual 542, 3) := by decide +kernel
theorem dX12_ruleOf_16 : decode cX12_ruleOf 16 = .ok (.ifCond .eq 24, 3) := by decide +kernel
theorem dX12_ruleOf_19 : decode cX12_ruleOf 19 = .ok (.aload_n 0, 1) := by decide +kernel
theorem dX12_ruleOf_20 : decode cX12_ruleOf 20 = .ok (.iload_n 1, 1) := by decide +kernel
theorem dX12_ruleOf_21 : decode cX12_ruleOf 21 = .ok (.aload_n 0, 1) := by decide +kernel
theorem dX12_ruleOf_22 : decode cX12_ruleOf 22 = .ok (.iload_n 3, 1) := by decide +kernel
theorem dX12_ruleOf_23 : decode cX12_ruleOf 23 = .ok (.iconst 1, 1) := by decide +kernel
theorem dX12_ruleOf_24 : decode cX12_ruleOf 24 = .ok (.invokevirtual 592, 3) := by decide +kernel
theorem dX12_ruleOf_27 : decode cX12_ruleOf 27 = .ok (.invokevirtual 851, 3) := by decide +kernel
theorem dX12_ruleOf_30 : decode cX12_ruleOf 30 = .ok (.aload_n 0, 1) := by decide +kernel
theorem dX12_ruleOf_31 : decode cX12_ruleOf 31 = .ok (.iload_n 3, 1) := by decide +kernel
theorem dX12_ruleOf_32 : decode cX12_ruleOf 32 = .ok (.iconst 2, 1) := by decide +kernel
theorem dX12_ruleOf_33 : decode cX12_ruleOf 33 = .ok (.invokevirtual 592, 3) := by decide +kernel
theorem dX12_ruleOf_36 : decode cX12_ruleOf 36 = .ok (.istore_n 3, 1) := by decide +kernel
theorem dX12_ruleOf_37 : decode cX12_ruleOf 37 = .ok (.goto (-28), 3) := by decide +kernel
theorem dX12_ruleOf_40 : decode cX12_ruleOf 40 = .ok (.aload_n 0, 1) := by decide +kernel
theorem dX12_ruleOf_41 : decode cX12_ruleOf 41 = .ok (.iload_n 3, 1) := by decide +kernel
theorem dX12_ruleOf_42 : decode cX12_ruleOf 42 = .ok (.iconst 4, 1) := by decide +kernel
theorem dX12_ruleOf_43 : decode cX12_ruleOf 43 = .ok (.invokevirtual 542, 3) := by decide +kernel
theorem dX12_ruleOf_46 : decode cX12_ruleOf 46 = .ok (.istore 4, 2) := by decide +kernel
theorem dX12_ruleOf_48 : decode cX12_ruleOf 48 = .ok (.aload_n 0, 1) := by decide +kernel
theorem dX12_ruleOf_49 : decode cX12_ruleOf 49 = .ok (.iload_n 3, 1) := by decide +kernel
theorem dX12_ruleOf_50 : decode cX12_ruleOf 50 = .ok (.bipush 15, 2) := by decide +kernel
theorem dX12_ruleOf_52 : decode cX12_ruleOf 52 = .ok (.invokevirtual 542, 3) := by decide +kernel
theorem dX12_ruleOf_55 : decode cX12_ruleOf 55 = .ok (.istore 5, 2) := by decide +kernel
theorem dX12_ruleOf_57 : decode cX12_ruleOf 57 = .ok (.iload 4, 2) := by decide +kernel
theorem dX12_ruleOf_59 : decode cX12_ruleOf 59 = .ok (.ifCond .ne 8, 3) := by decide +kernel
theorem dX12_ruleOf_62 : decode cX12_ruleOf 62 = .ok (.iload 5, 2) := by decide +kernel
theorem dX12_ruleOf_64 : decode cX12_ruleOf 64 = .ok (.ifCond .eq 12, 3) := by decide +kernel
theorem dX12_ruleOf_67 : decode cX12_ruleOf 67 = .ok (.aload_n 0, 1) := by decide +kernel
theorem dX12_ruleOf_68 : decode cX12_ruleOf 68 = .ok (.iload_n 3, 1) := by decide +kernel
theorem dX12_ruleOf_69 : decode cX12_ruleOf 69 = .ok (.iconst 1, 1) := by decide +kernel
theorem dX12_ruleOf_70 : decode cX12_ruleOf 70 = .ok (.invokevirtual 592, 3) := by decide +kernel
theorem dX12_ruleOf_73 : decode cX12_ruleOf 73 = .ok (.goto 4, 3) := by decide +kernel
theorem dX12_ruleOf_76 : decode cX12_ruleOf 76 = .ok (.iload_n 3, 1) := by decide +kernel
theorem dX12_ruleOf_77 : decode cX12_ruleOf 77 = .ok (.istore 6, 2) := by decide +kernel
theorem dX12_ruleOf_79 : decode cX12_ruleOf 79 = .ok (.iload 4, 2) := by decide +kernel
theorem dX12_ruleOf_81 : decode cX12_ruleOf 81 = .ok (.ifCond .eq 12, 3) := by decide +kernel
theorem dX12_ruleOf_84 : decode cX12_ruleOf 84 = .ok (.aload_n 0, 1) := by decide +kernel
theorem dX12_ruleOf_85 : decode cX12_ruleOf 85 = .ok (.iload_n 3, 1) := by decide +kernel
theorem dX12_ruleOf_86 : decode cX12_ruleOf 86 = .ok (.iconst 2, 1) := by decide +kernel
theorem dX12_ruleOf_87 : decode cX12_ruleOf 87 = .ok (.invokevirtual 592, 3) := by decide +kernel
theorem dX12_ruleOf_90 : decode cX12_ruleOf 90 = .ok (.goto 13, 3) := by decide +kernel
theorem dX12_ruleOf_93 : decode cX12_ruleOf 93 = .ok (.iload 5, 2) := by decide +kernel
theorem dX12_ruleOf_95 : decode cX12_ruleOf 95 = .ok (.ifCond .eq 7, 3) := by decide +kernel
theorem dX12_ruleOf_98 : decode cX12_ruleOf 98 = .ok (.iconst 0, 1) := by decide +kernel
theorem dX12_ruleOf_99 : decode cX12_ruleOf 99 = .ok (.goto 4, 3) := by decide +kernel
theorem dX12_ruleOf_102 : decode cX12_ruleOf 102 = .ok (.iconst 1, 1) := by decide +kernel
theorem dX12_ruleOf_103 : decode cX12_ruleOf 103 = .ok (.istore 7, 2) := by decide +kernel
theorem dX12_ruleOf_105 : decode cX12_ruleOf 105 = .ok (.aload_n 0, 1) := by decide +kernel
theorem dX12_ruleOf_106 : decode cX12_ruleOf 106 = .ok (.iload 6, 2) := by decide +kernel
theorem dX12_ruleOf_108 : decode cX12_ruleOf 108 = .ok (.invokevirtual 483, 3) := by decide +kernel
theorem dX12_ruleOf_111 : decode cX12_ruleOf 111 = .ok (.ifCond .eq 60, 3) := by decide +kernel
theorem dX12_ruleOf_114 : decode cX12_ruleOf 114 = .ok (.aload_n 0, 1) := by decide +kernel
theorem dX12_ruleOf_115 : decode cX12_ruleOf 115 = .ok (.getfield 8, 3) := by decide +kernel
theorem dX12_ruleOf_118 : decode cX12_ruleOf 118 = .ok (.iload 6, 2) := by decide +kernel
theorem dX12_ruleOf_120 : decode cX12_ruleOf 120 = .ok (.iaload, 1) := by decide +kernel
theorem dX12_ruleOf_121 : decode cX12_ruleOf 121 = .ok (.iconst 3, 1) := by decide +kernel
theorem dX12_ruleOf_122 : decode cX12_ruleOf 122 = .ok (.if_icmp .eq 49, 3) := by decide +kernel
theorem dX12_ruleOf_125 : decode cX12_ruleOf 125 = .ok (.aload_n 0, 1) := by decide +kernel
theorem dX12_ruleOf_126 : decode cX12_ruleOf 126 = .ok (.getfield 8, 3) := by decide +kernel
theorem dX12_ruleOf_129 : decode cX12_ruleOf 129 = .ok (.iload 6, 2) := by decide +kernel
theorem dX12_ruleOf_131 : decode cX12_ruleOf 131 = .ok (.iaload, 1) := by decide +kernel
theorem dX12_ruleOf_132 : decode cX12_ruleOf 132 = .ok (.bipush 15, 2) := by decide +kernel
theorem dX12_ruleOf_134 : decode cX12_ruleOf 134 = .ok (.if_icmp .eq 37, 3) := by decide +kernel
theorem dX12_ruleOf_137 : decode cX12_ruleOf 137 = .ok (.aload_n 0, 1) := by decide +kernel
theorem dX12_ruleOf_138 : decode cX12_ruleOf 138 = .ok (.getfield 8, 3) := by decide +kernel
theorem dX12_ruleOf_141 : decode cX12_ruleOf 141 = .ok (.iload 6, 2) := by decide +kernel
theorem dX12_ruleOf_143 : decode cX12_ruleOf 143 = .ok (.iaload, 1) := by decide +kernel
theorem dX12_ruleOf_144 : decode cX12_ruleOf 144 = .ok (.bipush 6, 2) := by decide +kernel
theorem dX12_ruleOf_146 : decode cX12_ruleOf 146 = .ok (.if_icmp .eq 25, 3) := by decide +kernel
theorem dX12_ruleOf_149 : decode cX12_ruleOf 149 = .ok (.iload 6, 2) := by decide +kernel
theorem dX12_ruleOf_151 : decode cX12_ruleOf 151 = .ok (.iload 7, 2) := by decide +kernel
theorem dX12_ruleOf_153 : decode cX12_ruleOf 153 = .ok (.if_icmp .eq 18, 3) := by decide +kernel
theorem dX12_ruleOf_156 : decode cX12_ruleOf 156 = .ok (.aload_n 0, 1) := by decide +kernel
theorem dX12_ruleOf_157 : decode cX12_ruleOf 157 = .ok (.iload 6, 2) := by decide +kernel
theorem dX12_ruleOf_159 : decode cX12_ruleOf 159 = .ok (.iload 7, 2) := by decide +kernel
theorem dX12_ruleOf_161 : decode cX12_ruleOf 161 = .ok (.invokevirtual 854, 3) := by decide +kernel
theorem dX12_ruleOf_164 : decode cX12_ruleOf 164 = .ok (.ifCond .eq 7, 3) := by decide +kernel
theorem dX12_ruleOf_167 : decode cX12_ruleOf 167 = .ok (.iconst 1, 1) := by decide +kernel
theorem dX12_ruleOf_168 : decode cX12_ruleOf 168 = .ok (.goto 4, 3) := by decide +kernel
theorem dX12_ruleOf_171 : decode cX12_ruleOf 171 = .ok (.iconst 0, 1) := by decide +kernel
theorem dX12_ruleOf_172 : decode cX12_ruleOf 172 = .ok (.istore 8, 2) := by decide +kernel
theorem dX12_ruleOf_174 : decode cX12_ruleOf 174 = .ok (.iconst 0, 1) := by decide +kernel
theorem dX12_ruleOf_175 : decode cX12_ruleOf 175 = .ok (.istore 9, 2) := by decide +kernel
theorem dX12_ruleOf_177 : decode cX12_ruleOf 177 = .ok (.iload 9, 2) := by decide +kernel
theorem dX12_ruleOf_179 : decode cX12_ruleOf 179 = .ok (.aload_n 0, 1) := by decide +kernel
theorem dX12_ruleOf_180 : decode cX12_ruleOf 180 = .ok (.getfield 112, 3) := by decide +kernel
theorem dX12_ruleOf_183 : decode cX12_ruleOf 183 = .ok (.iload_n 1, 1) := by decide +kernel
theorem dX12_ruleOf_184 : decode cX12_ruleOf 184 = .ok (.iaload, 1) := by decide +kernel
theorem dX12_ruleOf_185 : decode cX12_ruleOf 185 = .ok (.if_icmp .ge 42, 3) := by decide +kernel
theorem dX12_ruleOf_188 : decode cX12_ruleOf 188 = .ok (.iload 8, 2) := by decide +kernel
theorem dX12_ruleOf_190 : decode cX12_ruleOf 190 = .ok (.ifCond .eq 28, 3) := by decide +kernel
theorem dX12_ruleOf_193 : decode cX12_ruleOf 193 = .ok (.aload_n 0, 1) := by decide +kernel
theorem dX12_ruleOf_194 : decode cX12_ruleOf 194 = .ok (.iload 6, 2) := by decide +kernel
theorem dX12_ruleOf_196 : decode cX12_ruleOf 196 = .ok (.aload_n 0, 1) := by decide +kernel
theorem dX12_ruleOf_197 : decode cX12_ruleOf 197 = .ok (.getfield 115, 3) := by decide +kernel
theorem dX12_ruleOf_200 : decode cX12_ruleOf 200 = .ok (.bipush 120, 2) := by decide +kernel
theorem dX12_ruleOf_202 : decode cX12_ruleOf 202 = .ok (.iload_n 1, 1) := by decide +kernel
theorem dX12_ruleOf_203 : decode cX12_ruleOf 203 = .ok (.imul, 1) := by decide +kernel
theorem dX12_ruleOf_204 : decode cX12_ruleOf 204 = .ok (.iload 9, 2) := by decide +kernel
theorem dX12_ruleOf_206 : decode cX12_ruleOf 206 = .ok (.iadd, 1) := by decide +kernel
theorem dX12_ruleOf_207 : decode cX12_ruleOf 207 = .ok (.iaload, 1) := by decide +kernel
theorem dX12_ruleOf_208 : decode cX12_ruleOf 208 = .ok (.invokevirtual 854, 3) := by decide +kernel
theorem dX12_ruleOf_211 : decode cX12_ruleOf 211 = .ok (.ifCond .eq 7, 3) := by decide +kernel
theorem dX12_ruleOf_214 : decode cX12_ruleOf 214 = .ok (.iconst 1, 1) := by decide +kernel
theorem dX12_ruleOf_215 : decode cX12_ruleOf 215 = .ok (.goto 4, 3) := by decide +kernel
theorem dX12_ruleOf_218 : decode cX12_ruleOf 218 = .ok (.iconst 0, 1) := by decide +kernel
theorem dX12_ruleOf_219 : decode cX12_ruleOf 219 = .ok (.istore 8, 2) := by decide +kernel
theorem dX12_ruleOf_221 : decode cX12_ruleOf 221 = .ok (.iinc 9 1, 3) := by decide +kernel
theorem dX12_ruleOf_224 : decode cX12_ruleOf 224 = .ok (.goto (-47), 3) := by decide +kernel
theorem dX12_ruleOf_227 : decode cX12_ruleOf 227 = .ok (.aload_n 0, 1) := by decide +kernel
theorem dX12_ruleOf_228 : decode cX12_ruleOf 228 = .ok (.getfield 106, 3) := by decide +kernel
theorem dX12_ruleOf_231 : decode cX12_ruleOf 231 = .ok (.iload_n 1, 1) := by decide +kernel
theorem dX12_ruleOf_232 : decode cX12_ruleOf 232 = .ok (.iload 8, 2) := by decide +kernel
theorem dX12_ruleOf_234 : decode cX12_ruleOf 234 = .ok (.ifCond .eq 8, 3) := by decide +kernel
theorem dX12_ruleOf_237 : decode cX12_ruleOf 237 = .ok (.iload 6, 2) := by decide +kernel
theorem dX12_ruleOf_239 : decode cX12_ruleOf 239 = .ok (.goto 4, 3) := by decide +kernel
theorem dX12_ruleOf_242 : decode cX12_ruleOf 242 = .ok (.iconst (-1), 1) := by decide +kernel
theorem dX12_ruleOf_243 : decode cX12_ruleOf 243 = .ok (.iastore, 1) := by decide +kernel
theorem dX12_ruleOf_244 : decode cX12_ruleOf 244 = .ok (.aload_n 0, 1) := by decide +kernel
theorem dX12_ruleOf_245 : decode cX12_ruleOf 245 = .ok (.getfield 109, 3) := by decide +kernel
theorem dX12_ruleOf_248 : decode cX12_ruleOf 248 = .ok (.iload_n 1, 1) := by decide +kernel
theorem dX12_ruleOf_249 : decode cX12_ruleOf 249 = .ok (.iload 7, 2) := by decide +kernel
theorem dX12_ruleOf_251 : decode cX12_ruleOf 251 = .ok (.iastore, 1) := by decide +kernel
theorem dX12_ruleOf_252 : decode cX12_ruleOf 252 = .ok (.aload_n 0, 1) := by decide +kernel
theorem dX12_ruleOf_253 : decode cX12_ruleOf 253 = .ok (.getfield 124, 3) := by decide +kernel
theorem dX12_ruleOf_256 : decode cX12_ruleOf 256 = .ok (.iload_n 1, 1) := by decide +kernel
theorem dX12_ruleOf_257 : decode cX12_ruleOf 257 = .ok (.iload 8, 2) := by decide +kernel
theorem dX12_ruleOf_259 : decode cX12_ruleOf 259 = .ok (.bastore, 1) := by decide +kernel
theorem dX12_ruleOf_260 : decode cX12_ruleOf 260 = .ok (.aload_n 0, 1) := by decide +kernel
theorem dX12_ruleOf_261 : decode cX12_ruleOf 261 = .ok (.getfield 127, 3) := by decide +kernel
theorem dX12_ruleOf_264 : decode cX12_ruleOf 264 = .ok (.iload_n 1, 1) := by decide +kernel
theorem dX12_ruleOf_265 : decode cX12_ruleOf 265 = .ok (.iconst 0, 1) := by decide +kernel
theorem dX12_ruleOf_266 : decode cX12_ruleOf 266 = .ok (.bastore, 1) := by decide +kernel
theorem dX12_ruleOf_267 : decode cX12_ruleOf 267 = .ok (.aload_n 0, 1) := by decide +kernel
theorem dX12_ruleOf_268 : decode cX12_ruleOf 268 = .ok (.getfield 118, 3) := by decide +kernel
theorem dX12_ruleOf_271 : decode cX12_ruleOf 271 = .ok (.iload_n 1, 1) := by decide +kernel
theorem dX12_ruleOf_272 : decode cX12_ruleOf 272 = .ok (.iload 8, 2) := by decide +kernel
theorem dX12_ruleOf_274 : decode cX12_ruleOf 274 = .ok (.ifCond .eq 20, 3) := by decide +kernel
theorem dX12_ruleOf_277 : decode cX12_ruleOf 277 = .ok (.aload_n 0, 1) := by decide +kernel
theorem dX12_ruleOf_278 : decode cX12_ruleOf 278 = .ok (.iload 6, 2) := by decide +kernel
theorem dX12_ruleOf_280 : decode cX12_ruleOf 280 = .ok (.iload 7, 2) := by decide +kernel
theorem dX12_ruleOf_282 : decode cX12_ruleOf 282 = .ok (.iconst 0, 1) := by decide +kernel
theorem dX12_ruleOf_283 : decode cX12_ruleOf 283 = .ok (.iconst 1, 1) := by decide +kernel
theorem dX12_ruleOf_284 : decode cX12_ruleOf 284 = .ok (.invokevirtual 706, 3) := by decide +kernel
theorem dX12_ruleOf_287 : decode cX12_ruleOf 287 = .ok (.ifCond .eq 7, 3) := by decide +kernel
theorem dX12_ruleOf_290 : decode cX12_ruleOf 290 = .ok (.iconst 1, 1) := by decide +kernel
theorem dX12_ruleOf_291 : decode cX12_ruleOf 291 = .ok (.goto 4, 3) := by decide +kernel
theorem dX12_ruleOf_294 : decode cX12_ruleOf 294 = .ok (.iconst 0, 1) := by decide +kernel
theorem dX12_ruleOf_295 : decode cX12_ruleOf 295 = .ok (.bastore, 1) := by decide +kernel
theorem dX12_ruleOf_296 : decode cX12_ruleOf 296 = .ok (.aload_n 0, 1) := by decide +kernel
theorem dX12_ruleOf_297 : decode cX12_ruleOf 297 = .ok (.getfield 121, 3) := by decide +kernel
theorem dX12_ruleOf_300 : decode cX12_ruleOf 300 = .ok (.iload_n 1, 1) := by decide +kernel
theorem dX12_ruleOf_301 : decode cX12_ruleOf 301 = .ok (.iload 8, 2) := by decide +kernel
theorem dX12_ruleOf_303 : decode cX12_ruleOf 303 = .ok (.ifCond .eq 26, 3) := by decide +kernel
theorem dX12_ruleOf_306 : decode cX12_ruleOf 306 = .ok (.iload 4, 2) := by decide +kernel
theorem dX12_ruleOf_308 : decode cX12_ruleOf 308 = .ok (.ifCond .ne 21, 3) := by decide +kernel
theorem dX12_ruleOf_311 : decode cX12_ruleOf 311 = .ok (.iload 5, 2) := by decide +kernel
theorem dX12_ruleOf_313 : decode cX12_ruleOf 313 = .ok (.ifCond .ne 16, 3) := by decide +kernel
theorem dX12_ruleOf_316 : decode cX12_ruleOf 316 = .ok (.aload_n 0, 1) := by decide +kernel
theorem dX12_ruleOf_317 : decode cX12_ruleOf 317 = .ok (.iload 6, 2) := by decide +kernel
theorem dX12_ruleOf_319 : decode cX12_ruleOf 319 = .ok (.invokevirtual 631, 3) := by decide +kernel
theorem dX12_ruleOf_322 : decode cX12_ruleOf 322 = .ok (.ifCond .ne 7, 3) := by decide +kernel
theorem dX12_ruleOf_325 : decode cX12_ruleOf 325 = .ok (.iconst 1, 1) := by decide +kernel
theorem dX12_ruleOf_326 : decode cX12_ruleOf 326 = .ok (.goto 4, 3) := by decide +kernel
theorem dX12_ruleOf_329 : decode cX12_ruleOf 329 = .ok (.iconst 0, 1) := by decide +kernel
theorem dX12_ruleOf_330 : decode cX12_ruleOf 330 = .ok (.bastore, 1) := by decide +kernel
theorem dX12_ruleOf_331 : decode cX12_ruleOf 331 = .ok (.return_, 1) := by decide +kernel

section
variable {p : Program} {l : Launch} {e : Env} {R : Room} {s : State} {m : MethodId} {args : Array Value} {below : List Frame} {meth : Method} {c : Code} {H : Heap} {locs : List Loc} {Qf : State → Prop}
variable {ls : Array Slot} {D : va_G} {ca : Nat → ClassId} {A : Nat → Prop} {h0 : Nat} {ad : Nat → Nat} {H0 : Heap} {u : iST}
def w_ruleOf_295 (Q : iST → Prop) (x1 : Int) (x4 : Int) (x5 : Int) (x6 : Int) (x8 : Int) (y1 : Int) (y2 : Int) (u : iST) : Prop :=
  zt y2 (bd y1 60 (sw (iA u 50 y1 y2) (fun u => 
  br (x8 = 0) (
    zt 0 (bd x1 60 (sw (iA u 51 x1 0) (fun u => 
    Q u)))) (
    br (x4 ≠ 0) (
      zt 0 (bd x1 60 (sw (iA u 51 x1 0) (fun u => 
      Q u)))) (
      br (x5 ≠ 0) (
        zt 0 (bd x1 60 (sw (iA u 51 x1 0) (fun u => 
        Q u)))) (
        w_isBoolean x6 (fun v7 u => 
        br (v7 ≠ 0) (
          zt 0 (bd x1 60 (sw (iA u 51 x1 0) (fun u => 
          Q u)))) (
          zt 1 (bd x1 60 (sw (iA u 51 x1 1) (fun u => 
          Q u))))) u))))))
set_option maxRecDepth 20000 in
set_option maxHeartbeats 4000000 in
theorem b_ruleOf_295 (X : kX p m c cX12_ruleOf 10 s args D ca) (hRf : 5 ≤ R.frames) (hRl : 115 ≤ R.locals) {Q : iST → Prop} (hret : ∀ (u : iST) (H : Heap) (locs : List Loc) (ls : Array Slot) (pc : Nat), Q u → kW D ca A h0 ad H0 H locs u → decode cX12_ruleOf pc = .ok (.return_, 1) → W p l e R s m args below meth c H locs 0 0 Qf (F0 m pc ls [])) {x1 x4 x5 x6 x8 y1 y2 : Int} (rx1 : inR x1) (rx4 : inR x4) (rx5 : inR x5) (rx6 : inR x6) (rx8 : inR x8) (ry1 : inR y1) (ry2 : inR y2) (hw : kW D ca A h0 ad H0 H locs u) (hl : lv_has ls 10 [(0, .ref h0), (1, .int (jI x1)), (4, .int (jI x4)), (5, .int (jI x5)), (6, .int (jI x6)), (8, .int (jI x8))]) (h : w_ruleOf_295 Q x1 x4 x5 x6 x8 y1 y2 u) : W p l e R s m args below meth c H locs 0 0 Qf (F0 m 295 ls [.int (jI y2), .int (jI y1), .ref (ad 50)]) := by
  have hx := X.1.1
  have hb := X.1.2.1
  unfold w_ruleOf_295 at h
  refine aY 50 34 33 60 (fun _ _ _ _ => mG_50) (fun _ => rfl) (fun _ _ _ _ _ _ => mSA_50) X hw ry1 dX12_ruleOf_295 rfl h (fun H locs u hw h => ?_)
  refine lv_aload_n hx hb dX12_ruleOf_296 rfl (lv_at hl 0 rfl) ?_
  refine gA 51 121 (by decide) L_51 (fun _ _ => mF_51) rfl X hw dX12_ruleOf_297 ?_
  refine lv_iload_n hx hb dX12_ruleOf_300 rfl (lv_at hl 1 rfl) ?_
  refine lv_iload hx hb dX12_ruleOf_301 (lv_at hl 5 rfl) ?_
  refine k_if_eq hx hb rx8 dX12_ruleOf_303 (tgt := 329) rfl h (fun h => ?_) (fun h => ?_)
  · refine lv_iconst hx hb dX12_ruleOf_329 (v := jI 0) rfl ?_
    refine aY 51 35 34 60 (fun _ _ _ _ => mG_51) (fun _ => rfl) (fun _ _ _ _ _ _ => mSA_51) X hw rx1 dX12_ruleOf_330 rfl h (fun H locs u hw h => ?_)
    exact hret _ _ _ _ _ h hw dX12_ruleOf_331
  · refine lv_iload hx hb dX12_ruleOf_306 (lv_at hl 2 rfl) ?_
    refine k_if_ne hx hb rx4 dX12_ruleOf_308 (tgt := 329) rfl h (fun h => ?_) (fun h => ?_)
    · refine lv_iconst hx hb dX12_ruleOf_329 (v := jI 0) rfl ?_
      refine aY 51 35 34 60 (fun _ _ _ _ => mG_51) (fun _ => rfl) (fun _ _ _ _ _ _ => mSA_51) X hw rx1 dX12_ruleOf_330 rfl h (fun H locs u hw h => ?_)
      exact hret _ _ _ _ _ h hw dX12_ruleOf_331
    · refine lv_iload hx hb dX12_ruleOf_311 (lv_at hl 3 rfl) ?_
      refine k_if_ne hx hb rx5 dX12_ruleOf_313 (tgt := 329) rfl h (fun h => ?_) (fun h => ?_)
      · refine lv_iconst hx hb dX12_ruleOf_329 (v := jI 0) rfl ?_
        refine aY 51 35 34 60 (fun _ _ _ _ => mG_51) (fun _ => rfl) (fun _ _ _ _ _ _ => mSA_51) X hw rx1 dX12_ruleOf_330 rfl h (fun H locs u hw h => ?_)
        exact hret _ _ _ _ _ h hw dX12_ruleOf_331
      · refine lv_aload_n hx hb dX12_ruleOf_316 rfl (lv_at hl 0 rfl) ?_
        refine lv_iload hx hb dX12_ruleOf_317 (lv_at hl 4 rfl) ?_
        refine kcI (n := 1) (c_isBoolean rx6 h) G_isBoolean E_isBoolean X hw (Nat.le_trans (Nat.le_of_ble_eq_true rfl) hRf) (Nat.le_trans (Nat.le_of_ble_eq_true rfl) hRl) rfl hl.1 (Nat.le_of_ble_eq_true rfl) rfl dX12_ruleOf_319 (fun v7 u H locs rv7 h hw => ?_)
        refine k_if_ne hx hb rv7 dX12_ruleOf_322 (tgt := 329) rfl h (fun h => ?_) (fun h => ?_)
        · refine lv_iconst hx hb dX12_ruleOf_329 (v := jI 0) rfl ?_
          refine aY 51 35 34 60 (fun _ _ _ _ => mG_51) (fun _ => rfl) (fun _ _ _ _ _ _ => mSA_51) X hw rx1 dX12_ruleOf_330 rfl h (fun H locs u hw h => ?_)
          exact hret _ _ _ _ _ h hw dX12_ruleOf_331
        · refine lv_iconst hx hb dX12_ruleOf_325 (v := jI 1) rfl ?_
          refine lv_goto hx hb dX12_ruleOf_326 (tgt := 330) rfl ?_
          refine aY 51 35 34 60 (fun _ _ _ _ => mG_51) (fun _ => rfl) (fun _ _ _ _ _ _ => mSA_51) X hw rx1 dX12_ruleOf_330 rfl h (fun H locs u hw h => ?_)
          exact hret _ _ _ _ _ h hw dX12_ruleOf_331

def w_ruleOf_294 (Q : iST → Prop) (x1 : Int) (x4 : Int) (x5 : Int) (x6 : Int) (x8 : Int) (y1 : Int) (u : iST) : Prop :=
  w_ruleOf_295 Q x1 x4 x5 x6 x8 y1 0 u
set_option maxRecDepth 20000 in
set_option maxHeartbeats 4000000 in
theorem b_ruleOf_294 (X : kX p m c cX12_ruleOf 10 s args D ca) (hRf : 5 ≤ R.frames) (hRl : 115 ≤ R.locals) {Q : iST → Prop} (hret : ∀ (u : iST) (H : Heap) (locs : List Loc) (ls : Array Slot) (pc : Nat), Q u → kW D ca A h0 ad H0 H locs u → decode cX12_ruleOf pc = .ok (.return_, 1) → W p l e R s m args below meth c H locs 0 0 Qf (F0 m pc ls [])) {x1 x4 x5 x6 x8 y1 : Int} (rx1 : inR x1) (rx4 : inR x4) (rx5 : inR x5) (rx6 : inR x6) (rx8 : inR x8) (ry1 : inR y1) (hw : kW D ca A h0 ad H0 H locs u) (hl : lv_has ls 10 [(0, .ref h0), (1, .int (jI x1)), (4, .int (jI x4)), (5, .int (jI x5)), (6, .int (jI x6)), (8, .int (jI x8))]) (h : w_ruleOf_294 Q x1 x4 x5 x6 x8 y1 u) : W p l e R s m args below meth c H locs 0 0 Qf (F0 m 294 ls [.int (jI y1), .ref (ad 50)]) := by
  have hx := X.1.1
  have hb := X.1.2.1
  unfold w_ruleOf_294 at h
  refine lv_iconst hx hb dX12_ruleOf_294 (v := jI 0) rfl ?_
  exact b_ruleOf_295 X hRf hRl hret rx1 rx4 rx5 rx6 rx8 ry1 (by decide) hw hl h

def w_ruleOf_243 (Q : iST → Prop) (x1 : Int) (x4 : Int) (x5 : Int) (x6 : Int) (x7 : Int) (x8 : Int) (y1 : Int) (y2 : Int) (u : iST) : Prop :=
  bd y1 60 (sw (iA u 46 y1 y2) (fun u => 
  bd x1 60 (sw (iA u 47 x1 x7) (fun u => 
  zt x8 (bd x1 60 (sw (iA u 52 x1 x8) (fun u => 
  zt 0 (bd x1 60 (sw (iA u 53 x1 0) (fun u => 
  br (x8 = 0) (
    w_ruleOf_294 Q x1 x4 x5 x6 x8 x1 u) (
    w_matches x6 x7 0 1 (fun v8 u => 
    br (v8 = 0) (
      w_ruleOf_294 Q x1 x4 x5 x6 x8 x1 u) (
      w_ruleOf_295 Q x1 x4 x5 x6 x8 x1 1 u)) u)))))))))))
set_option maxRecDepth 20000 in
set_option maxHeartbeats 4000000 in
theorem b_ruleOf_243 (X : kX p m c cX12_ruleOf 10 s args D ca) (hRf : 5 ≤ R.frames) (hRl : 115 ≤ R.locals) {Q : iST → Prop} (hret : ∀ (u : iST) (H : Heap) (locs : List Loc) (ls : Array Slot) (pc : Nat), Q u → kW D ca A h0 ad H0 H locs u → decode cX12_ruleOf pc = .ok (.return_, 1) → W p l e R s m args below meth c H locs 0 0 Qf (F0 m pc ls [])) {x1 x4 x5 x6 x7 x8 y1 y2 : Int} (rx1 : inR x1) (rx4 : inR x4) (rx5 : inR x5) (rx6 : inR x6) (rx7 : inR x7) (rx8 : inR x8) (ry1 : inR y1) (ry2 : inR y2) (hw : kW D ca A h0 ad H0 H locs u) (hl : lv_has ls 10 [(0, .ref h0), (1, .int (jI x1)), (4, .int (jI x4)), (5, .int (jI x5)), (6, .int (jI x6)), (7, .int (jI x7)), (8, .int (jI x8))]) (h : w_ruleOf_243 Q x1 x4 x5 x6 x7 x8 y1 y2 u) : W p l e R s m args below meth c H locs 0 0 Qf (F0 m 243 ls [.int (jI y2), .int (jI y1), .ref (ad 46)]) := by
  have hx := X.1.1
  have hb := X.1.2.1
  unfold w_ruleOf_243 at h
  refine aS 46 30 29 60 (fun _ _ _ _ => mG_46) (fun _ => rfl) (fun _ _ _ _ _ _ => mSA_46) (by decide) X hw ry1 ry2 dX12_ruleOf_243 rfl h (fun H locs u hw h => ?_)
  refine lv_aload_n hx hb dX12_ruleOf_244 rfl (lv_at hl 0 rfl) ?_
  refine gA 47 109 (by decide) L_47 (fun _ _ => mF_47) rfl X hw dX12_ruleOf_245 ?_
  refine lv_iload_n hx hb dX12_ruleOf_248 rfl (lv_at hl 1 rfl) ?_
  refine lv_iload hx hb dX12_ruleOf_249 (lv_at hl 5 rfl) ?_
  refine aS 47 31 30 60 (fun _ _ _ _ => mG_47) (fun _ => rfl) (fun _ _ _ _ _ _ => mSA_47) (by decide) X hw rx1 rx7 dX12_ruleOf_251 rfl h (fun H locs u hw h => ?_)
  refine lv_aload_n hx hb dX12_ruleOf_252 rfl (lv_at hl 0 rfl) ?_
  refine gA 52 124 (by decide) L_52 (fun _ _ => mF_52) rfl X hw dX12_ruleOf_253 ?_
  refine lv_iload_n hx hb dX12_ruleOf_256 rfl (lv_at hl 1 rfl) ?_
  refine lv_iload hx hb dX12_ruleOf_257 (lv_at hl 6 rfl) ?_
  refine aY 52 36 35 60 (fun _ _ _ _ => mG_52) (fun _ => rfl) (fun _ _ _ _ _ _ => mSA_52) X hw rx1 dX12_ruleOf_259 rfl h (fun H locs u hw h => ?_)
  refine lv_aload_n hx hb dX12_ruleOf_260 rfl (lv_at hl 0 rfl) ?_
  refine gA 53 127 (by decide) L_53 (fun _ _ => mF_53) rfl X hw dX12_ruleOf_261 ?_
  refine lv_iload_n hx hb dX12_ruleOf_264 rfl (lv_at hl 1 rfl) ?_
  refine lv_iconst hx hb dX12_ruleOf_265 (v := jI 0) rfl ?_
  refine aY 53 37 36 60 (fun _ _ _ _ => mG_53) (fun _ => rfl) (fun _ _ _ _ _ _ => mSA_53) X hw rx1 dX12_ruleOf_266 rfl h (fun H locs u hw h => ?_)
  refine lv_aload_n hx hb dX12_ruleOf_267 rfl (lv_at hl 0 rfl) ?_
  refine gA 50 118 (by decide) L_50 (fun _ _ => mF_50) rfl X hw dX12_ruleOf_268 ?_
  refine lv_iload_n hx hb dX12_ruleOf_271 rfl (lv_at hl 1 rfl) ?_
  refine lv_iload hx hb dX12_ruleOf_272 (lv_at hl 6 rfl) ?_
  refine k_if_eq hx hb rx8 dX12_ruleOf_274 (tgt := 294) rfl h (fun h => ?_) (fun h => ?_)
  · exact b_ruleOf_294 X hRf hRl hret rx1 rx4 rx5 rx6 rx8 rx1 hw (lv_sub hl [0, 1, 2, 3, 4, 6] rfl) h
  · refine lv_aload_n hx hb dX12_ruleOf_277 rfl (lv_at hl 0 rfl) ?_
    refine lv_iload hx hb dX12_ruleOf_278 (lv_at hl 4 rfl) ?_
    refine lv_iload hx hb dX12_ruleOf_280 (lv_at hl 5 rfl) ?_
    refine lv_iconst hx hb dX12_ruleOf_282 (v := jI 0) rfl ?_
    refine lv_iconst hx hb dX12_ruleOf_283 (v := jI 1) rfl ?_
    refine kcI (n := 4) (c_matches rx6 rx7 (by decide) (by decide) h) G_matches E_matches X hw (Nat.le_trans (Nat.le_of_ble_eq_true rfl) hRf) (Nat.le_trans (Nat.le_of_ble_eq_true rfl) hRl) rfl hl.1 (Nat.le_of_ble_eq_true rfl) rfl dX12_ruleOf_284 (fun v8 u H locs rv8 h hw => ?_)
    refine k_if_eq hx hb rv8 dX12_ruleOf_287 (tgt := 294) rfl h (fun h => ?_) (fun h => ?_)
    · exact b_ruleOf_294 X hRf hRl hret rx1 rx4 rx5 rx6 rx8 rx1 hw (lv_sub hl [0, 1, 2, 3, 4, 6] rfl) h
    · refine lv_iconst hx hb dX12_ruleOf_290 (v := jI 1) rfl ?_
      refine lv_goto hx hb dX12_ruleOf_291 (tgt := 295) rfl ?_
      exact b_ruleOf_295 X hRf hRl hret rx1 rx4 rx5 rx6 rx8 rx1 (by decide) hw (lv_sub hl [0, 1, 2, 3, 4, 6] rfl) h

def w_ruleOf_177b (R177 : Int → Int → Int → Int → Int → Int → Int → iST → Prop) (Q : iST → Prop) (x1 : Int) (x4 : Int) (x5 : Int) (x6 : Int) (x7 : Int) (x8 : Int) (x9 : Int) (u : iST) : Prop :=
  bd x1 60 (rd (u.2.1 48 x1) (fun v6 => 
  br (v6 ≤ x9) (
    br (x8 = 0) (
      w_ruleOf_243 Q x1 x4 x5 x6 x7 x8 x1 (-1) u) (
      w_ruleOf_243 Q x1 x4 x5 x6 x7 x8 x1 x6 u)) (
    br (x8 = 0) (
      ov (x9 + 1) (
      R177 x1 x4 x5 x6 x7 0 (x9 + 1) u)) (
      ov (120 * x1) (
      ov ((120 * x1) + x9) (
      bd ((120 * x1) + x9) 7200 (rd (u.2.1 49 ((120 * x1) + x9)) (fun v12 => 
      w_covers x6 v12 (fun v13 u => 
      br (v13 = 0) (
        ov (x9 + 1) (
        R177 x1 x4 x5 x6 x7 0 (x9 + 1) u)) (
        ov (x9 + 1) (
        R177 x1 x4 x5 x6 x7 1 (x9 + 1) u))) u))))))))
def w_ruleOf_177 (Q : iST → Prop) (x1 : Int) (x4 : Int) (x5 : Int) (x6 : Int) (x7 : Int) (x8 : Int) (x9 : Int) (u : iST) : Prop := ∀ R177 : Int → Int → Int → Int → Int → Int → Int → iST → Prop, (∀ (x1 : Int) (x4 : Int) (x5 : Int) (x6 : Int) (x7 : Int) (x8 : Int) (x9 : Int) (u : iST), w_ruleOf_177b R177 Q x1 x4 x5 x6 x7 x8 x9 u → R177 x1 x4 x5 x6 x7 x8 x9 u) → R177 x1 x4 x5 x6 x7 x8 x9 u
set_option maxRecDepth 20000 in
set_option maxHeartbeats 4000000 in
theorem b_ruleOf_177 (X : kX p m c cX12_ruleOf 10 s args D ca) (hRf : 5 ≤ R.frames) (hRl : 115 ≤ R.locals) {Q : iST → Prop} (hret : ∀ (u : iST) (H : Heap) (locs : List Loc) (ls : Array Slot) (pc : Nat), Q u → kW D ca A h0 ad H0 H locs u → decode cX12_ruleOf pc = .ok (.return_, 1) → W p l e R s m args below meth c H locs 0 0 Qf (F0 m pc ls [])) {x1 x4 x5 x6 x7 x8 x9 : Int} (rx1 : inR x1) (rx4 : inR x4) (rx5 : inR x5) (rx6 : inR x6) (rx7 : inR x7) (rx8 : inR x8) (rx9 : inR x9) (hw : kW D ca A h0 ad H0 H locs u) (hl : lv_has ls 10 [(0, .ref h0), (1, .int (jI x1)), (4, .int (jI x4)), (5, .int (jI x5)), (6, .int (jI x6)), (7, .int (jI x7)), (8, .int (jI x8)), (9, .int (jI x9))]) (h : w_ruleOf_177 Q x1 x4 x5 x6 x7 x8 x9 u) : W p l e R s m args below meth c H locs 0 0 Qf (F0 m 177 ls []) := by
  refine h (fun x1 x4 x5 x6 x7 x8 x9 u => ∀ (H : Heap) (locs : List Loc) (ls : Array Slot), inR x1 → inR x4 → inR x5 → inR x6 → inR x7 → inR x8 → inR x9 → kW D ca A h0 ad H0 H locs u → lv_has ls 10 [(0, .ref h0), (1, .int (jI x1)), (4, .int (jI x4)), (5, .int (jI x5)), (6, .int (jI x6)), (7, .int (jI x7)), (8, .int (jI x8)), (9, .int (jI x9))] → W p l e R s m args below meth c H locs 0 0 Qf (F0 m 177 ls [])) ?_ H locs ls rx1 rx4 rx5 rx6 rx7 rx8 rx9 hw hl
  clear h hl hw rx1 rx4 rx5 rx6 rx7 rx8 rx9
  intro x1 x4 x5 x6 x7 x8 x9 u h H locs ls rx1 rx4 rx5 rx6 rx7 rx8 rx9 hw hl
  have hR177 : ∀ (x1 : Int) (x4 : Int) (x5 : Int) (x6 : Int) (x7 : Int) (x8 : Int) (x9 : Int) (u : iST) (H : Heap) (locs : List Loc) (ls : Array Slot), inR x1 → inR x4 → inR x5 → inR x6 → inR x7 → inR x8 → inR x9 → kW D ca A h0 ad H0 H locs u → lv_has ls 10 [(0, .ref h0), (1, .int (jI x1)), (4, .int (jI x4)), (5, .int (jI x5)), (6, .int (jI x6)), (7, .int (jI x7)), (8, .int (jI x8)), (9, .int (jI x9))] → (fun (x1 : Int) (x4 : Int) (x5 : Int) (x6 : Int) (x7 : Int) (x8 : Int) (x9 : Int) u => ∀ (H : Heap) (locs : List Loc) (ls : Array Slot), inR x1 → inR x4 → inR x5 → inR x6 → inR x7 → inR x8 → inR x9 → kW D ca A h0 ad H0 H locs u → lv_has ls 10 [(0, .ref h0), (1, .int (jI x1)), (4, .int (jI x4)), (5, .int (jI x5)), (6, .int (jI x6)), (7, .int (jI x7)), (8, .int (jI x8)), (9, .int (jI x9))] → W p l e R s m args below meth c H locs 0 0 Qf (F0 m 177 ls [])) x1 x4 x5 x6 x7 x8 x9 u → W p l e R s m args below meth c H locs 0 0 Qf (F0 m 177 ls []) := fun x1 x4 x5 x6 x7 x8 x9 u H locs ls rx1 rx4 rx5 rx6 rx7 rx8 rx9 hw hl h => h H locs ls rx1 rx4 rx5 rx6 rx7 rx8 rx9 hw hl
  have hx := X.1.1
  have hb := X.1.2.1
  unfold w_ruleOf_177b at h
  refine lv_iload hx hb dX12_ruleOf_177 (lv_at hl 7 rfl) ?_
  refine lv_aload_n hx hb dX12_ruleOf_179 rfl (lv_at hl 0 rfl) ?_
  refine gA 48 112 (by decide) L_48 (fun _ _ => mF_48) rfl X hw dX12_ruleOf_180 ?_
  refine lv_iload_n hx hb dX12_ruleOf_183 rfl (lv_at hl 1 rfl) ?_
  refine aL 48 32 31 60 (fun _ _ _ _ => mG_48) (fun _ => rfl) X hw rx1 dX12_ruleOf_184 rfl h (fun v6 rv6 h => ?_)
  refine k_icmp_ge hx hb rx9 rv6 dX12_ruleOf_185 (tgt := 227) rfl h (fun h => ?_) (fun h => ?_)
  · refine lv_aload_n hx hb dX12_ruleOf_227 rfl (lv_at hl 0 rfl) ?_
    refine gA 46 106 (by decide) L_46 (fun _ _ => mF_46) rfl X hw dX12_ruleOf_228 ?_
    refine lv_iload_n hx hb dX12_ruleOf_231 rfl (lv_at hl 1 rfl) ?_
    refine lv_iload hx hb dX12_ruleOf_232 (lv_at hl 6 rfl) ?_
    refine k_if_eq hx hb rx8 dX12_ruleOf_234 (tgt := 242) rfl h (fun h => ?_) (fun h => ?_)
    · refine lv_iconst hx hb dX12_ruleOf_242 (v := jI (-1)) rfl ?_
      exact b_ruleOf_243 X hRf hRl hret rx1 rx4 rx5 rx6 rx7 rx8 rx1 (by decide) hw (lv_sub hl [0, 1, 2, 3, 4, 5, 6] rfl) h
    · refine lv_iload hx hb dX12_ruleOf_237 (lv_at hl 4 rfl) ?_
      refine lv_goto hx hb dX12_ruleOf_239 (tgt := 243) rfl ?_
      exact b_ruleOf_243 X hRf hRl hret rx1 rx4 rx5 rx6 rx7 rx8 rx1 rx6 hw (lv_sub hl [0, 1, 2, 3, 4, 5, 6] rfl) h
  · refine lv_iload hx hb dX12_ruleOf_188 (lv_at hl 6 rfl) ?_
    refine k_if_eq hx hb rx8 dX12_ruleOf_190 (tgt := 218) rfl h (fun h => ?_) (fun h => ?_)
    · refine lv_iconst hx hb dX12_ruleOf_218 (v := jI 0) rfl ?_
      refine lv_istore hx hb dX12_ruleOf_219 hl (by decide) rfl (fun ls hl => ?_)
      have hl : lv_has ls 10 [(8, .int (jI 0)), (0, .ref (h0)), (1, .int (jI x1)), (4, .int (jI x4)), (5, .int (jI x5)), (6, .int (jI x6)), (7, .int (jI x7)), (9, .int (jI x9))] := hl
      refine k_iinc (k := 7) hx hb dX12_ruleOf_221 hl rfl (by decide) rfl h (fun ls r9 h hl => ?_)
      have hl : lv_has ls 10 [(9, .int (jI (x9 + 1))), (8, .int (jI 0)), (0, .ref (h0)), (1, .int (jI x1)), (4, .int (jI x4)), (5, .int (jI x5)), (6, .int (jI x6)), (7, .int (jI x7))] := hl
      refine lv_goto hx hb dX12_ruleOf_224 (tgt := 177) rfl ?_
      exact hR177 _ _ _ _ _ _ _ _ H locs ls rx1 rx4 rx5 rx6 rx7 (by decide) r9 hw (lv_sub hl [2, 3, 4, 5, 6, 7, 1, 0] rfl) h
    · refine lv_aload_n hx hb dX12_ruleOf_193 rfl (lv_at hl 0 rfl) ?_
      refine lv_iload hx hb dX12_ruleOf_194 (lv_at hl 4 rfl) ?_
      refine lv_aload_n hx hb dX12_ruleOf_196 rfl (lv_at hl 0 rfl) ?_
      refine gA 49 115 (by decide) L_49 (fun _ _ => mF_49) rfl X hw dX12_ruleOf_197 ?_
      refine lv_bipush hx hb dX12_ruleOf_200 (v := jI 120) rfl ?_
      refine lv_iload_n hx hb dX12_ruleOf_202 rfl (lv_at hl 1 rfl) ?_
      refine k_imul hx hb dX12_ruleOf_203 h (fun r10 h => ?_)
      refine lv_iload hx hb dX12_ruleOf_204 (lv_at hl 7 rfl) ?_
      refine k_iadd hx hb dX12_ruleOf_206 h (fun r11 h => ?_)
      refine aL 49 33 32 7200 (fun _ _ _ _ => mG_49) (fun _ => rfl) X hw r11 dX12_ruleOf_207 rfl h (fun v12 rv12 h => ?_)
      refine kcI (n := 2) (c_covers rx6 rv12 h) G_covers E_covers X hw (Nat.le_trans (Nat.le_of_ble_eq_true rfl) hRf) (Nat.le_trans (Nat.le_of_ble_eq_true rfl) hRl) rfl hl.1 (Nat.le_of_ble_eq_true rfl) rfl dX12_ruleOf_208 (fun v13 u H locs rv13 h hw => ?_)
      refine k_if_eq hx hb rv13 dX12_ruleOf_211 (tgt := 218) rfl h (fun h => ?_) (fun h => ?_)
      · refine lv_iconst hx hb dX12_ruleOf_218 (v := jI 0) rfl ?_
        refine lv_istore hx hb dX12_ruleOf_219 hl (by decide) rfl (fun ls hl => ?_)
        have hl : lv_has ls 10 [(8, .int (jI 0)), (0, .ref (h0)), (1, .int (jI x1)), (4, .int (jI x4)), (5, .int (jI x5)), (6, .int (jI x6)), (7, .int (jI x7)), (9, .int (jI x9))] := hl
        refine k_iinc (k := 7) hx hb dX12_ruleOf_221 hl rfl (by decide) rfl h (fun ls r14 h hl => ?_)
        have hl : lv_has ls 10 [(9, .int (jI (x9 + 1))), (8, .int (jI 0)), (0, .ref (h0)), (1, .int (jI x1)), (4, .int (jI x4)), (5, .int (jI x5)), (6, .int (jI x6)), (7, .int (jI x7))] := hl
        refine lv_goto hx hb dX12_ruleOf_224 (tgt := 177) rfl ?_
        exact hR177 _ _ _ _ _ _ _ _ H locs ls rx1 rx4 rx5 rx6 rx7 (by decide) r14 hw (lv_sub hl [2, 3, 4, 5, 6, 7, 1, 0] rfl) h
      · refine lv_iconst hx hb dX12_ruleOf_214 (v := jI 1) rfl ?_
        refine lv_goto hx hb dX12_ruleOf_215 (tgt := 219) rfl ?_
        refine lv_istore hx hb dX12_ruleOf_219 hl (by decide) rfl (fun ls hl => ?_)
        have hl : lv_has ls 10 [(8, .int (jI 1)), (0, .ref (h0)), (1, .int (jI x1)), (4, .int (jI x4)), (5, .int (jI x5)), (6, .int (jI x6)), (7, .int (jI x7)), (9, .int (jI x9))] := hl
        refine k_iinc (k := 7) hx hb dX12_ruleOf_221 hl rfl (by decide) rfl h (fun ls r15 h hl => ?_)
        have hl : lv_has ls 10 [(9, .int (jI (x9 + 1))), (8, .int (jI 1)), (0, .ref (h0)), (1, .int (jI x1)), (4, .int (jI x4)), (5, .int (jI x5)), (6, .int (jI x6)), (7, .int (jI x7))] := hl
        refine lv_goto hx hb dX12_ruleOf_224 (tgt := 177) rfl ?_
        exact hR177 _ _ _ _ _ _ _ _ H locs ls rx1 rx4 rx5 rx6 rx7 (by decide) r15 hw (lv_sub hl [2, 3, 4, 5, 6, 7, 1, 0] rfl) h

def w_ruleOf_172 (Q : iST → Prop) (x1 : Int) (x4 : Int) (x5 : Int) (x6 : Int) (x7 : Int) (y0 : Int) (u : iST) : Prop :=
  w_ruleOf_177 Q x1 x4 x5 x6 x7 y0 0 u
set_option maxRecDepth 20000 in
set_option maxHeartbeats 4000000 in
theorem b_ruleOf_172 (X : kX p m c cX12_ruleOf 10 s args D ca) (hRf : 5 ≤ R.frames) (hRl : 115 ≤ R.locals) {Q : iST → Prop} (hret : ∀ (u : iST) (H : Heap) (locs : List Loc) (ls : Array Slot) (pc : Nat), Q u → kW D ca A h0 ad H0 H locs u → decode cX12_ruleOf pc = .ok (.return_, 1) → W p l e R s m args below meth c H locs 0 0 Qf (F0 m pc ls [])) {x1 x4 x5 x6 x7 y0 : Int} (rx1 : inR x1) (rx4 : inR x4) (rx5 : inR x5) (rx6 : inR x6) (rx7 : inR x7) (ry0 : inR y0) (hw : kW D ca A h0 ad H0 H locs u) (hl : lv_has ls 10 [(0, .ref h0), (1, .int (jI x1)), (4, .int (jI x4)), (5, .int (jI x5)), (6, .int (jI x6)), (7, .int (jI x7))]) (h : w_ruleOf_172 Q x1 x4 x5 x6 x7 y0 u) : W p l e R s m args below meth c H locs 0 0 Qf (F0 m 172 ls [.int (jI y0)]) := by
  have hx := X.1.1
  have hb := X.1.2.1
  unfold w_ruleOf_172 at h
  refine lv_istore hx hb dX12_ruleOf_172 hl (by decide) rfl (fun ls hl => ?_)
  have hl : lv_has ls 10 [(8, .int (jI y0)), (0, .ref (h0)), (1, .int (jI x1)), (4, .int (jI x4)), (5, .int (jI x5)), (6, .int (jI x6)), (7, .int (jI x7))] := hl
  refine lv_iconst hx hb dX12_ruleOf_174 (v := jI 0) rfl ?_
  refine lv_istore hx hb dX12_ruleOf_175 hl (by decide) rfl (fun ls hl => ?_)
  have hl : lv_has ls 10 [(9, .int (jI 0)), (8, .int (jI y0)), (0, .ref (h0)), (1, .int (jI x1)), (4, .int (jI x4)), (5, .int (jI x5)), (6, .int (jI x6)), (7, .int (jI x7))] := hl
  exact b_ruleOf_177 X hRf hRl hret rx1 rx4 rx5 rx6 rx7 ry0 (by decide) hw (lv_sub hl [2, 3, 4, 5, 6, 7, 1, 0] rfl) h

def w_ruleOf_171 (Q : iST → Prop) (x1 : Int) (x4 : Int) (x5 : Int) (x6 : Int) (x7 : Int) (u : iST) : Prop :=
  w_ruleOf_172 Q x1 x4 x5 x6 x7 0 u
set_option maxRecDepth 20000 in
set_option maxHeartbeats 4000000 in
theorem b_ruleOf_171 (X : kX p m c cX12_ruleOf 10 s args D ca) (hRf : 5 ≤ R.frames) (hRl : 115 ≤ R.locals) {Q : iST → Prop} (hret : ∀ (u : iST) (H : Heap) (locs : List Loc) (ls : Array Slot) (pc : Nat), Q u → kW D ca A h0 ad H0 H locs u → decode cX12_ruleOf pc = .ok (.return_, 1) → W p l e R s m args below meth c H locs 0 0 Qf (F0 m pc ls [])) {x1 x4 x5 x6 x7 : Int} (rx1 : inR x1) (rx4 : inR x4) (rx5 : inR x5) (rx6 : inR x6) (rx7 : inR x7) (hw : kW D ca A h0 ad H0 H locs u) (hl : lv_has ls 10 [(0, .ref h0), (1, .int (jI x1)), (4, .int (jI x4)), (5, .int (jI x5)), (6, .int (jI x6)), (7, .int (jI x7))]) (h : w_ruleOf_171 Q x1 x4 x5 x6 x7 u) : W p l e R s m args below meth c H locs 0 0 Qf (F0 m 171 ls []) := by
  have hx := X.1.1
  have hb := X.1.2.1
  unfold w_ruleOf_171 at h
  refine lv_iconst hx hb dX12_ruleOf_171 (v := jI 0) rfl ?_
  exact b_ruleOf_172 X hRf hRl hret rx1 rx4 rx5 rx6 rx7 (by decide) hw hl h

def w_ruleOf_103 (Q : iST → Prop) (x1 : Int) (x4 : Int) (x5 : Int) (x6 : Int) (y0 : Int) (u : iST) : Prop :=
  w_isCall x6 (fun v5 u => 
  br (v5 = 0) (
    w_ruleOf_171 Q x1 x4 x5 x6 y0 u) (
    bd x6 452000 (rd (u.2.1 0 x6) (fun v16 => 
    br (v16 = 3) (
      w_ruleOf_171 Q x1 x4 x5 x6 y0 u) (
      bd x6 452000 (rd (u.2.1 0 x6) (fun v17 => 
      br (v17 = 15) (
        w_ruleOf_171 Q x1 x4 x5 x6 y0 u) (
        bd x6 452000 (rd (u.2.1 0 x6) (fun v18 => 
        br (v18 = 6) (
          w_ruleOf_171 Q x1 x4 x5 x6 y0 u) (
          br (x6 = y0) (
            w_ruleOf_171 Q x1 x4 x5 x6 y0 u) (
            w_covers x6 y0 (fun v19 u => 
            br (v19 = 0) (
              w_ruleOf_171 Q x1 x4 x5 x6 y0 u) (
              w_ruleOf_172 Q x1 x4 x5 x6 y0 1 u)) u)))))))))))) u
set_option maxRecDepth 20000 in
set_option maxHeartbeats 4000000 in
theorem b_ruleOf_103 (X : kX p m c cX12_ruleOf 10 s args D ca) (hRf : 5 ≤ R.frames) (hRl : 115 ≤ R.locals) {Q : iST → Prop} (hret : ∀ (u : iST) (H : Heap) (locs : List Loc) (ls : Array Slot) (pc : Nat), Q u → kW D ca A h0 ad H0 H locs u → decode cX12_ruleOf pc = .ok (.return_, 1) → W p l e R s m args below meth c H locs 0 0 Qf (F0 m pc ls [])) {x1 x4 x5 x6 y0 : Int} (rx1 : inR x1) (rx4 : inR x4) (rx5 : inR x5) (rx6 : inR x6) (ry0 : inR y0) (hw : kW D ca A h0 ad H0 H locs u) (hl : lv_has ls 10 [(0, .ref h0), (1, .int (jI x1)), (4, .int (jI x4)), (5, .int (jI x5)), (6, .int (jI x6))]) (h : w_ruleOf_103 Q x1 x4 x5 x6 y0 u) : W p l e R s m args below meth c H locs 0 0 Qf (F0 m 103 ls [.int (jI y0)]) := by
  have hx := X.1.1
  have hb := X.1.2.1
  unfold w_ruleOf_103 at h
  refine lv_istore hx hb dX12_ruleOf_103 hl (by decide) rfl (fun ls hl => ?_)
  have hl : lv_has ls 10 [(7, .int (jI y0)), (0, .ref (h0)), (1, .int (jI x1)), (4, .int (jI x4)), (5, .int (jI x5)), (6, .int (jI x6))] := hl
  refine lv_aload_n hx hb dX12_ruleOf_105 rfl (lv_at hl 1 rfl) ?_
  refine lv_iload hx hb dX12_ruleOf_106 (lv_at hl 5 rfl) ?_
  refine kcI (n := 1) (c_isCall rx6 h) G_isCall E_isCall X hw (Nat.le_trans (Nat.le_of_ble_eq_true rfl) hRf) (Nat.le_trans (Nat.le_of_ble_eq_true rfl) hRl) rfl hl.1 (Nat.le_of_ble_eq_true rfl) rfl dX12_ruleOf_108 (fun v5 u H locs rv5 h hw => ?_)
  refine k_if_eq hx hb rv5 dX12_ruleOf_111 (tgt := 171) rfl h (fun h => ?_) (fun h => ?_)
  · exact b_ruleOf_171 X hRf hRl hret rx1 rx4 rx5 rx6 ry0 hw (lv_sub hl [1, 2, 3, 4, 5, 0] rfl) h
  · refine lv_aload_n hx hb dX12_ruleOf_114 rfl (lv_at hl 1 rfl) ?_
    refine gA 0 8 (by decide) L_0 (fun _ _ => mF_0) rfl X hw dX12_ruleOf_115 ?_
    refine lv_iload hx hb dX12_ruleOf_118 (lv_at hl 5 rfl) ?_
    refine aL 0 1 0 452000 (fun _ _ _ _ => mG_0) (fun _ => rfl) X hw rx6 dX12_ruleOf_120 rfl h (fun v16 rv16 h => ?_)
    refine lv_iconst hx hb dX12_ruleOf_121 (v := jI 3) rfl ?_
    refine k_icmp_eq hx hb rv16 (by decide) dX12_ruleOf_122 (tgt := 171) rfl h (fun h => ?_) (fun h => ?_)
    · exact b_ruleOf_171 X hRf hRl hret rx1 rx4 rx5 rx6 ry0 hw (lv_sub hl [1, 2, 3, 4, 5, 0] rfl) h
    · refine lv_aload_n hx hb dX12_ruleOf_125 rfl (lv_at hl 1 rfl) ?_
      refine gA 0 8 (by decide) L_0 (fun _ _ => mF_0) rfl X hw dX12_ruleOf_126 ?_
      refine lv_iload hx hb dX12_ruleOf_129 (lv_at hl 5 rfl) ?_
      refine aL 0 1 0 452000 (fun _ _ _ _ => mG_0) (fun _ => rfl) X hw rx6 dX12_ruleOf_131 rfl h (fun v17 rv17 h => ?_)
      refine lv_bipush hx hb dX12_ruleOf_132 (v := jI 15) rfl ?_
      refine k_icmp_eq hx hb rv17 (by decide) dX12_ruleOf_134 (tgt := 171) rfl h (fun h => ?_) (fun h => ?_)
      · exact b_ruleOf_171 X hRf hRl hret rx1 rx4 rx5 rx6 ry0 hw (lv_sub hl [1, 2, 3, 4, 5, 0] rfl) h
      · refine lv_aload_n hx hb dX12_ruleOf_137 rfl (lv_at hl 1 rfl) ?_
        refine gA 0 8 (by decide) L_0 (fun _ _ => mF_0) rfl X hw dX12_ruleOf_138 ?_
        refine lv_iload hx hb dX12_ruleOf_141 (lv_at hl 5 rfl) ?_
        refine aL 0 1 0 452000 (fun _ _ _ _ => mG_0) (fun _ => rfl) X hw rx6 dX12_ruleOf_143 rfl h (fun v18 rv18 h => ?_)
        refine lv_bipush hx hb dX12_ruleOf_144 (v := jI 6) rfl ?_
        refine k_icmp_eq hx hb rv18 (by decide) dX12_ruleOf_146 (tgt := 171) rfl h (fun h => ?_) (fun h => ?_)
        · exact b_ruleOf_171 X hRf hRl hret rx1 rx4 rx5 rx6 ry0 hw (lv_sub hl [1, 2, 3, 4, 5, 0] rfl) h
        · refine lv_iload hx hb dX12_ruleOf_149 (lv_at hl 5 rfl) ?_
          refine lv_iload hx hb dX12_ruleOf_151 (lv_at hl 0 rfl) ?_
          refine k_icmp_eq hx hb rx6 ry0 dX12_ruleOf_153 (tgt := 171) rfl h (fun h => ?_) (fun h => ?_)
          · exact b_ruleOf_171 X hRf hRl hret rx1 rx4 rx5 rx6 ry0 hw (lv_sub hl [1, 2, 3, 4, 5, 0] rfl) h
          · refine lv_aload_n hx hb dX12_ruleOf_156 rfl (lv_at hl 1 rfl) ?_
            refine lv_iload hx hb dX12_ruleOf_157 (lv_at hl 5 rfl) ?_
            refine lv_iload hx hb dX12_ruleOf_159 (lv_at hl 0 rfl) ?_
            refine kcI (n := 2) (c_covers rx6 ry0 h) G_covers E_covers X hw (Nat.le_trans (Nat.le_of_ble_eq_true rfl) hRf) (Nat.le_trans (Nat.le_of_ble_eq_true rfl) hRl) rfl hl.1 (Nat.le_of_ble_eq_true rfl) rfl dX12_ruleOf_161 (fun v19 u H locs rv19 h hw => ?_)
            refine k_if_eq hx hb rv19 dX12_ruleOf_164 (tgt := 171) rfl h (fun h => ?_) (fun h => ?_)
            · exact b_ruleOf_171 X hRf hRl hret rx1 rx4 rx5 rx6 ry0 hw (lv_sub hl [1, 2, 3, 4, 5, 0] rfl) h
            · refine lv_iconst hx hb dX12_ruleOf_167 (v := jI 1) rfl ?_
              refine lv_goto hx hb dX12_ruleOf_168 (tgt := 172) rfl ?_
              exact b_ruleOf_172 X hRf hRl hret rx1 rx4 rx5 rx6 ry0 (by decide) hw (lv_sub hl [1, 2, 3, 4, 5, 0] rfl) h

def w_ruleOf_77 (Q : iST → Prop) (x1 : Int) (x3 : Int) (x4 : Int) (x5 : Int) (y0 : Int) (u : iST) : Prop :=
  br (x4 = 0) (
    br (x5 = 0) (
      w_ruleOf_103 Q x1 x4 x5 y0 1 u) (
      w_ruleOf_103 Q x1 x4 x5 y0 0 u)) (
    w_term x3 2 (fun v20 u => 
    w_ruleOf_103 Q x1 x4 x5 y0 v20 u) u)
set_option maxRecDepth 20000 in
set_option maxHeartbeats 4000000 in
theorem b_ruleOf_77 (X : kX p m c cX12_ruleOf 10 s args D ca) (hRf : 5 ≤ R.frames) (hRl : 115 ≤ R.locals) {Q : iST → Prop} (hret : ∀ (u : iST) (H : Heap) (locs : List Loc) (ls : Array Slot) (pc : Nat), Q u → kW D ca A h0 ad H0 H locs u → decode cX12_ruleOf pc = .ok (.return_, 1) → W p l e R s m args below meth c H locs 0 0 Qf (F0 m pc ls [])) {x1 x3 x4 x5 y0 : Int} (rx1 : inR x1) (rx3 : inR x3) (rx4 : inR x4) (rx5 : inR x5) (ry0 : inR y0) (hw : kW D ca A h0 ad H0 H locs u) (hl : lv_has ls 10 [(0, .ref h0), (1, .int (jI x1)), (3, .int (jI x3)), (4, .int (jI x4)), (5, .int (jI x5))]) (h : w_ruleOf_77 Q x1 x3 x4 x5 y0 u) : W p l e R s m args below meth c H locs 0 0 Qf (F0 m 77 ls [.int (jI y0)]) := by
  have hx := X.1.1
  have hb := X.1.2.1
  unfold w_ruleOf_77 at h
  refine lv_istore hx hb dX12_ruleOf_77 hl (by decide) rfl (fun ls hl => ?_)
  have hl : lv_has ls 10 [(6, .int (jI y0)), (0, .ref (h0)), (1, .int (jI x1)), (3, .int (jI x3)), (4, .int (jI x4)), (5, .int (jI x5))] := hl
  refine lv_iload hx hb dX12_ruleOf_79 (lv_at hl 4 rfl) ?_
  refine k_if_eq hx hb rx4 dX12_ruleOf_81 (tgt := 93) rfl h (fun h => ?_) (fun h => ?_)
  · refine lv_iload hx hb dX12_ruleOf_93 (lv_at hl 5 rfl) ?_
    refine k_if_eq hx hb rx5 dX12_ruleOf_95 (tgt := 102) rfl h (fun h => ?_) (fun h => ?_)
    · refine lv_iconst hx hb dX12_ruleOf_102 (v := jI 1) rfl ?_
      exact b_ruleOf_103 X hRf hRl hret rx1 rx4 rx5 ry0 (by decide) hw (lv_sub hl [1, 2, 4, 5, 0] rfl) h
    · refine lv_iconst hx hb dX12_ruleOf_98 (v := jI 0) rfl ?_
      refine lv_goto hx hb dX12_ruleOf_99 (tgt := 103) rfl ?_
      exact b_ruleOf_103 X hRf hRl hret rx1 rx4 rx5 ry0 (by decide) hw (lv_sub hl [1, 2, 4, 5, 0] rfl) h
  · refine lv_aload_n hx hb dX12_ruleOf_84 rfl (lv_at hl 1 rfl) ?_
    refine lv_iload_n hx hb dX12_ruleOf_85 rfl (lv_at hl 3 rfl) ?_
    refine lv_iconst hx hb dX12_ruleOf_86 (v := jI 2) rfl ?_
    refine kcI (n := 2) (c_term rx3 (by decide) h) G_term E_term X hw (Nat.le_trans (Nat.le_of_ble_eq_true rfl) hRf) (Nat.le_trans (Nat.le_of_ble_eq_true rfl) hRl) rfl hl.1 (Nat.le_of_ble_eq_true rfl) rfl dX12_ruleOf_87 (fun v20 u H locs rv20 h hw => ?_)
    refine lv_goto hx hb dX12_ruleOf_90 (tgt := 103) rfl ?_
    exact b_ruleOf_103 X hRf hRl hret rx1 rx4 rx5 ry0 rv20 hw (lv_sub hl [1, 2, 4, 5, 0] rfl) h

def w_ruleOf_67 (Q : iST → Prop) (x1 : Int) (x3 : Int) (x4 : Int) (x5 : Int) (u : iST) : Prop :=
  w_term x3 1 (fun v4 u => 
  w_ruleOf_77 Q x1 x3 x4 x5 v4 u) u
set_option maxRecDepth 20000 in
set_option maxHeartbeats 4000000 in
theorem b_ruleOf_67 (X : kX p m c cX12_ruleOf 10 s args D ca) (hRf : 5 ≤ R.frames) (hRl : 115 ≤ R.locals) {Q : iST → Prop} (hret : ∀ (u : iST) (H : Heap) (locs : List Loc) (ls : Array Slot) (pc : Nat), Q u → kW D ca A h0 ad H0 H locs u → decode cX12_ruleOf pc = .ok (.return_, 1) → W p l e R s m args below meth c H locs 0 0 Qf (F0 m pc ls [])) {x1 x3 x4 x5 : Int} (rx1 : inR x1) (rx3 : inR x3) (rx4 : inR x4) (rx5 : inR x5) (hw : kW D ca A h0 ad H0 H locs u) (hl : lv_has ls 10 [(0, .ref h0), (1, .int (jI x1)), (3, .int (jI x3)), (4, .int (jI x4)), (5, .int (jI x5))]) (h : w_ruleOf_67 Q x1 x3 x4 x5 u) : W p l e R s m args below meth c H locs 0 0 Qf (F0 m 67 ls []) := by
  have hx := X.1.1
  have hb := X.1.2.1
  unfold w_ruleOf_67 at h
  refine lv_aload_n hx hb dX12_ruleOf_67 rfl (lv_at hl 0 rfl) ?_
  refine lv_iload_n hx hb dX12_ruleOf_68 rfl (lv_at hl 2 rfl) ?_
  refine lv_iconst hx hb dX12_ruleOf_69 (v := jI 1) rfl ?_
  refine kcI (n := 2) (c_term rx3 (by decide) h) G_term E_term X hw (Nat.le_trans (Nat.le_of_ble_eq_true rfl) hRf) (Nat.le_trans (Nat.le_of_ble_eq_true rfl) hRl) rfl hl.1 (Nat.le_of_ble_eq_true rfl) rfl dX12_ruleOf_70 (fun v4 u H locs rv4 h hw => ?_)
  refine lv_goto hx hb dX12_ruleOf_73 (tgt := 77) rfl ?_
  exact b_ruleOf_77 X hRf hRl hret rx1 rx3 rx4 rx5 rv4 hw hl h

def w_ruleOf_9b (R9 : Int → Int → iST → Prop) (Q : iST → Prop) (x1 : Int) (x3 : Int) (u : iST) : Prop :=
  w_isCallOf x3 6 (fun v1 u => 
  br (v1 = 0) (
    w_isCallOf x3 4 (fun v2 u => 
    w_isCallOf x3 15 (fun v3 u => 
    br (v2 ≠ 0) (
      w_ruleOf_67 Q x1 x3 v2 v3 u) (
      br (v3 = 0) (
        w_ruleOf_77 Q x1 x3 v2 v3 x3 u) (
        w_ruleOf_67 Q x1 x3 v2 v3 u))) u) u) (
    w_term x3 1 (fun v21 u => 
    w_hypotheses x1 v21 (fun u => 
    w_term x3 2 (fun v23 u => 
    R9 x1 v23 u) u) u) u)) u
def w_ruleOf_9 (Q : iST → Prop) (x1 : Int) (x3 : Int) (u : iST) : Prop := ∀ R9 : Int → Int → iST → Prop, (∀ (x1 : Int) (x3 : Int) (u : iST), w_ruleOf_9b R9 Q x1 x3 u → R9 x1 x3 u) → R9 x1 x3 u
set_option maxRecDepth 20000 in
set_option maxHeartbeats 4000000 in
theorem b_ruleOf_9 (X : kX p m c cX12_ruleOf 10 s args D ca) (hRf : 5 ≤ R.frames) (hRl : 115 ≤ R.locals) {Q : iST → Prop} (hret : ∀ (u : iST) (H : Heap) (locs : List Loc) (ls : Array Slot) (pc : Nat), Q u → kW D ca A h0 ad H0 H locs u → decode cX12_ruleOf pc = .ok (.return_, 1) → W p l e R s m args below meth c H locs 0 0 Qf (F0 m pc ls [])) {x1 x3 : Int} (rx1 : inR x1) (rx3 : inR x3) (hw : kW D ca A h0 ad H0 H locs u) (hl : lv_has ls 10 [(0, .ref h0), (1, .int (jI x1)), (3, .int (jI x3))]) (h : w_ruleOf_9 Q x1 x3 u) : W p l e R s m args below meth c H locs 0 0 Qf (F0 m 9 ls []) := by
  refine h (fun x1 x3 u => ∀ (H : Heap) (locs : List Loc) (ls : Array Slot), inR x1 → inR x3 → kW D ca A h0 ad H0 H locs u → lv_has ls 10 [(0, .ref h0), (1, .int (jI x1)), (3, .int (jI x3))] → W p l e R s m args below meth c H locs 0 0 Qf (F0 m 9 ls [])) ?_ H locs ls rx1 rx3 hw hl
  clear h hl hw rx1 rx3
  intro x1 x3 u h H locs ls rx1 rx3 hw hl
  have hR9 : ∀ (x1 : Int) (x3 : Int) (u : iST) (H : Heap) (locs : List Loc) (ls : Array Slot), inR x1 → inR x3 → kW D ca A h0 ad H0 H locs u → lv_has ls 10 [(0, .ref h0), (1, .int (jI x1)), (3, .int (jI x3))] → (fun (x1 : Int) (x3 : Int) u => ∀ (H : Heap) (locs : List Loc) (ls : Array Slot), inR x1 → inR x3 → kW D ca A h0 ad H0 H locs u → lv_has ls 10 [(0, .ref h0), (1, .int (jI x1)), (3, .int (jI x3))] → W p l e R s m args below meth c H locs 0 0 Qf (F0 m 9 ls [])) x1 x3 u → W p l e R s m args below meth c H locs 0 0 Qf (F0 m 9 ls []) := fun x1 x3 u H locs ls rx1 rx3 hw hl h => h H locs ls rx1 rx3 hw hl
  have hx := X.1.1
  have hb := X.1.2.1
  unfold w_ruleOf_9b at h
  refine lv_aload_n hx hb dX12_ruleOf_9 rfl (lv_at hl 0 rfl) ?_
  refine lv_iload_n hx hb dX12_ruleOf_10 rfl (lv_at hl 2 rfl) ?_
  refine lv_bipush hx hb dX12_ruleOf_11 (v := jI 6) rfl ?_
  refine kcI (n := 2) (c_isCallOf rx3 (by decide) h) G_isCallOf E_isCallOf X hw (Nat.le_trans (Nat.le_of_ble_eq_true rfl) hRf) (Nat.le_trans (Nat.le_of_ble_eq_true rfl) hRl) rfl hl.1 (Nat.le_of_ble_eq_true rfl) rfl dX12_ruleOf_13 (fun v1 u H locs rv1 h hw => ?_)
  refine k_if_eq hx hb rv1 dX12_ruleOf_16 (tgt := 40) rfl h (fun h => ?_) (fun h => ?_)
  · refine lv_aload_n hx hb dX12_ruleOf_40 rfl (lv_at hl 0 rfl) ?_
    refine lv_iload_n hx hb dX12_ruleOf_41 rfl (lv_at hl 2 rfl) ?_
    refine lv_iconst hx hb dX12_ruleOf_42 (v := jI 4) rfl ?_
    refine kcI (n := 2) (c_isCallOf rx3 (by decide) h) G_isCallOf E_isCallOf X hw (Nat.le_trans (Nat.le_of_ble_eq_true rfl) hRf) (Nat.le_trans (Nat.le_of_ble_eq_true rfl) hRl) rfl hl.1 (Nat.le_of_ble_eq_true rfl) rfl dX12_ruleOf_43 (fun v2 u H locs rv2 h hw => ?_)
    refine lv_istore hx hb dX12_ruleOf_46 hl (by decide) rfl (fun ls hl => ?_)
    have hl : lv_has ls 10 [(4, .int (jI v2)), (0, .ref (h0)), (1, .int (jI x1)), (3, .int (jI x3))] := hl
    refine lv_aload_n hx hb dX12_ruleOf_48 rfl (lv_at hl 1 rfl) ?_
    refine lv_iload_n hx hb dX12_ruleOf_49 rfl (lv_at hl 3 rfl) ?_
    refine lv_bipush hx hb dX12_ruleOf_50 (v := jI 15) rfl ?_
    refine kcI (n := 2) (c_isCallOf rx3 (by decide) h) G_isCallOf E_isCallOf X hw (Nat.le_trans (Nat.le_of_ble_eq_true rfl) hRf) (Nat.le_trans (Nat.le_of_ble_eq_true rfl) hRl) rfl hl.1 (Nat.le_of_ble_eq_true rfl) rfl dX12_ruleOf_52 (fun v3 u H locs rv3 h hw => ?_)
    refine lv_istore hx hb dX12_ruleOf_55 hl (by decide) rfl (fun ls hl => ?_)
    have hl : lv_has ls 10 [(5, .int (jI v3)), (4, .int (jI v2)), (0, .ref (h0)), (1, .int (jI x1)), (3, .int (jI x3))] := hl
    refine lv_iload hx hb dX12_ruleOf_57 (lv_at hl 1 rfl) ?_
    refine k_if_ne hx hb rv2 dX12_ruleOf_59 (tgt := 67) rfl h (fun h => ?_) (fun h => ?_)
    · exact b_ruleOf_67 X hRf hRl hret rx1 rx3 rv2 rv3 hw (lv_sub hl [2, 3, 4, 1, 0] rfl) h
    · refine lv_iload hx hb dX12_ruleOf_62 (lv_at hl 0 rfl) ?_
      refine k_if_eq hx hb rv3 dX12_ruleOf_64 (tgt := 76) rfl h (fun h => ?_) (fun h => ?_)
      · refine lv_iload_n hx hb dX12_ruleOf_76 rfl (lv_at hl 4 rfl) ?_
        exact b_ruleOf_77 X hRf hRl hret rx1 rx3 rv2 rv3 rx3 hw (lv_sub hl [2, 3, 4, 1, 0] rfl) h
      · exact b_ruleOf_67 X hRf hRl hret rx1 rx3 rv2 rv3 hw (lv_sub hl [2, 3, 4, 1, 0] rfl) h
  · refine lv_aload_n hx hb dX12_ruleOf_19 rfl (lv_at hl 0 rfl) ?_
    refine lv_iload_n hx hb dX12_ruleOf_20 rfl (lv_at hl 1 rfl) ?_
    refine lv_aload_n hx hb dX12_ruleOf_21 rfl (lv_at hl 0 rfl) ?_
    refine lv_iload_n hx hb dX12_ruleOf_22 rfl (lv_at hl 2 rfl) ?_
    refine lv_iconst hx hb dX12_ruleOf_23 (v := jI 1) rfl ?_
    refine kcI (n := 2) (c_term rx3 (by decide) h) G_term E_term X hw (Nat.le_trans (Nat.le_of_ble_eq_true rfl) hRf) (Nat.le_trans (Nat.le_of_ble_eq_true rfl) hRl) rfl hl.1 (Nat.le_of_ble_eq_true rfl) rfl dX12_ruleOf_24 (fun v21 u H locs rv21 h hw => ?_)
    refine kcV (n := 2) (c_hypotheses rx1 rv21 h) G_hypotheses E_hypotheses X hw (Nat.le_trans (Nat.le_of_ble_eq_true rfl) hRf) (Nat.le_trans (Nat.le_of_ble_eq_true rfl) hRl) rfl hl.1 (Nat.le_of_ble_eq_true rfl) rfl dX12_ruleOf_27 (fun u H locs h hw => ?_)
    refine lv_aload_n hx hb dX12_ruleOf_30 rfl (lv_at hl 0 rfl) ?_
    refine lv_iload_n hx hb dX12_ruleOf_31 rfl (lv_at hl 2 rfl) ?_
    refine lv_iconst hx hb dX12_ruleOf_32 (v := jI 2) rfl ?_
    refine kcI (n := 2) (c_term rx3 (by decide) h) G_term E_term X hw (Nat.le_trans (Nat.le_of_ble_eq_true rfl) hRf) (Nat.le_trans (Nat.le_of_ble_eq_true rfl) hRl) rfl hl.1 (Nat.le_of_ble_eq_true rfl) rfl dX12_ruleOf_33 (fun v23 u H locs rv23 h hw => ?_)
    refine lv_istore_n hx hb dX12_ruleOf_36 rfl hl (by decide) rfl (fun ls hl => ?_)
    have hl : lv_has ls 10 [(3, .int (jI v23)), (0, .ref (h0)), (1, .int (jI x1))] := hl
    refine lv_goto hx hb dX12_ruleOf_37 (tgt := 9) rfl ?_
    exact hR9 _ _ _ H locs ls rx1 rv23 hw (lv_sub hl [1, 2, 0] rfl) h

def w_ruleOf (a0 : Int) (a1 : Int) (Q : iST → Prop) (u : iST) : Prop :=
  bd a0 60 (sw (iA u 48 a0 0) (fun u => 
  w_ruleOf_9 Q a0 a1 u))
set_option maxRecDepth 20000 in
set_option maxHeartbeats 4000000 in
theorem b_ruleOf_s (X : kX p m c cX12_ruleOf 10 s args D ca) (hRf : 5 ≤ R.frames) (hRl : 115 ≤ R.locals) {Q : iST → Prop} (hret : ∀ (u : iST) (H : Heap) (locs : List Loc) (ls : Array Slot) (pc : Nat), Q u → kW D ca A h0 ad H0 H locs u → decode cX12_ruleOf pc = .ok (.return_, 1) → W p l e R s m args below meth c H locs 0 0 Qf (F0 m pc ls [])) {a0 a1 : Int} (ra0 : inR a0) (ra1 : inR a1) (hw : kW D ca A h0 ad H0 H locs u) (hl : lv_has ls 10 [(0, .ref h0), (1, .int (jI a0)), (2, .int (jI a1))]) (h : w_ruleOf a0 a1 Q u) : W p l e R s m args below meth c H locs 0 0 Qf (F0 m 0 ls []) := by
  have hx := X.1.1
  have hb := X.1.2.1
  unfold w_ruleOf at h
  refine lv_iload_n hx hb dX12_ruleOf_0 rfl (lv_at hl 2 rfl) ?_
  refine lv_istore_n hx hb dX12_ruleOf_1 rfl hl (by decide) rfl (fun ls hl => ?_)
  have hl : lv_has ls 10 [(3, .int (jI a1)), (0, .ref (h0)), (1, .int (jI a0)), (2, .int (jI a1))] := hl
  refine lv_aload_n hx hb dX12_ruleOf_2 rfl (lv_at hl 1 rfl) ?_
  refine gA 48 112 (by decide) L_48 (fun _ _ => mF_48) rfl X hw dX12_ruleOf_3 ?_
  refine lv_iload_n hx hb dX12_ruleOf_6 rfl (lv_at hl 2 rfl) ?_
  refine lv_iconst hx hb dX12_ruleOf_7 (v := jI 0) rfl ?_
  refine aS 48 32 31 60 (fun _ _ _ _ => mG_48) (fun _ => rfl) (fun _ _ _ _ _ _ => mSA_48) (by decide) X hw ra0 (by decide) dX12_ruleOf_8 rfl h (fun H locs u hw h => ?_)
  exact b_ruleOf_9 X hRf hRl hret ra0 ra1 hw (lv_sub hl [1, 2, 0] rfl) h

end
theorem c_ruleOf {l : Launch} {a0 : Int} {a1 : Int} (ra0 : inR a0) (ra1 : inR a1) {Q : iST → Prop} {u : iST} (h : w_ruleOf a0 a1 Q u) : kMV l yX12_ruleOf (.code yX12_ruleOf cX12_ruleOf 10 none :: wsM) { frames := 5, cells := 0, slots := 0, locals := 115 } [.int (jI a0), .int (jI a1)] Q u := kMV_of rfl (fun _ => Nat.le_of_ble_eq_true rfl) (fun X hRf hRl hret hw hl => b_ruleOf_s X hRf hRl hret ra0 ra1 hw hl h)

/-! wrong -/
theorem dX12_wrong_0 : decode cX12_wrong 0 = .ok (.aload_n 0, 1) := by decide +kernel
theorem dX12_wrong_1 : decode cX12_wrong 1 = .ok (.getfield 860, 3) := by decide +kernel
theorem dX12_wrong_4 : decode cX12_wrong 4 = .ok (.ifCond .eq 11, 3) := by decide +kernel
theorem dX12_wrong_7 : decode cX12_wrong 7 = .ok (.iload_n 1, 1) := by decide +kernel
theorem dX12_wrong_8 : decode cX12_wrong 8 = .ok (.aload_n 0, 1) := by decide +kernel
theorem dX12_wrong_9 : decode cX12_wrong 9 = .ok (.getfield 860, 3) := by decide +kernel
theorem dX12_wrong_12 : decode cX12_wrong 12 = .ok (.if_icmp .ge 8, 3) := by decide +kernel
theorem dX12_wrong_15 : decode cX12_wrong 15 = .ok (.aload_n 0, 1) := by decide +kernel
theorem dX12_wrong_16 : decode cX12_wrong 16 = .ok (.iload_n 1, 1) := by decide +kernel
theorem dX12_wrong_17 : decode cX12_wrong 17 = .ok (.putfield 860, 3) := by decide +kernel
theorem dX12_wrong_20 : decode cX12_wrong 20 = .ok (.return_, 1) := by decide +kernel

section
variable {p : Program} {l : Launch} {e : Env} {R : Room} {s : State} {m : MethodId} {args : Array Value} {below : List Frame} {meth : Method} {c : Code} {H : Heap} {locs : List Loc} {Qf : State → Prop}
variable {ls : Array Slot} {D : va_G} {ca : Nat → ClassId} {A : Nat → Prop} {h0 : Nat} {ad : Nat → Nat} {H0 : Heap} {u : iST}
def w_wrong_15 (Q : iST → Prop) (x1 : Int) (u : iST) : Prop :=
  sw (iI u 136 x1) (fun u => 
  Q u)
set_option maxRecDepth 20000 in
set_option maxHeartbeats 4000000 in
theorem b_wrong_15 (X : kX p m c cX12_wrong 2 s args D ca) (hRf : 0 ≤ R.frames) (hRl : 0 ≤ R.locals) {Q : iST → Prop} (hret : ∀ (u : iST) (H : Heap) (locs : List Loc) (ls : Array Slot) (pc : Nat), Q u → kW D ca A h0 ad H0 H locs u → decode cX12_wrong pc = .ok (.return_, 1) → W p l e R s m args below meth c H locs 0 0 Qf (F0 m pc ls [])) {x1 : Int} (rx1 : inR x1) (hw : kW D ca A h0 ad H0 H locs u) (hl : lv_has ls 2 [(0, .ref h0), (1, .int (jI x1))]) (h : w_wrong_15 Q x1 u) : W p l e R s m args below meth c H locs 0 0 Qf (F0 m 15 ls []) := by
  have hx := X.1.1
  have hb := X.1.2.1
  unfold w_wrong_15 at h
  refine lv_aload_n hx hb dX12_wrong_15 rfl (lv_at hl 0 rfl) ?_
  refine lv_iload_n hx hb dX12_wrong_16 rfl (lv_at hl 1 rfl) ?_
  refine pS 136 860 (by decide) L_136 rfl rfl rfl (fun _ _ _ _ _ => mSI_136) (by decide) X hw rx1 dX12_wrong_17 h (fun H locs u hw h => ?_)
  exact hret _ _ _ _ _ h hw dX12_wrong_20

def w_wrong (a0 : Int) (Q : iST → Prop) (u : iST) : Prop :=
  rd (u.1 136) (fun v1 => 
  br (v1 = 0) (
    w_wrong_15 Q a0 u) (
    rd (u.1 136) (fun v2 => 
    br (v2 ≤ a0) (
      Q u) (
      w_wrong_15 Q a0 u))))
set_option maxRecDepth 20000 in
set_option maxHeartbeats 4000000 in
theorem b_wrong_s (X : kX p m c cX12_wrong 2 s args D ca) (hRf : 0 ≤ R.frames) (hRl : 0 ≤ R.locals) {Q : iST → Prop} (hret : ∀ (u : iST) (H : Heap) (locs : List Loc) (ls : Array Slot) (pc : Nat), Q u → kW D ca A h0 ad H0 H locs u → decode cX12_wrong pc = .ok (.return_, 1) → W p l e R s m args below meth c H locs 0 0 Qf (F0 m pc ls [])) {a0 : Int} (ra0 : inR a0) (hw : kW D ca A h0 ad H0 H locs u) (hl : lv_has ls 2 [(0, .ref h0), (1, .int (jI a0))]) (h : w_wrong a0 Q u) : W p l e R s m args below meth c H locs 0 0 Qf (F0 m 0 ls []) := by
  have hx := X.1.1
  have hb := X.1.2.1
  unfold w_wrong at h
  refine lv_aload_n hx hb dX12_wrong_0 rfl (lv_at hl 0 rfl) ?_
  refine gS 136 860 (by decide) L_136 (fun _ _ => mF_136) rfl X hw dX12_wrong_1 h (fun v1 rv1 h => ?_)
  refine k_if_eq hx hb rv1 dX12_wrong_4 (tgt := 15) rfl h (fun h => ?_) (fun h => ?_)
  · exact b_wrong_15 X hRf hRl hret ra0 hw hl h
  · refine lv_iload_n hx hb dX12_wrong_7 rfl (lv_at hl 1 rfl) ?_
    refine lv_aload_n hx hb dX12_wrong_8 rfl (lv_at hl 0 rfl) ?_
    refine gS 136 860 (by decide) L_136 (fun _ _ => mF_136) rfl X hw dX12_wrong_9 h (fun v2 rv2 h => ?_)
    refine k_icmp_ge hx hb ra0 rv2 dX12_wrong_12 (tgt := 20) rfl h (fun h => ?_) (fun h => ?_)
    · exact hret _ _ _ _ _ h hw dX12_wrong_20
    · exact b_wrong_15 X hRf hRl hret ra0 hw hl h

end
theorem c_wrong {l : Launch} {a0 : Int} (ra0 : inR a0) {Q : iST → Prop} {u : iST} (h : w_wrong a0 Q u) : kMV l yX12_wrong (.code yX12_wrong cX12_wrong 2 none :: wsM) { frames := 0, cells := 0, slots := 0, locals := 0 } [.int (jI a0)] Q u := kMV_of rfl (fun _ => Nat.le_of_ble_eq_true rfl) (fun X hRf hRl hret hw hl => b_wrong_s X hRf hRl hret ra0 hw hl h)

/-! induction -/
theorem dX12_induction_0 : decode cX12_induction 0 = .ok (.aload_n 0, 1) := by decide +kernel
theorem dX12_induction_1 : decode cX12_induction 1 = .ok (.iload_n 1, 1) := by decide +kernel
theorem dX12_induction_2 : decode cX12_induction 2 = .ok (.invokevirtual 529, 3) := by decide +kernel
theorem dX12_induction_5 : decode cX12_induction 5 = .ok (.iconst 2, 1) := by decide +kernel
theorem dX12_induction_6 : decode cX12_induction 6 = .ok (.if_icmp .ne 67, 3) := by decide +kernel
theorem dX12_induction_9 : decode cX12_induction 9 = .ok (.aload_n 0, 1) := by decide +kernel
theorem dX12_induction_10 : decode cX12_induction 10 = .ok (.aload_n 0, 1) := by decide +kernel
theorem dX12_induction_11 : decode cX12_induction 11 = .ok (.iload_n 1, 1) := by decide +kernel
theorem dX12_induction_12 : decode cX12_induction 12 = .ok (.iconst 1, 1) := by decide +kernel
theorem dX12_induction_13 : decode cX12_induction 13 = .ok (.invokevirtual 471, 3) := by decide +kernel
theorem dX12_induction_16 : decode cX12_induction 16 = .ok (.invokevirtual 365, 3) := by decide +kernel
theorem dX12_induction_19 : decode cX12_induction 19 = .ok (.ifCond .eq 54, 3) := by decide +kernel
theorem dX12_induction_22 : decode cX12_induction 22 = .ok (.aload_n 0, 1) := by decide +kernel
theorem dX12_induction_23 : decode cX12_induction 23 = .ok (.aload_n 0, 1) := by decide +kernel
theorem dX12_induction_24 : decode cX12_induction 24 = .ok (.getfield 8, 3) := by decide +kernel
theorem dX12_induction_27 : decode cX12_induction 27 = .ok (.aload_n 0, 1) := by decide +kernel
theorem dX12_induction_28 : decode cX12_induction 28 = .ok (.iload_n 1, 1) := by decide +kernel
theorem dX12_induction_29 : decode cX12_induction 29 = .ok (.iconst 1, 1) := by decide +kernel
theorem dX12_induction_30 : decode cX12_induction 30 = .ok (.invokevirtual 471, 3) := by decide +kernel
theorem dX12_induction_33 : decode cX12_induction 33 = .ok (.iaload, 1) := by decide +kernel
theorem dX12_induction_34 : decode cX12_induction 34 = .ok (.invokevirtual 809, 3) := by decide +kernel
theorem dX12_induction_37 : decode cX12_induction 37 = .ok (.ifCond .eq 36, 3) := by decide +kernel
theorem dX12_induction_40 : decode cX12_induction 40 = .ok (.aload_n 0, 1) := by decide +kernel
theorem dX12_induction_41 : decode cX12_induction 41 = .ok (.aload_n 0, 1) := by decide +kernel
theorem dX12_induction_42 : decode cX12_induction 42 = .ok (.getfield 14, 3) := by decide +kernel
theorem dX12_induction_45 : decode cX12_induction 45 = .ok (.aload_n 0, 1) := by decide +kernel
theorem dX12_induction_46 : decode cX12_induction 46 = .ok (.iload_n 1, 1) := by decide +kernel
theorem dX12_induction_47 : decode cX12_induction 47 = .ok (.iconst 1, 1) := by decide +kernel
theorem dX12_induction_48 : decode cX12_induction 48 = .ok (.invokevirtual 471, 3) := by decide +kernel
theorem dX12_induction_51 : decode cX12_induction 51 = .ok (.iaload, 1) := by decide +kernel
theorem dX12_induction_52 : decode cX12_induction 52 = .ok (.sipush 1000, 3) := by decide +kernel
theorem dX12_induction_55 : decode cX12_induction 55 = .ok (.invokevirtual 812, 3) := by decide +kernel
theorem dX12_induction_58 : decode cX12_induction 58 = .ok (.ifCond .eq 15, 3) := by decide +kernel
theorem dX12_induction_61 : decode cX12_induction 61 = .ok (.aload_n 0, 1) := by decide +kernel
theorem dX12_induction_62 : decode cX12_induction 62 = .ok (.getfield 863, 3) := by decide +kernel
theorem dX12_induction_65 : decode cX12_induction 65 = .ok (.iconst (-1), 1) := by decide +kernel
theorem dX12_induction_66 : decode cX12_induction 66 = .ok (.if_icmp .ne 7, 3) := by decide +kernel
theorem dX12_induction_69 : decode cX12_induction 69 = .ok (.iconst 1, 1) := by decide +kernel
theorem dX12_induction_70 : decode cX12_induction 70 = .ok (.goto 4, 3) := by decide +kernel
theorem dX12_induction_73 : decode cX12_induction 73 = .ok (.iconst 0, 1) := by decide +kernel
theorem dX12_induction_74 : decode cX12_induction 74 = .ok (.istore_n 2, 1) := by decide +kernel
theorem dX12_induction_75 : decode cX12_induction 75 = .ok (.iload_n 2, 1) := by decide +kernel
theorem dX12_induction_76 : decode cX12_induction 76 = .ok (.ifCond .ne 9, 3) := by decide +kernel
theorem dX12_induction_79 : decode cX12_induction 79 = .ok (.aload_n 0, 1) := by decide +kernel
theorem dX12_induction_80 : decode cX12_induction 80 = .ok (.iconst 2, 1) := by decide +kernel
theorem dX12_induction_81 : decode cX12_induction 81 = .ok (.invokevirtual 866, 3) := by decide +kernel
theorem dX12_induction_84 : decode cX12_induction 84 = .ok (.return_, 1) := by decide +kernel
theorem dX12_induction_85 : decode cX12_induction 85 = .ok (.aload_n 0, 1) := by decide +kernel
theorem dX12_induction_86 : decode cX12_induction 86 = .ok (.aload_n 0, 1) := by decide +kernel
theorem dX12_induction_87 : decode cX12_induction 87 = .ok (.getfield 14, 3) := by decide +kernel
theorem dX12_induction_90 : decode cX12_induction 90 = .ok (.aload_n 0, 1) := by decide +kernel
theorem dX12_induction_91 : decode cX12_induction 91 = .ok (.iload_n 1, 1) := by decide +kernel
theorem dX12_induction_92 : decode cX12_induction 92 = .ok (.iconst 1, 1) := by decide +kernel
theorem dX12_induction_93 : decode cX12_induction 93 = .ok (.invokevirtual 471, 3) := by decide +kernel
theorem dX12_induction_96 : decode cX12_induction 96 = .ok (.iaload, 1) := by decide +kernel
theorem dX12_induction_97 : decode cX12_induction 97 = .ok (.putfield 869, 3) := by decide +kernel
theorem dX12_induction_100 : decode cX12_induction 100 = .ok (.aload_n 0, 1) := by decide +kernel
theorem dX12_induction_101 : decode cX12_induction 101 = .ok (.iconst 0, 1) := by decide +kernel
theorem dX12_induction_102 : decode cX12_induction 102 = .ok (.putfield 863, 3) := by decide +kernel
theorem dX12_induction_105 : decode cX12_induction 105 = .ok (.aload_n 0, 1) := by decide +kernel
theorem dX12_induction_106 : decode cX12_induction 106 = .ok (.aload_n 0, 1) := by decide +kernel
theorem dX12_induction_107 : decode cX12_induction 107 = .ok (.getfield 8, 3) := by decide +kernel
theorem dX12_induction_110 : decode cX12_induction 110 = .ok (.aload_n 0, 1) := by decide +kernel
theorem dX12_induction_111 : decode cX12_induction 111 = .ok (.iload_n 1, 1) := by decide +kernel
theorem dX12_induction_112 : decode cX12_induction 112 = .ok (.iconst 1, 1) := by decide +kernel
theorem dX12_induction_113 : decode cX12_induction 113 = .ok (.invokevirtual 471, 3) := by decide +kernel
theorem dX12_induction_116 : decode cX12_induction 116 = .ok (.iaload, 1) := by decide +kernel
theorem dX12_induction_117 : decode cX12_induction 117 = .ok (.invokevirtual 827, 3) := by decide +kernel
theorem dX12_induction_120 : decode cX12_induction 120 = .ok (.istore_n 3, 1) := by decide +kernel
theorem dX12_induction_121 : decode cX12_induction 121 = .ok (.iload_n 3, 1) := by decide +kernel
theorem dX12_induction_122 : decode cX12_induction 122 = .ok (.iconst (-1), 1) := by decide +kernel
theorem dX12_induction_123 : decode cX12_induction 123 = .ok (.if_icmp .ne 11, 3) := by decide +kernel
theorem dX12_induction_126 : decode cX12_induction 126 = .ok (.aload_n 0, 1) := by decide +kernel
theorem dX12_induction_127 : decode cX12_induction 127 = .ok (.iconst 3, 1) := by decide +kernel
theorem dX12_induction_128 : decode cX12_induction 128 = .ok (.invokevirtual 866, 3) := by decide +kernel
theorem dX12_induction_131 : decode cX12_induction 131 = .ok (.goto 45, 3) := by decide +kernel
theorem dX12_induction_134 : decode cX12_induction 134 = .ok (.aload_n 0, 1) := by decide +kernel
theorem dX12_induction_135 : decode cX12_induction 135 = .ok (.getfield 93, 3) := by decide +kernel
theorem dX12_induction_138 : decode cX12_induction 138 = .ok (.iload_n 3, 1) := by decide +kernel
theorem dX12_induction_139 : decode cX12_induction 139 = .ok (.baload, 1) := by decide +kernel
theorem dX12_induction_140 : decode cX12_induction 140 = .ok (.ifCond .eq 20, 3) := by decide +kernel
theorem dX12_induction_143 : decode cX12_induction 143 = .ok (.aload_n 0, 1) := by decide +kernel
theorem dX12_induction_144 : decode cX12_induction 144 = .ok (.aload_n 0, 1) := by decide +kernel
theorem dX12_induction_145 : decode cX12_induction 145 = .ok (.getfield 869, 3) := by decide +kernel
theorem dX12_induction_148 : decode cX12_induction 148 = .ok (.invokevirtual 529, 3) := by decide +kernel
theorem dX12_induction_151 : decode cX12_induction 151 = .ok (.aload_n 0, 1) := by decide +kernel
theorem dX12_induction_152 : decode cX12_induction 152 = .ok (.getfield 81, 3) := by decide +kernel
theorem dX12_induction_155 : decode cX12_induction 155 = .ok (.iload_n 3, 1) := by decide +kernel
theorem dX12_induction_156 : decode cX12_induction 156 = .ok (.iaload, 1) := by decide +kernel
theorem dX12_induction_157 : decode cX12_induction 157 = .ok (.if_icmp .eq 11, 3) := by decide +kernel
theorem dX12_induction_160 : decode cX12_induction 160 = .ok (.aload_n 0, 1) := by decide +kernel
theorem dX12_induction_161 : decode cX12_induction 161 = .ok (.iconst 2, 1) := by decide +kernel
theorem dX12_induction_162 : decode cX12_induction 162 = .ok (.invokevirtual 866, 3) := by decide +kernel
theorem dX12_induction_165 : decode cX12_induction 165 = .ok (.goto 11, 3) := by decide +kernel
theorem dX12_induction_168 : decode cX12_induction 168 = .ok (.aload_n 0, 1) := by decide +kernel
theorem dX12_induction_169 : decode cX12_induction 169 = .ok (.bipush 100, 2) := by decide +kernel
theorem dX12_induction_171 : decode cX12_induction 171 = .ok (.iload_n 3, 1) := by decide +kernel
theorem dX12_induction_172 : decode cX12_induction 172 = .ok (.iadd, 1) := by decide +kernel
theorem dX12_induction_173 : decode cX12_induction 173 = .ok (.putfield 863, 3) := by decide +kernel
theorem dX12_induction_176 : decode cX12_induction 176 = .ok (.return_, 1) := by decide +kernel

section
variable {p : Program} {l : Launch} {e : Env} {R : Room} {s : State} {m : MethodId} {args : Array Value} {below : List Frame} {meth : Method} {c : Code} {H : Heap} {locs : List Loc} {Qf : State → Prop}
variable {ls : Array Slot} {D : va_G} {ca : Nat → ClassId} {A : Nat → Prop} {h0 : Nat} {ad : Nat → Nat} {H0 : Heap} {u : iST}
def w_induction_160 (Q : iST → Prop) (u : iST) : Prop :=
  w_wrong 2 (fun u => 
  Q u) u
set_option maxRecDepth 20000 in
set_option maxHeartbeats 4000000 in
theorem b_induction_160 (X : kX p m c cX12_induction 4 s args D ca) (hRf : 3 ≤ R.frames) (hRl : 69 ≤ R.locals) {Q : iST → Prop} (hret : ∀ (u : iST) (H : Heap) (locs : List Loc) (ls : Array Slot) (pc : Nat), Q u → kW D ca A h0 ad H0 H locs u → decode cX12_induction pc = .ok (.return_, 1) → W p l e R s m args below meth c H locs 0 0 Qf (F0 m pc ls [])) (hw : kW D ca A h0 ad H0 H locs u) (hl : lv_has ls 4 [(0, .ref h0)]) (h : w_induction_160 Q u) : W p l e R s m args below meth c H locs 0 0 Qf (F0 m 160 ls []) := by
  have hx := X.1.1
  have hb := X.1.2.1
  unfold w_induction_160 at h
  refine lv_aload_n hx hb dX12_induction_160 rfl (lv_at hl 0 rfl) ?_
  refine lv_iconst hx hb dX12_induction_161 (v := jI 2) rfl ?_
  refine kcV (n := 1) (c_wrong (by decide) h) G_wrong E_wrong X hw (Nat.le_trans (Nat.le_of_ble_eq_true rfl) hRf) (Nat.le_trans (Nat.le_of_ble_eq_true rfl) hRl) rfl hl.1 (Nat.le_of_ble_eq_true rfl) rfl dX12_induction_162 (fun u H locs h hw => ?_)
  refine lv_goto hx hb dX12_induction_165 (tgt := 176) rfl ?_
  exact hret _ _ _ _ _ h hw dX12_induction_176

def w_induction_74 (Q : iST → Prop) (x1 : Int) (y0 : Int) (u : iST) : Prop :=
  br (y0 ≠ 0) (
    w_nth x1 1 (fun v2 u => 
    bd v2 452000 (rd (u.2.1 1 v2) (fun v3 => 
    sw (iI u 134 v3) (fun u => 
    sw (iI u 133 0) (fun u => 
    w_nth x1 1 (fun v4 u => 
    bd v4 452000 (rd (u.2.1 0 v4) (fun v5 => 
    w_definition v5 (fun v6 u => 
    br (v6 ≠ (-1)) (
      bd v6 40 (rz (u.2.1 41 v6) (fun v7 => 
      br (v7 = 0) (
        w_induction_160 Q u) (
        rd (u.1 134) (fun v9 => 
        w_lengthOf v9 (fun v10 u => 
        bd v6 40 (rd (u.2.1 37 v6) (fun v11 => 
        br (v10 = v11) (
          ov (100 + v6) (
          sw (iI u 133 (100 + v6)) (fun u => 
          Q u))) (
          w_induction_160 Q u)))) u))))) (
      w_wrong 3 (fun u => 
      Q u) u)) u))) u))))) u) (
    w_wrong 2 (fun u => 
    Q u) u)
set_option maxRecDepth 20000 in
set_option maxHeartbeats 4000000 in
theorem b_induction_74 (X : kX p m c cX12_induction 4 s args D ca) (hRf : 3 ≤ R.frames) (hRl : 69 ≤ R.locals) {Q : iST → Prop} (hret : ∀ (u : iST) (H : Heap) (locs : List Loc) (ls : Array Slot) (pc : Nat), Q u → kW D ca A h0 ad H0 H locs u → decode cX12_induction pc = .ok (.return_, 1) → W p l e R s m args below meth c H locs 0 0 Qf (F0 m pc ls [])) {x1 y0 : Int} (rx1 : inR x1) (ry0 : inR y0) (hw : kW D ca A h0 ad H0 H locs u) (hl : lv_has ls 4 [(0, .ref h0), (1, .int (jI x1))]) (h : w_induction_74 Q x1 y0 u) : W p l e R s m args below meth c H locs 0 0 Qf (F0 m 74 ls [.int (jI y0)]) := by
  have hx := X.1.1
  have hb := X.1.2.1
  unfold w_induction_74 at h
  refine lv_istore_n hx hb dX12_induction_74 rfl hl (by decide) rfl (fun ls hl => ?_)
  have hl : lv_has ls 4 [(2, .int (jI y0)), (0, .ref (h0)), (1, .int (jI x1))] := hl
  refine lv_iload_n hx hb dX12_induction_75 rfl (lv_at hl 0 rfl) ?_
  refine k_if_ne hx hb ry0 dX12_induction_76 (tgt := 85) rfl h (fun h => ?_) (fun h => ?_)
  · refine lv_aload_n hx hb dX12_induction_85 rfl (lv_at hl 1 rfl) ?_
    refine lv_aload_n hx hb dX12_induction_86 rfl (lv_at hl 1 rfl) ?_
    refine gA 1 14 (by decide) L_1 (fun _ _ => mF_1) rfl X hw dX12_induction_87 ?_
    refine lv_aload_n hx hb dX12_induction_90 rfl (lv_at hl 1 rfl) ?_
    refine lv_iload_n hx hb dX12_induction_91 rfl (lv_at hl 2 rfl) ?_
    refine lv_iconst hx hb dX12_induction_92 (v := jI 1) rfl ?_
    refine kcI (n := 2) (c_nth rx1 (by decide) h) G_nth E_nth X hw (Nat.le_trans (Nat.le_of_ble_eq_true rfl) hRf) (Nat.le_trans (Nat.le_of_ble_eq_true rfl) hRl) rfl hl.1 (Nat.le_of_ble_eq_true rfl) rfl dX12_induction_93 (fun v2 u H locs rv2 h hw => ?_)
    refine aL 1 2 1 452000 (fun _ _ _ _ => mG_1) (fun _ => rfl) X hw rv2 dX12_induction_96 rfl h (fun v3 rv3 h => ?_)
    refine pS 134 869 (by decide) L_134 rfl rfl rfl (fun _ _ _ _ _ => mSI_134) (by decide) X hw rv3 dX12_induction_97 h (fun H locs u hw h => ?_)
    refine lv_aload_n hx hb dX12_induction_100 rfl (lv_at hl 1 rfl) ?_
    refine lv_iconst hx hb dX12_induction_101 (v := jI 0) rfl ?_
    refine pS 133 863 (by decide) L_133 rfl rfl rfl (fun _ _ _ _ _ => mSI_133) (by decide) X hw (by decide) dX12_induction_102 h (fun H locs u hw h => ?_)
    refine lv_aload_n hx hb dX12_induction_105 rfl (lv_at hl 1 rfl) ?_
    refine lv_aload_n hx hb dX12_induction_106 rfl (lv_at hl 1 rfl) ?_
    refine gA 0 8 (by decide) L_0 (fun _ _ => mF_0) rfl X hw dX12_induction_107 ?_
    refine lv_aload_n hx hb dX12_induction_110 rfl (lv_at hl 1 rfl) ?_
    refine lv_iload_n hx hb dX12_induction_111 rfl (lv_at hl 2 rfl) ?_
    refine lv_iconst hx hb dX12_induction_112 (v := jI 1) rfl ?_
    refine kcI (n := 2) (c_nth rx1 (by decide) h) G_nth E_nth X hw (Nat.le_trans (Nat.le_of_ble_eq_true rfl) hRf) (Nat.le_trans (Nat.le_of_ble_eq_true rfl) hRl) rfl hl.1 (Nat.le_of_ble_eq_true rfl) rfl dX12_induction_113 (fun v4 u H locs rv4 h hw => ?_)
    refine aL 0 1 0 452000 (fun _ _ _ _ => mG_0) (fun _ => rfl) X hw rv4 dX12_induction_116 rfl h (fun v5 rv5 h => ?_)
    refine kcI (n := 1) (c_definition rv5 h) G_definition E_definition X hw (Nat.le_trans (Nat.le_of_ble_eq_true rfl) hRf) (Nat.le_trans (Nat.le_of_ble_eq_true rfl) hRl) rfl hl.1 (Nat.le_of_ble_eq_true rfl) rfl dX12_induction_117 (fun v6 u H locs rv6 h hw => ?_)
    refine lv_istore_n hx hb dX12_induction_120 rfl hl (by decide) rfl (fun ls hl => ?_)
    have hl : lv_has ls 4 [(3, .int (jI v6)), (2, .int (jI y0)), (0, .ref (h0)), (1, .int (jI x1))] := hl
    refine lv_iload_n hx hb dX12_induction_121 rfl (lv_at hl 0 rfl) ?_
    refine lv_iconst hx hb dX12_induction_122 (v := jI (-1)) rfl ?_
    refine k_icmp_ne hx hb rv6 (by decide) dX12_induction_123 (tgt := 134) rfl h (fun h => ?_) (fun h => ?_)
    · refine lv_aload_n hx hb dX12_induction_134 rfl (lv_at hl 2 rfl) ?_
      refine gA 41 93 (by decide) L_41 (fun _ _ => mF_41) rfl X hw dX12_induction_135 ?_
      refine lv_iload_n hx hb dX12_induction_138 rfl (lv_at hl 0 rfl) ?_
      refine aZ 41 26 25 40 (fun _ _ _ _ => mG_41) (fun _ => rfl) (by decide) X hw rv6 dX12_induction_139 rfl h (fun v7 rv7 h => ?_)
      refine k_if_eq hx hb (bz_in rv7) dX12_induction_140 (tgt := 160) rfl h (fun h => ?_) (fun h => ?_)
      · exact b_induction_160 X hRf hRl hret hw (lv_sub hl [2] rfl) h
      · refine lv_aload_n hx hb dX12_induction_143 rfl (lv_at hl 2 rfl) ?_
        refine lv_aload_n hx hb dX12_induction_144 rfl (lv_at hl 2 rfl) ?_
        refine gS 134 869 (by decide) L_134 (fun _ _ => mF_134) rfl X hw dX12_induction_145 h (fun v9 rv9 h => ?_)
        refine kcI (n := 1) (c_lengthOf rv9 h) G_lengthOf E_lengthOf X hw (Nat.le_trans (Nat.le_of_ble_eq_true rfl) hRf) (Nat.le_trans (Nat.le_of_ble_eq_true rfl) hRl) rfl hl.1 (Nat.le_of_ble_eq_true rfl) rfl dX12_induction_148 (fun v10 u H locs rv10 h hw => ?_)
        refine lv_aload_n hx hb dX12_induction_151 rfl (lv_at hl 2 rfl) ?_
        refine gA 37 81 (by decide) L_37 (fun _ _ => mF_37) rfl X hw dX12_induction_152 ?_
        refine lv_iload_n hx hb dX12_induction_155 rfl (lv_at hl 0 rfl) ?_
        refine aL 37 22 21 40 (fun _ _ _ _ => mG_37) (fun _ => rfl) X hw rv6 dX12_induction_156 rfl h (fun v11 rv11 h => ?_)
        refine k_icmp_eq hx hb rv10 rv11 dX12_induction_157 (tgt := 168) rfl h (fun h => ?_) (fun h => ?_)
        · refine lv_aload_n hx hb dX12_induction_168 rfl (lv_at hl 2 rfl) ?_
          refine lv_bipush hx hb dX12_induction_169 (v := jI 100) rfl ?_
          refine lv_iload_n hx hb dX12_induction_171 rfl (lv_at hl 0 rfl) ?_
          refine k_iadd hx hb dX12_induction_172 h (fun r12 h => ?_)
          refine pS 133 863 (by decide) L_133 rfl rfl rfl (fun _ _ _ _ _ => mSI_133) (by decide) X hw r12 dX12_induction_173 h (fun H locs u hw h => ?_)
          exact hret _ _ _ _ _ h hw dX12_induction_176
        · exact b_induction_160 X hRf hRl hret hw (lv_sub hl [2] rfl) h
    · refine lv_aload_n hx hb dX12_induction_126 rfl (lv_at hl 2 rfl) ?_
      refine lv_iconst hx hb dX12_induction_127 (v := jI 3) rfl ?_
      refine kcV (n := 1) (c_wrong (by decide) h) G_wrong E_wrong X hw (Nat.le_trans (Nat.le_of_ble_eq_true rfl) hRf) (Nat.le_trans (Nat.le_of_ble_eq_true rfl) hRl) rfl hl.1 (Nat.le_of_ble_eq_true rfl) rfl dX12_induction_128 (fun u H locs h hw => ?_)
      refine lv_goto hx hb dX12_induction_131 (tgt := 176) rfl ?_
      exact hret _ _ _ _ _ h hw dX12_induction_176
  · refine lv_aload_n hx hb dX12_induction_79 rfl (lv_at hl 1 rfl) ?_
    refine lv_iconst hx hb dX12_induction_80 (v := jI 2) rfl ?_
    refine kcV (n := 1) (c_wrong (by decide) h) G_wrong E_wrong X hw (Nat.le_trans (Nat.le_of_ble_eq_true rfl) hRf) (Nat.le_trans (Nat.le_of_ble_eq_true rfl) hRl) rfl hl.1 (Nat.le_of_ble_eq_true rfl) rfl dX12_induction_81 (fun u H locs h hw => ?_)
    exact hret _ _ _ _ _ h hw dX12_induction_84

def w_induction_73 (Q : iST → Prop) (x1 : Int) (u : iST) : Prop :=
  w_induction_74 Q x1 0 u
set_option maxRecDepth 20000 in
set_option maxHeartbeats 4000000 in
theorem b_induction_73 (X : kX p m c cX12_induction 4 s args D ca) (hRf : 3 ≤ R.frames) (hRl : 69 ≤ R.locals) {Q : iST → Prop} (hret : ∀ (u : iST) (H : Heap) (locs : List Loc) (ls : Array Slot) (pc : Nat), Q u → kW D ca A h0 ad H0 H locs u → decode cX12_induction pc = .ok (.return_, 1) → W p l e R s m args below meth c H locs 0 0 Qf (F0 m pc ls [])) {x1 : Int} (rx1 : inR x1) (hw : kW D ca A h0 ad H0 H locs u) (hl : lv_has ls 4 [(0, .ref h0), (1, .int (jI x1))]) (h : w_induction_73 Q x1 u) : W p l e R s m args below meth c H locs 0 0 Qf (F0 m 73 ls []) := by
  have hx := X.1.1
  have hb := X.1.2.1
  unfold w_induction_73 at h
  refine lv_iconst hx hb dX12_induction_73 (v := jI 0) rfl ?_
  exact b_induction_74 X hRf hRl hret rx1 (by decide) hw hl h

def w_induction (a0 : Int) (Q : iST → Prop) (u : iST) : Prop :=
  w_lengthOf a0 (fun v1 u => 
  br (v1 ≠ 2) (
    w_induction_73 Q a0 u) (
    w_nth a0 1 (fun v15 u => 
    w_isPair v15 (fun v16 u => 
    br (v16 = 0) (
      w_induction_73 Q a0 u) (
      w_nth a0 1 (fun v17 u => 
      bd v17 452000 (rd (u.2.1 0 v17) (fun v18 => 
      w_isNewName v18 (fun v19 u => 
      br (v19 = 0) (
        w_induction_73 Q a0 u) (
        w_nth a0 1 (fun v20 u => 
        bd v20 452000 (rd (u.2.1 1 v20) (fun v21 => 
        w_areVariables v21 1000 (fun v22 u => 
        br (v22 = 0) (
          w_induction_73 Q a0 u) (
          rd (u.1 133) (fun v23 => 
          br (v23 ≠ (-1)) (
            w_induction_73 Q a0 u) (
            w_induction_74 Q a0 1 u)))) u))) u)) u))) u)) u) u)) u
set_option maxRecDepth 20000 in
set_option maxHeartbeats 4000000 in
theorem b_induction_s (X : kX p m c cX12_induction 4 s args D ca) (hRf : 3 ≤ R.frames) (hRl : 69 ≤ R.locals) {Q : iST → Prop} (hret : ∀ (u : iST) (H : Heap) (locs : List Loc) (ls : Array Slot) (pc : Nat), Q u → kW D ca A h0 ad H0 H locs u → decode cX12_induction pc = .ok (.return_, 1) → W p l e R s m args below meth c H locs 0 0 Qf (F0 m pc ls [])) {a0 : Int} (ra0 : inR a0) (hw : kW D ca A h0 ad H0 H locs u) (hl : lv_has ls 4 [(0, .ref h0), (1, .int (jI a0))]) (h : w_induction a0 Q u) : W p l e R s m args below meth c H locs 0 0 Qf (F0 m 0 ls []) := by
  have hx := X.1.1
  have hb := X.1.2.1
  unfold w_induction at h
  refine lv_aload_n hx hb dX12_induction_0 rfl (lv_at hl 0 rfl) ?_
  refine lv_iload_n hx hb dX12_induction_1 rfl (lv_at hl 1 rfl) ?_
  refine kcI (n := 1) (c_lengthOf ra0 h) G_lengthOf E_lengthOf X hw (Nat.le_trans (Nat.le_of_ble_eq_true rfl) hRf) (Nat.le_trans (Nat.le_of_ble_eq_true rfl) hRl) rfl hl.1 (Nat.le_of_ble_eq_true rfl) rfl dX12_induction_2 (fun v1 u H locs rv1 h hw => ?_)
  refine lv_iconst hx hb dX12_induction_5 (v := jI 2) rfl ?_
  refine k_icmp_ne hx hb rv1 (by decide) dX12_induction_6 (tgt := 73) rfl h (fun h => ?_) (fun h => ?_)
  · exact b_induction_73 X hRf hRl hret ra0 hw hl h
  · refine lv_aload_n hx hb dX12_induction_9 rfl (lv_at hl 0 rfl) ?_
    refine lv_aload_n hx hb dX12_induction_10 rfl (lv_at hl 0 rfl) ?_
    refine lv_iload_n hx hb dX12_induction_11 rfl (lv_at hl 1 rfl) ?_
    refine lv_iconst hx hb dX12_induction_12 (v := jI 1) rfl ?_
    refine kcI (n := 2) (c_nth ra0 (by decide) h) G_nth E_nth X hw (Nat.le_trans (Nat.le_of_ble_eq_true rfl) hRf) (Nat.le_trans (Nat.le_of_ble_eq_true rfl) hRl) rfl hl.1 (Nat.le_of_ble_eq_true rfl) rfl dX12_induction_13 (fun v15 u H locs rv15 h hw => ?_)
    refine kcI (n := 1) (c_isPair rv15 h) G_isPair E_isPair X hw (Nat.le_trans (Nat.le_of_ble_eq_true rfl) hRf) (Nat.le_trans (Nat.le_of_ble_eq_true rfl) hRl) rfl hl.1 (Nat.le_of_ble_eq_true rfl) rfl dX12_induction_16 (fun v16 u H locs rv16 h hw => ?_)
    refine k_if_eq hx hb rv16 dX12_induction_19 (tgt := 73) rfl h (fun h => ?_) (fun h => ?_)
    · exact b_induction_73 X hRf hRl hret ra0 hw hl h
    · refine lv_aload_n hx hb dX12_induction_22 rfl (lv_at hl 0 rfl) ?_
      refine lv_aload_n hx hb dX12_induction_23 rfl (lv_at hl 0 rfl) ?_
      refine gA 0 8 (by decide) L_0 (fun _ _ => mF_0) rfl X hw dX12_induction_24 ?_
      refine lv_aload_n hx hb dX12_induction_27 rfl (lv_at hl 0 rfl) ?_
      refine lv_iload_n hx hb dX12_induction_28 rfl (lv_at hl 1 rfl) ?_
      refine lv_iconst hx hb dX12_induction_29 (v := jI 1) rfl ?_
      refine kcI (n := 2) (c_nth ra0 (by decide) h) G_nth E_nth X hw (Nat.le_trans (Nat.le_of_ble_eq_true rfl) hRf) (Nat.le_trans (Nat.le_of_ble_eq_true rfl) hRl) rfl hl.1 (Nat.le_of_ble_eq_true rfl) rfl dX12_induction_30 (fun v17 u H locs rv17 h hw => ?_)
      refine aL 0 1 0 452000 (fun _ _ _ _ => mG_0) (fun _ => rfl) X hw rv17 dX12_induction_33 rfl h (fun v18 rv18 h => ?_)
      refine kcI (n := 1) (c_isNewName rv18 h) G_isNewName E_isNewName X hw (Nat.le_trans (Nat.le_of_ble_eq_true rfl) hRf) (Nat.le_trans (Nat.le_of_ble_eq_true rfl) hRl) rfl hl.1 (Nat.le_of_ble_eq_true rfl) rfl dX12_induction_34 (fun v19 u H locs rv19 h hw => ?_)
      refine k_if_eq hx hb rv19 dX12_induction_37 (tgt := 73) rfl h (fun h => ?_) (fun h => ?_)
      · exact b_induction_73 X hRf hRl hret ra0 hw hl h
      · refine lv_aload_n hx hb dX12_induction_40 rfl (lv_at hl 0 rfl) ?_
        refine lv_aload_n hx hb dX12_induction_41 rfl (lv_at hl 0 rfl) ?_
        refine gA 1 14 (by decide) L_1 (fun _ _ => mF_1) rfl X hw dX12_induction_42 ?_
        refine lv_aload_n hx hb dX12_induction_45 rfl (lv_at hl 0 rfl) ?_
        refine lv_iload_n hx hb dX12_induction_46 rfl (lv_at hl 1 rfl) ?_
        refine lv_iconst hx hb dX12_induction_47 (v := jI 1) rfl ?_
        refine kcI (n := 2) (c_nth ra0 (by decide) h) G_nth E_nth X hw (Nat.le_trans (Nat.le_of_ble_eq_true rfl) hRf) (Nat.le_trans (Nat.le_of_ble_eq_true rfl) hRl) rfl hl.1 (Nat.le_of_ble_eq_true rfl) rfl dX12_induction_48 (fun v20 u H locs rv20 h hw => ?_)
        refine aL 1 2 1 452000 (fun _ _ _ _ => mG_1) (fun _ => rfl) X hw rv20 dX12_induction_51 rfl h (fun v21 rv21 h => ?_)
        refine lv_sipush hx hb dX12_induction_52 (v := jI 1000) rfl ?_
        refine kcI (n := 2) (c_areVariables rv21 (by decide) h) G_areVariables E_areVariables X hw (Nat.le_trans (Nat.le_of_ble_eq_true rfl) hRf) (Nat.le_trans (Nat.le_of_ble_eq_true rfl) hRl) rfl hl.1 (Nat.le_of_ble_eq_true rfl) rfl dX12_induction_55 (fun v22 u H locs rv22 h hw => ?_)
        refine k_if_eq hx hb rv22 dX12_induction_58 (tgt := 73) rfl h (fun h => ?_) (fun h => ?_)
        · exact b_induction_73 X hRf hRl hret ra0 hw hl h
        · refine lv_aload_n hx hb dX12_induction_61 rfl (lv_at hl 0 rfl) ?_
          refine gS 133 863 (by decide) L_133 (fun _ _ => mF_133) rfl X hw dX12_induction_62 h (fun v23 rv23 h => ?_)
          refine lv_iconst hx hb dX12_induction_65 (v := jI (-1)) rfl ?_
          refine k_icmp_ne hx hb rv23 (by decide) dX12_induction_66 (tgt := 73) rfl h (fun h => ?_) (fun h => ?_)
          · exact b_induction_73 X hRf hRl hret ra0 hw hl h
          · refine lv_iconst hx hb dX12_induction_69 (v := jI 1) rfl ?_
            refine lv_goto hx hb dX12_induction_70 (tgt := 74) rfl ?_
            exact b_induction_74 X hRf hRl hret ra0 (by decide) hw hl h

end
theorem c_induction {l : Launch} {a0 : Int} (ra0 : inR a0) {Q : iST → Prop} {u : iST} (h : w_induction a0 Q u) : kMV l yX12_induction (.code yX12_induction cX12_induction 4 none :: wsM) { frames := 3, cells := 0, slots := 0, locals := 69 } [.int (jI a0)] Q u := kMV_of rfl (fun _ => Nat.le_of_ble_eq_true rfl) (fun X hRf hRl hret hw hl => b_induction_s X hRf hRl hret ra0 hw hl h)

/-! arePairs -/
theorem dX12_arePairs_0 : decode cX12_arePairs 0 = .ok (.aload_n 0, 1) := by decide +kernel
theorem dX12_arePairs_1 : decode cX12_arePairs 1 = .ok (.iload_n 1, 1) := by decide +kernel
theorem dX12_arePairs_2 : decode cX12_arePairs 2 = .ok (.invokevirtual 529, 3) := by decide +kernel
theorem dX12_arePairs_5 : decode cX12_arePairs 5 = .ok (.iconst (-1), 1) := by decide +kernel
theorem dX12_arePairs_6 : decode cX12_arePairs 6 = .ok (.if_icmp .ne 5, 3) := by decide +kernel
theorem dX12_arePairs_9 : decode cX12_arePairs 9 = .ok (.iconst 0, 1) := by decide +kernel
theorem dX12_arePairs_10 : decode cX12_arePairs 10 = .ok (.ireturn, 1) := by decide +kernel
theorem dX12_arePairs_11 : decode cX12_arePairs 11 = .ok (.iload_n 1, 1) := by decide +kernel
theorem dX12_arePairs_12 : decode cX12_arePairs 12 = .ok (.istore_n 2, 1) := by decide +kernel
theorem dX12_arePairs_13 : decode cX12_arePairs 13 = .ok (.iload_n 2, 1) := by decide +kernel
theorem dX12_arePairs_14 : decode cX12_arePairs 14 = .ok (.ifCond .eq 102, 3) := by decide +kernel
theorem dX12_arePairs_17 : decode cX12_arePairs 17 = .ok (.aload_n 0, 1) := by decide +kernel
theorem dX12_arePairs_18 : decode cX12_arePairs 18 = .ok (.getfield 8, 3) := by decide +kernel
theorem dX12_arePairs_21 : decode cX12_arePairs 21 = .ok (.iload_n 2, 1) := by decide +kernel
theorem dX12_arePairs_22 : decode cX12_arePairs 22 = .ok (.iaload, 1) := by decide +kernel
theorem dX12_arePairs_23 : decode cX12_arePairs 23 = .ok (.istore_n 3, 1) := by decide +kernel
theorem dX12_arePairs_24 : decode cX12_arePairs 24 = .ok (.aload_n 0, 1) := by decide +kernel
theorem dX12_arePairs_25 : decode cX12_arePairs 25 = .ok (.iload_n 3, 1) := by decide +kernel
theorem dX12_arePairs_26 : decode cX12_arePairs 26 = .ok (.invokevirtual 529, 3) := by decide +kernel
theorem dX12_arePairs_29 : decode cX12_arePairs 29 = .ok (.iconst 2, 1) := by decide +kernel
theorem dX12_arePairs_30 : decode cX12_arePairs 30 = .ok (.if_icmp .ne 30, 3) := by decide +kernel
theorem dX12_arePairs_33 : decode cX12_arePairs 33 = .ok (.aload_n 0, 1) := by decide +kernel
theorem dX12_arePairs_34 : decode cX12_arePairs 34 = .ok (.aload_n 0, 1) := by decide +kernel
theorem dX12_arePairs_35 : decode cX12_arePairs 35 = .ok (.getfield 8, 3) := by decide +kernel
theorem dX12_arePairs_38 : decode cX12_arePairs 38 = .ok (.iload_n 3, 1) := by decide +kernel
theorem dX12_arePairs_39 : decode cX12_arePairs 39 = .ok (.iaload, 1) := by decide +kernel
theorem dX12_arePairs_40 : decode cX12_arePairs 40 = .ok (.invokevirtual 504, 3) := by decide +kernel
theorem dX12_arePairs_43 : decode cX12_arePairs 43 = .ok (.ifCond .eq 17, 3) := by decide +kernel
theorem dX12_arePairs_46 : decode cX12_arePairs 46 = .ok (.aload_n 0, 1) := by decide +kernel
theorem dX12_arePairs_47 : decode cX12_arePairs 47 = .ok (.aload_n 0, 1) := by decide +kernel
theorem dX12_arePairs_48 : decode cX12_arePairs 48 = .ok (.iload_n 3, 1) := by decide +kernel
theorem dX12_arePairs_49 : decode cX12_arePairs 49 = .ok (.iconst 1, 1) := by decide +kernel
theorem dX12_arePairs_50 : decode cX12_arePairs 50 = .ok (.invokevirtual 471, 3) := by decide +kernel
theorem dX12_arePairs_53 : decode cX12_arePairs 53 = .ok (.invokevirtual 815, 3) := by decide +kernel
theorem dX12_arePairs_56 : decode cX12_arePairs 56 = .ok (.iconst (-1), 1) := by decide +kernel
theorem dX12_arePairs_57 : decode cX12_arePairs 57 = .ok (.if_icmp .ne 5, 3) := by decide +kernel
theorem dX12_arePairs_60 : decode cX12_arePairs 60 = .ok (.iconst 0, 1) := by decide +kernel
theorem dX12_arePairs_61 : decode cX12_arePairs 61 = .ok (.ireturn, 1) := by decide +kernel
theorem dX12_arePairs_62 : decode cX12_arePairs 62 = .ok (.iload_n 1, 1) := by decide +kernel
theorem dX12_arePairs_63 : decode cX12_arePairs 63 = .ok (.istore 4, 2) := by decide +kernel
theorem dX12_arePairs_65 : decode cX12_arePairs 65 = .ok (.iload 4, 2) := by decide +kernel
theorem dX12_arePairs_67 : decode cX12_arePairs 67 = .ok (.iload_n 2, 1) := by decide +kernel
theorem dX12_arePairs_68 : decode cX12_arePairs 68 = .ok (.if_icmp .eq 38, 3) := by decide +kernel
theorem dX12_arePairs_71 : decode cX12_arePairs 71 = .ok (.aload_n 0, 1) := by decide +kernel
theorem dX12_arePairs_72 : decode cX12_arePairs 72 = .ok (.getfield 8, 3) := by decide +kernel
theorem dX12_arePairs_75 : decode cX12_arePairs 75 = .ok (.aload_n 0, 1) := by decide +kernel
theorem dX12_arePairs_76 : decode cX12_arePairs 76 = .ok (.getfield 8, 3) := by decide +kernel
theorem dX12_arePairs_79 : decode cX12_arePairs 79 = .ok (.iload 4, 2) := by decide +kernel
theorem dX12_arePairs_81 : decode cX12_arePairs 81 = .ok (.iaload, 1) := by decide +kernel
theorem dX12_arePairs_82 : decode cX12_arePairs 82 = .ok (.iaload, 1) := by decide +kernel
theorem dX12_arePairs_83 : decode cX12_arePairs 83 = .ok (.aload_n 0, 1) := by decide +kernel
theorem dX12_arePairs_84 : decode cX12_arePairs 84 = .ok (.getfield 8, 3) := by decide +kernel
theorem dX12_arePairs_87 : decode cX12_arePairs 87 = .ok (.iload_n 3, 1) := by decide +kernel
theorem dX12_arePairs_88 : decode cX12_arePairs 88 = .ok (.iaload, 1) := by decide +kernel
theorem dX12_arePairs_89 : decode cX12_arePairs 89 = .ok (.if_icmp .ne 5, 3) := by decide +kernel
theorem dX12_arePairs_92 : decode cX12_arePairs 92 = .ok (.iconst 0, 1) := by decide +kernel
theorem dX12_arePairs_93 : decode cX12_arePairs 93 = .ok (.ireturn, 1) := by decide +kernel
theorem dX12_arePairs_94 : decode cX12_arePairs 94 = .ok (.aload_n 0, 1) := by decide +kernel
theorem dX12_arePairs_95 : decode cX12_arePairs 95 = .ok (.getfield 14, 3) := by decide +kernel
theorem dX12_arePairs_98 : decode cX12_arePairs 98 = .ok (.iload 4, 2) := by decide +kernel
theorem dX12_arePairs_100 : decode cX12_arePairs 100 = .ok (.iaload, 1) := by decide +kernel
theorem dX12_arePairs_101 : decode cX12_arePairs 101 = .ok (.istore 4, 2) := by decide +kernel
theorem dX12_arePairs_103 : decode cX12_arePairs 103 = .ok (.goto (-38), 3) := by decide +kernel
theorem dX12_arePairs_106 : decode cX12_arePairs 106 = .ok (.aload_n 0, 1) := by decide +kernel
theorem dX12_arePairs_107 : decode cX12_arePairs 107 = .ok (.getfield 14, 3) := by decide +kernel
theorem dX12_arePairs_110 : decode cX12_arePairs 110 = .ok (.iload_n 2, 1) := by decide +kernel
theorem dX12_arePairs_111 : decode cX12_arePairs 111 = .ok (.iaload, 1) := by decide +kernel
theorem dX12_arePairs_112 : decode cX12_arePairs 112 = .ok (.istore_n 2, 1) := by decide +kernel
theorem dX12_arePairs_113 : decode cX12_arePairs 113 = .ok (.goto (-100), 3) := by decide +kernel
theorem dX12_arePairs_116 : decode cX12_arePairs 116 = .ok (.iconst 1, 1) := by decide +kernel
theorem dX12_arePairs_117 : decode cX12_arePairs 117 = .ok (.ireturn, 1) := by decide +kernel

section
variable {p : Program} {l : Launch} {e : Env} {R : Room} {s : State} {m : MethodId} {args : Array Value} {below : List Frame} {meth : Method} {c : Code} {H : Heap} {locs : List Loc} {Qf : State → Prop}
variable {ls : Array Slot} {D : va_G} {ca : Nat → ClassId} {A : Nat → Prop} {h0 : Nat} {ad : Nat → Nat} {H0 : Heap} {u : iST}
def w_arePairs_65b (R13 : Int → Int → iST → Prop) (R65 : Int → Int → Int → Int → iST → Prop) (Q : Int → iST → Prop) (x1 : Int) (x2 : Int) (x3 : Int) (x4 : Int) (u : iST) : Prop :=
  br (x4 = x2) (
    bd x2 452000 (rd (u.2.1 1 x2) (fun v8 => 
    R13 x1 v8 u))) (
    bd x4 452000 (rd (u.2.1 0 x4) (fun v9 => 
    bd v9 452000 (rd (u.2.1 0 v9) (fun v10 => 
    bd x3 452000 (rd (u.2.1 0 x3) (fun v11 => 
    br (v10 ≠ v11) (
      bd x4 452000 (rd (u.2.1 1 x4) (fun v12 => 
      R65 x1 x2 x3 v12 u))) (
      zt 0 (Q 0 u)))))))))
def w_arePairs_65 (R13 : Int → Int → iST → Prop) (Q : Int → iST → Prop) (x1 : Int) (x2 : Int) (x3 : Int) (x4 : Int) (u : iST) : Prop := ∀ R65 : Int → Int → Int → Int → iST → Prop, (∀ (x1 : Int) (x2 : Int) (x3 : Int) (x4 : Int) (u : iST), w_arePairs_65b R13 R65 Q x1 x2 x3 x4 u → R65 x1 x2 x3 x4 u) → R65 x1 x2 x3 x4 u
set_option maxRecDepth 20000 in
set_option maxHeartbeats 4000000 in
theorem b_arePairs_65 (X : kX p m c cX12_arePairs 5 s args D ca) (hRf : 7 ≤ R.frames) (hRl : 159 ≤ R.locals) {Q : Int → iST → Prop} (hret : ∀ (v : Int) (u : iST) (H : Heap) (locs : List Loc) (ls : Array Slot) (pc : Nat), bz v → Q v u → kW D ca A h0 ad H0 H locs u → decode cX12_arePairs pc = .ok (.ireturn, 1) → W p l e R s m args below meth c H locs 0 0 Qf (F0 m pc ls [.int (jI v)])) {R13 : Int → Int → iST → Prop} (hR13 : ∀ (x1 : Int) (x2 : Int) (u : iST) (H : Heap) (locs : List Loc) (ls : Array Slot), inR x1 → inR x2 → kW D ca A h0 ad H0 H locs u → lv_has ls 5 [(0, .ref h0), (1, .int (jI x1)), (2, .int (jI x2))] → R13 x1 x2 u → W p l e R s m args below meth c H locs 0 0 Qf (F0 m 13 ls [])) {x1 x2 x3 x4 : Int} (rx1 : inR x1) (rx2 : inR x2) (rx3 : inR x3) (rx4 : inR x4) (hw : kW D ca A h0 ad H0 H locs u) (hl : lv_has ls 5 [(0, .ref h0), (1, .int (jI x1)), (2, .int (jI x2)), (3, .int (jI x3)), (4, .int (jI x4))]) (h : w_arePairs_65 R13 Q x1 x2 x3 x4 u) : W p l e R s m args below meth c H locs 0 0 Qf (F0 m 65 ls []) := by
  refine h (fun x1 x2 x3 x4 u => ∀ (H : Heap) (locs : List Loc) (ls : Array Slot), inR x1 → inR x2 → inR x3 → inR x4 → kW D ca A h0 ad H0 H locs u → lv_has ls 5 [(0, .ref h0), (1, .int (jI x1)), (2, .int (jI x2)), (3, .int (jI x3)), (4, .int (jI x4))] → W p l e R s m args below meth c H locs 0 0 Qf (F0 m 65 ls [])) ?_ H locs ls rx1 rx2 rx3 rx4 hw hl
  clear h hl hw rx1 rx2 rx3 rx4
  intro x1 x2 x3 x4 u h H locs ls rx1 rx2 rx3 rx4 hw hl
  have hR65 : ∀ (x1 : Int) (x2 : Int) (x3 : Int) (x4 : Int) (u : iST) (H : Heap) (locs : List Loc) (ls : Array Slot), inR x1 → inR x2 → inR x3 → inR x4 → kW D ca A h0 ad H0 H locs u → lv_has ls 5 [(0, .ref h0), (1, .int (jI x1)), (2, .int (jI x2)), (3, .int (jI x3)), (4, .int (jI x4))] → (fun (x1 : Int) (x2 : Int) (x3 : Int) (x4 : Int) u => ∀ (H : Heap) (locs : List Loc) (ls : Array Slot), inR x1 → inR x2 → inR x3 → inR x4 → kW D ca A h0 ad H0 H locs u → lv_has ls 5 [(0, .ref h0), (1, .int (jI x1)), (2, .int (jI x2)), (3, .int (jI x3)), (4, .int (jI x4))] → W p l e R s m args below meth c H locs 0 0 Qf (F0 m 65 ls [])) x1 x2 x3 x4 u → W p l e R s m args below meth c H locs 0 0 Qf (F0 m 65 ls []) := fun x1 x2 x3 x4 u H locs ls rx1 rx2 rx3 rx4 hw hl h => h H locs ls rx1 rx2 rx3 rx4 hw hl
  have hx := X.1.1
  have hb := X.1.2.1
  unfold w_arePairs_65b at h
  refine lv_iload hx hb dX12_arePairs_65 (lv_at hl 4 rfl) ?_
  refine lv_iload_n hx hb dX12_arePairs_67 rfl (lv_at hl 2 rfl) ?_
  refine k_icmp_eq hx hb rx4 rx2 dX12_arePairs_68 (tgt := 106) rfl h (fun h => ?_) (fun h => ?_)
  · refine lv_aload_n hx hb dX12_arePairs_106 rfl (lv_at hl 0 rfl) ?_
    refine gA 1 14 (by decide) L_1 (fun _ _ => mF_1) rfl X hw dX12_arePairs_107 ?_
    refine lv_iload_n hx hb dX12_arePairs_110 rfl (lv_at hl 2 rfl) ?_
    refine aL 1 2 1 452000 (fun _ _ _ _ => mG_1) (fun _ => rfl) X hw rx2 dX12_arePairs_111 rfl h (fun v8 rv8 h => ?_)
    refine lv_istore_n hx hb dX12_arePairs_112 rfl hl (by decide) rfl (fun ls hl => ?_)
    have hl : lv_has ls 5 [(2, .int (jI v8)), (0, .ref (h0)), (1, .int (jI x1)), (3, .int (jI x3)), (4, .int (jI x4))] := hl
    refine lv_goto hx hb dX12_arePairs_113 (tgt := 13) rfl ?_
    exact hR13 _ _ _ H locs ls rx1 rv8 hw (lv_sub hl [1, 2, 0] rfl) h
  · refine lv_aload_n hx hb dX12_arePairs_71 rfl (lv_at hl 0 rfl) ?_
    refine gA 0 8 (by decide) L_0 (fun _ _ => mF_0) rfl X hw dX12_arePairs_72 ?_
    refine lv_aload_n hx hb dX12_arePairs_75 rfl (lv_at hl 0 rfl) ?_
    refine gA 0 8 (by decide) L_0 (fun _ _ => mF_0) rfl X hw dX12_arePairs_76 ?_
    refine lv_iload hx hb dX12_arePairs_79 (lv_at hl 4 rfl) ?_
    refine aL 0 1 0 452000 (fun _ _ _ _ => mG_0) (fun _ => rfl) X hw rx4 dX12_arePairs_81 rfl h (fun v9 rv9 h => ?_)
    refine aL 0 1 0 452000 (fun _ _ _ _ => mG_0) (fun _ => rfl) X hw rv9 dX12_arePairs_82 rfl h (fun v10 rv10 h => ?_)
    refine lv_aload_n hx hb dX12_arePairs_83 rfl (lv_at hl 0 rfl) ?_
    refine gA 0 8 (by decide) L_0 (fun _ _ => mF_0) rfl X hw dX12_arePairs_84 ?_
    refine lv_iload_n hx hb dX12_arePairs_87 rfl (lv_at hl 3 rfl) ?_
    refine aL 0 1 0 452000 (fun _ _ _ _ => mG_0) (fun _ => rfl) X hw rx3 dX12_arePairs_88 rfl h (fun v11 rv11 h => ?_)
    refine k_icmp_ne hx hb rv10 rv11 dX12_arePairs_89 (tgt := 94) rfl h (fun h => ?_) (fun h => ?_)
    · refine lv_aload_n hx hb dX12_arePairs_94 rfl (lv_at hl 0 rfl) ?_
      refine gA 1 14 (by decide) L_1 (fun _ _ => mF_1) rfl X hw dX12_arePairs_95 ?_
      refine lv_iload hx hb dX12_arePairs_98 (lv_at hl 4 rfl) ?_
      refine aL 1 2 1 452000 (fun _ _ _ _ => mG_1) (fun _ => rfl) X hw rx4 dX12_arePairs_100 rfl h (fun v12 rv12 h => ?_)
      refine lv_istore hx hb dX12_arePairs_101 hl (by decide) rfl (fun ls hl => ?_)
      have hl : lv_has ls 5 [(4, .int (jI v12)), (0, .ref (h0)), (1, .int (jI x1)), (2, .int (jI x2)), (3, .int (jI x3))] := hl
      refine lv_goto hx hb dX12_arePairs_103 (tgt := 65) rfl ?_
      exact hR65 _ _ _ _ _ H locs ls rx1 rx2 rx3 rv12 hw (lv_sub hl [1, 2, 3, 4, 0] rfl) h
    · refine lv_iconst hx hb dX12_arePairs_92 (v := jI 0) rfl ?_
      exact hret _ _ _ _ _ _ h.1 h.2 hw dX12_arePairs_93

def w_arePairs_13b (R13 : Int → Int → iST → Prop) (Q : Int → iST → Prop) (x1 : Int) (x2 : Int) (u : iST) : Prop :=
  br (x2 = 0) (
    zt 1 (Q 1 u)) (
    bd x2 452000 (rd (u.2.1 0 x2) (fun v2 => 
    w_lengthOf v2 (fun v3 u => 
    br (v3 ≠ 2) (
      zt 0 (Q 0 u)) (
      bd v2 452000 (rd (u.2.1 0 v2) (fun v4 => 
      w_isVariable v4 (fun v5 u => 
      br (v5 = 0) (
        zt 0 (Q 0 u)) (
        w_nth v2 1 (fun v6 u => 
        w_termOf v6 (fun v7 u => 
        br (v7 ≠ (-1)) (
          w_arePairs_65 R13 Q x1 x2 v2 x1 u) (
          zt 0 (Q 0 u))) u) u)) u)))) u)))
def w_arePairs_13 (Q : Int → iST → Prop) (x1 : Int) (x2 : Int) (u : iST) : Prop := ∀ R13 : Int → Int → iST → Prop, (∀ (x1 : Int) (x2 : Int) (u : iST), w_arePairs_13b R13 Q x1 x2 u → R13 x1 x2 u) → R13 x1 x2 u
set_option maxRecDepth 20000 in
set_option maxHeartbeats 4000000 in
theorem b_arePairs_13 (X : kX p m c cX12_arePairs 5 s args D ca) (hRf : 7 ≤ R.frames) (hRl : 159 ≤ R.locals) {Q : Int → iST → Prop} (hret : ∀ (v : Int) (u : iST) (H : Heap) (locs : List Loc) (ls : Array Slot) (pc : Nat), bz v → Q v u → kW D ca A h0 ad H0 H locs u → decode cX12_arePairs pc = .ok (.ireturn, 1) → W p l e R s m args below meth c H locs 0 0 Qf (F0 m pc ls [.int (jI v)])) {x1 x2 : Int} (rx1 : inR x1) (rx2 : inR x2) (hw : kW D ca A h0 ad H0 H locs u) (hl : lv_has ls 5 [(0, .ref h0), (1, .int (jI x1)), (2, .int (jI x2))]) (h : w_arePairs_13 Q x1 x2 u) : W p l e R s m args below meth c H locs 0 0 Qf (F0 m 13 ls []) := by
  refine h (fun x1 x2 u => ∀ (H : Heap) (locs : List Loc) (ls : Array Slot), inR x1 → inR x2 → kW D ca A h0 ad H0 H locs u → lv_has ls 5 [(0, .ref h0), (1, .int (jI x1)), (2, .int (jI x2))] → W p l e R s m args below meth c H locs 0 0 Qf (F0 m 13 ls [])) ?_ H locs ls rx1 rx2 hw hl
  clear h hl hw rx1 rx2
  intro x1 x2 u h H locs ls rx1 rx2 hw hl
  have hR13 : ∀ (x1 : Int) (x2 : Int) (u : iST) (H : Heap) (locs : List Loc) (ls : Array Slot), inR x1 → inR x2 → kW D ca A h0 ad H0 H locs u → lv_has ls 5 [(0, .ref h0), (1, .int (jI x1)), (2, .int (jI x2))] → (fun (x1 : Int) (x2 : Int) u => ∀ (H : Heap) (locs : List Loc) (ls : Array Slot), inR x1 → inR x2 → kW D ca A h0 ad H0 H locs u → lv_has ls 5 [(0, .ref h0), (1, .int (jI x1)), (2, .int (jI x2))] → W p l e R s m args below meth c H locs 0 0 Qf (F0 m 13 ls [])) x1 x2 u → W p l e R s m args below meth c H locs 0 0 Qf (F0 m 13 ls []) := fun x1 x2 u H locs ls rx1 rx2 hw hl h => h H locs ls rx1 rx2 hw hl
  have hx := X.1.1
  have hb := X.1.2.1
  unfold w_arePairs_13b at h
  refine lv_iload_n hx hb dX12_arePairs_13 rfl (lv_at hl 2 rfl) ?_
  refine k_if_eq hx hb rx2 dX12_arePairs_14 (tgt := 116) rfl h (fun h => ?_) (fun h => ?_)
  · refine lv_iconst hx hb dX12_arePairs_116 (v := jI 1) rfl ?_
    exact hret _ _ _ _ _ _ h.1 h.2 hw dX12_arePairs_117
  · refine lv_aload_n hx hb dX12_arePairs_17 rfl (lv_at hl 0 rfl) ?_
    refine gA 0 8 (by decide) L_0 (fun _ _ => mF_0) rfl X hw dX12_arePairs_18 ?_
    refine lv_iload_n hx hb dX12_arePairs_21 rfl (lv_at hl 2 rfl) ?_
    refine aL 0 1 0 452000 (fun _ _ _ _ => mG_0) (fun _ => rfl) X hw rx2 dX12_arePairs_22 rfl h (fun v2 rv2 h => ?_)
    refine lv_istore_n hx hb dX12_arePairs_23 rfl hl (by decide) rfl (fun ls hl => ?_)
    have hl : lv_has ls 5 [(3, .int (jI v2)), (0, .ref (h0)), (1, .int (jI x1)), (2, .int (jI x2))] := hl
    refine lv_aload_n hx hb dX12_arePairs_24 rfl (lv_at hl 1 rfl) ?_
    refine lv_iload_n hx hb dX12_arePairs_25 rfl (lv_at hl 0 rfl) ?_
    refine kcI (n := 1) (c_lengthOf rv2 h) G_lengthOf E_lengthOf X hw (Nat.le_trans (Nat.le_of_ble_eq_true rfl) hRf) (Nat.le_trans (Nat.le_of_ble_eq_true rfl) hRl) rfl hl.1 (Nat.le_of_ble_eq_true rfl) rfl dX12_arePairs_26 (fun v3 u H locs rv3 h hw => ?_)
    refine lv_iconst hx hb dX12_arePairs_29 (v := jI 2) rfl ?_
    refine k_icmp_ne hx hb rv3 (by decide) dX12_arePairs_30 (tgt := 60) rfl h (fun h => ?_) (fun h => ?_)
    · refine lv_iconst hx hb dX12_arePairs_60 (v := jI 0) rfl ?_
      exact hret _ _ _ _ _ _ h.1 h.2 hw dX12_arePairs_61
    · refine lv_aload_n hx hb dX12_arePairs_33 rfl (lv_at hl 1 rfl) ?_
      refine lv_aload_n hx hb dX12_arePairs_34 rfl (lv_at hl 1 rfl) ?_
      refine gA 0 8 (by decide) L_0 (fun _ _ => mF_0) rfl X hw dX12_arePairs_35 ?_
      refine lv_iload_n hx hb dX12_arePairs_38 rfl (lv_at hl 0 rfl) ?_
      refine aL 0 1 0 452000 (fun _ _ _ _ => mG_0) (fun _ => rfl) X hw rv2 dX12_arePairs_39 rfl h (fun v4 rv4 h => ?_)
      refine kcI (n := 1) (c_isVariable rv4 h) G_isVariable E_isVariable X hw (Nat.le_trans (Nat.le_of_ble_eq_true rfl) hRf) (Nat.le_trans (Nat.le_of_ble_eq_true rfl) hRl) rfl hl.1 (Nat.le_of_ble_eq_true rfl) rfl dX12_arePairs_40 (fun v5 u H locs rv5 h hw => ?_)
      refine k_if_eq hx hb rv5 dX12_arePairs_43 (tgt := 60) rfl h (fun h => ?_) (fun h => ?_)
      · refine lv_iconst hx hb dX12_arePairs_60 (v := jI 0) rfl ?_
        exact hret _ _ _ _ _ _ h.1 h.2 hw dX12_arePairs_61
      · refine lv_aload_n hx hb dX12_arePairs_46 rfl (lv_at hl 1 rfl) ?_
        refine lv_aload_n hx hb dX12_arePairs_47 rfl (lv_at hl 1 rfl) ?_
        refine lv_iload_n hx hb dX12_arePairs_48 rfl (lv_at hl 0 rfl) ?_
        refine lv_iconst hx hb dX12_arePairs_49 (v := jI 1) rfl ?_
        refine kcI (n := 2) (c_nth rv2 (by decide) h) G_nth E_nth X hw (Nat.le_trans (Nat.le_of_ble_eq_true rfl) hRf) (Nat.le_trans (Nat.le_of_ble_eq_true rfl) hRl) rfl hl.1 (Nat.le_of_ble_eq_true rfl) rfl dX12_arePairs_50 (fun v6 u H locs rv6 h hw => ?_)
        refine kcI (n := 1) (c_termOf rv6 h) G_termOf E_termOf X hw (Nat.le_trans (Nat.le_of_ble_eq_true rfl) hRf) (Nat.le_trans (Nat.le_of_ble_eq_true rfl) hRl) rfl hl.1 (Nat.le_of_ble_eq_true rfl) rfl dX12_arePairs_53 (fun v7 u H locs rv7 h hw => ?_)
        refine lv_iconst hx hb dX12_arePairs_56 (v := jI (-1)) rfl ?_
        refine k_icmp_ne hx hb rv7 (by decide) dX12_arePairs_57 (tgt := 62) rfl h (fun h => ?_) (fun h => ?_)
        · refine lv_iload_n hx hb dX12_arePairs_62 rfl (lv_at hl 2 rfl) ?_
          refine lv_istore hx hb dX12_arePairs_63 hl (by decide) rfl (fun ls hl => ?_)
          have hl : lv_has ls 5 [(4, .int (jI x1)), (3, .int (jI v2)), (0, .ref (h0)), (1, .int (jI x1)), (2, .int (jI x2))] := hl
          exact b_arePairs_65 X hRf hRl hret hR13 rx1 rx2 rv2 rx1 hw (lv_sub hl [2, 3, 4, 1, 0] rfl) h
        · refine lv_iconst hx hb dX12_arePairs_60 (v := jI 0) rfl ?_
          exact hret _ _ _ _ _ _ h.1 h.2 hw dX12_arePairs_61

def w_arePairs (a0 : Int) (Q : Int → iST → Prop) (u : iST) : Prop :=
  w_lengthOf a0 (fun v1 u => 
  br (v1 ≠ (-1)) (
    w_arePairs_13 Q a0 a0 u) (
    zt 0 (Q 0 u))) u
set_option maxRecDepth 20000 in
set_option maxHeartbeats 4000000 in
theorem b_arePairs_s (X : kX p m c cX12_arePairs 5 s args D ca) (hRf : 7 ≤ R.frames) (hRl : 159 ≤ R.locals) {Q : Int → iST → Prop} (hret : ∀ (v : Int) (u : iST) (H : Heap) (locs : List Loc) (ls : Array Slot) (pc : Nat), bz v → Q v u → kW D ca A h0 ad H0 H locs u → decode cX12_arePairs pc = .ok (.ireturn, 1) → W p l e R s m args below meth c H locs 0 0 Qf (F0 m pc ls [.int (jI v)])) {a0 : Int} (ra0 : inR a0) (hw : kW D ca A h0 ad H0 H locs u) (hl : lv_has ls 5 [(0, .ref h0), (1, .int (jI a0))]) (h : w_arePairs a0 Q u) : W p l e R s m args below meth c H locs 0 0 Qf (F0 m 0 ls []) := by
  have hx := X.1.1
  have hb := X.1.2.1
  unfold w_arePairs at h
  refine lv_aload_n hx hb dX12_arePairs_0 rfl (lv_at hl 0 rfl) ?_
  refine lv_iload_n hx hb dX12_arePairs_1 rfl (lv_at hl 1 rfl) ?_
  refine kcI (n := 1) (c_lengthOf ra0 h) G_lengthOf E_lengthOf X hw (Nat.le_trans (Nat.le_of_ble_eq_true rfl) hRf) (Nat.le_trans (Nat.le_of_ble_eq_true rfl) hRl) rfl hl.1 (Nat.le_of_ble_eq_true rfl) rfl dX12_arePairs_2 (fun v1 u H locs rv1 h hw => ?_)
  refine lv_iconst hx hb dX12_arePairs_5 (v := jI (-1)) rfl ?_
  refine k_icmp_ne hx hb rv1 (by decide) dX12_arePairs_6 (tgt := 11) rfl h (fun h => ?_) (fun h => ?_)
  · refine lv_iload_n hx hb dX12_arePairs_11 rfl (lv_at hl 1 rfl) ?_
    refine lv_istore_n hx hb dX12_arePairs_12 rfl hl (by decide) rfl (fun ls hl => ?_)
    have hl : lv_has ls 5 [(2, .int (jI a0)), (0, .ref (h0)), (1, .int (jI a0))] := hl
    exact b_arePairs_13 X hRf hRl hret ra0 ra0 hw (lv_sub hl [1, 2, 0] rfl) h
  · refine lv_iconst hx hb dX12_arePairs_9 (v := jI 0) rfl ?_
    exact hret _ _ _ _ _ _ h.1 h.2 hw dX12_arePairs_10

end
theorem c_arePairs {l : Launch} {a0 : Int} (ra0 : inR a0) {Q : Int → iST → Prop} {u : iST} (h : w_arePairs a0 Q u) : kMI l yX12_arePairs (.code yX12_arePairs cX12_arePairs 5 (some .boolean) :: wsM) { frames := 7, cells := 0, slots := 0, locals := 159 } [.int (jI a0)] Q u := kMZ_of rfl (fun _ => Nat.le_of_ble_eq_true rfl) (fun X hRf hRl hret hw hl => b_arePairs_s X hRf hRl hret ra0 hw hl h)
