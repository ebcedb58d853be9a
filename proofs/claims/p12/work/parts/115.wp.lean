/-! proveBy -/
theorem dX12_proveBy_0 : decode cX12_proveBy 0 = .ok (.aload_n 0, 1) := by decide +kernel
theorem dX12_proveBy_1 : decode cX12_proveBy 1 = .ok (.iconst 0, 1) := by decide +kernel
theorem dX12_proveBy_2 : decode cX12_proveBy 2 = .ok (.putfield 733, 3) := by decide +kernel
theorem dX12_proveBy_5 : decode cX12_proveBy 5 = .ok (.aload_n 0, 1) := by decide +kernel
theorem dX12_proveBy_6 : decode cX12_proveBy 6 = .ok (.getfield 863, 3) := by decide +kernel
theorem dX12_proveBy_9 : decode cX12_proveBy 9 = .ok (.iconst (-1), 1) := by decide +kernel
theorem dX12_proveBy_10 : decode cX12_proveBy 10 = .ok (.if_icmp .ne 26, 3) := by decide +kernel
theorem dX12_proveBy_13 : decode cX12_proveBy 13 = .ok (.aload_n 0, 1) := by decide +kernel
theorem dX12_proveBy_14 : decode cX12_proveBy 14 = .ok (.iconst 0, 1) := by decide +kernel
theorem dX12_proveBy_15 : decode cX12_proveBy 15 = .ok (.putfield 727, 3) := by decide +kernel
theorem dX12_proveBy_18 : decode cX12_proveBy 18 = .ok (.aload_n 0, 1) := by decide +kernel
theorem dX12_proveBy_19 : decode cX12_proveBy 19 = .ok (.invokevirtual 896, 3) := by decide +kernel
theorem dX12_proveBy_22 : decode cX12_proveBy 22 = .ok (.aload_n 0, 1) := by decide +kernel
theorem dX12_proveBy_23 : decode cX12_proveBy 23 = .ok (.iload_n 1, 1) := by decide +kernel
theorem dX12_proveBy_24 : decode cX12_proveBy 24 = .ok (.invokevirtual 739, 3) := by decide +kernel
theorem dX12_proveBy_27 : decode cX12_proveBy 27 = .ok (.aload_n 0, 1) := by decide +kernel
theorem dX12_proveBy_28 : decode cX12_proveBy 28 = .ok (.iconst 0, 1) := by decide +kernel
theorem dX12_proveBy_29 : decode cX12_proveBy 29 = .ok (.invokevirtual 742, 3) := by decide +kernel
theorem dX12_proveBy_32 : decode cX12_proveBy 32 = .ok (.istore_n 2, 1) := by decide +kernel
theorem dX12_proveBy_33 : decode cX12_proveBy 33 = .ok (.goto 71, 3) := by decide +kernel
theorem dX12_proveBy_36 : decode cX12_proveBy 36 = .ok (.aload_n 0, 1) := by decide +kernel
theorem dX12_proveBy_37 : decode cX12_proveBy 37 = .ok (.getfield 863, 3) := by decide +kernel
theorem dX12_proveBy_40 : decode cX12_proveBy 40 = .ok (.bipush 100, 2) := by decide +kernel
theorem dX12_proveBy_42 : decode cX12_proveBy 42 = .ok (.isub, 1) := by decide +kernel
theorem dX12_proveBy_43 : decode cX12_proveBy 43 = .ok (.istore_n 2, 1) := by decide +kernel
theorem dX12_proveBy_44 : decode cX12_proveBy 44 = .ok (.aload_n 0, 1) := by decide +kernel
theorem dX12_proveBy_45 : decode cX12_proveBy 45 = .ok (.aload_n 0, 1) := by decide +kernel
theorem dX12_proveBy_46 : decode cX12_proveBy 46 = .ok (.getfield 87, 3) := by decide +kernel
theorem dX12_proveBy_49 : decode cX12_proveBy 49 = .ok (.iload_n 2, 1) := by decide +kernel
theorem dX12_proveBy_50 : decode cX12_proveBy 50 = .ok (.iaload, 1) := by decide +kernel
theorem dX12_proveBy_51 : decode cX12_proveBy 51 = .ok (.invokevirtual 821, 3) := by decide +kernel
theorem dX12_proveBy_54 : decode cX12_proveBy 54 = .ok (.iconst 0, 1) := by decide +kernel
theorem dX12_proveBy_55 : decode cX12_proveBy 55 = .ok (.istore_n 3, 1) := by decide +kernel
theorem dX12_proveBy_56 : decode cX12_proveBy 56 = .ok (.iload_n 3, 1) := by decide +kernel
theorem dX12_proveBy_57 : decode cX12_proveBy 57 = .ok (.aload_n 0, 1) := by decide +kernel
theorem dX12_proveBy_58 : decode cX12_proveBy 58 = .ok (.getfield 788, 3) := by decide +kernel
theorem dX12_proveBy_61 : decode cX12_proveBy 61 = .ok (.if_icmp .ge 43, 3) := by decide +kernel
theorem dX12_proveBy_64 : decode cX12_proveBy 64 = .ok (.aload_n 0, 1) := by decide +kernel
theorem dX12_proveBy_65 : decode cX12_proveBy 65 = .ok (.getfield 480, 3) := by decide +kernel
theorem dX12_proveBy_68 : decode cX12_proveBy 68 = .ok (.ifCond .ne 36, 3) := by decide +kernel
theorem dX12_proveBy_71 : decode cX12_proveBy 71 = .ok (.aload_n 0, 1) := by decide +kernel
theorem dX12_proveBy_72 : decode cX12_proveBy 72 = .ok (.iconst 0, 1) := by decide +kernel
theorem dX12_proveBy_73 : decode cX12_proveBy 73 = .ok (.putfield 727, 3) := by decide +kernel
theorem dX12_proveBy_76 : decode cX12_proveBy 76 = .ok (.aload_n 0, 1) := by decide +kernel
theorem dX12_proveBy_77 : decode cX12_proveBy 77 = .ok (.invokevirtual 896, 3) := by decide +kernel
theorem dX12_proveBy_80 : decode cX12_proveBy 80 = .ok (.aload_n 0, 1) := by decide +kernel
theorem dX12_proveBy_81 : decode cX12_proveBy 81 = .ok (.iload_n 2, 1) := by decide +kernel
theorem dX12_proveBy_82 : decode cX12_proveBy 82 = .ok (.aload_n 0, 1) := by decide +kernel
theorem dX12_proveBy_83 : decode cX12_proveBy 83 = .ok (.getfield 869, 3) := by decide +kernel
theorem dX12_proveBy_86 : decode cX12_proveBy 86 = .ok (.iload_n 3, 1) := by decide +kernel
theorem dX12_proveBy_87 : decode cX12_proveBy 87 = .ok (.iload_n 1, 1) := by decide +kernel
theorem dX12_proveBy_88 : decode cX12_proveBy 88 = .ok (.invokevirtual 899, 3) := by decide +kernel
theorem dX12_proveBy_91 : decode cX12_proveBy 91 = .ok (.aload_n 0, 1) := by decide +kernel
theorem dX12_proveBy_92 : decode cX12_proveBy 92 = .ok (.iconst 0, 1) := by decide +kernel
theorem dX12_proveBy_93 : decode cX12_proveBy 93 = .ok (.invokevirtual 742, 3) := by decide +kernel
theorem dX12_proveBy_96 : decode cX12_proveBy 96 = .ok (.istore 4, 2) := by decide +kernel
theorem dX12_proveBy_98 : decode cX12_proveBy 98 = .ok (.iinc 3 1, 3) := by decide +kernel
theorem dX12_proveBy_101 : decode cX12_proveBy 101 = .ok (.goto (-45), 3) := by decide +kernel
theorem dX12_proveBy_104 : decode cX12_proveBy 104 = .ok (.aload_n 0, 1) := by decide +kernel
theorem dX12_proveBy_105 : decode cX12_proveBy 105 = .ok (.getfield 480, 3) := by decide +kernel
theorem dX12_proveBy_108 : decode cX12_proveBy 108 = .ok (.ifCond .ne 14, 3) := by decide +kernel
theorem dX12_proveBy_111 : decode cX12_proveBy 111 = .ok (.aload_n 0, 1) := by decide +kernel
theorem dX12_proveBy_112 : decode cX12_proveBy 112 = .ok (.invokevirtual 833, 3) := by decide +kernel
theorem dX12_proveBy_115 : decode cX12_proveBy 115 = .ok (.ifCond .eq 7, 3) := by decide +kernel
theorem dX12_proveBy_118 : decode cX12_proveBy 118 = .ok (.iconst 1, 1) := by decide +kernel
theorem dX12_proveBy_119 : decode cX12_proveBy 119 = .ok (.goto 4, 3) := by decide +kernel
theorem dX12_proveBy_122 : decode cX12_proveBy 122 = .ok (.iconst 0, 1) := by decide +kernel
theorem dX12_proveBy_123 : decode cX12_proveBy 123 = .ok (.ireturn, 1) := by decide +kernel

section
variable {p : Program} {l : Launch} {e : Env} {R : Room} {s : State} {m : MethodId} {args : Array Value} {below : List Frame} {meth : Method} {c : Code} {H : Heap} {locs : List Loc} {Qf : State → Prop}
variable {ls : Array Slot} {D : va_G} {ca : Nat → ClassId} {A : Nat → Prop} {h0 : Nat} {ad : Nat → Nat} {H0 : Heap} {u : iST}
def w_proveBy_104 (Q : Int → iST → Prop) (u : iST) : Prop :=
  rd (u.1 61) (fun v7 => 
  br (v7 ≠ 0) (
    zt 0 (Q 0 u)) (
    w_prove (fun v8 u => 
    br (v8 = 0) (
      zt 0 (Q 0 u)) (
      zt 1 (Q 1 u))) u))
set_option maxRecDepth 20000 in
set_option maxHeartbeats 4000000 in
theorem b_proveBy_104 (X : kX p m c cX12_proveBy 5 s args D ca) (hRf : 15 ≤ R.frames) (hRl : 351 ≤ R.locals) {Q : Int → iST → Prop} (hret : ∀ (v : Int) (u : iST) (H : Heap) (locs : List Loc) (ls : Array Slot) (pc : Nat), bz v → Q v u → kW D ca A h0 ad H0 H locs u → decode cX12_proveBy pc = .ok (.ireturn, 1) → W p l e R s m args below meth c H locs 0 0 Qf (F0 m pc ls [.int (jI v)])) (hw : kW D ca A h0 ad H0 H locs u) (hl : lv_has ls 5 [(0, .ref h0)]) (h : w_proveBy_104 Q u) : W p l e R s m args below meth c H locs 0 0 Qf (F0 m 104 ls []) := by
  have hx := X.1.1
  have hb := X.1.2.1
  unfold w_proveBy_104 at h
  refine lv_aload_n hx hb dX12_proveBy_104 rfl (lv_at hl 0 rfl) ?_
  refine gS 61 480 (by decide) L_61 (fun _ _ => mF_61) rfl X hw dX12_proveBy_105 h (fun v7 rv7 h => ?_)
  refine k_if_ne hx hb rv7 dX12_proveBy_108 (tgt := 122) rfl h (fun h => ?_) (fun h => ?_)
  · refine lv_iconst hx hb dX12_proveBy_122 (v := jI 0) rfl ?_
    exact hret _ _ _ _ _ _ h.1 h.2 hw dX12_proveBy_123
  · refine lv_aload_n hx hb dX12_proveBy_111 rfl (lv_at hl 0 rfl) ?_
    refine kcI (n := 0) (c_prove h) G_prove E_prove X hw (Nat.le_trans (Nat.le_of_ble_eq_true rfl) hRf) (Nat.le_trans (Nat.le_of_ble_eq_true rfl) hRl) rfl hl.1 (Nat.le_of_ble_eq_true rfl) rfl dX12_proveBy_112 (fun v8 u H locs rv8 h hw => ?_)
    refine k_if_eq hx hb rv8 dX12_proveBy_115 (tgt := 122) rfl h (fun h => ?_) (fun h => ?_)
    · refine lv_iconst hx hb dX12_proveBy_122 (v := jI 0) rfl ?_
      exact hret _ _ _ _ _ _ h.1 h.2 hw dX12_proveBy_123
    · refine lv_iconst hx hb dX12_proveBy_118 (v := jI 1) rfl ?_
      refine lv_goto hx hb dX12_proveBy_119 (tgt := 123) rfl ?_
      exact hret _ _ _ _ _ _ h.1 h.2 hw dX12_proveBy_123

def w_proveBy_56b (R56 : Int → Int → Int → iST → Prop) (Q : Int → iST → Prop) (x1 : Int) (x2 : Int) (x3 : Int) (u : iST) : Prop :=
  rd (u.1 126) (fun v6 => 
  br (v6 ≤ x3) (
    w_proveBy_104 Q u) (
    rd (u.1 61) (fun v9 => 
    br (v9 ≠ 0) (
      w_proveBy_104 Q u) (
      sw (iI u 122 0) (fun u => 
      w_useRows (fun u => 
      rd (u.1 134) (fun v11 => 
      w_inductionRow x2 v11 x3 x1 (fun u => 
      w_row 0 (fun v13 u => 
      ov (x3 + 1) (
      R56 x1 x2 (x3 + 1) u)) u) u)) u)))))
def w_proveBy_56 (Q : Int → iST → Prop) (x1 : Int) (x2 : Int) (x3 : Int) (u : iST) : Prop := ∀ R56 : Int → Int → Int → iST → Prop, (∀ (x1 : Int) (x2 : Int) (x3 : Int) (u : iST), w_proveBy_56b R56 Q x1 x2 x3 u → R56 x1 x2 x3 u) → R56 x1 x2 x3 u
set_option maxRecDepth 20000 in
set_option maxHeartbeats 4000000 in
theorem b_proveBy_56 (X : kX p m c cX12_proveBy 5 s args D ca) (hRf : 15 ≤ R.frames) (hRl : 351 ≤ R.locals) {Q : Int → iST → Prop} (hret : ∀ (v : Int) (u : iST) (H : Heap) (locs : List Loc) (ls : Array Slot) (pc : Nat), bz v → Q v u → kW D ca A h0 ad H0 H locs u → decode cX12_proveBy pc = .ok (.ireturn, 1) → W p l e R s m args below meth c H locs 0 0 Qf (F0 m pc ls [.int (jI v)])) {x1 x2 x3 : Int} (rx1 : inR x1) (rx2 : inR x2) (rx3 : inR x3) (hw : kW D ca A h0 ad H0 H locs u) (hl : lv_has ls 5 [(0, .ref h0), (1, .int (jI x1)), (2, .int (jI x2)), (3, .int (jI x3))]) (h : w_proveBy_56 Q x1 x2 x3 u) : W p l e R s m args below meth c H locs 0 0 Qf (F0 m 56 ls []) := by
  refine h (fun x1 x2 x3 u => ∀ (H : Heap) (locs : List Loc) (ls : Array Slot), inR x1 → inR x2 → inR x3 → kW D ca A h0 ad H0 H locs u → lv_has ls 5 [(0, .ref h0), (1, .int (jI x1)), (2, .int (jI x2)), (3, .int (jI x3))] → W p l e R s m args below meth c H locs 0 0 Qf (F0 m 56 ls [])) ?_ H locs ls rx1 rx2 rx3 hw hl
  clear h hl hw rx1 rx2 rx3
  intro x1 x2 x3 u h H locs ls rx1 rx2 rx3 hw hl
  have hR56 : ∀ (x1 : Int) (x2 : Int) (x3 : Int) (u : iST) (H : Heap) (locs : List Loc) (ls : Array Slot), inR x1 → inR x2 → inR x3 → kW D ca A h0 ad H0 H locs u → lv_has ls 5 [(0, .ref h0), (1, .int (jI x1)), (2, .int (jI x2)), (3, .int (jI x3))] → (fun (x1 : Int) (x2 : Int) (x3 : Int) u => ∀ (H : Heap) (locs : List Loc) (ls : Array Slot), inR x1 → inR x2 → inR x3 → kW D ca A h0 ad H0 H locs u → lv_has ls 5 [(0, .ref h0), (1, .int (jI x1)), (2, .int (jI x2)), (3, .int (jI x3))] → W p l e R s m args below meth c H locs 0 0 Qf (F0 m 56 ls [])) x1 x2 x3 u → W p l e R s m args below meth c H locs 0 0 Qf (F0 m 56 ls []) := fun x1 x2 x3 u H locs ls rx1 rx2 rx3 hw hl h => h H locs ls rx1 rx2 rx3 hw hl
  have hx := X.1.1
  have hb := X.1.2.1
  unfold w_proveBy_56b at h
  refine lv_iload_n hx hb dX12_proveBy_56 rfl (lv_at hl 3 rfl) ?_
  refine lv_aload_n hx hb dX12_proveBy_57 rfl (lv_at hl 0 rfl) ?_
  refine gS 126 788 (by decide) L_126 (fun _ _ => mF_126) rfl X hw dX12_proveBy_58 h (fun v6 rv6 h => ?_)
  refine k_icmp_ge hx hb rx3 rv6 dX12_proveBy_61 (tgt := 104) rfl h (fun h => ?_) (fun h => ?_)
  · exact b_proveBy_104 X hRf hRl hret hw (lv_sub hl [0] rfl) h
  · refine lv_aload_n hx hb dX12_proveBy_64 rfl (lv_at hl 0 rfl) ?_
    refine gS 61 480 (by decide) L_61 (fun _ _ => mF_61) rfl X hw dX12_proveBy_65 h (fun v9 rv9 h => ?_)
    refine k_if_ne hx hb rv9 dX12_proveBy_68 (tgt := 104) rfl h (fun h => ?_) (fun h => ?_)
    · exact b_proveBy_104 X hRf hRl hret hw (lv_sub hl [0] rfl) h
    · refine lv_aload_n hx hb dX12_proveBy_71 rfl (lv_at hl 0 rfl) ?_
      refine lv_iconst hx hb dX12_proveBy_72 (v := jI 0) rfl ?_
      refine pS 122 727 (by decide) L_122 rfl rfl rfl (fun _ _ _ _ _ => mSI_122) (by decide) X hw (by decide) dX12_proveBy_73 h (fun H locs u hw h => ?_)
      refine lv_aload_n hx hb dX12_proveBy_76 rfl (lv_at hl 0 rfl) ?_
      refine kcV (n := 0) (c_useRows h) G_useRows E_useRows X hw (Nat.le_trans (Nat.le_of_ble_eq_true rfl) hRf) (Nat.le_trans (Nat.le_of_ble_eq_true rfl) hRl) rfl hl.1 (Nat.le_of_ble_eq_true rfl) rfl dX12_proveBy_77 (fun u H locs h hw => ?_)
      refine lv_aload_n hx hb dX12_proveBy_80 rfl (lv_at hl 0 rfl) ?_
      refine lv_iload_n hx hb dX12_proveBy_81 rfl (lv_at hl 2 rfl) ?_
      refine lv_aload_n hx hb dX12_proveBy_82 rfl (lv_at hl 0 rfl) ?_
      refine gS 134 869 (by decide) L_134 (fun _ _ => mF_134) rfl X hw dX12_proveBy_83 h (fun v11 rv11 h => ?_)
      refine lv_iload_n hx hb dX12_proveBy_86 rfl (lv_at hl 3 rfl) ?_
      refine lv_iload_n hx hb dX12_proveBy_87 rfl (lv_at hl 1 rfl) ?_
      refine kcV (n := 4) (c_inductionRow rx2 rv11 rx3 rx1 h) G_inductionRow E_inductionRow X hw (Nat.le_trans (Nat.le_of_ble_eq_true rfl) hRf) (Nat.le_trans (Nat.le_of_ble_eq_true rfl) hRl) rfl hl.1 (Nat.le_of_ble_eq_true rfl) rfl dX12_proveBy_88 (fun u H locs h hw => ?_)
      refine lv_aload_n hx hb dX12_proveBy_91 rfl (lv_at hl 0 rfl) ?_
      refine lv_iconst hx hb dX12_proveBy_92 (v := jI 0) rfl ?_
      refine kcI (n := 1) (c_row (by decide) h) G_row E_row X hw (Nat.le_trans (Nat.le_of_ble_eq_true rfl) hRf) (Nat.le_trans (Nat.le_of_ble_eq_true rfl) hRl) rfl hl.1 (Nat.le_of_ble_eq_true rfl) rfl dX12_proveBy_93 (fun v13 u H locs rv13 h hw => ?_)
      refine lv_istore hx hb dX12_proveBy_96 hl (by decide) rfl (fun ls hl => ?_)
      have hl : lv_has ls 5 [(4, .int (jI v13)), (0, .ref (h0)), (1, .int (jI x1)), (2, .int (jI x2)), (3, .int (jI x3))] := hl
      refine k_iinc (k := 4) hx hb dX12_proveBy_98 hl rfl (by decide) rfl h (fun ls r14 h hl => ?_)
      have hl : lv_has ls 5 [(3, .int (jI (x3 + 1))), (4, .int (jI v13)), (0, .ref (h0)), (1, .int (jI x1)), (2, .int (jI x2))] := hl
      refine lv_goto hx hb dX12_proveBy_101 (tgt := 56) rfl ?_
      exact hR56 _ _ _ _ H locs ls rx1 rx2 r14 hw (lv_sub hl [2, 3, 4, 0] rfl) h

def w_proveBy (a0 : Int) (Q : Int → iST → Prop) (u : iST) : Prop :=
  sw (iI u 117 0) (fun u => 
  rd (u.1 133) (fun v1 => 
  br (v1 ≠ (-1)) (
    rd (u.1 133) (fun v2 => 
    ov (v2 - 100) (
    bd (v2 - 100) 40 (rd (u.2.1 39 (v2 - 100)) (fun v4 => 
    w_pathsOf v4 (fun u => 
    w_proveBy_56 Q a0 (v2 - 100) 0 u) u))))) (
    sw (iI u 122 0) (fun u => 
    w_useRows (fun u => 
    w_put a0 (fun u => 
    w_row 0 (fun v17 u => 
    w_proveBy_104 Q u) u) u) u))))
set_option maxRecDepth 20000 in
set_option maxHeartbeats 4000000 in
theorem b_proveBy_s (X : kX p m c cX12_proveBy 5 s args D ca) (hRf : 15 ≤ R.frames) (hRl : 351 ≤ R.locals) {Q : Int → iST → Prop} (hret : ∀ (v : Int) (u : iST) (H : Heap) (locs : List Loc) (ls : Array Slot) (pc : Nat), bz v → Q v u → kW D ca A h0 ad H0 H locs u → decode cX12_proveBy pc = .ok (.ireturn, 1) → W p l e R s m args below meth c H locs 0 0 Qf (F0 m pc ls [.int (jI v)])) {a0 : Int} (ra0 : inR a0) (hw : kW D ca A h0 ad H0 H locs u) (hl : lv_has ls 5 [(0, .ref h0), (1, .int (jI a0))]) (h : w_proveBy a0 Q u) : W p l e R s m args below meth c H locs 0 0 Qf (F0 m 0 ls []) := by
  have hx := X.1.1
  have hb := X.1.2.1
  unfold w_proveBy at h
  refine lv_aload_n hx hb dX12_proveBy_0 rfl (lv_at hl 0 rfl) ?_
  refine lv_iconst hx hb dX12_proveBy_1 (v := jI 0) rfl ?_
  refine pS 117 733 (by decide) L_117 rfl rfl rfl (fun _ _ _ _ _ => mSI_117) (by decide) X hw (by decide) dX12_proveBy_2 h (fun H locs u hw h => ?_)
  refine lv_aload_n hx hb dX12_proveBy_5 rfl (lv_at hl 0 rfl) ?_
  refine gS 133 863 (by decide) L_133 (fun _ _ => mF_133) rfl X hw dX12_proveBy_6 h (fun v1 rv1 h => ?_)
  refine lv_iconst hx hb dX12_proveBy_9 (v := jI (-1)) rfl ?_
  refine k_icmp_ne hx hb rv1 (by decide) dX12_proveBy_10 (tgt := 36) rfl h (fun h => ?_) (fun h => ?_)
  · refine lv_aload_n hx hb dX12_proveBy_36 rfl (lv_at hl 0 rfl) ?_
    refine gS 133 863 (by decide) L_133 (fun _ _ => mF_133) rfl X hw dX12_proveBy_37 h (fun v2 rv2 h => ?_)
    refine lv_bipush hx hb dX12_proveBy_40 (v := jI 100) rfl ?_
    refine k_isub hx hb dX12_proveBy_42 h (fun r3 h => ?_)
    refine lv_istore_n hx hb dX12_proveBy_43 rfl hl (by decide) rfl (fun ls hl => ?_)
    have hl : lv_has ls 5 [(2, .int (jI (v2 - 100))), (0, .ref (h0)), (1, .int (jI a0))] := hl
    refine lv_aload_n hx hb dX12_proveBy_44 rfl (lv_at hl 1 rfl) ?_
    refine lv_aload_n hx hb dX12_proveBy_45 rfl (lv_at hl 1 rfl) ?_
    refine gA 39 87 (by decide) L_39 (fun _ _ => mF_39) rfl X hw dX12_proveBy_46 ?_
    refine lv_iload_n hx hb dX12_proveBy_49 rfl (lv_at hl 0 rfl) ?_
    refine aL 39 24 23 40 (fun _ _ _ _ => mG_39) (fun _ => rfl) X hw r3 dX12_proveBy_50 rfl h (fun v4 rv4 h => ?_)
    refine kcV (n := 1) (c_pathsOf rv4 h) G_pathsOf E_pathsOf X hw (Nat.le_trans (Nat.le_of_ble_eq_true rfl) hRf) (Nat.le_trans (Nat.le_of_ble_eq_true rfl) hRl) rfl hl.1 (Nat.le_of_ble_eq_true rfl) rfl dX12_proveBy_51 (fun u H locs h hw => ?_)
    refine lv_iconst hx hb dX12_proveBy_54 (v := jI 0) rfl ?_
    refine lv_istore_n hx hb dX12_proveBy_55 rfl hl (by decide) rfl (fun ls hl => ?_)
    have hl : lv_has ls 5 [(3, .int (jI 0)), (2, .int (jI (v2 - 100))), (0, .ref (h0)), (1, .int (jI a0))] := hl
    exact b_proveBy_56 X hRf hRl hret ra0 r3 (by decide) hw (lv_sub hl [2, 3, 1, 0] rfl) h
  · refine lv_aload_n hx hb dX12_proveBy_13 rfl (lv_at hl 0 rfl) ?_
    refine lv_iconst hx hb dX12_proveBy_14 (v := jI 0) rfl ?_
    refine pS 122 727 (by decide) L_122 rfl rfl rfl (fun _ _ _ _ _ => mSI_122) (by decide) X hw (by decide) dX12_proveBy_15 h (fun H locs u hw h => ?_)
    refine lv_aload_n hx hb dX12_proveBy_18 rfl (lv_at hl 0 rfl) ?_
    refine kcV (n := 0) (c_useRows h) G_useRows E_useRows X hw (Nat.le_trans (Nat.le_of_ble_eq_true rfl) hRf) (Nat.le_trans (Nat.le_of_ble_eq_true rfl) hRl) rfl hl.1 (Nat.le_of_ble_eq_true rfl) rfl dX12_proveBy_19 (fun u H locs h hw => ?_)
    refine lv_aload_n hx hb dX12_proveBy_22 rfl (lv_at hl 0 rfl) ?_
    refine lv_iload_n hx hb dX12_proveBy_23 rfl (lv_at hl 1 rfl) ?_
    refine kcV (n := 1) (c_put ra0 h) G_put E_put X hw (Nat.le_trans (Nat.le_of_ble_eq_true rfl) hRf) (Nat.le_trans (Nat.le_of_ble_eq_true rfl) hRl) rfl hl.1 (Nat.le_of_ble_eq_true rfl) rfl dX12_proveBy_24 (fun u H locs h hw => ?_)
    refine lv_aload_n hx hb dX12_proveBy_27 rfl (lv_at hl 0 rfl) ?_
    refine lv_iconst hx hb dX12_proveBy_28 (v := jI 0) rfl ?_
    refine kcI (n := 1) (c_row (by decide) h) G_row E_row X hw (Nat.le_trans (Nat.le_of_ble_eq_true rfl) hRf) (Nat.le_trans (Nat.le_of_ble_eq_true rfl) hRl) rfl hl.1 (Nat.le_of_ble_eq_true rfl) rfl dX12_proveBy_29 (fun v17 u H locs rv17 h hw => ?_)
    refine lv_istore_n hx hb dX12_proveBy_32 rfl hl (by decide) rfl (fun ls hl => ?_)
    have hl : lv_has ls 5 [(2, .int (jI v17)), (0, .ref (h0)), (1, .int (jI a0))] := hl
    refine lv_goto hx hb dX12_proveBy_33 (tgt := 104) rfl ?_
    exact b_proveBy_104 X hRf hRl hret hw (lv_sub hl [1] rfl) h

end
theorem c_proveBy {l : Launch} {a0 : Int} (ra0 : inR a0) {Q : Int → iST → Prop} {u : iST} (h : w_proveBy a0 Q u) : kMI l yX12_proveBy (.code yX12_proveBy cX12_proveBy 5 (some .boolean) :: wsM) { frames := 15, cells := 0, slots := 0, locals := 351 } [.int (jI a0)] Q u := kMZ_of rfl (fun _ => Nat.le_of_ble_eq_true rfl) (fun X hRf hRl hret hw hl => b_proveBy_s X hRf hRl hret ra0 hw hl h)

/-! allRulesIn -/
theorem dX12_allRulesIn_0 : decode cX12_allRulesIn 0 = .ok (.iconst 0, 1) := by decide +kernel
theorem dX12_allRulesIn_1 : decode cX12_allRulesIn 1 = .ok (.istore_n 1, 1) := by decide +kernel
theorem dX12_allRulesIn_2 : decode cX12_allRulesIn 2 = .ok (.iload_n 1, 1) := by decide +kernel
theorem dX12_allRulesIn_3 : decode cX12_allRulesIn 3 = .ok (.bipush 60, 2) := by decide +kernel
theorem dX12_allRulesIn_5 : decode cX12_allRulesIn 5 = .ok (.if_icmp .ge 16, 3) := by decide +kernel
theorem dX12_allRulesIn_8 : decode cX12_allRulesIn 8 = .ok (.aload_n 0, 1) := by decide +kernel
theorem dX12_allRulesIn_9 : decode cX12_allRulesIn 9 = .ok (.getfield 127, 3) := by decide +kernel
theorem dX12_allRulesIn_12 : decode cX12_allRulesIn 12 = .ok (.iload_n 1, 1) := by decide +kernel
theorem dX12_allRulesIn_13 : decode cX12_allRulesIn 13 = .ok (.iconst 0, 1) := by decide +kernel
theorem dX12_allRulesIn_14 : decode cX12_allRulesIn 14 = .ok (.bastore, 1) := by decide +kernel
theorem dX12_allRulesIn_15 : decode cX12_allRulesIn 15 = .ok (.iinc 1 1, 3) := by decide +kernel
theorem dX12_allRulesIn_18 : decode cX12_allRulesIn 18 = .ok (.goto (-16), 3) := by decide +kernel
theorem dX12_allRulesIn_21 : decode cX12_allRulesIn 21 = .ok (.return_, 1) := by decide +kernel

section
variable {p : Program} {l : Launch} {e : Env} {R : Room} {s : State} {m : MethodId} {args : Array Value} {below : List Frame} {meth : Method} {c : Code} {H : Heap} {locs : List Loc} {Qf : State → Prop}
variable {ls : Array Slot} {D : va_G} {ca : Nat → ClassId} {A : Nat → Prop} {h0 : Nat} {ad : Nat → Nat} {H0 : Heap} {u : iST}
def w_allRulesIn_2b (R2 : Int → iST → Prop) (Q : iST → Prop) (x1 : Int) (u : iST) : Prop :=
  br (60 ≤ x1) (
    Q u) (
    zt 0 (bd x1 60 (sw (iA u 53 x1 0) (fun u => 
    ov (x1 + 1) (
    R2 (x1 + 1) u)))))
def w_allRulesIn_2 (Q : iST → Prop) (x1 : Int) (u : iST) : Prop := ∀ R2 : Int → iST → Prop, (∀ (x1 : Int) (u : iST), w_allRulesIn_2b R2 Q x1 u → R2 x1 u) → R2 x1 u
set_option maxRecDepth 20000 in
set_option maxHeartbeats 4000000 in
theorem b_allRulesIn_2 (X : kX p m c cX12_allRulesIn 2 s args D ca) (hRf : 0 ≤ R.frames) (hRl : 0 ≤ R.locals) {Q : iST → Prop} (hret : ∀ (u : iST) (H : Heap) (locs : List Loc) (ls : Array Slot) (pc : Nat), Q u → kW D ca A h0 ad H0 H locs u → decode cX12_allRulesIn pc = .ok (.return_, 1) → W p l e R s m args below meth c H locs 0 0 Qf (F0 m pc ls [])) {x1 : Int} (rx1 : inR x1) (hw : kW D ca A h0 ad H0 H locs u) (hl : lv_has ls 2 [(0, .ref h0), (1, .int (jI x1))]) (h : w_allRulesIn_2 Q x1 u) : W p l e R s m args below meth c H locs 0 0 Qf (F0 m 2 ls []) := by
  refine h (fun x1 u => ∀ (H : Heap) (locs : List Loc) (ls : Array Slot), inR x1 → kW D ca A h0 ad H0 H locs u → lv_has ls 2 [(0, .ref h0), (1, .int (jI x1))] → W p l e R s m args below meth c H locs 0 0 Qf (F0 m 2 ls [])) ?_ H locs ls rx1 hw hl
  clear h hl hw rx1
  intro x1 u h H locs ls rx1 hw hl
  have hR2 : ∀ (x1 : Int) (u : iST) (H : Heap) (locs : List Loc) (ls : Array Slot), inR x1 → kW D ca A h0 ad H0 H locs u → lv_has ls 2 [(0, .ref h0), (1, .int (jI x1))] → (fun (x1 : Int) u => ∀ (H : Heap) (locs : List Loc) (ls : Array Slot), inR x1 → kW D ca A h0 ad H0 H locs u → lv_has ls 2 [(0, .ref h0), (1, .int (jI x1))] → W p l e R s m args below meth c H locs 0 0 Qf (F0 m 2 ls [])) x1 u → W p l e R s m args below meth c H locs 0 0 Qf (F0 m 2 ls []) := fun x1 u H locs ls rx1 hw hl h => h H locs ls rx1 hw hl
  have hx := X.1.1
  have hb := X.1.2.1
  unfold w_allRulesIn_2b at h
  refine lv_iload_n hx hb dX12_allRulesIn_2 rfl (lv_at hl 1 rfl) ?_
  refine lv_bipush hx hb dX12_allRulesIn_3 (v := jI 60) rfl ?_
  refine k_icmp_ge hx hb rx1 (by decide) dX12_allRulesIn_5 (tgt := 21) rfl h (fun h => ?_) (fun h => ?_)
  · exact hret _ _ _ _ _ h hw dX12_allRulesIn_21
  · refine lv_aload_n hx hb dX12_allRulesIn_8 rfl (lv_at hl 0 rfl) ?_
    refine gA 53 127 (by decide) L_53 (fun _ _ => mF_53) rfl X hw dX12_allRulesIn_9 ?_
    refine lv_iload_n hx hb dX12_allRulesIn_12 rfl (lv_at hl 1 rfl) ?_
    refine lv_iconst hx hb dX12_allRulesIn_13 (v := jI 0) rfl ?_
    refine aY 53 37 36 60 (fun _ _ _ _ => mG_53) (fun _ => rfl) (fun _ _ _ _ _ _ => mSA_53) X hw rx1 dX12_allRulesIn_14 rfl h (fun H locs u hw h => ?_)
    refine k_iinc (k := 1) hx hb dX12_allRulesIn_15 hl rfl (by decide) rfl h (fun ls r1 h hl => ?_)
    have hl : lv_has ls 2 [(1, .int (jI (x1 + 1))), (0, .ref (h0))] := hl
    refine lv_goto hx hb dX12_allRulesIn_18 (tgt := 2) rfl ?_
    exact hR2 _ _ H locs ls r1 hw (lv_sub hl [1, 0] rfl) h

def w_allRulesIn (Q : iST → Prop) (u : iST) : Prop :=
  w_allRulesIn_2 Q 0 u
set_option maxRecDepth 20000 in
set_option maxHeartbeats 4000000 in
theorem b_allRulesIn_s (X : kX p m c cX12_allRulesIn 2 s args D ca) (hRf : 0 ≤ R.frames) (hRl : 0 ≤ R.locals) {Q : iST → Prop} (hret : ∀ (u : iST) (H : Heap) (locs : List Loc) (ls : Array Slot) (pc : Nat), Q u → kW D ca A h0 ad H0 H locs u → decode cX12_allRulesIn pc = .ok (.return_, 1) → W p l e R s m args below meth c H locs 0 0 Qf (F0 m pc ls [])) (hw : kW D ca A h0 ad H0 H locs u) (hl : lv_has ls 2 [(0, .ref h0)]) (h : w_allRulesIn Q u) : W p l e R s m args below meth c H locs 0 0 Qf (F0 m 0 ls []) := by
  have hx := X.1.1
  have hb := X.1.2.1
  unfold w_allRulesIn at h
  refine lv_iconst hx hb dX12_allRulesIn_0 (v := jI 0) rfl ?_
  refine lv_istore_n hx hb dX12_allRulesIn_1 rfl hl (by decide) rfl (fun ls hl => ?_)
  have hl : lv_has ls 2 [(1, .int (jI 0)), (0, .ref (h0))] := hl
  exact b_allRulesIn_2 X hRf hRl hret (by decide) hw (lv_sub hl [1, 0] rfl) h

end
theorem c_allRulesIn {l : Launch} {Q : iST → Prop} {u : iST} (h : w_allRulesIn Q u) : kMV l yX12_allRulesIn (.code yX12_allRulesIn cX12_allRulesIn 2 none :: wsM) { frames := 0, cells := 0, slots := 0, locals := 0 } [] Q u := kMV_of rfl (fun _ => Nat.le_of_ble_eq_true rfl) (fun X hRf hRl hret hw hl => b_allRulesIn_s X hRf hRl hret hw hl h)

/-! addTheorem -/
theorem dX12_addTheorem_0 : decode cX12_addTheorem 0 = .ok (.aload_n 0, 1) := by decide +kernel
theorem dX12_addTheorem_1 : decode cX12_addTheorem 1 = .ok (.getfield 97, 3) := by decide +kernel
theorem dX12_addTheorem_4 : decode cX12_addTheorem 4 = .ok (.aload_n 0, 1) := by decide +kernel
theorem dX12_addTheorem_5 : decode cX12_addTheorem 5 = .ok (.getfield 699, 3) := by decide +kernel
theorem dX12_addTheorem_8 : decode cX12_addTheorem 8 = .ok (.iload_n 1, 1) := by decide +kernel
theorem dX12_addTheorem_9 : decode cX12_addTheorem 9 = .ok (.iastore, 1) := by decide +kernel
theorem dX12_addTheorem_10 : decode cX12_addTheorem 10 = .ok (.aload_n 0, 1) := by decide +kernel
theorem dX12_addTheorem_11 : decode cX12_addTheorem 11 = .ok (.getfield 100, 3) := by decide +kernel
theorem dX12_addTheorem_14 : decode cX12_addTheorem 14 = .ok (.aload_n 0, 1) := by decide +kernel
theorem dX12_addTheorem_15 : decode cX12_addTheorem 15 = .ok (.getfield 699, 3) := by decide +kernel
theorem dX12_addTheorem_18 : decode cX12_addTheorem 18 = .ok (.iload_n 2, 1) := by decide +kernel
theorem dX12_addTheorem_19 : decode cX12_addTheorem 19 = .ok (.iastore, 1) := by decide +kernel
theorem dX12_addTheorem_20 : decode cX12_addTheorem 20 = .ok (.aload_n 0, 1) := by decide +kernel
theorem dX12_addTheorem_21 : decode cX12_addTheorem 21 = .ok (.getfield 103, 3) := by decide +kernel
theorem dX12_addTheorem_24 : decode cX12_addTheorem 24 = .ok (.aload_n 0, 1) := by decide +kernel
theorem dX12_addTheorem_25 : decode cX12_addTheorem 25 = .ok (.getfield 699, 3) := by decide +kernel
theorem dX12_addTheorem_28 : decode cX12_addTheorem 28 = .ok (.iload_n 3, 1) := by decide +kernel
theorem dX12_addTheorem_29 : decode cX12_addTheorem 29 = .ok (.iastore, 1) := by decide +kernel
theorem dX12_addTheorem_30 : decode cX12_addTheorem 30 = .ok (.aload_n 0, 1) := by decide +kernel
theorem dX12_addTheorem_31 : decode cX12_addTheorem 31 = .ok (.aload_n 0, 1) := by decide +kernel
theorem dX12_addTheorem_32 : decode cX12_addTheorem 32 = .ok (.getfield 699, 3) := by decide +kernel
theorem dX12_addTheorem_35 : decode cX12_addTheorem 35 = .ok (.iload_n 2, 1) := by decide +kernel
theorem dX12_addTheorem_36 : decode cX12_addTheorem 36 = .ok (.invokevirtual 911, 3) := by decide +kernel
theorem dX12_addTheorem_39 : decode cX12_addTheorem 39 = .ok (.aload_n 0, 1) := by decide +kernel
theorem dX12_addTheorem_40 : decode cX12_addTheorem 40 = .ok (.dup, 1) := by decide +kernel
theorem dX12_addTheorem_41 : decode cX12_addTheorem 41 = .ok (.getfield 699, 3) := by decide +kernel
theorem dX12_addTheorem_44 : decode cX12_addTheorem 44 = .ok (.iconst 1, 1) := by decide +kernel
theorem dX12_addTheorem_45 : decode cX12_addTheorem 45 = .ok (.iadd, 1) := by decide +kernel
theorem dX12_addTheorem_46 : decode cX12_addTheorem 46 = .ok (.putfield 699, 3) := by decide +kernel
theorem dX12_addTheorem_49 : decode cX12_addTheorem 49 = .ok (.aload_n 0, 1) := by decide +kernel
theorem dX12_addTheorem_50 : decode cX12_addTheorem 50 = .ok (.iload_n 3, 1) := by decide +kernel
theorem dX12_addTheorem_51 : decode cX12_addTheorem 51 = .ok (.invokevirtual 842, 3) := by decide +kernel
theorem dX12_addTheorem_54 : decode cX12_addTheorem 54 = .ok (.return_, 1) := by decide +kernel

section
variable {p : Program} {l : Launch} {e : Env} {R : Room} {s : State} {m : MethodId} {args : Array Value} {below : List Frame} {meth : Method} {c : Code} {H : Heap} {locs : List Loc} {Qf : State → Prop}
variable {ls : Array Slot} {D : va_G} {ca : Nat → ClassId} {A : Nat → Prop} {h0 : Nat} {ad : Nat → Nat} {H0 : Heap} {u : iST}
def w_addTheorem (a0 : Int) (a1 : Int) (a2 : Int) (Q : iST → Prop) (u : iST) : Prop :=
  rd (u.1 42) (fun v1 => 
  bd v1 60 (sw (iA u 43 v1 a0) (fun u => 
  rd (u.1 42) (fun v2 => 
  bd v2 60 (sw (iA u 44 v2 a1) (fun u => 
  rd (u.1 42) (fun v3 => 
  bd v3 60 (sw (iA u 45 v3 a2) (fun u => 
  rd (u.1 42) (fun v4 => 
  w_ruleOf v4 a1 (fun u => 
  rd (u.1 42) (fun v6 => 
  ov (v6 + 1) (
  sw (iI u 42 (v6 + 1)) (fun u => 
  w_take a2 (fun u => 
  Q u) u)))) u))))))))))
set_option maxRecDepth 20000 in
set_option maxHeartbeats 4000000 in
theorem b_addTheorem_s (X : kX p m c cX12_addTheorem 4 s args D ca) (hRf : 6 ≤ R.frames) (hRl : 144 ≤ R.locals) {Q : iST → Prop} (hret : ∀ (u : iST) (H : Heap) (locs : List Loc) (ls : Array Slot) (pc : Nat), Q u → kW D ca A h0 ad H0 H locs u → decode cX12_addTheorem pc = .ok (.return_, 1) → W p l e R s m args below meth c H locs 0 0 Qf (F0 m pc ls [])) {a0 a1 a2 : Int} (ra0 : inR a0) (ra1 : inR a1) (ra2 : inR a2) (hw : kW D ca A h0 ad H0 H locs u) (hl : lv_has ls 4 [(0, .ref h0), (1, .int (jI a0)), (2, .int (jI a1)), (3, .int (jI a2))]) (h : w_addTheorem a0 a1 a2 Q u) : W p l e R s m args below meth c H locs 0 0 Qf (F0 m 0 ls []) := by
  have hx := X.1.1
  have hb := X.1.2.1
  unfold w_addTheorem at h
  refine lv_aload_n hx hb dX12_addTheorem_0 rfl (lv_at hl 0 rfl) ?_
  refine gA 43 97 (by decide) L_43 (fun _ _ => mF_43) rfl X hw dX12_addTheorem_1 ?_
  refine lv_aload_n hx hb dX12_addTheorem_4 rfl (lv_at hl 0 rfl) ?_
  refine gS 42 699 (by decide) L_42 (fun _ _ => mF_42) rfl X hw dX12_addTheorem_5 h (fun v1 rv1 h => ?_)
  refine lv_iload_n hx hb dX12_addTheorem_8 rfl (lv_at hl 1 rfl) ?_
  refine aS 43 27 26 60 (fun _ _ _ _ => mG_43) (fun _ => rfl) (fun _ _ _ _ _ _ => mSA_43) (by decide) X hw rv1 ra0 dX12_addTheorem_9 rfl h (fun H locs u hw h => ?_)
  refine lv_aload_n hx hb dX12_addTheorem_10 rfl (lv_at hl 0 rfl) ?_
  refine gA 44 100 (by decide) L_44 (fun _ _ => mF_44) rfl X hw dX12_addTheorem_11 ?_
  refine lv_aload_n hx hb dX12_addTheorem_14 rfl (lv_at hl 0 rfl) ?_
  refine gS 42 699 (by decide) L_42 (fun _ _ => mF_42) rfl X hw dX12_addTheorem_15 h (fun v2 rv2 h => ?_)
  refine lv_iload_n hx hb dX12_addTheorem_18 rfl (lv_at hl 2 rfl) ?_
  refine aS 44 28 27 60 (fun _ _ _ _ => mG_44) (fun _ => rfl) (fun _ _ _ _ _ _ => mSA_44) (by decide) X hw rv2 ra1 dX12_addTheorem_19 rfl h (fun H locs u hw h => ?_)
  refine lv_aload_n hx hb dX12_addTheorem_20 rfl (lv_at hl 0 rfl) ?_
  refine gA 45 103 (by decide) L_45 (fun _ _ => mF_45) rfl X hw dX12_addTheorem_21 ?_
  refine lv_aload_n hx hb dX12_addTheorem_24 rfl (lv_at hl 0 rfl) ?_
  refine gS 42 699 (by decide) L_42 (fun _ _ => mF_42) rfl X hw dX12_addTheorem_25 h (fun v3 rv3 h => ?_)
  refine lv_iload_n hx hb dX12_addTheorem_28 rfl (lv_at hl 3 rfl) ?_
  refine aS 45 29 28 60 (fun _ _ _ _ => mG_45) (fun _ => rfl) (fun _ _ _ _ _ _ => mSA_45) (by decide) X hw rv3 ra2 dX12_addTheorem_29 rfl h (fun H locs u hw h => ?_)
  refine lv_aload_n hx hb dX12_addTheorem_30 rfl (lv_at hl 0 rfl) ?_
  refine lv_aload_n hx hb dX12_addTheorem_31 rfl (lv_at hl 0 rfl) ?_
  refine gS 42 699 (by decide) L_42 (fun _ _ => mF_42) rfl X hw dX12_addTheorem_32 h (fun v4 rv4 h => ?_)
  refine lv_iload_n hx hb dX12_addTheorem_35 rfl (lv_at hl 2 rfl) ?_
  refine kcV (n := 2) (c_ruleOf rv4 ra1 h) G_ruleOf E_ruleOf X hw (Nat.le_trans (Nat.le_of_ble_eq_true rfl) hRf) (Nat.le_trans (Nat.le_of_ble_eq_true rfl) hRl) rfl hl.1 (Nat.le_of_ble_eq_true rfl) rfl dX12_addTheorem_36 (fun u H locs h hw => ?_)
  refine lv_aload_n hx hb dX12_addTheorem_39 rfl (lv_at hl 0 rfl) ?_
  refine lv_dup hx hb dX12_addTheorem_40 rfl ?_
  refine gS 42 699 (by decide) L_42 (fun _ _ => mF_42) rfl X hw dX12_addTheorem_41 h (fun v6 rv6 h => ?_)
  refine lv_iconst hx hb dX12_addTheorem_44 (v := jI 1) rfl ?_
  refine k_iadd hx hb dX12_addTheorem_45 h (fun r7 h => ?_)
  refine pS 42 699 (by decide) L_42 rfl rfl rfl (fun _ _ _ _ _ => mSI_42) (by decide) X hw r7 dX12_addTheorem_46 h (fun H locs u hw h => ?_)
  refine lv_aload_n hx hb dX12_addTheorem_49 rfl (lv_at hl 0 rfl) ?_
  refine lv_iload_n hx hb dX12_addTheorem_50 rfl (lv_at hl 3 rfl) ?_
  refine kcV (n := 1) (c_take ra2 h) G_take E_take X hw (Nat.le_trans (Nat.le_of_ble_eq_true rfl) hRf) (Nat.le_trans (Nat.le_of_ble_eq_true rfl) hRl) rfl hl.1 (Nat.le_of_ble_eq_true rfl) rfl dX12_addTheorem_51 (fun u H locs h hw => ?_)
  exact hret _ _ _ _ _ h hw dX12_addTheorem_54

end
theorem c_addTheorem {l : Launch} {a0 : Int} {a1 : Int} {a2 : Int} (ra0 : inR a0) (ra1 : inR a1) (ra2 : inR a2) {Q : iST → Prop} {u : iST} (h : w_addTheorem a0 a1 a2 Q u) : kMV l yX12_addTheorem (.code yX12_addTheorem cX12_addTheorem 4 none :: wsM) { frames := 6, cells := 0, slots := 0, locals := 144 } [.int (jI a0), .int (jI a1), .int (jI a2)] Q u := kMV_of rfl (fun _ => Nat.le_of_ble_eq_true rfl) (fun X hRf hRl hret hw hl => b_addTheorem_s X hRf hRl hret ra0 ra1 ra2 hw hl h)

/-! defthm -/
theorem dX12_defthm_0 : decode cX12_defthm 0 = .ok (.aload_n 0, 1) := by decide +kernel
theorem dX12_defthm_1 : decode cX12_defthm 1 = .ok (.iload_n 1, 1) := by decide +kernel
theorem dX12_defthm_2 : decode cX12_defthm 2 = .ok (.invokevirtual 529, 3) := by decide +kernel
theorem dX12_defthm_5 : decode cX12_defthm 5 = .ok (.istore_n 3, 1) := by decide +kernel
theorem dX12_defthm_6 : decode cX12_defthm 6 = .ok (.iload_n 2, 1) := by decide +kernel
theorem dX12_defthm_7 : decode cX12_defthm 7 = .ok (.ifCond .eq 7, 3) := by decide +kernel
theorem dX12_defthm_10 : decode cX12_defthm 10 = .ok (.iconst 2, 1) := by decide +kernel
theorem dX12_defthm_11 : decode cX12_defthm 11 = .ok (.goto 4, 3) := by decide +kernel
theorem dX12_defthm_14 : decode cX12_defthm 14 = .ok (.iconst 1, 1) := by decide +kernel
theorem dX12_defthm_15 : decode cX12_defthm 15 = .ok (.istore 4, 2) := by decide +kernel
theorem dX12_defthm_17 : decode cX12_defthm 17 = .ok (.iload_n 3, 1) := by decide +kernel
theorem dX12_defthm_18 : decode cX12_defthm 18 = .ok (.iload 4, 2) := by decide +kernel
theorem dX12_defthm_20 : decode cX12_defthm 20 = .ok (.if_icmp .le 20, 3) := by decide +kernel
theorem dX12_defthm_23 : decode cX12_defthm 23 = .ok (.iload_n 2, 1) := by decide +kernel
theorem dX12_defthm_24 : decode cX12_defthm 24 = .ok (.ifCond .eq 18, 3) := by decide +kernel
theorem dX12_defthm_27 : decode cX12_defthm 27 = .ok (.aload_n 0, 1) := by decide +kernel
theorem dX12_defthm_28 : decode cX12_defthm 28 = .ok (.aload_n 0, 1) := by decide +kernel
theorem dX12_defthm_29 : decode cX12_defthm 29 = .ok (.iload_n 1, 1) := by decide +kernel
theorem dX12_defthm_30 : decode cX12_defthm 30 = .ok (.iconst 1, 1) := by decide +kernel
theorem dX12_defthm_31 : decode cX12_defthm 31 = .ok (.invokevirtual 471, 3) := by decide +kernel
theorem dX12_defthm_34 : decode cX12_defthm 34 = .ok (.invokevirtual 809, 3) := by decide +kernel
theorem dX12_defthm_37 : decode cX12_defthm 37 = .ok (.ifCond .ne 5, 3) := by decide +kernel
theorem dX12_defthm_40 : decode cX12_defthm 40 = .ok (.iconst 2, 1) := by decide +kernel
theorem dX12_defthm_41 : decode cX12_defthm 41 = .ok (.ireturn, 1) := by decide +kernel
theorem dX12_defthm_42 : decode cX12_defthm 42 = .ok (.aload_n 0, 1) := by decide +kernel
theorem dX12_defthm_43 : decode cX12_defthm 43 = .ok (.aload_n 0, 1) := by decide +kernel
theorem dX12_defthm_44 : decode cX12_defthm 44 = .ok (.iload_n 1, 1) := by decide +kernel
theorem dX12_defthm_45 : decode cX12_defthm 45 = .ok (.iload 4, 2) := by decide +kernel
theorem dX12_defthm_47 : decode cX12_defthm 47 = .ok (.invokevirtual 471, 3) := by decide +kernel
theorem dX12_defthm_50 : decode cX12_defthm 50 = .ok (.invokevirtual 815, 3) := by decide +kernel
theorem dX12_defthm_53 : decode cX12_defthm 53 = .ok (.istore 5, 2) := by decide +kernel
theorem dX12_defthm_55 : decode cX12_defthm 55 = .ok (.iload_n 1, 1) := by decide +kernel
theorem dX12_defthm_56 : decode cX12_defthm 56 = .ok (.istore 6, 2) := by decide +kernel
theorem dX12_defthm_58 : decode cX12_defthm 58 = .ok (.iconst 0, 1) := by decide +kernel
theorem dX12_defthm_59 : decode cX12_defthm 59 = .ok (.istore 7, 2) := by decide +kernel
theorem dX12_defthm_61 : decode cX12_defthm 61 = .ok (.iload 7, 2) := by decide +kernel
theorem dX12_defthm_63 : decode cX12_defthm 63 = .ok (.iload 4, 2) := by decide +kernel
theorem dX12_defthm_65 : decode cX12_defthm 65 = .ok (.if_icmp .gt 18, 3) := by decide +kernel
theorem dX12_defthm_68 : decode cX12_defthm 68 = .ok (.aload_n 0, 1) := by decide +kernel
theorem dX12_defthm_69 : decode cX12_defthm 69 = .ok (.getfield 14, 3) := by decide +kernel
theorem dX12_defthm_72 : decode cX12_defthm 72 = .ok (.iload 6, 2) := by decide +kernel
theorem dX12_defthm_74 : decode cX12_defthm 74 = .ok (.iaload, 1) := by decide +kernel
theorem dX12_defthm_75 : decode cX12_defthm 75 = .ok (.istore 6, 2) := by decide +kernel
theorem dX12_defthm_77 : decode cX12_defthm 77 = .ok (.iinc 7 1, 3) := by decide +kernel
theorem dX12_defthm_80 : decode cX12_defthm 80 = .ok (.goto (-19), 3) := by decide +kernel
theorem dX12_defthm_83 : decode cX12_defthm 83 = .ok (.aload_n 0, 1) := by decide +kernel
theorem dX12_defthm_84 : decode cX12_defthm 84 = .ok (.iload 6, 2) := by decide +kernel
theorem dX12_defthm_86 : decode cX12_defthm 86 = .ok (.invokevirtual 902, 3) := by decide +kernel
theorem dX12_defthm_89 : decode cX12_defthm 89 = .ok (.istore 7, 2) := by decide +kernel
theorem dX12_defthm_91 : decode cX12_defthm 91 = .ok (.iload 5, 2) := by decide +kernel
theorem dX12_defthm_93 : decode cX12_defthm 93 = .ok (.iconst (-1), 1) := by decide +kernel
theorem dX12_defthm_94 : decode cX12_defthm 94 = .ok (.if_icmp .eq 9, 3) := by decide +kernel
theorem dX12_defthm_97 : decode cX12_defthm 97 = .ok (.iload 7, 2) := by decide +kernel
theorem dX12_defthm_99 : decode cX12_defthm 99 = .ok (.iconst 2, 1) := by decide +kernel
theorem dX12_defthm_100 : decode cX12_defthm 100 = .ok (.if_icmp .ne 5, 3) := by decide +kernel
theorem dX12_defthm_103 : decode cX12_defthm 103 = .ok (.iconst 2, 1) := by decide +kernel
theorem dX12_defthm_104 : decode cX12_defthm 104 = .ok (.ireturn, 1) := by decide +kernel
theorem dX12_defthm_105 : decode cX12_defthm 105 = .ok (.iload 7, 2) := by decide +kernel
theorem dX12_defthm_107 : decode cX12_defthm 107 = .ok (.iconst 3, 1) := by decide +kernel
theorem dX12_defthm_108 : decode cX12_defthm 108 = .ok (.if_icmp .eq 21, 3) := by decide +kernel
theorem dX12_defthm_111 : decode cX12_defthm 111 = .ok (.iload_n 2, 1) := by decide +kernel
theorem dX12_defthm_112 : decode cX12_defthm 112 = .ok (.ifCond .eq 19, 3) := by decide +kernel
theorem dX12_defthm_115 : decode cX12_defthm 115 = .ok (.aload_n 0, 1) := by decide +kernel
theorem dX12_defthm_116 : decode cX12_defthm 116 = .ok (.aload_n 0, 1) := by decide +kernel
theorem dX12_defthm_117 : decode cX12_defthm 117 = .ok (.iload_n 1, 1) := by decide +kernel
theorem dX12_defthm_118 : decode cX12_defthm 118 = .ok (.iconst 1, 1) := by decide +kernel
theorem dX12_defthm_119 : decode cX12_defthm 119 = .ok (.invokevirtual 471, 3) := by decide +kernel
theorem dX12_defthm_122 : decode cX12_defthm 122 = .ok (.invokevirtual 875, 3) := by decide +kernel
theorem dX12_defthm_125 : decode cX12_defthm 125 = .ok (.iconst (-1), 1) := by decide +kernel
theorem dX12_defthm_126 : decode cX12_defthm 126 = .ok (.if_icmp .eq 5, 3) := by decide +kernel
theorem dX12_defthm_129 : decode cX12_defthm 129 = .ok (.iconst 3, 1) := by decide +kernel
theorem dX12_defthm_130 : decode cX12_defthm 130 = .ok (.ireturn, 1) := by decide +kernel
theorem dX12_defthm_131 : decode cX12_defthm 131 = .ok (.iload_n 2, 1) := by decide +kernel
theorem dX12_defthm_132 : decode cX12_defthm 132 = .ok (.ifCond .eq 15, 3) := by decide +kernel
theorem dX12_defthm_135 : decode cX12_defthm 135 = .ok (.aload_n 0, 1) := by decide +kernel
theorem dX12_defthm_136 : decode cX12_defthm 136 = .ok (.getfield 699, 3) := by decide +kernel
theorem dX12_defthm_139 : decode cX12_defthm 139 = .ok (.bipush 60, 2) := by decide +kernel
theorem dX12_defthm_141 : decode cX12_defthm 141 = .ok (.if_icmp .ne 6, 3) := by decide +kernel
theorem dX12_defthm_144 : decode cX12_defthm 144 = .ok (.bipush 8, 2) := by decide +kernel
theorem dX12_defthm_146 : decode cX12_defthm 146 = .ok (.ireturn, 1) := by decide +kernel
theorem dX12_defthm_147 : decode cX12_defthm 147 = .ok (.aload_n 0, 1) := by decide +kernel
theorem dX12_defthm_148 : decode cX12_defthm 148 = .ok (.getfield 332, 3) := by decide +kernel
theorem dX12_defthm_151 : decode cX12_defthm 151 = .ok (.istore 8, 2) := by decide +kernel
theorem dX12_defthm_153 : decode cX12_defthm 153 = .ok (.aload_n 0, 1) := by decide +kernel
theorem dX12_defthm_154 : decode cX12_defthm 154 = .ok (.iload 5, 2) := by decide +kernel
theorem dX12_defthm_156 : decode cX12_defthm 156 = .ok (.invokevirtual 905, 3) := by decide +kernel
theorem dX12_defthm_159 : decode cX12_defthm 159 = .ok (.istore 9, 2) := by decide +kernel
theorem dX12_defthm_161 : decode cX12_defthm 161 = .ok (.aload_n 0, 1) := by decide +kernel
theorem dX12_defthm_162 : decode cX12_defthm 162 = .ok (.getfield 480, 3) := by decide +kernel
theorem dX12_defthm_165 : decode cX12_defthm 165 = .ok (.ifCond .eq 5, 3) := by decide +kernel
theorem dX12_defthm_168 : decode cX12_defthm 168 = .ok (.iconst 4, 1) := by decide +kernel
theorem dX12_defthm_169 : decode cX12_defthm 169 = .ok (.ireturn, 1) := by decide +kernel
theorem dX12_defthm_170 : decode cX12_defthm 170 = .ok (.iload 9, 2) := by decide +kernel
theorem dX12_defthm_172 : decode cX12_defthm 172 = .ok (.ifCond .ne 10, 3) := by decide +kernel
theorem dX12_defthm_175 : decode cX12_defthm 175 = .ok (.aload_n 0, 1) := by decide +kernel
theorem dX12_defthm_176 : decode cX12_defthm 176 = .ok (.invokevirtual 836, 3) := by decide +kernel
theorem dX12_defthm_179 : decode cX12_defthm 179 = .ok (.bipush 6, 2) := by decide +kernel
theorem dX12_defthm_181 : decode cX12_defthm 181 = .ok (.ireturn, 1) := by decide +kernel
theorem dX12_defthm_182 : decode cX12_defthm 182 = .ok (.aload_n 0, 1) := by decide +kernel
theorem dX12_defthm_183 : decode cX12_defthm 183 = .ok (.iload 8, 2) := by decide +kernel
theorem dX12_defthm_185 : decode cX12_defthm 185 = .ok (.invokevirtual 839, 3) := by decide +kernel
theorem dX12_defthm_188 : decode cX12_defthm 188 = .ok (.iload_n 2, 1) := by decide +kernel
theorem dX12_defthm_189 : decode cX12_defthm 189 = .ok (.ifCond .eq 16, 3) := by decide +kernel
theorem dX12_defthm_192 : decode cX12_defthm 192 = .ok (.aload_n 0, 1) := by decide +kernel
theorem dX12_defthm_193 : decode cX12_defthm 193 = .ok (.aload_n 0, 1) := by decide +kernel
theorem dX12_defthm_194 : decode cX12_defthm 194 = .ok (.iload_n 1, 1) := by decide +kernel
theorem dX12_defthm_195 : decode cX12_defthm 195 = .ok (.iconst 1, 1) := by decide +kernel
theorem dX12_defthm_196 : decode cX12_defthm 196 = .ok (.invokevirtual 471, 3) := by decide +kernel
theorem dX12_defthm_199 : decode cX12_defthm 199 = .ok (.iload 5, 2) := by decide +kernel
theorem dX12_defthm_201 : decode cX12_defthm 201 = .ok (.iconst 2, 1) := by decide +kernel
theorem dX12_defthm_202 : decode cX12_defthm 202 = .ok (.invokevirtual 908, 3) := by decide +kernel
theorem dX12_defthm_205 : decode cX12_defthm 205 = .ok (.iconst 0, 1) := by decide +kernel
theorem dX12_defthm_206 : decode cX12_defthm 206 = .ok (.ireturn, 1) := by decide +kernel

section
variable {p : Program} {l : Launch} {e : Env} {R : Room} {s : State} {m : MethodId} {args : Array Value} {below : List Frame} {meth : Method} {c : Code} {H : Heap} {locs : List Loc} {Qf : State → Prop}
variable {ls : Array Slot} {D : va_G} {ca : Nat → ClassId} {A : Nat → Prop} {h0 : Nat} {ad : Nat → Nat} {H0 : Heap} {u : iST}
def w_defthm_147 (Q : Int → iST → Prop) (x1 : Int) (x2 : Int) (x5 : Int) (u : iST) : Prop :=
  rd (u.1 8) (fun v5 => 
  w_proveBy x5 (fun v6 u => 
  rd (u.1 61) (fun v7 => 
  br (v7 = 0) (
    br (v6 ≠ 0) (
      w_forget v5 (fun u => 
      br (x2 = 0) (
        Q 0 u) (
        w_nth x1 1 (fun v9 u => 
        w_addTheorem v9 x5 2 (fun u => 
        Q 0 u) u) u)) u) (
      w_tellLeft (fun u => 
      Q 6 u) u)) (
    Q 4 u))) u)
set_option maxRecDepth 20000 in
set_option maxHeartbeats 4000000 in
theorem b_defthm_147 (X : kX p m c cX12_defthm 10 s args D ca) (hRf : 16 ≤ R.frames) (hRl : 375 ≤ R.locals) {Q : Int → iST → Prop} (hret : ∀ (v : Int) (u : iST) (H : Heap) (locs : List Loc) (ls : Array Slot) (pc : Nat), inR v → Q v u → kW D ca A h0 ad H0 H locs u → decode cX12_defthm pc = .ok (.ireturn, 1) → W p l e R s m args below meth c H locs 0 0 Qf (F0 m pc ls [.int (jI v)])) {x1 x2 x5 : Int} (rx1 : inR x1) (rx2 : inR x2) (rx5 : inR x5) (hw : kW D ca A h0 ad H0 H locs u) (hl : lv_has ls 10 [(0, .ref h0), (1, .int (jI x1)), (2, .int (jI x2)), (5, .int (jI x5))]) (h : w_defthm_147 Q x1 x2 x5 u) : W p l e R s m args below meth c H locs 0 0 Qf (F0 m 147 ls []) := by
  have hx := X.1.1
  have hb := X.1.2.1
  unfold w_defthm_147 at h
  refine lv_aload_n hx hb dX12_defthm_147 rfl (lv_at hl 0 rfl) ?_
  refine gS 8 332 (by decide) L_8 (fun _ _ => mF_8) rfl X hw dX12_defthm_148 h (fun v5 rv5 h => ?_)
  refine lv_istore hx hb dX12_defthm_151 hl (by decide) rfl (fun ls hl => ?_)
  have hl : lv_has ls 10 [(8, .int (jI v5)), (0, .ref (h0)), (1, .int (jI x1)), (2, .int (jI x2)), (5, .int (jI x5))] := hl
  refine lv_aload_n hx hb dX12_defthm_153 rfl (lv_at hl 1 rfl) ?_
  refine lv_iload hx hb dX12_defthm_154 (lv_at hl 4 rfl) ?_
  refine kcI (n := 1) (c_proveBy rx5 h) G_proveBy E_proveBy X hw (Nat.le_trans (Nat.le_of_ble_eq_true rfl) hRf) (Nat.le_trans (Nat.le_of_ble_eq_true rfl) hRl) rfl hl.1 (Nat.le_of_ble_eq_true rfl) rfl dX12_defthm_156 (fun v6 u H locs rv6 h hw => ?_)
  refine lv_istore hx hb dX12_defthm_159 hl (by decide) rfl (fun ls hl => ?_)
  have hl : lv_has ls 10 [(9, .int (jI v6)), (8, .int (jI v5)), (0, .ref (h0)), (1, .int (jI x1)), (2, .int (jI x2)), (5, .int (jI x5))] := hl
  refine lv_aload_n hx hb dX12_defthm_161 rfl (lv_at hl 2 rfl) ?_
  refine gS 61 480 (by decide) L_61 (fun _ _ => mF_61) rfl X hw dX12_defthm_162 h (fun v7 rv7 h => ?_)
  refine k_if_eq hx hb rv7 dX12_defthm_165 (tgt := 170) rfl h (fun h => ?_) (fun h => ?_)
  · refine lv_iload hx hb dX12_defthm_170 (lv_at hl 0 rfl) ?_
    refine k_if_ne hx hb rv6 dX12_defthm_172 (tgt := 182) rfl h (fun h => ?_) (fun h => ?_)
    · refine lv_aload_n hx hb dX12_defthm_182 rfl (lv_at hl 2 rfl) ?_
      refine lv_iload hx hb dX12_defthm_183 (lv_at hl 1 rfl) ?_
      refine kcV (n := 1) (c_forget rv5 h) G_forget E_forget X hw (Nat.le_trans (Nat.le_of_ble_eq_true rfl) hRf) (Nat.le_trans (Nat.le_of_ble_eq_true rfl) hRl) rfl hl.1 (Nat.le_of_ble_eq_true rfl) rfl dX12_defthm_185 (fun u H locs h hw => ?_)
      refine lv_iload_n hx hb dX12_defthm_188 rfl (lv_at hl 4 rfl) ?_
      refine k_if_eq hx hb rx2 dX12_defthm_189 (tgt := 205) rfl h (fun h => ?_) (fun h => ?_)
      · refine lv_iconst hx hb dX12_defthm_205 (v := jI 0) rfl ?_
        exact hret _ _ _ _ _ _ (by decide) h hw dX12_defthm_206
      · refine lv_aload_n hx hb dX12_defthm_192 rfl (lv_at hl 2 rfl) ?_
        refine lv_aload_n hx hb dX12_defthm_193 rfl (lv_at hl 2 rfl) ?_
        refine lv_iload_n hx hb dX12_defthm_194 rfl (lv_at hl 3 rfl) ?_
        refine lv_iconst hx hb dX12_defthm_195 (v := jI 1) rfl ?_
        refine kcI (n := 2) (c_nth rx1 (by decide) h) G_nth E_nth X hw (Nat.le_trans (Nat.le_of_ble_eq_true rfl) hRf) (Nat.le_trans (Nat.le_of_ble_eq_true rfl) hRl) rfl hl.1 (Nat.le_of_ble_eq_true rfl) rfl dX12_defthm_196 (fun v9 u H locs rv9 h hw => ?_)
        refine lv_iload hx hb dX12_defthm_199 (lv_at hl 5 rfl) ?_
        refine lv_iconst hx hb dX12_defthm_201 (v := jI 2) rfl ?_
        refine kcV (n := 3) (c_addTheorem rv9 rx5 (by decide) h) G_addTheorem E_addTheorem X hw (Nat.le_trans (Nat.le_of_ble_eq_true rfl) hRf) (Nat.le_trans (Nat.le_of_ble_eq_true rfl) hRl) rfl hl.1 (Nat.le_of_ble_eq_true rfl) rfl dX12_defthm_202 (fun u H locs h hw => ?_)
        refine lv_iconst hx hb dX12_defthm_205 (v := jI 0) rfl ?_
        exact hret _ _ _ _ _ _ (by decide) h hw dX12_defthm_206
    · refine lv_aload_n hx hb dX12_defthm_175 rfl (lv_at hl 2 rfl) ?_
      refine kcV (n := 0) (c_tellLeft h) G_tellLeft E_tellLeft X hw (Nat.le_trans (Nat.le_of_ble_eq_true rfl) hRf) (Nat.le_trans (Nat.le_of_ble_eq_true rfl) hRl) rfl hl.1 (Nat.le_of_ble_eq_true rfl) rfl dX12_defthm_176 (fun u H locs h hw => ?_)
      refine lv_bipush hx hb dX12_defthm_179 (v := jI 6) rfl ?_
      exact hret _ _ _ _ _ _ (by decide) h hw dX12_defthm_181
  · refine lv_iconst hx hb dX12_defthm_168 (v := jI 4) rfl ?_
    exact hret _ _ _ _ _ _ (by decide) h hw dX12_defthm_169

def w_defthm_131 (Q : Int → iST → Prop) (x1 : Int) (x2 : Int) (x5 : Int) (u : iST) : Prop :=
  br (x2 = 0) (
    w_defthm_147 Q x1 x2 x5 u) (
    rd (u.1 42) (fun v12 => 
    br (v12 ≠ 60) (
      w_defthm_147 Q x1 x2 x5 u) (
      Q 8 u)))
set_option maxRecDepth 20000 in
set_option maxHeartbeats 4000000 in
theorem b_defthm_131 (X : kX p m c cX12_defthm 10 s args D ca) (hRf : 16 ≤ R.frames) (hRl : 375 ≤ R.locals) {Q : Int → iST → Prop} (hret : ∀ (v : Int) (u : iST) (H : Heap) (locs : List Loc) (ls : Array Slot) (pc : Nat), inR v → Q v u → kW D ca A h0 ad H0 H locs u → decode cX12_defthm pc = .ok (.ireturn, 1) → W p l e R s m args below meth c H locs 0 0 Qf (F0 m pc ls [.int (jI v)])) {x1 x2 x5 : Int} (rx1 : inR x1) (rx2 : inR x2) (rx5 : inR x5) (hw : kW D ca A h0 ad H0 H locs u) (hl : lv_has ls 10 [(0, .ref h0), (1, .int (jI x1)), (2, .int (jI x2)), (5, .int (jI x5))]) (h : w_defthm_131 Q x1 x2 x5 u) : W p l e R s m args below meth c H locs 0 0 Qf (F0 m 131 ls []) := by
  have hx := X.1.1
  have hb := X.1.2.1
  unfold w_defthm_131 at h
  refine lv_iload_n hx hb dX12_defthm_131 rfl (lv_at hl 2 rfl) ?_
  refine k_if_eq hx hb rx2 dX12_defthm_132 (tgt := 147) rfl h (fun h => ?_) (fun h => ?_)
  · exact b_defthm_147 X hRf hRl hret rx1 rx2 rx5 hw hl h
  · refine lv_aload_n hx hb dX12_defthm_135 rfl (lv_at hl 0 rfl) ?_
    refine gS 42 699 (by decide) L_42 (fun _ _ => mF_42) rfl X hw dX12_defthm_136 h (fun v12 rv12 h => ?_)
    refine lv_bipush hx hb dX12_defthm_139 (v := jI 60) rfl ?_
    refine k_icmp_ne hx hb rv12 (by decide) dX12_defthm_141 (tgt := 147) rfl h (fun h => ?_) (fun h => ?_)
    · exact b_defthm_147 X hRf hRl hret rx1 rx2 rx5 hw hl h
    · refine lv_bipush hx hb dX12_defthm_144 (v := jI 8) rfl ?_
      exact hret _ _ _ _ _ _ (by decide) h hw dX12_defthm_146

def w_defthm_61b (R61 : Int → Int → Int → Int → Int → Int → iST → Prop) (Q : Int → iST → Prop) (x1 : Int) (x2 : Int) (x4 : Int) (x5 : Int) (x6 : Int) (x7 : Int) (u : iST) : Prop :=
  br (x4 < x7) (
    w_hints x6 (fun v4 u => 
    br (x5 = (-1)) (
      Q 2 u) (
      br (v4 ≠ 2) (
        br (v4 = 3) (
          Q 3 u) (
          br (x2 = 0) (
            w_defthm_131 Q x1 x2 x5 u) (
            w_nth x1 1 (fun v13 u => 
            w_theoremOf v13 (fun v14 u => 
            br (v14 = (-1)) (
              w_defthm_131 Q x1 x2 x5 u) (
              Q 3 u)) u) u))) (
        Q 2 u))) u) (
    bd x6 452000 (rd (u.2.1 1 x6) (fun v15 => 
    ov (x7 + 1) (
    R61 x1 x2 x4 x5 v15 (x7 + 1) u))))
def w_defthm_61 (Q : Int → iST → Prop) (x1 : Int) (x2 : Int) (x4 : Int) (x5 : Int) (x6 : Int) (x7 : Int) (u : iST) : Prop := ∀ R61 : Int → Int → Int → Int → Int → Int → iST → Prop, (∀ (x1 : Int) (x2 : Int) (x4 : Int) (x5 : Int) (x6 : Int) (x7 : Int) (u : iST), w_defthm_61b R61 Q x1 x2 x4 x5 x6 x7 u → R61 x1 x2 x4 x5 x6 x7 u) → R61 x1 x2 x4 x5 x6 x7 u
set_option maxRecDepth 20000 in
set_option maxHeartbeats 4000000 in
theorem b_defthm_61 (X : kX p m c cX12_defthm 10 s args D ca) (hRf : 16 ≤ R.frames) (hRl : 375 ≤ R.locals) {Q : Int → iST → Prop} (hret : ∀ (v : Int) (u : iST) (H : Heap) (locs : List Loc) (ls : Array Slot) (pc : Nat), inR v → Q v u → kW D ca A h0 ad H0 H locs u → decode cX12_defthm pc = .ok (.ireturn, 1) → W p l e R s m args below meth c H locs 0 0 Qf (F0 m pc ls [.int (jI v)])) {x1 x2 x4 x5 x6 x7 : Int} (rx1 : inR x1) (rx2 : inR x2) (rx4 : inR x4) (rx5 : inR x5) (rx6 : inR x6) (rx7 : inR x7) (hw : kW D ca A h0 ad H0 H locs u) (hl : lv_has ls 10 [(0, .ref h0), (1, .int (jI x1)), (2, .int (jI x2)), (4, .int (jI x4)), (5, .int (jI x5)), (6, .int (jI x6)), (7, .int (jI x7))]) (h : w_defthm_61 Q x1 x2 x4 x5 x6 x7 u) : W p l e R s m args below meth c H locs 0 0 Qf (F0 m 61 ls []) := by
  refine h (fun x1 x2 x4 x5 x6 x7 u => ∀ (H : Heap) (locs : List Loc) (ls : Array Slot), inR x1 → inR x2 → inR x4 → inR x5 → inR x6 → inR x7 → kW D ca A h0 ad H0 H locs u → lv_has ls 10 [(0, .ref h0), (1, .int (jI x1)), (2, .int (jI x2)), (4, .int (jI x4)), (5, .int (jI x5)), (6, .int (jI x6)), (7, .int (jI x7))] → W p l e R s m args below meth c H locs 0 0 Qf (F0 m 61 ls [])) ?_ H locs ls rx1 rx2 rx4 rx5 rx6 rx7 hw hl
  clear h hl hw rx1 rx2 rx4 rx5 rx6 rx7
  intro x1 x2 x4 x5 x6 x7 u h H locs ls rx1 rx2 rx4 rx5 rx6 rx7 hw hl
  have hR61 : ∀ (x1 : Int) (x2 : Int) (x4 : Int) (x5 : Int) (x6 : Int) (x7 : Int) (u : iST) (H : Heap) (locs : List Loc) (ls : Array Slot), inR x1 → inR x2 → inR x4 → inR x5 → inR x6 → inR x7 → kW D ca A h0 ad H0 H locs u → lv_has ls 10 [(0, .ref h0), (1, .int (jI x1)), (2, .int (jI x2)), (4, .int (jI x4)), (5, .int (jI x5)), (6, .int (jI x6)), (7, .int (jI x7))] → (fun (x1 : Int) (x2 : Int) (x4 : Int) (x5 : Int) (x6 : Int) (x7 : Int) u => ∀ (H : Heap) (locs : List Loc) (ls : Array Slot), inR x1 → inR x2 → inR x4 → inR x5 → inR x6 → inR x7 → kW D ca A h0 ad H0 H locs u → lv_has ls 10 [(0, .ref h0), (1, .int (jI x1)), (2, .int (jI x2)), (4, .int (jI x4)), (5, .int (jI x5)), (6, .int (jI x6)), (7, .int (jI x7))] → W p l e R s m args below meth c H locs 0 0 Qf (F0 m 61 ls [])) x1 x2 x4 x5 x6 x7 u → W p l e R s m args below meth c H locs 0 0 Qf (F0 m 61 ls []) := fun x1 x2 x4 x5 x6 x7 u H locs ls rx1 rx2 rx4 rx5 rx6 rx7 hw hl h => h H locs ls rx1 rx2 rx4 rx5 rx6 rx7 hw hl
  have hx := X.1.1
  have hb := X.1.2.1
  unfold w_defthm_61b at h
  refine lv_iload hx hb dX12_defthm_61 (lv_at hl 6 rfl) ?_
  refine lv_iload hx hb dX12_defthm_63 (lv_at hl 3 rfl) ?_
  refine k_icmp_gt hx hb rx7 rx4 dX12_defthm_65 (tgt := 83) rfl h (fun h => ?_) (fun h => ?_)
  · refine lv_aload_n hx hb dX12_defthm_83 rfl (lv_at hl 0 rfl) ?_
    refine lv_iload hx hb dX12_defthm_84 (lv_at hl 5 rfl) ?_
    refine kcI (n := 1) (c_hints rx6 h) G_hints E_hints X hw (Nat.le_trans (Nat.le_of_ble_eq_true rfl) hRf) (Nat.le_trans (Nat.le_of_ble_eq_true rfl) hRl) rfl hl.1 (Nat.le_of_ble_eq_true rfl) rfl dX12_defthm_86 (fun v4 u H locs rv4 h hw => ?_)
    refine lv_istore hx hb dX12_defthm_89 hl (by decide) rfl (fun ls hl => ?_)
    have hl : lv_has ls 10 [(7, .int (jI v4)), (0, .ref (h0)), (1, .int (jI x1)), (2, .int (jI x2)), (4, .int (jI x4)), (5, .int (jI x5)), (6, .int (jI x6))] := hl
    refine lv_iload hx hb dX12_defthm_91 (lv_at hl 5 rfl) ?_
    refine lv_iconst hx hb dX12_defthm_93 (v := jI (-1)) rfl ?_
    refine k_icmp_eq hx hb rx5 (by decide) dX12_defthm_94 (tgt := 103) rfl h (fun h => ?_) (fun h => ?_)
    · refine lv_iconst hx hb dX12_defthm_103 (v := jI 2) rfl ?_
      exact hret _ _ _ _ _ _ (by decide) h hw dX12_defthm_104
    · refine lv_iload hx hb dX12_defthm_97 (lv_at hl 0 rfl) ?_
      refine lv_iconst hx hb dX12_defthm_99 (v := jI 2) rfl ?_
      refine k_icmp_ne hx hb rv4 (by decide) dX12_defthm_100 (tgt := 105) rfl h (fun h => ?_) (fun h => ?_)
      · refine lv_iload hx hb dX12_defthm_105 (lv_at hl 0 rfl) ?_
        refine lv_iconst hx hb dX12_defthm_107 (v := jI 3) rfl ?_
        refine k_icmp_eq hx hb rv4 (by decide) dX12_defthm_108 (tgt := 129) rfl h (fun h => ?_) (fun h => ?_)
        · refine lv_iconst hx hb dX12_defthm_129 (v := jI 3) rfl ?_
          exact hret _ _ _ _ _ _ (by decide) h hw dX12_defthm_130
        · refine lv_iload_n hx hb dX12_defthm_111 rfl (lv_at hl 3 rfl) ?_
          refine k_if_eq hx hb rx2 dX12_defthm_112 (tgt := 131) rfl h (fun h => ?_) (fun h => ?_)
          · exact b_defthm_131 X hRf hRl hret rx1 rx2 rx5 hw (lv_sub hl [1, 2, 3, 5] rfl) h
          · refine lv_aload_n hx hb dX12_defthm_115 rfl (lv_at hl 1 rfl) ?_
            refine lv_aload_n hx hb dX12_defthm_116 rfl (lv_at hl 1 rfl) ?_
            refine lv_iload_n hx hb dX12_defthm_117 rfl (lv_at hl 2 rfl) ?_
            refine lv_iconst hx hb dX12_defthm_118 (v := jI 1) rfl ?_
            refine kcI (n := 2) (c_nth rx1 (by decide) h) G_nth E_nth X hw (Nat.le_trans (Nat.le_of_ble_eq_true rfl) hRf) (Nat.le_trans (Nat.le_of_ble_eq_true rfl) hRl) rfl hl.1 (Nat.le_of_ble_eq_true rfl) rfl dX12_defthm_119 (fun v13 u H locs rv13 h hw => ?_)
            refine kcI (n := 1) (c_theoremOf rv13 h) G_theoremOf E_theoremOf X hw (Nat.le_trans (Nat.le_of_ble_eq_true rfl) hRf) (Nat.le_trans (Nat.le_of_ble_eq_true rfl) hRl) rfl hl.1 (Nat.le_of_ble_eq_true rfl) rfl dX12_defthm_122 (fun v14 u H locs rv14 h hw => ?_)
            refine lv_iconst hx hb dX12_defthm_125 (v := jI (-1)) rfl ?_
            refine k_icmp_eq hx hb rv14 (by decide) dX12_defthm_126 (tgt := 131) rfl h (fun h => ?_) (fun h => ?_)
            · exact b_defthm_131 X hRf hRl hret rx1 rx2 rx5 hw (lv_sub hl [1, 2, 3, 5] rfl) h
            · refine lv_iconst hx hb dX12_defthm_129 (v := jI 3) rfl ?_
              exact hret _ _ _ _ _ _ (by decide) h hw dX12_defthm_130
      · refine lv_iconst hx hb dX12_defthm_103 (v := jI 2) rfl ?_
        exact hret _ _ _ _ _ _ (by decide) h hw dX12_defthm_104
  · refine lv_aload_n hx hb dX12_defthm_68 rfl (lv_at hl 0 rfl) ?_
    refine gA 1 14 (by decide) L_1 (fun _ _ => mF_1) rfl X hw dX12_defthm_69 ?_
    refine lv_iload hx hb dX12_defthm_72 (lv_at hl 5 rfl) ?_
    refine aL 1 2 1 452000 (fun _ _ _ _ => mG_1) (fun _ => rfl) X hw rx6 dX12_defthm_74 rfl h (fun v15 rv15 h => ?_)
    refine lv_istore hx hb dX12_defthm_75 hl (by decide) rfl (fun ls hl => ?_)
    have hl : lv_has ls 10 [(6, .int (jI v15)), (0, .ref (h0)), (1, .int (jI x1)), (2, .int (jI x2)), (4, .int (jI x4)), (5, .int (jI x5)), (7, .int (jI x7))] := hl
    refine k_iinc (k := 6) hx hb dX12_defthm_77 hl rfl (by decide) rfl h (fun ls r16 h hl => ?_)
    have hl : lv_has ls 10 [(7, .int (jI (x7 + 1))), (6, .int (jI v15)), (0, .ref (h0)), (1, .int (jI x1)), (2, .int (jI x2)), (4, .int (jI x4)), (5, .int (jI x5))] := hl
    refine lv_goto hx hb dX12_defthm_80 (tgt := 61) rfl ?_
    exact hR61 _ _ _ _ _ _ _ H locs ls rx1 rx2 rx4 rx5 rv15 r16 hw (lv_sub hl [2, 3, 4, 5, 6, 1, 0] rfl) h

def w_defthm_42 (Q : Int → iST → Prop) (x1 : Int) (x2 : Int) (x4 : Int) (u : iST) : Prop :=
  w_nth x1 x4 (fun v2 u => 
  w_termOf v2 (fun v3 u => 
  w_defthm_61 Q x1 x2 x4 v3 x1 0 u) u) u
set_option maxRecDepth 20000 in
set_option maxHeartbeats 4000000 in
theorem b_defthm_42 (X : kX p m c cX12_defthm 10 s args D ca) (hRf : 16 ≤ R.frames) (hRl : 375 ≤ R.locals) {Q : Int → iST → Prop} (hret : ∀ (v : Int) (u : iST) (H : Heap) (locs : List Loc) (ls : Array Slot) (pc : Nat), inR v → Q v u → kW D ca A h0 ad H0 H locs u → decode cX12_defthm pc = .ok (.ireturn, 1) → W p l e R s m args below meth c H locs 0 0 Qf (F0 m pc ls [.int (jI v)])) {x1 x2 x4 : Int} (rx1 : inR x1) (rx2 : inR x2) (rx4 : inR x4) (hw : kW D ca A h0 ad H0 H locs u) (hl : lv_has ls 10 [(0, .ref h0), (1, .int (jI x1)), (2, .int (jI x2)), (4, .int (jI x4))]) (h : w_defthm_42 Q x1 x2 x4 u) : W p l e R s m args below meth c H locs 0 0 Qf (F0 m 42 ls []) := by
  have hx := X.1.1
  have hb := X.1.2.1
  unfold w_defthm_42 at h
  refine lv_aload_n hx hb dX12_defthm_42 rfl (lv_at hl 0 rfl) ?_
  refine lv_aload_n hx hb dX12_defthm_43 rfl (lv_at hl 0 rfl) ?_
  refine lv_iload_n hx hb dX12_defthm_44 rfl (lv_at hl 1 rfl) ?_
  refine lv_iload hx hb dX12_defthm_45 (lv_at hl 3 rfl) ?_
  refine kcI (n := 2) (c_nth rx1 rx4 h) G_nth E_nth X hw (Nat.le_trans (Nat.le_of_ble_eq_true rfl) hRf) (Nat.le_trans (Nat.le_of_ble_eq_true rfl) hRl) rfl hl.1 (Nat.le_of_ble_eq_true rfl) rfl dX12_defthm_47 (fun v2 u H locs rv2 h hw => ?_)
  refine kcI (n := 1) (c_termOf rv2 h) G_termOf E_termOf X hw (Nat.le_trans (Nat.le_of_ble_eq_true rfl) hRf) (Nat.le_trans (Nat.le_of_ble_eq_true rfl) hRl) rfl hl.1 (Nat.le_of_ble_eq_true rfl) rfl dX12_defthm_50 (fun v3 u H locs rv3 h hw => ?_)
  refine lv_istore hx hb dX12_defthm_53 hl (by decide) rfl (fun ls hl => ?_)
  have hl : lv_has ls 10 [(5, .int (jI v3)), (0, .ref (h0)), (1, .int (jI x1)), (2, .int (jI x2)), (4, .int (jI x4))] := hl
  refine lv_iload_n hx hb dX12_defthm_55 rfl (lv_at hl 2 rfl) ?_
  refine lv_istore hx hb dX12_defthm_56 hl (by decide) rfl (fun ls hl => ?_)
  have hl : lv_has ls 10 [(6, .int (jI x1)), (5, .int (jI v3)), (0, .ref (h0)), (1, .int (jI x1)), (2, .int (jI x2)), (4, .int (jI x4))] := hl
  refine lv_iconst hx hb dX12_defthm_58 (v := jI 0) rfl ?_
  refine lv_istore hx hb dX12_defthm_59 hl (by decide) rfl (fun ls hl => ?_)
  have hl : lv_has ls 10 [(7, .int (jI 0)), (6, .int (jI x1)), (5, .int (jI v3)), (0, .ref (h0)), (1, .int (jI x1)), (2, .int (jI x2)), (4, .int (jI x4))] := hl
  exact b_defthm_61 X hRf hRl hret rx1 rx2 rx4 rv3 rx1 (by decide) hw (lv_sub hl [3, 4, 5, 6, 2, 1, 0] rfl) h

def w_defthm_15 (Q : Int → iST → Prop) (x1 : Int) (x2 : Int) (x3 : Int) (y0 : Int) (u : iST) : Prop :=
  br (x3 ≤ y0) (
    Q 2 u) (
    br (x2 = 0) (
      w_defthm_42 Q x1 x2 y0 u) (
      w_nth x1 1 (fun v17 u => 
      w_isNewName v17 (fun v18 u => 
      br (v18 ≠ 0) (
        w_defthm_42 Q x1 x2 y0 u) (
        Q 2 u)) u) u))
set_option maxRecDepth 20000 in
set_option maxHeartbeats 4000000 in
theorem b_defthm_15 (X : kX p m c cX12_defthm 10 s args D ca) (hRf : 16 ≤ R.frames) (hRl : 375 ≤ R.locals) {Q : Int → iST → Prop} (hret : ∀ (v : Int) (u : iST) (H : Heap) (locs : List Loc) (ls : Array Slot) (pc : Nat), inR v → Q v u → kW D ca A h0 ad H0 H locs u → decode cX12_defthm pc = .ok (.ireturn, 1) → W p l e R s m args below meth c H locs 0 0 Qf (F0 m pc ls [.int (jI v)])) {x1 x2 x3 y0 : Int} (rx1 : inR x1) (rx2 : inR x2) (rx3 : inR x3) (ry0 : inR y0) (hw : kW D ca A h0 ad H0 H locs u) (hl : lv_has ls 10 [(0, .ref h0), (1, .int (jI x1)), (2, .int (jI x2)), (3, .int (jI x3))]) (h : w_defthm_15 Q x1 x2 x3 y0 u) : W p l e R s m args below meth c H locs 0 0 Qf (F0 m 15 ls [.int (jI y0)]) := by
  have hx := X.1.1
  have hb := X.1.2.1
  unfold w_defthm_15 at h
  refine lv_istore hx hb dX12_defthm_15 hl (by decide) rfl (fun ls hl => ?_)
  have hl : lv_has ls 10 [(4, .int (jI y0)), (0, .ref (h0)), (1, .int (jI x1)), (2, .int (jI x2)), (3, .int (jI x3))] := hl
  refine lv_iload_n hx hb dX12_defthm_17 rfl (lv_at hl 4 rfl) ?_
  refine lv_iload hx hb dX12_defthm_18 (lv_at hl 0 rfl) ?_
  refine k_icmp_le hx hb rx3 ry0 dX12_defthm_20 (tgt := 40) rfl h (fun h => ?_) (fun h => ?_)
  · refine lv_iconst hx hb dX12_defthm_40 (v := jI 2) rfl ?_
    exact hret _ _ _ _ _ _ (by decide) h hw dX12_defthm_41
  · refine lv_iload_n hx hb dX12_defthm_23 rfl (lv_at hl 3 rfl) ?_
    refine k_if_eq hx hb rx2 dX12_defthm_24 (tgt := 42) rfl h (fun h => ?_) (fun h => ?_)
    · exact b_defthm_42 X hRf hRl hret rx1 rx2 ry0 hw (lv_sub hl [1, 2, 3, 0] rfl) h
    · refine lv_aload_n hx hb dX12_defthm_27 rfl (lv_at hl 1 rfl) ?_
      refine lv_aload_n hx hb dX12_defthm_28 rfl (lv_at hl 1 rfl) ?_
      refine lv_iload_n hx hb dX12_defthm_29 rfl (lv_at hl 2 rfl) ?_
      refine lv_iconst hx hb dX12_defthm_30 (v := jI 1) rfl ?_
      refine kcI (n := 2) (c_nth rx1 (by decide) h) G_nth E_nth X hw (Nat.le_trans (Nat.le_of_ble_eq_true rfl) hRf) (Nat.le_trans (Nat.le_of_ble_eq_true rfl) hRl) rfl hl.1 (Nat.le_of_ble_eq_true rfl) rfl dX12_defthm_31 (fun v17 u H locs rv17 h hw => ?_)
      refine kcI (n := 1) (c_isNewName rv17 h) G_isNewName E_isNewName X hw (Nat.le_trans (Nat.le_of_ble_eq_true rfl) hRf) (Nat.le_trans (Nat.le_of_ble_eq_true rfl) hRl) rfl hl.1 (Nat.le_of_ble_eq_true rfl) rfl dX12_defthm_34 (fun v18 u H locs rv18 h hw => ?_)
      refine k_if_ne hx hb rv18 dX12_defthm_37 (tgt := 42) rfl h (fun h => ?_) (fun h => ?_)
      · exact b_defthm_42 X hRf hRl hret rx1 rx2 ry0 hw (lv_sub hl [1, 2, 3, 0] rfl) h
      · refine lv_iconst hx hb dX12_defthm_40 (v := jI 2) rfl ?_
        exact hret _ _ _ _ _ _ (by decide) h hw dX12_defthm_41

def w_defthm (a0 : Int) (a1 : Int) (Q : Int → iST → Prop) (u : iST) : Prop :=
  w_lengthOf a0 (fun v1 u => 
  br (a1 = 0) (
    w_defthm_15 Q a0 a1 v1 1 u) (
    w_defthm_15 Q a0 a1 v1 2 u)) u
set_option maxRecDepth 20000 in
set_option maxHeartbeats 4000000 in
theorem b_defthm_s (X : kX p m c cX12_defthm 10 s args D ca) (hRf : 16 ≤ R.frames) (hRl : 375 ≤ R.locals) {Q : Int → iST → Prop} (hret : ∀ (v : Int) (u : iST) (H : Heap) (locs : List Loc) (ls : Array Slot) (pc : Nat), inR v → Q v u → kW D ca A h0 ad H0 H locs u → decode cX12_defthm pc = .ok (.ireturn, 1) → W p l e R s m args below meth c H locs 0 0 Qf (F0 m pc ls [.int (jI v)])) {a0 a1 : Int} (ra0 : inR a0) (ra1 : inR a1) (hw : kW D ca A h0 ad H0 H locs u) (hl : lv_has ls 10 [(0, .ref h0), (1, .int (jI a0)), (2, .int (jI a1))]) (h : w_defthm a0 a1 Q u) : W p l e R s m args below meth c H locs 0 0 Qf (F0 m 0 ls []) := by
  have hx := X.1.1
  have hb := X.1.2.1
  unfold w_defthm at h
  refine lv_aload_n hx hb dX12_defthm_0 rfl (lv_at hl 0 rfl) ?_
  refine lv_iload_n hx hb dX12_defthm_1 rfl (lv_at hl 1 rfl) ?_
  refine kcI (n := 1) (c_lengthOf ra0 h) G_lengthOf E_lengthOf X hw (Nat.le_trans (Nat.le_of_ble_eq_true rfl) hRf) (Nat.le_trans (Nat.le_of_ble_eq_true rfl) hRl) rfl hl.1 (Nat.le_of_ble_eq_true rfl) rfl dX12_defthm_2 (fun v1 u H locs rv1 h hw => ?_)
  refine lv_istore_n hx hb dX12_defthm_5 rfl hl (by decide) rfl (fun ls hl => ?_)
  have hl : lv_has ls 10 [(3, .int (jI v1)), (0, .ref (h0)), (1, .int (jI a0)), (2, .int (jI a1))] := hl
  refine lv_iload_n hx hb dX12_defthm_6 rfl (lv_at hl 3 rfl) ?_
  refine k_if_eq hx hb ra1 dX12_defthm_7 (tgt := 14) rfl h (fun h => ?_) (fun h => ?_)
  · refine lv_iconst hx hb dX12_defthm_14 (v := jI 1) rfl ?_
    exact b_defthm_15 X hRf hRl hret ra0 ra1 rv1 (by decide) hw (lv_sub hl [1, 2, 3, 0] rfl) h
  · refine lv_iconst hx hb dX12_defthm_10 (v := jI 2) rfl ?_
    refine lv_goto hx hb dX12_defthm_11 (tgt := 15) rfl ?_
    exact b_defthm_15 X hRf hRl hret ra0 ra1 rv1 (by decide) hw (lv_sub hl [1, 2, 3, 0] rfl) h

end
theorem c_defthm {l : Launch} {a0 : Int} {a1 : Int} (ra0 : inR a0) (ra1 : inR a1) {Q : Int → iST → Prop} {u : iST} (h : w_defthm a0 a1 Q u) : kMI l yX12_defthm (.code yX12_defthm cX12_defthm 10 (some .int) :: wsM) { frames := 16, cells := 0, slots := 0, locals := 375 } [.int (jI a0), .int (jI a1)] Q u := kMI_of rfl (fun _ => Nat.le_of_ble_eq_true rfl) (fun X hRf hRl hret hw hl => b_defthm_s X hRf hRl hret ra0 ra1 hw hl h)

/-! partsFrom -/
theorem dX12_partsFrom_0 : decode cX12_partsFrom 0 = .ok (.iload_n 0, 1) := by decide +kernel
theorem dX12_partsFrom_1 : decode cX12_partsFrom 1 = .ok (.tableswitch 91 27 43 #[89, 91, 91, 91, 91, 91, 91, 91, 91, 91, 91, 91, 83, 85, 87, 87, 87], 83) := by decide +kernel
theorem dX12_partsFrom_84 : decode cX12_partsFrom 84 = .ok (.iconst 2, 1) := by decide +kernel
theorem dX12_partsFrom_85 : decode cX12_partsFrom 85 = .ok (.ireturn, 1) := by decide +kernel
theorem dX12_partsFrom_86 : decode cX12_partsFrom 86 = .ok (.iconst 2, 1) := by decide +kernel
theorem dX12_partsFrom_87 : decode cX12_partsFrom 87 = .ok (.ireturn, 1) := by decide +kernel
theorem dX12_partsFrom_88 : decode cX12_partsFrom 88 = .ok (.iconst 1, 1) := by decide +kernel
theorem dX12_partsFrom_89 : decode cX12_partsFrom 89 = .ok (.ireturn, 1) := by decide +kernel
theorem dX12_partsFrom_90 : decode cX12_partsFrom 90 = .ok (.iconst 3, 1) := by decide +kernel
theorem dX12_partsFrom_91 : decode cX12_partsFrom 91 = .ok (.ireturn, 1) := by decide +kernel
theorem dX12_partsFrom_92 : decode cX12_partsFrom 92 = .ok (.iconst 0, 1) := by decide +kernel
theorem dX12_partsFrom_93 : decode cX12_partsFrom 93 = .ok (.ireturn, 1) := by decide +kernel

section
variable {p : Program} {l : Launch} {e : Env} {R : Room} {s : State} {m : MethodId} {args : Array Value} {below : List Frame} {meth : Method} {c : Code} {H : Heap} {locs : List Loc} {Qf : State → Prop}
variable {ls : Array Slot} {D : va_G} {ca : Nat → ClassId} {A : Nat → Prop} {h0 : Nat} {ad : Nat → Nat} {H0 : Heap} {u : iST}
def w_partsFrom (a0 : Int) (Q : Int → iST → Prop) (u : iST) : Prop :=
  br (a0 = 27) (
    Q 3 u) (
  br (a0 = 28) (
    Q 0 u) (
  br (a0 = 29) (
    Q 0 u) (
  br (a0 = 30) (
    Q 0 u) (
  br (a0 = 31) (
    Q 0 u) (
  br (a0 = 32) (
    Q 0 u) (
  br (a0 = 33) (
    Q 0 u) (
  br (a0 = 34) (
    Q 0 u) (
  br (a0 = 35) (
    Q 0 u) (
  br (a0 = 36) (
    Q 0 u) (
  br (a0 = 37) (
    Q 0 u) (
  br (a0 = 38) (
    Q 0 u) (
  br (a0 = 39) (
    Q 2 u) (
  br (a0 = 40) (
    Q 2 u) (
  br (a0 = 41) (
    Q 1 u) (
  br (a0 = 42) (
    Q 1 u) (
  br (a0 = 43) (
    Q 1 u) (
  Q 0 u)))))))))))))))))
set_option maxRecDepth 20000 in
set_option maxHeartbeats 4000000 in
theorem b_partsFrom_s (X : kX p m c cX12_partsFrom 1 s args D ca) (hRf : 0 ≤ R.frames) (hRl : 0 ≤ R.locals) {Q : Int → iST → Prop} (hret : ∀ (v : Int) (u : iST) (H : Heap) (locs : List Loc) (ls : Array Slot) (pc : Nat), inR v → Q v u → kW D ca A h0 ad H0 H locs u → decode cX12_partsFrom pc = .ok (.ireturn, 1) → W p l e R s m args below meth c H locs 0 0 Qf (F0 m pc ls [.int (jI v)])) {a0 : Int} (ra0 : inR a0) (hw : kW D ca A h0 ad H0 H locs u) (hl : lv_has ls 1 [(0, .int (jI a0))]) (h : w_partsFrom a0 Q u) : W p l e R s m args below meth c H locs 0 0 Qf (F0 m 0 ls []) := by
  have hx := X.1.1
  have hb := X.1.2.1
  unfold w_partsFrom at h
  refine lv_iload_n hx hb dX12_partsFrom_0 rfl (lv_at hl 0 rfl) ?_
  refine br_sp h (fun ek h => ?_) (fun n1 h => ?_)
  · refine k_tabIn (tgt := 90) (off := 89) hx hb dX12_partsFrom_1 ek (by decide) (by decide) rfl rfl ?_
    refine lv_iconst hx hb dX12_partsFrom_90 (v := jI 3) rfl ?_
    exact hret _ _ _ _ _ _ (by decide) h hw dX12_partsFrom_91
  refine br_sp h (fun ek h => ?_) (fun n2 h => ?_)
  · refine k_tabIn (tgt := 92) (off := 91) hx hb dX12_partsFrom_1 ek (by decide) (by decide) rfl rfl ?_
    refine lv_iconst hx hb dX12_partsFrom_92 (v := jI 0) rfl ?_
    exact hret _ _ _ _ _ _ (by decide) h hw dX12_partsFrom_93
  refine br_sp h (fun ek h => ?_) (fun n3 h => ?_)
  · refine k_tabIn (tgt := 92) (off := 91) hx hb dX12_partsFrom_1 ek (by decide) (by decide) rfl rfl ?_
    refine lv_iconst hx hb dX12_partsFrom_92 (v := jI 0) rfl ?_
    exact hret _ _ _ _ _ _ (by decide) h hw dX12_partsFrom_93
  refine br_sp h (fun ek h => ?_) (fun n4 h => ?_)
  · refine k_tabIn (tgt := 92) (off := 91) hx hb dX12_partsFrom_1 ek (by decide) (by decide) rfl rfl ?_
    refine lv_iconst hx hb dX12_partsFrom_92 (v := jI 0) rfl ?_
    exact hret _ _ _ _ _ _ (by decide) h hw dX12_partsFrom_93
  refine br_sp h (fun ek h => ?_) (fun n5 h => ?_)
  · refine k_tabIn (tgt := 92) (off := 91) hx hb dX12_partsFrom_1 ek (by decide) (by decide) rfl rfl ?_
    refine lv_iconst hx hb dX12_partsFrom_92 (v := jI 0) rfl ?_
    exact hret _ _ _ _ _ _ (by decide) h hw dX12_partsFrom_93
  refine br_sp h (fun ek h => ?_) (fun n6 h => ?_)
  · refine k_tabIn (tgt := 92) (off := 91) hx hb dX12_partsFrom_1 ek (by decide) (by decide) rfl rfl ?_
    refine lv_iconst hx hb dX12_partsFrom_92 (v := jI 0) rfl ?_
    exact hret _ _ _ _ _ _ (by decide) h hw dX12_partsFrom_93
  refine br_sp h (fun ek h => ?_) (fun n7 h => ?_)
  · refine k_tabIn (tgt := 92) (off := 91) hx hb dX12_partsFrom_1 ek (by decide) (by decide) rfl rfl ?_
    refine lv_iconst hx hb dX12_partsFrom_92 (v := jI 0) rfl ?_
    exact hret _ _ _ _ _ _ (by decide) h hw dX12_partsFrom_93
  refine br_sp h (fun ek h => ?_) (fun n8 h => ?_)
  · refine k_tabIn (tgt := 92) (off := 91) hx hb dX12_partsFrom_1 ek (by decide) (by decide) rfl rfl ?_
    refine lv_iconst hx hb dX12_partsFrom_92 (v := jI 0) rfl ?_
    exact hret _ _ _ _ _ _ (by decide) h hw dX12_partsFrom_93
  refine br_sp h (fun ek h => ?_) (fun n9 h => ?_)
  · refine k_tabIn (tgt := 92) (off := 91) hx hb dX12_partsFrom_1 ek (by decide) (by decide) rfl rfl ?_
    refine lv_iconst hx hb dX12_partsFrom_92 (v := jI 0) rfl ?_
    exact hret _ _ _ _ _ _ (by decide) h hw dX12_partsFrom_93
  refine br_sp h (fun ek h => ?_) (fun n10 h => ?_)
  · refine k_tabIn (tgt := 92) (off := 91) hx hb dX12_partsFrom_1 ek (by decide) (by decide) rfl rfl ?_
    refine lv_iconst hx hb dX12_partsFrom_92 (v := jI 0) rfl ?_
    exact hret _ _ _ _ _ _ (by decide) h hw dX12_partsFrom_93
  refine br_sp h (fun ek h => ?_) (fun n11 h => ?_)
  · refine k_tabIn (tgt := 92) (off := 91) hx hb dX12_partsFrom_1 ek (by decide) (by decide) rfl rfl ?_
    refine lv_iconst hx hb dX12_partsFrom_92 (v := jI 0) rfl ?_
    exact hret _ _ _ _ _ _ (by decide) h hw dX12_partsFrom_93
  refine br_sp h (fun ek h => ?_) (fun n12 h => ?_)
  · refine k_tabIn (tgt := 92) (off := 91) hx hb dX12_partsFrom_1 ek (by decide) (by decide) rfl rfl ?_
    refine lv_iconst hx hb dX12_partsFrom_92 (v := jI 0) rfl ?_
    exact hret _ _ _ _ _ _ (by decide) h hw dX12_partsFrom_93
  refine br_sp h (fun ek h => ?_) (fun n13 h => ?_)
  · refine k_tabIn (tgt := 84) (off := 83) hx hb dX12_partsFrom_1 ek (by decide) (by decide) rfl rfl ?_
    refine lv_iconst hx hb dX12_partsFrom_84 (v := jI 2) rfl ?_
    exact hret _ _ _ _ _ _ (by decide) h hw dX12_partsFrom_85
  refine br_sp h (fun ek h => ?_) (fun n14 h => ?_)
  · refine k_tabIn (tgt := 86) (off := 85) hx hb dX12_partsFrom_1 ek (by decide) (by decide) rfl rfl ?_
    refine lv_iconst hx hb dX12_partsFrom_86 (v := jI 2) rfl ?_
    exact hret _ _ _ _ _ _ (by decide) h hw dX12_partsFrom_87
  refine br_sp h (fun ek h => ?_) (fun n15 h => ?_)
  · refine k_tabIn (tgt := 88) (off := 87) hx hb dX12_partsFrom_1 ek (by decide) (by decide) rfl rfl ?_
    refine lv_iconst hx hb dX12_partsFrom_88 (v := jI 1) rfl ?_
    exact hret _ _ _ _ _ _ (by decide) h hw dX12_partsFrom_89
  refine br_sp h (fun ek h => ?_) (fun n16 h => ?_)
  · refine k_tabIn (tgt := 88) (off := 87) hx hb dX12_partsFrom_1 ek (by decide) (by decide) rfl rfl ?_
    refine lv_iconst hx hb dX12_partsFrom_88 (v := jI 1) rfl ?_
    exact hret _ _ _ _ _ _ (by decide) h hw dX12_partsFrom_89
  refine br_sp h (fun ek h => ?_) (fun n17 h => ?_)
  · refine k_tabIn (tgt := 88) (off := 87) hx hb dX12_partsFrom_1 ek (by decide) (by decide) rfl rfl ?_
    refine lv_iconst hx hb dX12_partsFrom_88 (v := jI 1) rfl ?_
    exact hret _ _ _ _ _ _ (by decide) h hw dX12_partsFrom_89
  refine k_tabOut (tgt := 92) hx hb ra0 dX12_partsFrom_1 (by omega) rfl ?_
  refine lv_iconst hx hb dX12_partsFrom_92 (v := jI 0) rfl ?_
  exact hret _ _ _ _ _ _ (by decide) h hw dX12_partsFrom_93

end
theorem c_partsFrom {l : Launch} {a0 : Int} (ra0 : inR a0) {Q : Int → iST → Prop} {u : iST} (h : w_partsFrom a0 Q u) : kSI l yX12_partsFrom (.code yX12_partsFrom cX12_partsFrom 1 (some .int) :: wsM) { frames := 0, cells := 0, slots := 0, locals := 0 } [.int (jI a0)] Q u := kSI_of rfl (fun _ => Nat.le_of_ble_eq_true rfl) (fun X hRf hRl hret hw hl => b_partsFrom_s X hRf hRl hret ra0 hw hl h)

/-! partsTo -/
theorem dX12_partsTo_0 : decode cX12_partsTo 0 = .ok (.aload_n 0, 1) := by decide +kernel
theorem dX12_partsTo_1 : decode cX12_partsTo 1 = .ok (.getfield 8, 3) := by decide +kernel
theorem dX12_partsTo_4 : decode cX12_partsTo 4 = .ok (.iload_n 1, 1) := by decide +kernel
theorem dX12_partsTo_5 : decode cX12_partsTo 5 = .ok (.iaload, 1) := by decide +kernel
theorem dX12_partsTo_6 : decode cX12_partsTo 6 = .ok (.tableswitch 96 27 43 #[90, 96, 96, 96, 96, 96, 96, 96, 96, 96, 96, 96, 82, 84, 86, 86, 88], 82) := by decide +kernel
theorem dX12_partsTo_88 : decode cX12_partsTo 88 = .ok (.iconst 3, 1) := by decide +kernel
theorem dX12_partsTo_89 : decode cX12_partsTo 89 = .ok (.ireturn, 1) := by decide +kernel
theorem dX12_partsTo_90 : decode cX12_partsTo 90 = .ok (.iconst 4, 1) := by decide +kernel
theorem dX12_partsTo_91 : decode cX12_partsTo 91 = .ok (.ireturn, 1) := by decide +kernel
theorem dX12_partsTo_92 : decode cX12_partsTo 92 = .ok (.iconst 2, 1) := by decide +kernel
theorem dX12_partsTo_93 : decode cX12_partsTo 93 = .ok (.ireturn, 1) := by decide +kernel
theorem dX12_partsTo_94 : decode cX12_partsTo 94 = .ok (.iconst 3, 1) := by decide +kernel
theorem dX12_partsTo_95 : decode cX12_partsTo 95 = .ok (.ireturn, 1) := by decide +kernel
theorem dX12_partsTo_96 : decode cX12_partsTo 96 = .ok (.aload_n 0, 1) := by decide +kernel
theorem dX12_partsTo_97 : decode cX12_partsTo 97 = .ok (.iload_n 1, 1) := by decide +kernel
theorem dX12_partsTo_98 : decode cX12_partsTo 98 = .ok (.invokevirtual 529, 3) := by decide +kernel
theorem dX12_partsTo_101 : decode cX12_partsTo 101 = .ok (.ireturn, 1) := by decide +kernel
theorem dX12_partsTo_102 : decode cX12_partsTo 102 = .ok (.iconst 0, 1) := by decide +kernel
theorem dX12_partsTo_103 : decode cX12_partsTo 103 = .ok (.ireturn, 1) := by decide +kernel

section
variable {p : Program} {l : Launch} {e : Env} {R : Room} {s : State} {m : MethodId} {args : Array Value} {below : List Frame} {meth : Method} {c : Code} {H : Heap} {locs : List Loc} {Qf : State → Prop}
variable {ls : Array Slot} {D : va_G} {ca : Nat → ClassId} {A : Nat → Prop} {h0 : Nat} {ad : Nat → Nat} {H0 : Heap} {u : iST}
def w_partsTo (a0 : Int) (Q : Int → iST → Prop) (u : iST) : Prop :=
  bd a0 452000 (rd (u.2.1 0 a0) (fun v1 => 
  br (v1 = 27) (
    w_lengthOf a0 (fun v2 u => 
    Q v2 u) u) (
  br (v1 = 28) (
    Q 0 u) (
  br (v1 = 29) (
    Q 0 u) (
  br (v1 = 30) (
    Q 0 u) (
  br (v1 = 31) (
    Q 0 u) (
  br (v1 = 32) (
    Q 0 u) (
  br (v1 = 33) (
    Q 0 u) (
  br (v1 = 34) (
    Q 0 u) (
  br (v1 = 35) (
    Q 0 u) (
  br (v1 = 36) (
    Q 0 u) (
  br (v1 = 37) (
    Q 0 u) (
  br (v1 = 38) (
    Q 0 u) (
  br (v1 = 39) (
    Q 3 u) (
  br (v1 = 40) (
    Q 4 u) (
  br (v1 = 41) (
    Q 2 u) (
  br (v1 = 42) (
    Q 2 u) (
  br (v1 = 43) (
    Q 3 u) (
  Q 0 u)))))))))))))))))))
set_option maxRecDepth 20000 in
set_option maxHeartbeats 4000000 in
theorem b_partsTo_s (X : kX p m c cX12_partsTo 2 s args D ca) (hRf : 2 ≤ R.frames) (hRl : 44 ≤ R.locals) {Q : Int → iST → Prop} (hret : ∀ (v : Int) (u : iST) (H : Heap) (locs : List Loc) (ls : Array Slot) (pc : Nat), inR v → Q v u → kW D ca A h0 ad H0 H locs u → decode cX12_partsTo pc = .ok (.ireturn, 1) → W p l e R s m args below meth c H locs 0 0 Qf (F0 m pc ls [.int (jI v)])) {a0 : Int} (ra0 : inR a0) (hw : kW D ca A h0 ad H0 H locs u) (hl : lv_has ls 2 [(0, .ref h0), (1, .int (jI a0))]) (h : w_partsTo a0 Q u) : W p l e R s m args below meth c H locs 0 0 Qf (F0 m 0 ls []) := by
  have hx := X.1.1
  have hb := X.1.2.1
  unfold w_partsTo at h
  refine lv_aload_n hx hb dX12_partsTo_0 rfl (lv_at hl 0 rfl) ?_
  refine gA 0 8 (by decide) L_0 (fun _ _ => mF_0) rfl X hw dX12_partsTo_1 ?_
  refine lv_iload_n hx hb dX12_partsTo_4 rfl (lv_at hl 1 rfl) ?_
  refine aL 0 1 0 452000 (fun _ _ _ _ => mG_0) (fun _ => rfl) X hw ra0 dX12_partsTo_5 rfl h (fun v1 rv1 h => ?_)
  refine br_sp h (fun ek h => ?_) (fun n3 h => ?_)
  · refine k_tabIn (tgt := 96) (off := 90) hx hb dX12_partsTo_6 ek (by decide) (by decide) rfl rfl ?_
    refine lv_aload_n hx hb dX12_partsTo_96 rfl (lv_at hl 0 rfl) ?_
    refine lv_iload_n hx hb dX12_partsTo_97 rfl (lv_at hl 1 rfl) ?_
    refine kcI (n := 1) (c_lengthOf ra0 h) G_lengthOf E_lengthOf X hw (Nat.le_trans (Nat.le_of_ble_eq_true rfl) hRf) (Nat.le_trans (Nat.le_of_ble_eq_true rfl) hRl) rfl hl.1 (Nat.le_of_ble_eq_true rfl) rfl dX12_partsTo_98 (fun v2 u H locs rv2 h hw => ?_)
    exact hret _ _ _ _ _ _ rv2 h hw dX12_partsTo_101
  refine br_sp h (fun ek h => ?_) (fun n4 h => ?_)
  · refine k_tabIn (tgt := 102) (off := 96) hx hb dX12_partsTo_6 ek (by decide) (by decide) rfl rfl ?_
    refine lv_iconst hx hb dX12_partsTo_102 (v := jI 0) rfl ?_
    exact hret _ _ _ _ _ _ (by decide) h hw dX12_partsTo_103
  refine br_sp h (fun ek h => ?_) (fun n5 h => ?_)
  · refine k_tabIn (tgt := 102) (off := 96) hx hb dX12_partsTo_6 ek (by decide) (by decide) rfl rfl ?_
    refine lv_iconst hx hb dX12_partsTo_102 (v := jI 0) rfl ?_
    exact hret _ _ _ _ _ _ (by decide) h hw dX12_partsTo_103
  refine br_sp h (fun ek h => ?_) (fun n6 h => ?_)
  · refine k_tabIn (tgt := 102) (off := 96) hx hb dX12_partsTo_6 ek (by decide) (by decide) rfl rfl ?_
    refine lv_iconst hx hb dX12_partsTo_102 (v := jI 0) rfl ?_
    exact hret _ _ _ _ _ _ (by decide) h hw dX12_partsTo_103
  refine br_sp h (fun ek h => ?_) (fun n7 h => ?_)
  · refine k_tabIn (tgt := 102) (off := 96) hx hb dX12_partsTo_6 ek (by decide) (by decide) rfl rfl ?_
    refine lv_iconst hx hb dX12_partsTo_102 (v := jI 0) rfl ?_
    exact hret _ _ _ _ _ _ (by decide) h hw dX12_partsTo_103
  refine br_sp h (fun ek h => ?_) (fun n8 h => ?_)
  · refine k_tabIn (tgt := 102) (off := 96) hx hb dX12_partsTo_6 ek (by decide) (by decide) rfl rfl ?_
    refine lv_iconst hx hb dX12_partsTo_102 (v := jI 0) rfl ?_
    exact hret _ _ _ _ _ _ (by decide) h hw dX12_partsTo_103
  refine br_sp h (fun ek h => ?_) (fun n9 h => ?_)
  · refine k_tabIn (tgt := 102) (off := 96) hx hb dX12_partsTo_6 ek (by decide) (by decide) rfl rfl ?_
    refine lv_iconst hx hb dX12_partsTo_102 (v := jI 0) rfl ?_
    exact hret _ _ _ _ _ _ (by decide) h hw dX12_partsTo_103
  refine br_sp h (fun ek h => ?_) (fun n10 h => ?_)
  · refine k_tabIn (tgt := 102) (off := 96) hx hb dX12_partsTo_6 ek (by decide) (by decide) rfl rfl ?_
    refine lv_iconst hx hb dX12_partsTo_102 (v := jI 0) rfl ?_
    exact hret _ _ _ _ _ _ (by decide) h hw dX12_partsTo_103
  refine br_sp h (fun ek h => ?_) (fun n11 h => ?_)
  · refine k_tabIn (tgt := 102) (off := 96) hx hb dX12_partsTo_6 ek (by decide) (by decide) rfl rfl ?_
    refine lv_iconst hx hb dX12_partsTo_102 (v := jI 0) rfl ?_
    exact hret _ _ _ _ _ _ (by decide) h hw dX12_partsTo_103
  refine br_sp h (fun ek h => ?_) (fun n12 h => ?_)
  · refine k_tabIn (tgt := 102) (off := 96) hx hb dX12_partsTo_6 ek (by decide) (by decide) rfl rfl ?_
    refine lv_iconst hx hb dX12_partsTo_102 (v := jI 0) rfl ?_
    exact hret _ _ _ _ _ _ (by decide) h hw dX12_partsTo_103
  refine br_sp h (fun ek h => ?_) (fun n13 h => ?_)
  · refine k_tabIn (tgt := 102) (off := 96) hx hb dX12_partsTo_6 ek (by decide) (by decide) rfl rfl ?_
    refine lv_iconst hx hb dX12_partsTo_102 (v := jI 0) rfl ?_
    exact hret _ _ _ _ _ _ (by decide) h hw dX12_partsTo_103
  refine br_sp h (fun ek h => ?_) (fun n14 h => ?_)
  · refine k_tabIn (tgt := 102) (off := 96) hx hb dX12_partsTo_6 ek (by decide) (by decide) rfl rfl ?_
    refine lv_iconst hx hb dX12_partsTo_102 (v := jI 0) rfl ?_
    exact hret _ _ _ _ _ _ (by decide) h hw dX12_partsTo_103
  refine br_sp h (fun ek h => ?_) (fun n15 h => ?_)
  · refine k_tabIn (tgt := 88) (off := 82) hx hb dX12_partsTo_6 ek (by decide) (by decide) rfl rfl ?_
    refine lv_iconst hx hb dX12_partsTo_88 (v := jI 3) rfl ?_
    exact hret _ _ _ _ _ _ (by decide) h hw dX12_partsTo_89
  refine br_sp h (fun ek h => ?_) (fun n16 h => ?_)
  · refine k_tabIn (tgt := 90) (off := 84) hx hb dX12_partsTo_6 ek (by decide) (by decide) rfl rfl ?_
    refine lv_iconst hx hb dX12_partsTo_90 (v := jI 4) rfl ?_
    exact hret _ _ _ _ _ _ (by decide) h hw dX12_partsTo_91
  refine br_sp h (fun ek h => ?_) (fun n17 h => ?_)
  · refine k_tabIn (tgt := 92) (off := 86) hx hb dX12_partsTo_6 ek (by decide) (by decide) rfl rfl ?_
    refine lv_iconst hx hb dX12_partsTo_92 (v := jI 2) rfl ?_
    exact hret _ _ _ _ _ _ (by decide) h hw dX12_partsTo_93
  refine br_sp h (fun ek h => ?_) (fun n18 h => ?_)
  · refine k_tabIn (tgt := 92) (off := 86) hx hb dX12_partsTo_6 ek (by decide) (by decide) rfl rfl ?_
    refine lv_iconst hx hb dX12_partsTo_92 (v := jI 2) rfl ?_
    exact hret _ _ _ _ _ _ (by decide) h hw dX12_partsTo_93
  refine br_sp h (fun ek h => ?_) (fun n19 h => ?_)
  · refine k_tabIn (tgt := 94) (off := 88) hx hb dX12_partsTo_6 ek (by decide) (by decide) rfl rfl ?_
    refine lv_iconst hx hb dX12_partsTo_94 (v := jI 3) rfl ?_
    exact hret _ _ _ _ _ _ (by decide) h hw dX12_partsTo_95
  refine k_tabOut (tgt := 102) hx hb rv1 dX12_partsTo_6 (by omega) rfl ?_
  refine lv_iconst hx hb dX12_partsTo_102 (v := jI 0) rfl ?_
  exact hret _ _ _ _ _ _ (by decide) h hw dX12_partsTo_103

end
theorem c_partsTo {l : Launch} {a0 : Int} (ra0 : inR a0) {Q : Int → iST → Prop} {u : iST} (h : w_partsTo a0 Q u) : kMI l yX12_partsTo (.code yX12_partsTo cX12_partsTo 2 (some .int) :: wsM) { frames := 2, cells := 0, slots := 0, locals := 44 } [.int (jI a0)] Q u := kMI_of rfl (fun _ => Nat.le_of_ble_eq_true rfl) (fun X hRf hRl hret hw hl => b_partsTo_s X hRf hRl hret ra0 hw hl h)

/-! areTerms -/
theorem dX12_areTerms_0 : decode cX12_areTerms 0 = .ok (.aload_n 0, 1) := by decide +kernel
theorem dX12_areTerms_1 : decode cX12_areTerms 1 = .ok (.iload_n 1, 1) := by decide +kernel
theorem dX12_areTerms_2 : decode cX12_areTerms 2 = .ok (.invokevirtual 529, 3) := by decide +kernel
theorem dX12_areTerms_5 : decode cX12_areTerms 5 = .ok (.iload_n 3, 1) := by decide +kernel
theorem dX12_areTerms_6 : decode cX12_areTerms 6 = .ok (.if_icmp .eq 5, 3) := by decide +kernel
theorem dX12_areTerms_9 : decode cX12_areTerms 9 = .ok (.iconst 0, 1) := by decide +kernel
theorem dX12_areTerms_10 : decode cX12_areTerms 10 = .ok (.ireturn, 1) := by decide +kernel
theorem dX12_areTerms_11 : decode cX12_areTerms 11 = .ok (.iload_n 2, 1) := by decide +kernel
theorem dX12_areTerms_12 : decode cX12_areTerms 12 = .ok (.istore 4, 2) := by decide +kernel
theorem dX12_areTerms_14 : decode cX12_areTerms 14 = .ok (.iload 4, 2) := by decide +kernel
theorem dX12_areTerms_16 : decode cX12_areTerms 16 = .ok (.iload_n 3, 1) := by decide +kernel
theorem dX12_areTerms_17 : decode cX12_areTerms 17 = .ok (.if_icmp .ge 26, 3) := by decide +kernel
theorem dX12_areTerms_20 : decode cX12_areTerms 20 = .ok (.aload_n 0, 1) := by decide +kernel
theorem dX12_areTerms_21 : decode cX12_areTerms 21 = .ok (.aload_n 0, 1) := by decide +kernel
theorem dX12_areTerms_22 : decode cX12_areTerms 22 = .ok (.iload_n 1, 1) := by decide +kernel
theorem dX12_areTerms_23 : decode cX12_areTerms 23 = .ok (.iload 4, 2) := by decide +kernel
theorem dX12_areTerms_25 : decode cX12_areTerms 25 = .ok (.invokevirtual 471, 3) := by decide +kernel
theorem dX12_areTerms_28 : decode cX12_areTerms 28 = .ok (.invokevirtual 815, 3) := by decide +kernel
theorem dX12_areTerms_31 : decode cX12_areTerms 31 = .ok (.iconst (-1), 1) := by decide +kernel
theorem dX12_areTerms_32 : decode cX12_areTerms 32 = .ok (.if_icmp .ne 5, 3) := by decide +kernel
theorem dX12_areTerms_35 : decode cX12_areTerms 35 = .ok (.iconst 0, 1) := by decide +kernel
theorem dX12_areTerms_36 : decode cX12_areTerms 36 = .ok (.ireturn, 1) := by decide +kernel
theorem dX12_areTerms_37 : decode cX12_areTerms 37 = .ok (.iinc 4 1, 3) := by decide +kernel
theorem dX12_areTerms_40 : decode cX12_areTerms 40 = .ok (.goto (-26), 3) := by decide +kernel
theorem dX12_areTerms_43 : decode cX12_areTerms 43 = .ok (.iconst 1, 1) := by decide +kernel
theorem dX12_areTerms_44 : decode cX12_areTerms 44 = .ok (.ireturn, 1) := by decide +kernel

section
variable {p : Program} {l : Launch} {e : Env} {R : Room} {s : State} {m : MethodId} {args : Array Value} {below : List Frame} {meth : Method} {c : Code} {H : Heap} {locs : List Loc} {Qf : State → Prop}
variable {ls : Array Slot} {D : va_G} {ca : Nat → ClassId} {A : Nat → Prop} {h0 : Nat} {ad : Nat → Nat} {H0 : Heap} {u : iST}
def w_areTerms_14b (R14 : Int → Int → Int → iST → Prop) (Q : Int → iST → Prop) (x1 : Int) (x3 : Int) (x4 : Int) (u : iST) : Prop :=
  br (x3 ≤ x4) (
    zt 1 (Q 1 u)) (
    w_nth x1 x4 (fun v2 u => 
    w_termOf v2 (fun v3 u => 
    br (v3 ≠ (-1)) (
      ov (x4 + 1) (
      R14 x1 x3 (x4 + 1) u)) (
      zt 0 (Q 0 u))) u) u)
def w_areTerms_14 (Q : Int → iST → Prop) (x1 : Int) (x3 : Int) (x4 : Int) (u : iST) : Prop := ∀ R14 : Int → Int → Int → iST → Prop, (∀ (x1 : Int) (x3 : Int) (x4 : Int) (u : iST), w_areTerms_14b R14 Q x1 x3 x4 u → R14 x1 x3 x4 u) → R14 x1 x3 x4 u
set_option maxRecDepth 20000 in
set_option maxHeartbeats 4000000 in
theorem b_areTerms_14 (X : kX p m c cX12_areTerms 5 s args D ca) (hRf : 7 ≤ R.frames) (hRl : 159 ≤ R.locals) {Q : Int → iST → Prop} (hret : ∀ (v : Int) (u : iST) (H : Heap) (locs : List Loc) (ls : Array Slot) (pc : Nat), bz v → Q v u → kW D ca A h0 ad H0 H locs u → decode cX12_areTerms pc = .ok (.ireturn, 1) → W p l e R s m args below meth c H locs 0 0 Qf (F0 m pc ls [.int (jI v)])) {x1 x3 x4 : Int} (rx1 : inR x1) (rx3 : inR x3) (rx4 : inR x4) (hw : kW D ca A h0 ad H0 H locs u) (hl : lv_has ls 5 [(0, .ref h0), (1, .int (jI x1)), (3, .int (jI x3)), (4, .int (jI x4))]) (h : w_areTerms_14 Q x1 x3 x4 u) : W p l e R s m args below meth c H locs 0 0 Qf (F0 m 14 ls []) := by
  refine h (fun x1 x3 x4 u => ∀ (H : Heap) (locs : List Loc) (ls : Array Slot), inR x1 → inR x3 → inR x4 → kW D ca A h0 ad H0 H locs u → lv_has ls 5 [(0, .ref h0), (1, .int (jI x1)), (3, .int (jI x3)), (4, .int (jI x4))] → W p l e R s m args below meth c H locs 0 0 Qf (F0 m 14 ls [])) ?_ H locs ls rx1 rx3 rx4 hw hl
  clear h hl hw rx1 rx3 rx4
  intro x1 x3 x4 u h H locs ls rx1 rx3 rx4 hw hl
  have hR14 : ∀ (x1 : Int) (x3 : Int) (x4 : Int) (u : iST) (H : Heap) (locs : List Loc) (ls : Array Slot), inR x1 → inR x3 → inR x4 → kW D ca A h0 ad H0 H locs u → lv_has ls 5 [(0, .ref h0), (1, .int (jI x1)), (3, .int (jI x3)), (4, .int (jI x4))] → (fun (x1 : Int) (x3 : Int) (x4 : Int) u => ∀ (H : Heap) (locs : List Loc) (ls : Array Slot), inR x1 → inR x3 → inR x4 → kW D ca A h0 ad H0 H locs u → lv_has ls 5 [(0, .ref h0), (1, .int (jI x1)), (3, .int (jI x3)), (4, .int (jI x4))] → W p l e R s m args below meth c H locs 0 0 Qf (F0 m 14 ls [])) x1 x3 x4 u → W p l e R s m args below meth c H locs 0 0 Qf (F0 m 14 ls []) := fun x1 x3 x4 u H locs ls rx1 rx3 rx4 hw hl h => h H locs ls rx1 rx3 rx4 hw hl
  have hx := X.1.1
  have hb := X.1.2.1
  unfold w_areTerms_14b at h
  refine lv_iload hx hb dX12_areTerms_14 (lv_at hl 3 rfl) ?_
  refine lv_iload_n hx hb dX12_areTerms_16 rfl (lv_at hl 2 rfl) ?_
  refine k_icmp_ge hx hb rx4 rx3 dX12_areTerms_17 (tgt := 43) rfl h (fun h => ?_) (fun h => ?_)
  · refine lv_iconst hx hb dX12_areTerms_43 (v := jI 1) rfl ?_
    exact hret _ _ _ _ _ _ h.1 h.2 hw dX12_areTerms_44
  · refine lv_aload_n hx hb dX12_areTerms_20 rfl (lv_at hl 0 rfl) ?_
    refine lv_aload_n hx hb dX12_areTerms_21 rfl (lv_at hl 0 rfl) ?_
    refine lv_iload_n hx hb dX12_areTerms_22 rfl (lv_at hl 1 rfl) ?_
    refine lv_iload hx hb dX12_areTerms_23 (lv_at hl 3 rfl) ?_
    refine kcI (n := 2) (c_nth rx1 rx4 h) G_nth E_nth X hw (Nat.le_trans (Nat.le_of_ble_eq_true rfl) hRf) (Nat.le_trans (Nat.le_of_ble_eq_true rfl) hRl) rfl hl.1 (Nat.le_of_ble_eq_true rfl) rfl dX12_areTerms_25 (fun v2 u H locs rv2 h hw => ?_)
    refine kcI (n := 1) (c_termOf rv2 h) G_termOf E_termOf X hw (Nat.le_trans (Nat.le_of_ble_eq_true rfl) hRf) (Nat.le_trans (Nat.le_of_ble_eq_true rfl) hRl) rfl hl.1 (Nat.le_of_ble_eq_true rfl) rfl dX12_areTerms_28 (fun v3 u H locs rv3 h hw => ?_)
    refine lv_iconst hx hb dX12_areTerms_31 (v := jI (-1)) rfl ?_
    refine k_icmp_ne hx hb rv3 (by decide) dX12_areTerms_32 (tgt := 37) rfl h (fun h => ?_) (fun h => ?_)
    · refine k_iinc (k := 3) hx hb dX12_areTerms_37 hl rfl (by decide) rfl h (fun ls r4 h hl => ?_)
      have hl : lv_has ls 5 [(4, .int (jI (x4 + 1))), (0, .ref (h0)), (1, .int (jI x1)), (3, .int (jI x3))] := hl
      refine lv_goto hx hb dX12_areTerms_40 (tgt := 14) rfl ?_
      exact hR14 _ _ _ _ H locs ls rx1 rx3 r4 hw (lv_sub hl [1, 2, 3, 0] rfl) h
    · refine lv_iconst hx hb dX12_areTerms_35 (v := jI 0) rfl ?_
      exact hret _ _ _ _ _ _ h.1 h.2 hw dX12_areTerms_36

def w_areTerms (a0 : Int) (a1 : Int) (a2 : Int) (Q : Int → iST → Prop) (u : iST) : Prop :=
  w_lengthOf a0 (fun v1 u => 
  br (v1 = a2) (
    w_areTerms_14 Q a0 a2 a1 u) (
    zt 0 (Q 0 u))) u
set_option maxRecDepth 20000 in
set_option maxHeartbeats 4000000 in
theorem b_areTerms_s (X : kX p m c cX12_areTerms 5 s args D ca) (hRf : 7 ≤ R.frames) (hRl : 159 ≤ R.locals) {Q : Int → iST → Prop} (hret : ∀ (v : Int) (u : iST) (H : Heap) (locs : List Loc) (ls : Array Slot) (pc : Nat), bz v → Q v u → kW D ca A h0 ad H0 H locs u → decode cX12_areTerms pc = .ok (.ireturn, 1) → W p l e R s m args below meth c H locs 0 0 Qf (F0 m pc ls [.int (jI v)])) {a0 a1 a2 : Int} (ra0 : inR a0) (ra1 : inR a1) (ra2 : inR a2) (hw : kW D ca A h0 ad H0 H locs u) (hl : lv_has ls 5 [(0, .ref h0), (1, .int (jI a0)), (2, .int (jI a1)), (3, .int (jI a2))]) (h : w_areTerms a0 a1 a2 Q u) : W p l e R s m args below meth c H locs 0 0 Qf (F0 m 0 ls []) := by
  have hx := X.1.1
  have hb := X.1.2.1
  unfold w_areTerms at h
  refine lv_aload_n hx hb dX12_areTerms_0 rfl (lv_at hl 0 rfl) ?_
  refine lv_iload_n hx hb dX12_areTerms_1 rfl (lv_at hl 1 rfl) ?_
  refine kcI (n := 1) (c_lengthOf ra0 h) G_lengthOf E_lengthOf X hw (Nat.le_trans (Nat.le_of_ble_eq_true rfl) hRf) (Nat.le_trans (Nat.le_of_ble_eq_true rfl) hRl) rfl hl.1 (Nat.le_of_ble_eq_true rfl) rfl dX12_areTerms_2 (fun v1 u H locs rv1 h hw => ?_)
  refine lv_iload_n hx hb dX12_areTerms_5 rfl (lv_at hl 3 rfl) ?_
  refine k_icmp_eq hx hb rv1 ra2 dX12_areTerms_6 (tgt := 11) rfl h (fun h => ?_) (fun h => ?_)
  · refine lv_iload_n hx hb dX12_areTerms_11 rfl (lv_at hl 2 rfl) ?_
    refine lv_istore hx hb dX12_areTerms_12 hl (by decide) rfl (fun ls hl => ?_)
    have hl : lv_has ls 5 [(4, .int (jI a1)), (0, .ref (h0)), (1, .int (jI a0)), (2, .int (jI a1)), (3, .int (jI a2))] := hl
    exact b_areTerms_14 X hRf hRl hret ra0 ra2 ra1 hw (lv_sub hl [1, 2, 4, 0] rfl) h
  · refine lv_iconst hx hb dX12_areTerms_9 (v := jI 0) rfl ?_
    exact hret _ _ _ _ _ _ h.1 h.2 hw dX12_areTerms_10

end
theorem c_areTerms {l : Launch} {a0 : Int} {a1 : Int} {a2 : Int} (ra0 : inR a0) (ra1 : inR a1) (ra2 : inR a2) {Q : Int → iST → Prop} {u : iST} (h : w_areTerms a0 a1 a2 Q u) : kMI l yX12_areTerms (.code yX12_areTerms cX12_areTerms 5 (some .boolean) :: wsM) { frames := 7, cells := 0, slots := 0, locals := 159 } [.int (jI a0), .int (jI a1), .int (jI a2)] Q u := kMZ_of rfl (fun _ => Nat.le_of_ble_eq_true rfl) (fun X hRf hRl hret hw hl => b_areTerms_s X hRf hRl hret ra0 ra1 ra2 hw hl h)

/-! isTermList -/
theorem dX12_isTermList_0 : decode cX12_isTermList 0 = .ok (.aload_n 0, 1) := by decide +kernel
theorem dX12_isTermList_1 : decode cX12_isTermList 1 = .ok (.iload_n 1, 1) := by decide +kernel
theorem dX12_isTermList_2 : decode cX12_isTermList 2 = .ok (.invokevirtual 529, 3) := by decide +kernel
theorem dX12_isTermList_5 : decode cX12_isTermList 5 = .ok (.istore_n 2, 1) := by decide +kernel
theorem dX12_isTermList_6 : decode cX12_isTermList 6 = .ok (.iload_n 2, 1) := by decide +kernel
theorem dX12_isTermList_7 : decode cX12_isTermList 7 = .ok (.iconst (-1), 1) := by decide +kernel
theorem dX12_isTermList_8 : decode cX12_isTermList 8 = .ok (.if_icmp .eq 17, 3) := by decide +kernel
theorem dX12_isTermList_11 : decode cX12_isTermList 11 = .ok (.aload_n 0, 1) := by decide +kernel
theorem dX12_isTermList_12 : decode cX12_isTermList 12 = .ok (.iload_n 1, 1) := by decide +kernel
theorem dX12_isTermList_13 : decode cX12_isTermList 13 = .ok (.iconst 0, 1) := by decide +kernel
theorem dX12_isTermList_14 : decode cX12_isTermList 14 = .ok (.iload_n 2, 1) := by decide +kernel
theorem dX12_isTermList_15 : decode cX12_isTermList 15 = .ok (.invokevirtual 914, 3) := by decide +kernel
theorem dX12_isTermList_18 : decode cX12_isTermList 18 = .ok (.ifCond .eq 7, 3) := by decide +kernel
theorem dX12_isTermList_21 : decode cX12_isTermList 21 = .ok (.iconst 1, 1) := by decide +kernel
theorem dX12_isTermList_22 : decode cX12_isTermList 22 = .ok (.goto 4, 3) := by decide +kernel
theorem dX12_isTermList_25 : decode cX12_isTermList 25 = .ok (.iconst 0, 1) := by decide +kernel
theorem dX12_isTermList_26 : decode cX12_isTermList 26 = .ok (.ireturn, 1) := by decide +kernel

section
variable {p : Program} {l : Launch} {e : Env} {R : Room} {s : State} {m : MethodId} {args : Array Value} {below : List Frame} {meth : Method} {c : Code} {H : Heap} {locs : List Loc} {Qf : State → Prop}
variable {ls : Array Slot} {D : va_G} {ca : Nat → ClassId} {A : Nat → Prop} {h0 : Nat} {ad : Nat → Nat} {H0 : Heap} {u : iST}
def w_isTermList (a0 : Int) (Q : Int → iST → Prop) (u : iST) : Prop :=
  w_lengthOf a0 (fun v1 u => 
  br (v1 = (-1)) (
    zt 0 (Q 0 u)) (
    w_areTerms a0 0 v1 (fun v2 u => 
    br (v2 = 0) (
      zt 0 (Q 0 u)) (
      zt 1 (Q 1 u))) u)) u
set_option maxRecDepth 20000 in
set_option maxHeartbeats 4000000 in
theorem b_isTermList_s (X : kX p m c cX12_isTermList 3 s args D ca) (hRf : 8 ≤ R.frames) (hRl : 183 ≤ R.locals) {Q : Int → iST → Prop} (hret : ∀ (v : Int) (u : iST) (H : Heap) (locs : List Loc) (ls : Array Slot) (pc : Nat), bz v → Q v u → kW D ca A h0 ad H0 H locs u → decode cX12_isTermList pc = .ok (.ireturn, 1) → W p l e R s m args below meth c H locs 0 0 Qf (F0 m pc ls [.int (jI v)])) {a0 : Int} (ra0 : inR a0) (hw : kW D ca A h0 ad H0 H locs u) (hl : lv_has ls 3 [(0, .ref h0), (1, .int (jI a0))]) (h : w_isTermList a0 Q u) : W p l e R s m args below meth c H locs 0 0 Qf (F0 m 0 ls []) := by
  have hx := X.1.1
  have hb := X.1.2.1
  unfold w_isTermList at h
  refine lv_aload_n hx hb dX12_isTermList_0 rfl (lv_at hl 0 rfl) ?_
  refine lv_iload_n hx hb dX12_isTermList_1 rfl (lv_at hl 1 rfl) ?_
  refine kcI (n := 1) (c_lengthOf ra0 h) G_lengthOf E_lengthOf X hw (Nat.le_trans (Nat.le_of_ble_eq_true rfl) hRf) (Nat.le_trans (Nat.le_of_ble_eq_true rfl) hRl) rfl hl.1 (Nat.le_of_ble_eq_true rfl) rfl dX12_isTermList_2 (fun v1 u H locs rv1 h hw => ?_)
  refine lv_istore_n hx hb dX12_isTermList_5 rfl hl (by decide) rfl (fun ls hl => ?_)
  have hl : lv_has ls 3 [(2, .int (jI v1)), (0, .ref (h0)), (1, .int (jI a0))] := hl
  refine lv_iload_n hx hb dX12_isTermList_6 rfl (lv_at hl 0 rfl) ?_
  refine lv_iconst hx hb dX12_isTermList_7 (v := jI (-1)) rfl ?_
  refine k_icmp_eq hx hb rv1 (by decide) dX12_isTermList_8 (tgt := 25) rfl h (fun h => ?_) (fun h => ?_)
  · refine lv_iconst hx hb dX12_isTermList_25 (v := jI 0) rfl ?_
    exact hret _ _ _ _ _ _ h.1 h.2 hw dX12_isTermList_26
  · refine lv_aload_n hx hb dX12_isTermList_11 rfl (lv_at hl 1 rfl) ?_
    refine lv_iload_n hx hb dX12_isTermList_12 rfl (lv_at hl 2 rfl) ?_
    refine lv_iconst hx hb dX12_isTermList_13 (v := jI 0) rfl ?_
    refine lv_iload_n hx hb dX12_isTermList_14 rfl (lv_at hl 0 rfl) ?_
    refine kcI (n := 3) (c_areTerms ra0 (by decide) rv1 h) G_areTerms E_areTerms X hw (Nat.le_trans (Nat.le_of_ble_eq_true rfl) hRf) (Nat.le_trans (Nat.le_of_ble_eq_true rfl) hRl) rfl hl.1 (Nat.le_of_ble_eq_true rfl) rfl dX12_isTermList_15 (fun v2 u H locs rv2 h hw => ?_)
    refine k_if_eq hx hb rv2 dX12_isTermList_18 (tgt := 25) rfl h (fun h => ?_) (fun h => ?_)
    · refine lv_iconst hx hb dX12_isTermList_25 (v := jI 0) rfl ?_
      exact hret _ _ _ _ _ _ h.1 h.2 hw dX12_isTermList_26
    · refine lv_iconst hx hb dX12_isTermList_21 (v := jI 1) rfl ?_
      refine lv_goto hx hb dX12_isTermList_22 (tgt := 26) rfl ?_
      exact hret _ _ _ _ _ _ h.1 h.2 hw dX12_isTermList_26

end
theorem c_isTermList {l : Launch} {a0 : Int} (ra0 : inR a0) {Q : Int → iST → Prop} {u : iST} (h : w_isTermList a0 Q u) : kMI l yX12_isTermList (.code yX12_isTermList cX12_isTermList 3 (some .boolean) :: wsM) { frames := 8, cells := 0, slots := 0, locals := 183 } [.int (jI a0)] Q u := kMZ_of rfl (fun _ => Nat.le_of_ble_eq_true rfl) (fun X hRf hRl hret hw hl => b_isTermList_s X hRf hRl hret ra0 hw hl h)

/-! told -/
theorem dX12_told_0 : decode cX12_told 0 = .ok (.aload_n 0, 1) := by decide +kernel
theorem dX12_told_1 : decode cX12_told 1 = .ok (.iload_n 1, 1) := by decide +kernel
theorem dX12_told_2 : decode cX12_told 2 = .ok (.invokevirtual 483, 3) := by decide +kernel
theorem dX12_told_5 : decode cX12_told 5 = .ok (.ifCond .eq 22, 3) := by decide +kernel
theorem dX12_told_8 : decode cX12_told 8 = .ok (.aload_n 0, 1) := by decide +kernel
theorem dX12_told_9 : decode cX12_told 9 = .ok (.getfield 8, 3) := by decide +kernel
theorem dX12_told_12 : decode cX12_told 12 = .ok (.iload_n 1, 1) := by decide +kernel
theorem dX12_told_13 : decode cX12_told 13 = .ok (.iaload, 1) := by decide +kernel
theorem dX12_told_14 : decode cX12_told 14 = .ok (.bipush 16, 2) := by decide +kernel
theorem dX12_told_16 : decode cX12_told 16 = .ok (.if_icmp .gt 11, 3) := by decide +kernel
theorem dX12_told_19 : decode cX12_told 19 = .ok (.aload_n 0, 1) := by decide +kernel
theorem dX12_told_20 : decode cX12_told 20 = .ok (.iload_n 1, 1) := by decide +kernel
theorem dX12_told_21 : decode cX12_told 21 = .ok (.invokevirtual 681, 3) := by decide +kernel
theorem dX12_told_24 : decode cX12_told 24 = .ok (.ifCond .ne 5, 3) := by decide +kernel
theorem dX12_told_27 : decode cX12_told 27 = .ok (.iconst (-1), 1) := by decide +kernel
theorem dX12_told_28 : decode cX12_told 28 = .ok (.ireturn, 1) := by decide +kernel
theorem dX12_told_29 : decode cX12_told 29 = .ok (.aload_n 0, 1) := by decide +kernel
theorem dX12_told_30 : decode cX12_told 30 = .ok (.getfield 8, 3) := by decide +kernel
theorem dX12_told_33 : decode cX12_told 33 = .ok (.iload_n 1, 1) := by decide +kernel
theorem dX12_told_34 : decode cX12_told 34 = .ok (.iaload, 1) := by decide +kernel
theorem dX12_told_35 : decode cX12_told 35 = .ok (.iconst 3, 1) := by decide +kernel
theorem dX12_told_36 : decode cX12_told 36 = .ok (.if_icmp .ne 31, 3) := by decide +kernel
theorem dX12_told_39 : decode cX12_told 39 = .ok (.aload_n 0, 1) := by decide +kernel
theorem dX12_told_40 : decode cX12_told 40 = .ok (.aload_n 0, 1) := by decide +kernel
theorem dX12_told_41 : decode cX12_told 41 = .ok (.iload_n 1, 1) := by decide +kernel
theorem dX12_told_42 : decode cX12_told 42 = .ok (.aload_n 0, 1) := by decide +kernel
theorem dX12_told_43 : decode cX12_told 43 = .ok (.aload_n 0, 1) := by decide +kernel
theorem dX12_told_44 : decode cX12_told 44 = .ok (.iload_n 1, 1) := by decide +kernel
theorem dX12_told_45 : decode cX12_told 45 = .ok (.iconst 1, 1) := by decide +kernel
theorem dX12_told_46 : decode cX12_told 46 = .ok (.invokevirtual 592, 3) := by decide +kernel
theorem dX12_told_49 : decode cX12_told 49 = .ok (.invokevirtual 567, 3) := by decide +kernel
theorem dX12_told_52 : decode cX12_told 52 = .ok (.ifCond .ne 7, 3) := by decide +kernel
theorem dX12_told_55 : decode cX12_told 55 = .ok (.iconst 3, 1) := by decide +kernel
theorem dX12_told_56 : decode cX12_told 56 = .ok (.goto 4, 3) := by decide +kernel
theorem dX12_told_59 : decode cX12_told 59 = .ok (.iconst 2, 1) := by decide +kernel
theorem dX12_told_60 : decode cX12_told 60 = .ok (.invokevirtual 592, 3) := by decide +kernel
theorem dX12_told_63 : decode cX12_told 63 = .ok (.invokevirtual 567, 3) := by decide +kernel
theorem dX12_told_66 : decode cX12_told 66 = .ok (.ireturn, 1) := by decide +kernel
theorem dX12_told_67 : decode cX12_told 67 = .ok (.aload_n 0, 1) := by decide +kernel
theorem dX12_told_68 : decode cX12_told 68 = .ok (.iload_n 1, 1) := by decide +kernel
theorem dX12_told_69 : decode cX12_told 69 = .ok (.aload_n 0, 1) := by decide +kernel
theorem dX12_told_70 : decode cX12_told 70 = .ok (.getfield 8, 3) := by decide +kernel
theorem dX12_told_73 : decode cX12_told 73 = .ok (.iload_n 1, 1) := by decide +kernel
theorem dX12_told_74 : decode cX12_told 74 = .ok (.iaload, 1) := by decide +kernel
theorem dX12_told_75 : decode cX12_told 75 = .ok (.invokevirtual 684, 3) := by decide +kernel
theorem dX12_told_78 : decode cX12_told 78 = .ok (.ireturn, 1) := by decide +kernel

section
variable {p : Program} {l : Launch} {e : Env} {R : Room} {s : State} {m : MethodId} {args : Array Value} {below : List Frame} {meth : Method} {c : Code} {H : Heap} {locs : List Loc} {Qf : State → Prop}
variable {ls : Array Slot} {D : va_G} {ca : Nat → ClassId} {A : Nat → Prop} {h0 : Nat} {ad : Nat → Nat} {H0 : Heap} {u : iST}
def w_told_60 (Q : Int → iST → Prop) (y2 : Int) (y3 : Int) (u : iST) : Prop :=
  w_term y2 y3 (fun v9 u => 
  w_valueOf v9 (fun v10 u => 
  Q v10 u) u) u
set_option maxRecDepth 20000 in
set_option maxHeartbeats 4000000 in
theorem b_told_60 (X : kX p m c cX12_told 2 s args D ca) (hRf : 4 ≤ R.frames) (hRl : 94 ≤ R.locals) {Q : Int → iST → Prop} (hret : ∀ (v : Int) (u : iST) (H : Heap) (locs : List Loc) (ls : Array Slot) (pc : Nat), inR v → Q v u → kW D ca A h0 ad H0 H locs u → decode cX12_told pc = .ok (.ireturn, 1) → W p l e R s m args below meth c H locs 0 0 Qf (F0 m pc ls [.int (jI v)])) {y2 y3 : Int} (ry2 : inR y2) (ry3 : inR y3) (hw : kW D ca A h0 ad H0 H locs u) (hl : lv_has ls 2 [(0, .ref h0)]) (h : w_told_60 Q y2 y3 u) : W p l e R s m args below meth c H locs 0 0 Qf (F0 m 60 ls [.int (jI y3), .int (jI y2), .ref (h0), .ref (h0)]) := by
  have hx := X.1.1
  have hb := X.1.2.1
  unfold w_told_60 at h
  refine kcI (n := 2) (c_term ry2 ry3 h) G_term E_term X hw (Nat.le_trans (Nat.le_of_ble_eq_true rfl) hRf) (Nat.le_trans (Nat.le_of_ble_eq_true rfl) hRl) rfl hl.1 (Nat.le_of_ble_eq_true rfl) rfl dX12_told_60 (fun v9 u H locs rv9 h hw => ?_)
  refine kcI (n := 1) (c_valueOf rv9 h) G_valueOf E_valueOf X hw (Nat.le_trans (Nat.le_of_ble_eq_true rfl) hRf) (Nat.le_trans (Nat.le_of_ble_eq_true rfl) hRl) rfl hl.1 (Nat.le_of_ble_eq_true rfl) rfl dX12_told_63 (fun v10 u H locs rv10 h hw => ?_)
  exact hret _ _ _ _ _ _ rv10 h hw dX12_told_66

def w_told (a0 : Int) (Q : Int → iST → Prop) (u : iST) : Prop :=
  w_isCall a0 (fun v1 u => 
  br (v1 = 0) (
    Q (-1) u) (
    bd a0 452000 (rd (u.2.1 0 a0) (fun v2 => 
    br (16 < v2) (
      Q (-1) u) (
      w_areConstants a0 (fun v3 u => 
      br (v3 ≠ 0) (
        bd a0 452000 (rd (u.2.1 0 a0) (fun v4 => 
        br (v4 ≠ 3) (
          bd a0 452000 (rd (u.2.1 0 a0) (fun v5 => 
          w_constantValue a0 v5 (fun v6 u => 
          Q v6 u) u))) (
          w_term a0 1 (fun v7 u => 
          w_valueOf v7 (fun v8 u => 
          br (v8 ≠ 0) (
            w_told_60 Q a0 2 u) (
            w_told_60 Q a0 3 u)) u) u)))) (
        Q (-1) u)) u))))) u
set_option maxRecDepth 20000 in
set_option maxHeartbeats 4000000 in
theorem b_told_s (X : kX p m c cX12_told 2 s args D ca) (hRf : 4 ≤ R.frames) (hRl : 94 ≤ R.locals) {Q : Int → iST → Prop} (hret : ∀ (v : Int) (u : iST) (H : Heap) (locs : List Loc) (ls : Array Slot) (pc : Nat), inR v → Q v u → kW D ca A h0 ad H0 H locs u → decode cX12_told pc = .ok (.ireturn, 1) → W p l e R s m args below meth c H locs 0 0 Qf (F0 m pc ls [.int (jI v)])) {a0 : Int} (ra0 : inR a0) (hw : kW D ca A h0 ad H0 H locs u) (hl : lv_has ls 2 [(0, .ref h0), (1, .int (jI a0))]) (h : w_told a0 Q u) : W p l e R s m args below meth c H locs 0 0 Qf (F0 m 0 ls []) := by
  have hx := X.1.1
  have hb := X.1.2.1
  unfold w_told at h
  refine lv_aload_n hx hb dX12_told_0 rfl (lv_at hl 0 rfl) ?_
  refine lv_iload_n hx hb dX12_told_1 rfl (lv_at hl 1 rfl) ?_
  refine kcI (n := 1) (c_isCall ra0 h) G_isCall E_isCall X hw (Nat.le_trans (Nat.le_of_ble_eq_true rfl) hRf) (Nat.le_trans (Nat.le_of_ble_eq_true rfl) hRl) rfl hl.1 (Nat.le_of_ble_eq_true rfl) rfl dX12_told_2 (fun v1 u H locs rv1 h hw => ?_)
  refine k_if_eq hx hb rv1 dX12_told_5 (tgt := 27) rfl h (fun h => ?_) (fun h => ?_)
  · refine lv_iconst hx hb dX12_told_27 (v := jI (-1)) rfl ?_
    exact hret _ _ _ _ _ _ (by decide) h hw dX12_told_28
  · refine lv_aload_n hx hb dX12_told_8 rfl (lv_at hl 0 rfl) ?_
    refine gA 0 8 (by decide) L_0 (fun _ _ => mF_0) rfl X hw dX12_told_9 ?_
    refine lv_iload_n hx hb dX12_told_12 rfl (lv_at hl 1 rfl) ?_
    refine aL 0 1 0 452000 (fun _ _ _ _ => mG_0) (fun _ => rfl) X hw ra0 dX12_told_13 rfl h (fun v2 rv2 h => ?_)
    refine lv_bipush hx hb dX12_told_14 (v := jI 16) rfl ?_
    refine k_icmp_gt hx hb rv2 (by decide) dX12_told_16 (tgt := 27) rfl h (fun h => ?_) (fun h => ?_)
    · refine lv_iconst hx hb dX12_told_27 (v := jI (-1)) rfl ?_
      exact hret _ _ _ _ _ _ (by decide) h hw dX12_told_28
    · refine lv_aload_n hx hb dX12_told_19 rfl (lv_at hl 0 rfl) ?_
      refine lv_iload_n hx hb dX12_told_20 rfl (lv_at hl 1 rfl) ?_
      refine kcI (n := 1) (c_areConstants ra0 h) G_areConstants E_areConstants X hw (Nat.le_trans (Nat.le_of_ble_eq_true rfl) hRf) (Nat.le_trans (Nat.le_of_ble_eq_true rfl) hRl) rfl hl.1 (Nat.le_of_ble_eq_true rfl) rfl dX12_told_21 (fun v3 u H locs rv3 h hw => ?_)
      refine k_if_ne hx hb rv3 dX12_told_24 (tgt := 29) rfl h (fun h => ?_) (fun h => ?_)
      · refine lv_aload_n hx hb dX12_told_29 rfl (lv_at hl 0 rfl) ?_
        refine gA 0 8 (by decide) L_0 (fun _ _ => mF_0) rfl X hw dX12_told_30 ?_
        refine lv_iload_n hx hb dX12_told_33 rfl (lv_at hl 1 rfl) ?_
        refine aL 0 1 0 452000 (fun _ _ _ _ => mG_0) (fun _ => rfl) X hw ra0 dX12_told_34 rfl h (fun v4 rv4 h => ?_)
        refine lv_iconst hx hb dX12_told_35 (v := jI 3) rfl ?_
        refine k_icmp_ne hx hb rv4 (by decide) dX12_told_36 (tgt := 67) rfl h (fun h => ?_) (fun h => ?_)
        · refine lv_aload_n hx hb dX12_told_67 rfl (lv_at hl 0 rfl) ?_
          refine lv_iload_n hx hb dX12_told_68 rfl (lv_at hl 1 rfl) ?_
          refine lv_aload_n hx hb dX12_told_69 rfl (lv_at hl 0 rfl) ?_
          refine gA 0 8 (by decide) L_0 (fun _ _ => mF_0) rfl X hw dX12_told_70 ?_
          refine lv_iload_n hx hb dX12_told_73 rfl (lv_at hl 1 rfl) ?_
          refine aL 0 1 0 452000 (fun _ _ _ _ => mG_0) (fun _ => rfl) X hw ra0 dX12_told_74 rfl h (fun v5 rv5 h => ?_)
          refine kcI (n := 2) (c_constantValue ra0 rv5 h) G_constantValue E_constantValue X hw (Nat.le_trans (Nat.le_of_ble_eq_true rfl) hRf) (Nat.le_trans (Nat.le_of_ble_eq_true rfl) hRl) rfl hl.1 (Nat.le_of_ble_eq_true rfl) rfl dX12_told_75 (fun v6 u H locs rv6 h hw => ?_)
          exact hret _ _ _ _ _ _ rv6 h hw dX12_told_78
        · refine lv_aload_n hx hb dX12_told_39 rfl (lv_at hl 0 rfl) ?_
          refine lv_aload_n hx hb dX12_told_40 rfl (lv_at hl 0 rfl) ?_
          refine lv_iload_n hx hb dX12_told_41 rfl (lv_at hl 1 rfl) ?_
          refine lv_aload_n hx hb dX12_told_42 rfl (lv_at hl 0 rfl) ?_
          refine lv_aload_n hx hb dX12_told_43 rfl (lv_at hl 0 rfl) ?_
          refine lv_iload_n hx hb dX12_told_44 rfl (lv_at hl 1 rfl) ?_
          refine lv_iconst hx hb dX12_told_45 (v := jI 1) rfl ?_
          refine kcI (n := 2) (c_term ra0 (by decide) h) G_term E_term X hw (Nat.le_trans (Nat.le_of_ble_eq_true rfl) hRf) (Nat.le_trans (Nat.le_of_ble_eq_true rfl) hRl) rfl hl.1 (Nat.le_of_ble_eq_true rfl) rfl dX12_told_46 (fun v7 u H locs rv7 h hw => ?_)
          refine kcI (n := 1) (c_valueOf rv7 h) G_valueOf E_valueOf X hw (Nat.le_trans (Nat.le_of_ble_eq_true rfl) hRf) (Nat.le_trans (Nat.le_of_ble_eq_true rfl) hRl) rfl hl.1 (Nat.le_of_ble_eq_true rfl) rfl dX12_told_49 (fun v8 u H locs rv8 h hw => ?_)
          refine k_if_ne hx hb rv8 dX12_told_52 (tgt := 59) rfl h (fun h => ?_) (fun h => ?_)
          · refine lv_iconst hx hb dX12_told_59 (v := jI 2) rfl ?_
            exact b_told_60 X hRf hRl hret ra0 (by decide) hw (lv_sub hl [0] rfl) h
          · refine lv_iconst hx hb dX12_told_55 (v := jI 3) rfl ?_
            refine lv_goto hx hb dX12_told_56 (tgt := 60) rfl ?_
            exact b_told_60 X hRf hRl hret ra0 (by decide) hw (lv_sub hl [0] rfl) h
      · refine lv_iconst hx hb dX12_told_27 (v := jI (-1)) rfl ?_
        exact hret _ _ _ _ _ _ (by decide) h hw dX12_told_28

end
theorem c_told {l : Launch} {a0 : Int} (ra0 : inR a0) {Q : Int → iST → Prop} {u : iST} (h : w_told a0 Q u) : kMI l yX12_told (.code yX12_told cX12_told 2 (some .int) :: wsM) { frames := 4, cells := 0, slots := 0, locals := 94 } [.int (jI a0)] Q u := kMI_of rfl (fun _ => Nat.le_of_ble_eq_true rfl) (fun X hRf hRl hret hw hl => b_told_s X hRf hRl hret ra0 hw hl h)

/-! isInduction -/
theorem dX12_isInduction_0 : decode cX12_isInduction 0 = .ok (.aload_n 0, 1) := by decide +kernel
theorem dX12_isInduction_1 : decode cX12_isInduction 1 = .ok (.iload_n 1, 1) := by decide +kernel
theorem dX12_isInduction_2 : decode cX12_isInduction 2 = .ok (.invokevirtual 529, 3) := by decide +kernel
theorem dX12_isInduction_5 : decode cX12_isInduction 5 = .ok (.istore_n 2, 1) := by decide +kernel
theorem dX12_isInduction_6 : decode cX12_isInduction 6 = .ok (.iload_n 2, 1) := by decide +kernel
theorem dX12_isInduction_7 : decode cX12_isInduction 7 = .ok (.iconst 3, 1) := by decide +kernel
theorem dX12_isInduction_8 : decode cX12_isInduction 8 = .ok (.if_icmp .lt 17, 3) := by decide +kernel
theorem dX12_isInduction_11 : decode cX12_isInduction 11 = .ok (.aload_n 0, 1) := by decide +kernel
theorem dX12_isInduction_12 : decode cX12_isInduction 12 = .ok (.aload_n 0, 1) := by decide +kernel
theorem dX12_isInduction_13 : decode cX12_isInduction 13 = .ok (.iload_n 1, 1) := by decide +kernel
theorem dX12_isInduction_14 : decode cX12_isInduction 14 = .ok (.iconst 1, 1) := by decide +kernel
theorem dX12_isInduction_15 : decode cX12_isInduction 15 = .ok (.invokevirtual 471, 3) := by decide +kernel
theorem dX12_isInduction_18 : decode cX12_isInduction 18 = .ok (.invokevirtual 815, 3) := by decide +kernel
theorem dX12_isInduction_21 : decode cX12_isInduction 21 = .ok (.iconst (-1), 1) := by decide +kernel
theorem dX12_isInduction_22 : decode cX12_isInduction 22 = .ok (.if_icmp .ne 5, 3) := by decide +kernel
theorem dX12_isInduction_25 : decode cX12_isInduction 25 = .ok (.iconst 0, 1) := by decide +kernel
theorem dX12_isInduction_26 : decode cX12_isInduction 26 = .ok (.ireturn, 1) := by decide +kernel
theorem dX12_isInduction_27 : decode cX12_isInduction 27 = .ok (.aload_n 0, 1) := by decide +kernel
theorem dX12_isInduction_28 : decode cX12_isInduction 28 = .ok (.iload_n 1, 1) := by decide +kernel
theorem dX12_isInduction_29 : decode cX12_isInduction 29 = .ok (.iconst 2, 1) := by decide +kernel
theorem dX12_isInduction_30 : decode cX12_isInduction 30 = .ok (.invokevirtual 471, 3) := by decide +kernel
theorem dX12_isInduction_33 : decode cX12_isInduction 33 = .ok (.istore_n 3, 1) := by decide +kernel
theorem dX12_isInduction_34 : decode cX12_isInduction 34 = .ok (.aload_n 0, 1) := by decide +kernel
theorem dX12_isInduction_35 : decode cX12_isInduction 35 = .ok (.iload_n 3, 1) := by decide +kernel
theorem dX12_isInduction_36 : decode cX12_isInduction 36 = .ok (.invokevirtual 365, 3) := by decide +kernel
theorem dX12_isInduction_39 : decode cX12_isInduction 39 = .ok (.ifCond .eq 32, 3) := by decide +kernel
theorem dX12_isInduction_42 : decode cX12_isInduction 42 = .ok (.aload_n 0, 1) := by decide +kernel
theorem dX12_isInduction_43 : decode cX12_isInduction 43 = .ok (.aload_n 0, 1) := by decide +kernel
theorem dX12_isInduction_44 : decode cX12_isInduction 44 = .ok (.getfield 8, 3) := by decide +kernel
theorem dX12_isInduction_47 : decode cX12_isInduction 47 = .ok (.iload_n 3, 1) := by decide +kernel
theorem dX12_isInduction_48 : decode cX12_isInduction 48 = .ok (.iaload, 1) := by decide +kernel
theorem dX12_isInduction_49 : decode cX12_isInduction 49 = .ok (.invokevirtual 809, 3) := by decide +kernel
theorem dX12_isInduction_52 : decode cX12_isInduction 52 = .ok (.ifCond .eq 19, 3) := by decide +kernel
theorem dX12_isInduction_55 : decode cX12_isInduction 55 = .ok (.aload_n 0, 1) := by decide +kernel
theorem dX12_isInduction_56 : decode cX12_isInduction 56 = .ok (.aload_n 0, 1) := by decide +kernel
theorem dX12_isInduction_57 : decode cX12_isInduction 57 = .ok (.getfield 14, 3) := by decide +kernel
theorem dX12_isInduction_60 : decode cX12_isInduction 60 = .ok (.iload_n 3, 1) := by decide +kernel
theorem dX12_isInduction_61 : decode cX12_isInduction 61 = .ok (.iaload, 1) := by decide +kernel
theorem dX12_isInduction_62 : decode cX12_isInduction 62 = .ok (.sipush 1000, 3) := by decide +kernel
theorem dX12_isInduction_65 : decode cX12_isInduction 65 = .ok (.invokevirtual 812, 3) := by decide +kernel
theorem dX12_isInduction_68 : decode cX12_isInduction 68 = .ok (.ifCond .ne 5, 3) := by decide +kernel
theorem dX12_isInduction_71 : decode cX12_isInduction 71 = .ok (.iconst 0, 1) := by decide +kernel
theorem dX12_isInduction_72 : decode cX12_isInduction 72 = .ok (.ireturn, 1) := by decide +kernel
theorem dX12_isInduction_73 : decode cX12_isInduction 73 = .ok (.aload_n 0, 1) := by decide +kernel
theorem dX12_isInduction_74 : decode cX12_isInduction 74 = .ok (.aload_n 0, 1) := by decide +kernel
theorem dX12_isInduction_75 : decode cX12_isInduction 75 = .ok (.getfield 8, 3) := by decide +kernel
theorem dX12_isInduction_78 : decode cX12_isInduction 78 = .ok (.iload_n 3, 1) := by decide +kernel
theorem dX12_isInduction_79 : decode cX12_isInduction 79 = .ok (.iaload, 1) := by decide +kernel
theorem dX12_isInduction_80 : decode cX12_isInduction 80 = .ok (.invokevirtual 827, 3) := by decide +kernel
theorem dX12_isInduction_83 : decode cX12_isInduction 83 = .ok (.istore 4, 2) := by decide +kernel
theorem dX12_isInduction_85 : decode cX12_isInduction 85 = .ok (.iload 4, 2) := by decide +kernel
theorem dX12_isInduction_87 : decode cX12_isInduction 87 = .ok (.iconst (-1), 1) := by decide +kernel
theorem dX12_isInduction_88 : decode cX12_isInduction 88 = .ok (.if_icmp .eq 33, 3) := by decide +kernel
theorem dX12_isInduction_91 : decode cX12_isInduction 91 = .ok (.aload_n 0, 1) := by decide +kernel
theorem dX12_isInduction_92 : decode cX12_isInduction 92 = .ok (.getfield 93, 3) := by decide +kernel
theorem dX12_isInduction_95 : decode cX12_isInduction 95 = .ok (.iload 4, 2) := by decide +kernel
theorem dX12_isInduction_97 : decode cX12_isInduction 97 = .ok (.baload, 1) := by decide +kernel
theorem dX12_isInduction_98 : decode cX12_isInduction 98 = .ok (.ifCond .eq 23, 3) := by decide +kernel
theorem dX12_isInduction_101 : decode cX12_isInduction 101 = .ok (.aload_n 0, 1) := by decide +kernel
theorem dX12_isInduction_102 : decode cX12_isInduction 102 = .ok (.aload_n 0, 1) := by decide +kernel
theorem dX12_isInduction_103 : decode cX12_isInduction 103 = .ok (.getfield 14, 3) := by decide +kernel
theorem dX12_isInduction_106 : decode cX12_isInduction 106 = .ok (.iload_n 3, 1) := by decide +kernel
theorem dX12_isInduction_107 : decode cX12_isInduction 107 = .ok (.iaload, 1) := by decide +kernel
theorem dX12_isInduction_108 : decode cX12_isInduction 108 = .ok (.invokevirtual 529, 3) := by decide +kernel
theorem dX12_isInduction_111 : decode cX12_isInduction 111 = .ok (.aload_n 0, 1) := by decide +kernel
theorem dX12_isInduction_112 : decode cX12_isInduction 112 = .ok (.getfield 81, 3) := by decide +kernel
theorem dX12_isInduction_115 : decode cX12_isInduction 115 = .ok (.iload 4, 2) := by decide +kernel
theorem dX12_isInduction_117 : decode cX12_isInduction 117 = .ok (.iaload, 1) := by decide +kernel
theorem dX12_isInduction_118 : decode cX12_isInduction 118 = .ok (.if_icmp .eq 5, 3) := by decide +kernel
theorem dX12_isInduction_121 : decode cX12_isInduction 121 = .ok (.iconst 0, 1) := by decide +kernel
theorem dX12_isInduction_122 : decode cX12_isInduction 122 = .ok (.ireturn, 1) := by decide +kernel
theorem dX12_isInduction_123 : decode cX12_isInduction 123 = .ok (.aload_n 0, 1) := by decide +kernel
theorem dX12_isInduction_124 : decode cX12_isInduction 124 = .ok (.aload_n 0, 1) := by decide +kernel
theorem dX12_isInduction_125 : decode cX12_isInduction 125 = .ok (.getfield 87, 3) := by decide +kernel
theorem dX12_isInduction_128 : decode cX12_isInduction 128 = .ok (.iload 4, 2) := by decide +kernel
theorem dX12_isInduction_130 : decode cX12_isInduction 130 = .ok (.iaload, 1) := by decide +kernel
theorem dX12_isInduction_131 : decode cX12_isInduction 131 = .ok (.invokevirtual 821, 3) := by decide +kernel
theorem dX12_isInduction_134 : decode cX12_isInduction 134 = .ok (.iload_n 2, 1) := by decide +kernel
theorem dX12_isInduction_135 : decode cX12_isInduction 135 = .ok (.iconst 3, 1) := by decide +kernel
theorem dX12_isInduction_136 : decode cX12_isInduction 136 = .ok (.aload_n 0, 1) := by decide +kernel
theorem dX12_isInduction_137 : decode cX12_isInduction 137 = .ok (.getfield 788, 3) := by decide +kernel
theorem dX12_isInduction_140 : decode cX12_isInduction 140 = .ok (.iadd, 1) := by decide +kernel
theorem dX12_isInduction_141 : decode cX12_isInduction 141 = .ok (.if_icmp .ne 7, 3) := by decide +kernel
theorem dX12_isInduction_144 : decode cX12_isInduction 144 = .ok (.iconst 1, 1) := by decide +kernel
theorem dX12_isInduction_145 : decode cX12_isInduction 145 = .ok (.goto 4, 3) := by decide +kernel
theorem dX12_isInduction_148 : decode cX12_isInduction 148 = .ok (.iconst 0, 1) := by decide +kernel
theorem dX12_isInduction_149 : decode cX12_isInduction 149 = .ok (.ireturn, 1) := by decide +kernel

section
variable {p : Program} {l : Launch} {e : Env} {R : Room} {s : State} {m : MethodId} {args : Array Value} {below : List Frame} {meth : Method} {c : Code} {H : Heap} {locs : List Loc} {Qf : State → Prop}
variable {ls : Array Slot} {D : va_G} {ca : Nat → ClassId} {A : Nat → Prop} {h0 : Nat} {ad : Nat → Nat} {H0 : Heap} {u : iST}
def w_isInduction (a0 : Int) (Q : Int → iST → Prop) (u : iST) : Prop :=
  w_lengthOf a0 (fun v1 u => 
  br (v1 < 3) (
    zt 0 (Q 0 u)) (
    w_nth a0 1 (fun v2 u => 
    w_termOf v2 (fun v3 u => 
    br (v3 ≠ (-1)) (
      w_nth a0 2 (fun v4 u => 
      w_isPair v4 (fun v5 u => 
      br (v5 = 0) (
        zt 0 (Q 0 u)) (
        bd v4 452000 (rd (u.2.1 0 v4) (fun v6 => 
        w_isNewName v6 (fun v7 u => 
        br (v7 = 0) (
          zt 0 (Q 0 u)) (
          bd v4 452000 (rd (u.2.1 1 v4) (fun v8 => 
          w_areVariables v8 1000 (fun v9 u => 
          br (v9 ≠ 0) (
            bd v4 452000 (rd (u.2.1 0 v4) (fun v10 => 
            w_definition v10 (fun v11 u => 
            br (v11 = (-1)) (
              zt 0 (Q 0 u)) (
              bd v11 40 (rz (u.2.1 41 v11) (fun v12 => 
              br (v12 = 0) (
                zt 0 (Q 0 u)) (
                bd v4 452000 (rd (u.2.1 1 v4) (fun v13 => 
                w_lengthOf v13 (fun v14 u => 
                bd v11 40 (rd (u.2.1 37 v11) (fun v15 => 
                br (v14 = v15) (
                  bd v11 40 (rd (u.2.1 39 v11) (fun v16 => 
                  w_pathsOf v16 (fun u => 
                  rd (u.1 126) (fun v18 => 
                  ov (3 + v18) (
                  br (v1 ≠ (3 + v18)) (
                    zt 0 (Q 0 u)) (
                    zt 1 (Q 1 u))))) u))) (
                  zt 0 (Q 0 u))))) u))))))) u))) (
            zt 0 (Q 0 u))) u)))) u)))) u) u) (
      zt 0 (Q 0 u))) u) u)) u
set_option maxRecDepth 20000 in
set_option maxHeartbeats 4000000 in
theorem b_isInduction_s (X : kX p m c cX12_isInduction 5 s args D ca) (hRf : 7 ≤ R.frames) (hRl : 161 ≤ R.locals) {Q : Int → iST → Prop} (hret : ∀ (v : Int) (u : iST) (H : Heap) (locs : List Loc) (ls : Array Slot) (pc : Nat), bz v → Q v u → kW D ca A h0 ad H0 H locs u → decode cX12_isInduction pc = .ok (.ireturn, 1) → W p l e R s m args below meth c H locs 0 0 Qf (F0 m pc ls [.int (jI v)])) {a0 : Int} (ra0 : inR a0) (hw : kW D ca A h0 ad H0 H locs u) (hl : lv_has ls 5 [(0, .ref h0), (1, .int (jI a0))]) (h : w_isInduction a0 Q u) : W p l e R s m args below meth c H locs 0 0 Qf (F0 m 0 ls []) := by
  have hx := X.1.1
  have hb := X.1.2.1
  unfold w_isInduction at h
  refine lv_aload_n hx hb dX12_isInduction_0 rfl (lv_at hl 0 rfl) ?_
  refine lv_iload_n hx hb dX12_isInduction_1 rfl (lv_at hl 1 rfl) ?_
  refine kcI (n := 1) (c_lengthOf ra0 h) G_lengthOf E_lengthOf X hw (Nat.le_trans (Nat.le_of_ble_eq_true rfl) hRf) (Nat.le_trans (Nat.le_of_ble_eq_true rfl) hRl) rfl hl.1 (Nat.le_of_ble_eq_true rfl) rfl dX12_isInduction_2 (fun v1 u H locs rv1 h hw => ?_)
  refine lv_istore_n hx hb dX12_isInduction_5 rfl hl (by decide) rfl (fun ls hl => ?_)
  have hl : lv_has ls 5 [(2, .int (jI v1)), (0, .ref (h0)), (1, .int (jI a0))] := hl
  refine lv_iload_n hx hb dX12_isInduction_6 rfl (lv_at hl 0 rfl) ?_
  refine lv_iconst hx hb dX12_isInduction_7 (v := jI 3) rfl ?_
  refine k_icmp_lt hx hb rv1 (by decide) dX12_isInduction_8 (tgt := 25) rfl h (fun h => ?_) (fun h => ?_)
  · refine lv_iconst hx hb dX12_isInduction_25 (v := jI 0) rfl ?_
    exact hret _ _ _ _ _ _ h.1 h.2 hw dX12_isInduction_26
  · refine lv_aload_n hx hb dX12_isInduction_11 rfl (lv_at hl 1 rfl) ?_
    refine lv_aload_n hx hb dX12_isInduction_12 rfl (lv_at hl 1 rfl) ?_
    refine lv_iload_n hx hb dX12_isInduction_13 rfl (lv_at hl 2 rfl) ?_
    refine lv_iconst hx hb dX12_isInduction_14 (v := jI 1) rfl ?_
    refine kcI (n := 2) (c_nth ra0 (by decide) h) G_nth E_nth X hw (Nat.le_trans (Nat.le_of_ble_eq_true rfl) hRf) (Nat.le_trans (Nat.le_of_ble_eq_true rfl) hRl) rfl hl.1 (Nat.le_of_ble_eq_true rfl) rfl dX12_isInduction_15 (fun v2 u H locs rv2 h hw => ?_)
    refine kcI (n := 1) (c_termOf rv2 h) G_termOf E_termOf X hw (Nat.le_trans (Nat.le_of_ble_eq_true rfl) hRf) (Nat.le_trans (Nat.le_of_ble_eq_true rfl) hRl) rfl hl.1 (Nat.le_of_ble_eq_true rfl) rfl dX12_isInduction_18 (fun v3 u H locs rv3 h hw => ?_)
    refine lv_iconst hx hb dX12_isInduction_21 (v := jI (-1)) rfl ?_
    refine k_icmp_ne hx hb rv3 (by decide) dX12_isInduction_22 (tgt := 27) rfl h (fun h => ?_) (fun h => ?_)
    · refine lv_aload_n hx hb dX12_isInduction_27 rfl (lv_at hl 1 rfl) ?_
      refine lv_iload_n hx hb dX12_isInduction_28 rfl (lv_at hl 2 rfl) ?_
      refine lv_iconst hx hb dX12_isInduction_29 (v := jI 2) rfl ?_
      refine kcI (n := 2) (c_nth ra0 (by decide) h) G_nth E_nth X hw (Nat.le_trans (Nat.le_of_ble_eq_true rfl) hRf) (Nat.le_trans (Nat.le_of_ble_eq_true rfl) hRl) rfl hl.1 (Nat.le_of_ble_eq_true rfl) rfl dX12_isInduction_30 (fun v4 u H locs rv4 h hw => ?_)
      refine lv_istore_n hx hb dX12_isInduction_33 rfl hl (by decide) rfl (fun ls hl => ?_)
      have hl : lv_has ls 5 [(3, .int (jI v4)), (2, .int (jI v1)), (0, .ref (h0)), (1, .int (jI a0))] := hl
      refine lv_aload_n hx hb dX12_isInduction_34 rfl (lv_at hl 2 rfl) ?_
      refine lv_iload_n hx hb dX12_isInduction_35 rfl (lv_at hl 0 rfl) ?_
      refine kcI (n := 1) (c_isPair rv4 h) G_isPair E_isPair X hw (Nat.le_trans (Nat.le_of_ble_eq_true rfl) hRf) (Nat.le_trans (Nat.le_of_ble_eq_true rfl) hRl) rfl hl.1 (Nat.le_of_ble_eq_true rfl) rfl dX12_isInduction_36 (fun v5 u H locs rv5 h hw => ?_)
      refine k_if_eq hx hb rv5 dX12_isInduction_39 (tgt := 71) rfl h (fun h => ?_) (fun h => ?_)
      · refine lv_iconst hx hb dX12_isInduction_71 (v := jI 0) rfl ?_
        exact hret _ _ _ _ _ _ h.1 h.2 hw dX12_isInduction_72
      · refine lv_aload_n hx hb dX12_isInduction_42 rfl (lv_at hl 2 rfl) ?_
        refine lv_aload_n hx hb dX12_isInduction_43 rfl (lv_at hl 2 rfl) ?_
        refine gA 0 8 (by decide) L_0 (fun _ _ => mF_0) rfl X hw dX12_isInduction_44 ?_
        refine lv_iload_n hx hb dX12_isInduction_47 rfl (lv_at hl 0 rfl) ?_
        refine aL 0 1 0 452000 (fun _ _ _ _ => mG_0) (fun _ => rfl) X hw rv4 dX12_isInduction_48 rfl h (fun v6 rv6 h => ?_)
        refine kcI (n := 1) (c_isNewName rv6 h) G_isNewName E_isNewName X hw (Nat.le_trans (Nat.le_of_ble_eq_true rfl) hRf) (Nat.le_trans (Nat.le_of_ble_eq_true rfl) hRl) rfl hl.1 (Nat.le_of_ble_eq_true rfl) rfl dX12_isInduction_49 (fun v7 u H locs rv7 h hw => ?_)
        refine k_if_eq hx hb rv7 dX12_isInduction_52 (tgt := 71) rfl h (fun h => ?_) (fun h => ?_)
        · refine lv_iconst hx hb dX12_isInduction_71 (v := jI 0) rfl ?_
          exact hret _ _ _ _ _ _ h.1 h.2 hw dX12_isInduction_72
        · refine lv_aload_n hx hb dX12_isInduction_55 rfl (lv_at hl 2 rfl) ?_
          refine lv_aload_n hx hb dX12_isInduction_56 rfl (lv_at hl 2 rfl) ?_
          refine gA 1 14 (by decide) L_1 (fun _ _ => mF_1) rfl X hw dX12_isInduction_57 ?_
          refine lv_iload_n hx hb dX12_isInduction_60 rfl (lv_at hl 0 rfl) ?_
          refine aL 1 2 1 452000 (fun _ _ _ _ => mG_1) (fun _ => rfl) X hw rv4 dX12_isInduction_61 rfl h (fun v8 rv8 h => ?_)
          refine lv_sipush hx hb dX12_isInduction_62 (v := jI 1000) rfl ?_
          refine kcI (n := 2) (c_areVariables rv8 (by decide) h) G_areVariables E_areVariables X hw (Nat.le_trans (Nat.le_of_ble_eq_true rfl) hRf) (Nat.le_trans (Nat.le_of_ble_eq_true rfl) hRl) rfl hl.1 (Nat.le_of_ble_eq_true rfl) rfl dX12_isInduction_65 (fun v9 u H locs rv9 h hw => ?_)
          refine k_if_ne hx hb rv9 dX12_isInduction_68 (tgt := 73) rfl h (fun h => ?_) (fun h => ?_)
          · refine lv_aload_n hx hb dX12_isInduction_73 rfl (lv_at hl 2 rfl) ?_
            refine lv_aload_n hx hb dX12_isInduction_74 rfl (lv_at hl 2 rfl) ?_
            refine gA 0 8 (by decide) L_0 (fun _ _ => mF_0) rfl X hw dX12_isInduction_75 ?_
            refine lv_iload_n hx hb dX12_isInduction_78 rfl (lv_at hl 0 rfl) ?_
            refine aL 0 1 0 452000 (fun _ _ _ _ => mG_0) (fun _ => rfl) X hw rv4 dX12_isInduction_79 rfl h (fun v10 rv10 h => ?_)
            refine kcI (n := 1) (c_definition rv10 h) G_definition E_definition X hw (Nat.le_trans (Nat.le_of_ble_eq_true rfl) hRf) (Nat.le_trans (Nat.le_of_ble_eq_true rfl) hRl) rfl hl.1 (Nat.le_of_ble_eq_true rfl) rfl dX12_isInduction_80 (fun v11 u H locs rv11 h hw => ?_)
            refine lv_istore hx hb dX12_isInduction_83 hl (by decide) rfl (fun ls hl => ?_)
            have hl : lv_has ls 5 [(4, .int (jI v11)), (3, .int (jI v4)), (2, .int (jI v1)), (0, .ref (h0)), (1, .int (jI a0))] := hl
            refine lv_iload hx hb dX12_isInduction_85 (lv_at hl 0 rfl) ?_
            refine lv_iconst hx hb dX12_isInduction_87 (v := jI (-1)) rfl ?_
            refine k_icmp_eq hx hb rv11 (by decide) dX12_isInduction_88 (tgt := 121) rfl h (fun h => ?_) (fun h => ?_)
            · refine lv_iconst hx hb dX12_isInduction_121 (v := jI 0) rfl ?_
              exact hret _ _ _ _ _ _ h.1 h.2 hw dX12_isInduction_122
            · refine lv_aload_n hx hb dX12_isInduction_91 rfl (lv_at hl 3 rfl) ?_
              refine gA 41 93 (by decide) L_41 (fun _ _ => mF_41) rfl X hw dX12_isInduction_92 ?_
              refine lv_iload hx hb dX12_isInduction_95 (lv_at hl 0 rfl) ?_
              refine aZ 41 26 25 40 (fun _ _ _ _ => mG_41) (fun _ => rfl) (by decide) X hw rv11 dX12_isInduction_97 rfl h (fun v12 rv12 h => ?_)
              refine k_if_eq hx hb (bz_in rv12) dX12_isInduction_98 (tgt := 121) rfl h (fun h => ?_) (fun h => ?_)
              · refine lv_iconst hx hb dX12_isInduction_121 (v := jI 0) rfl ?_
                exact hret _ _ _ _ _ _ h.1 h.2 hw dX12_isInduction_122
              · refine lv_aload_n hx hb dX12_isInduction_101 rfl (lv_at hl 3 rfl) ?_
                refine lv_aload_n hx hb dX12_isInduction_102 rfl (lv_at hl 3 rfl) ?_
                refine gA 1 14 (by decide) L_1 (fun _ _ => mF_1) rfl X hw dX12_isInduction_103 ?_
                refine lv_iload_n hx hb dX12_isInduction_106 rfl (lv_at hl 1 rfl) ?_
                refine aL 1 2 1 452000 (fun _ _ _ _ => mG_1) (fun _ => rfl) X hw rv4 dX12_isInduction_107 rfl h (fun v13 rv13 h => ?_)
                refine kcI (n := 1) (c_lengthOf rv13 h) G_lengthOf E_lengthOf X hw (Nat.le_trans (Nat.le_of_ble_eq_true rfl) hRf) (Nat.le_trans (Nat.le_of_ble_eq_true rfl) hRl) rfl hl.1 (Nat.le_of_ble_eq_true rfl) rfl dX12_isInduction_108 (fun v14 u H locs rv14 h hw => ?_)
                refine lv_aload_n hx hb dX12_isInduction_111 rfl (lv_at hl 3 rfl) ?_
                refine gA 37 81 (by decide) L_37 (fun _ _ => mF_37) rfl X hw dX12_isInduction_112 ?_
                refine lv_iload hx hb dX12_isInduction_115 (lv_at hl 0 rfl) ?_
                refine aL 37 22 21 40 (fun _ _ _ _ => mG_37) (fun _ => rfl) X hw rv11 dX12_isInduction_117 rfl h (fun v15 rv15 h => ?_)
                refine k_icmp_eq hx hb rv14 rv15 dX12_isInduction_118 (tgt := 123) rfl h (fun h => ?_) (fun h => ?_)
                · refine lv_aload_n hx hb dX12_isInduction_123 rfl (lv_at hl 3 rfl) ?_
                  refine lv_aload_n hx hb dX12_isInduction_124 rfl (lv_at hl 3 rfl) ?_
                  refine gA 39 87 (by decide) L_39 (fun _ _ => mF_39) rfl X hw dX12_isInduction_125 ?_
                  refine lv_iload hx hb dX12_isInduction_128 (lv_at hl 0 rfl) ?_
                  refine aL 39 24 23 40 (fun _ _ _ _ => mG_39) (fun _ => rfl) X hw rv11 dX12_isInduction_130 rfl h (fun v16 rv16 h => ?_)
                  refine kcV (n := 1) (c_pathsOf rv16 h) G_pathsOf E_pathsOf X hw (Nat.le_trans (Nat.le_of_ble_eq_true rfl) hRf) (Nat.le_trans (Nat.le_of_ble_eq_true rfl) hRl) rfl hl.1 (Nat.le_of_ble_eq_true rfl) rfl dX12_isInduction_131 (fun u H locs h hw => ?_)
                  refine lv_iload_n hx hb dX12_isInduction_134 rfl (lv_at hl 2 rfl) ?_
                  refine lv_iconst hx hb dX12_isInduction_135 (v := jI 3) rfl ?_
                  refine lv_aload_n hx hb dX12_isInduction_136 rfl (lv_at hl 3 rfl) ?_
                  refine gS 126 788 (by decide) L_126 (fun _ _ => mF_126) rfl X hw dX12_isInduction_137 h (fun v18 rv18 h => ?_)
                  refine k_iadd hx hb dX12_isInduction_140 h (fun r19 h => ?_)
                  refine k_icmp_ne hx hb rv1 r19 dX12_isInduction_141 (tgt := 148) rfl h (fun h => ?_) (fun h => ?_)
                  · refine lv_iconst hx hb dX12_isInduction_148 (v := jI 0) rfl ?_
                    exact hret _ _ _ _ _ _ h.1 h.2 hw dX12_isInduction_149
                  · refine lv_iconst hx hb dX12_isInduction_144 (v := jI 1) rfl ?_
                    refine lv_goto hx hb dX12_isInduction_145 (tgt := 149) rfl ?_
                    exact hret _ _ _ _ _ _ h.1 h.2 hw dX12_isInduction_149
                · refine lv_iconst hx hb dX12_isInduction_121 (v := jI 0) rfl ?_
                  exact hret _ _ _ _ _ _ h.1 h.2 hw dX12_isInduction_122
          · refine lv_iconst hx hb dX12_isInduction_71 (v := jI 0) rfl ?_
            exact hret _ _ _ _ _ _ h.1 h.2 hw dX12_isInduction_72
    · refine lv_iconst hx hb dX12_isInduction_25 (v := jI 0) rfl ?_
      exact hret _ _ _ _ _ _ h.1 h.2 hw dX12_isInduction_26

end
theorem c_isInduction {l : Launch} {a0 : Int} (ra0 : inR a0) {Q : Int → iST → Prop} {u : iST} (h : w_isInduction a0 Q u) : kMI l yX12_isInduction (.code yX12_isInduction cX12_isInduction 5 (some .boolean) :: wsM) { frames := 7, cells := 0, slots := 0, locals := 161 } [.int (jI a0)] Q u := kMZ_of rfl (fun _ => Nat.le_of_ble_eq_true rfl) (fun X hRf hRl hret hw hl => b_isInduction_s X hRf hRl hret ra0 hw hl h)

/-! isForm -/
theorem dX12_isForm_0 : decode cX12_isForm 0 = .ok (.aload_n 0, 1) := by decide +kernel
theorem dX12_isForm_1 : decode cX12_isForm 1 = .ok (.iload_n 1, 1) := by decide +kernel
theorem dX12_isForm_2 : decode cX12_isForm 2 = .ok (.invokevirtual 529, 3) := by decide +kernel
theorem dX12_isForm_5 : decode cX12_isForm 5 = .ok (.istore_n 2, 1) := by decide +kernel
theorem dX12_isForm_6 : decode cX12_isForm 6 = .ok (.iload_n 2, 1) := by decide +kernel
theorem dX12_isForm_7 : decode cX12_isForm 7 = .ok (.iconst 1, 1) := by decide +kernel
theorem dX12_isForm_8 : decode cX12_isForm 8 = .ok (.if_icmp .ge 5, 3) := by decide +kernel
theorem dX12_isForm_11 : decode cX12_isForm 11 = .ok (.iconst 0, 1) := by decide +kernel
theorem dX12_isForm_12 : decode cX12_isForm 12 = .ok (.ireturn, 1) := by decide +kernel
theorem dX12_isForm_13 : decode cX12_isForm 13 = .ok (.aload_n 0, 1) := by decide +kernel
theorem dX12_isForm_14 : decode cX12_isForm 14 = .ok (.getfield 8, 3) := by decide +kernel
theorem dX12_isForm_17 : decode cX12_isForm 17 = .ok (.iload_n 1, 1) := by decide +kernel
theorem dX12_isForm_18 : decode cX12_isForm 18 = .ok (.iaload, 1) := by decide +kernel
theorem dX12_isForm_19 : decode cX12_isForm 19 = .ok (.tableswitch 295 27 43 #[289, 295, 81, 81, 89, 123, 123, 123, 131, 131, 139, 164, 189, 213, 238, 267, 278], 81) := by decide +kernel
theorem dX12_isForm_100 : decode cX12_isForm 100 = .ok (.aload_n 0, 1) := by decide +kernel
theorem dX12_isForm_101 : decode cX12_isForm 101 = .ok (.iload_n 1, 1) := by decide +kernel
theorem dX12_isForm_102 : decode cX12_isForm 102 = .ok (.iconst 1, 1) := by decide +kernel
theorem dX12_isForm_103 : decode cX12_isForm 103 = .ok (.iconst 2, 1) := by decide +kernel
theorem dX12_isForm_104 : decode cX12_isForm 104 = .ok (.invokevirtual 914, 3) := by decide +kernel
theorem dX12_isForm_107 : decode cX12_isForm 107 = .ok (.ireturn, 1) := by decide +kernel
theorem dX12_isForm_108 : decode cX12_isForm 108 = .ok (.aload_n 0, 1) := by decide +kernel
theorem dX12_isForm_109 : decode cX12_isForm 109 = .ok (.iload_n 1, 1) := by decide +kernel
theorem dX12_isForm_110 : decode cX12_isForm 110 = .ok (.iconst 1, 1) := by decide +kernel
theorem dX12_isForm_111 : decode cX12_isForm 111 = .ok (.iconst 2, 1) := by decide +kernel
theorem dX12_isForm_112 : decode cX12_isForm 112 = .ok (.invokevirtual 914, 3) := by decide +kernel
theorem dX12_isForm_115 : decode cX12_isForm 115 = .ok (.ifCond .eq 25, 3) := by decide +kernel
theorem dX12_isForm_118 : decode cX12_isForm 118 = .ok (.aload_n 0, 1) := by decide +kernel
theorem dX12_isForm_119 : decode cX12_isForm 119 = .ok (.aload_n 0, 1) := by decide +kernel
theorem dX12_isForm_120 : decode cX12_isForm 120 = .ok (.aload_n 0, 1) := by decide +kernel
theorem dX12_isForm_121 : decode cX12_isForm 121 = .ok (.iload_n 1, 1) := by decide +kernel
theorem dX12_isForm_122 : decode cX12_isForm 122 = .ok (.iconst 1, 1) := by decide +kernel
theorem dX12_isForm_123 : decode cX12_isForm 123 = .ok (.invokevirtual 471, 3) := by decide +kernel
theorem dX12_isForm_126 : decode cX12_isForm 126 = .ok (.invokevirtual 815, 3) := by decide +kernel
theorem dX12_isForm_129 : decode cX12_isForm 129 = .ok (.invokevirtual 917, 3) := by decide +kernel
theorem dX12_isForm_132 : decode cX12_isForm 132 = .ok (.iconst (-1), 1) := by decide +kernel
theorem dX12_isForm_133 : decode cX12_isForm 133 = .ok (.if_icmp .eq 7, 3) := by decide +kernel
theorem dX12_isForm_136 : decode cX12_isForm 136 = .ok (.iconst 1, 1) := by decide +kernel
theorem dX12_isForm_137 : decode cX12_isForm 137 = .ok (.goto 4, 3) := by decide +kernel
theorem dX12_isForm_140 : decode cX12_isForm 140 = .ok (.iconst 0, 1) := by decide +kernel
theorem dX12_isForm_141 : decode cX12_isForm 141 = .ok (.ireturn, 1) := by decide +kernel
theorem dX12_isForm_142 : decode cX12_isForm 142 = .ok (.aload_n 0, 1) := by decide +kernel
theorem dX12_isForm_143 : decode cX12_isForm 143 = .ok (.iload_n 1, 1) := by decide +kernel
theorem dX12_isForm_144 : decode cX12_isForm 144 = .ok (.iconst 1, 1) := by decide +kernel
theorem dX12_isForm_145 : decode cX12_isForm 145 = .ok (.iconst 3, 1) := by decide +kernel
theorem dX12_isForm_146 : decode cX12_isForm 146 = .ok (.invokevirtual 914, 3) := by decide +kernel
theorem dX12_isForm_149 : decode cX12_isForm 149 = .ok (.ireturn, 1) := by decide +kernel
theorem dX12_isForm_150 : decode cX12_isForm 150 = .ok (.aload_n 0, 1) := by decide +kernel
theorem dX12_isForm_151 : decode cX12_isForm 151 = .ok (.iload_n 1, 1) := by decide +kernel
theorem dX12_isForm_152 : decode cX12_isForm 152 = .ok (.iconst 1, 1) := by decide +kernel
theorem dX12_isForm_153 : decode cX12_isForm 153 = .ok (.iconst 4, 1) := by decide +kernel
theorem dX12_isForm_154 : decode cX12_isForm 154 = .ok (.invokevirtual 914, 3) := by decide +kernel
theorem dX12_isForm_157 : decode cX12_isForm 157 = .ok (.ireturn, 1) := by decide +kernel
theorem dX12_isForm_158 : decode cX12_isForm 158 = .ok (.iload_n 2, 1) := by decide +kernel
theorem dX12_isForm_159 : decode cX12_isForm 159 = .ok (.iconst 2, 1) := by decide +kernel
theorem dX12_isForm_160 : decode cX12_isForm 160 = .ok (.if_icmp .ne 21, 3) := by decide +kernel
theorem dX12_isForm_163 : decode cX12_isForm 163 = .ok (.aload_n 0, 1) := by decide +kernel
theorem dX12_isForm_164 : decode cX12_isForm 164 = .ok (.aload_n 0, 1) := by decide +kernel
theorem dX12_isForm_165 : decode cX12_isForm 165 = .ok (.iload_n 1, 1) := by decide +kernel
theorem dX12_isForm_166 : decode cX12_isForm 166 = .ok (.iconst 1, 1) := by decide +kernel
theorem dX12_isForm_167 : decode cX12_isForm 167 = .ok (.invokevirtual 471, 3) := by decide +kernel
theorem dX12_isForm_170 : decode cX12_isForm 170 = .ok (.invokevirtual 827, 3) := by decide +kernel
theorem dX12_isForm_173 : decode cX12_isForm 173 = .ok (.iconst (-1), 1) := by decide +kernel
theorem dX12_isForm_174 : decode cX12_isForm 174 = .ok (.if_icmp .eq 7, 3) := by decide +kernel
theorem dX12_isForm_177 : decode cX12_isForm 177 = .ok (.iconst 1, 1) := by decide +kernel
theorem dX12_isForm_178 : decode cX12_isForm 178 = .ok (.goto 4, 3) := by decide +kernel
theorem dX12_isForm_181 : decode cX12_isForm 181 = .ok (.iconst 0, 1) := by decide +kernel
theorem dX12_isForm_182 : decode cX12_isForm 182 = .ok (.ireturn, 1) := by decide +kernel
theorem dX12_isForm_183 : decode cX12_isForm 183 = .ok (.iload_n 2, 1) := by decide +kernel
theorem dX12_isForm_184 : decode cX12_isForm 184 = .ok (.iconst 2, 1) := by decide +kernel
theorem dX12_isForm_185 : decode cX12_isForm 185 = .ok (.if_icmp .ne 21, 3) := by decide +kernel
theorem dX12_isForm_188 : decode cX12_isForm 188 = .ok (.aload_n 0, 1) := by decide +kernel
theorem dX12_isForm_189 : decode cX12_isForm 189 = .ok (.aload_n 0, 1) := by decide +kernel
theorem dX12_isForm_190 : decode cX12_isForm 190 = .ok (.iload_n 1, 1) := by decide +kernel
theorem dX12_isForm_191 : decode cX12_isForm 191 = .ok (.iconst 1, 1) := by decide +kernel
theorem dX12_isForm_192 : decode cX12_isForm 192 = .ok (.invokevirtual 471, 3) := by decide +kernel
theorem dX12_isForm_195 : decode cX12_isForm 195 = .ok (.invokevirtual 875, 3) := by decide +kernel
theorem dX12_isForm_198 : decode cX12_isForm 198 = .ok (.iconst (-1), 1) := by decide +kernel
theorem dX12_isForm_199 : decode cX12_isForm 199 = .ok (.if_icmp .eq 7, 3) := by decide +kernel
theorem dX12_isForm_202 : decode cX12_isForm 202 = .ok (.iconst 1, 1) := by decide +kernel
theorem dX12_isForm_203 : decode cX12_isForm 203 = .ok (.goto 4, 3) := by decide +kernel
theorem dX12_isForm_206 : decode cX12_isForm 206 = .ok (.iconst 0, 1) := by decide +kernel
theorem dX12_isForm_207 : decode cX12_isForm 207 = .ok (.ireturn, 1) := by decide +kernel
theorem dX12_isForm_208 : decode cX12_isForm 208 = .ok (.iload_n 2, 1) := by decide +kernel
theorem dX12_isForm_209 : decode cX12_isForm 209 = .ok (.iconst 3, 1) := by decide +kernel
theorem dX12_isForm_210 : decode cX12_isForm 210 = .ok (.if_icmp .ne 20, 3) := by decide +kernel
theorem dX12_isForm_213 : decode cX12_isForm 213 = .ok (.aload_n 0, 1) := by decide +kernel
theorem dX12_isForm_214 : decode cX12_isForm 214 = .ok (.aload_n 0, 1) := by decide +kernel
theorem dX12_isForm_215 : decode cX12_isForm 215 = .ok (.iload_n 1, 1) := by decide +kernel
theorem dX12_isForm_216 : decode cX12_isForm 216 = .ok (.iconst 1, 1) := by decide +kernel
theorem dX12_isForm_217 : decode cX12_isForm 217 = .ok (.invokevirtual 471, 3) := by decide +kernel
theorem dX12_isForm_220 : decode cX12_isForm 220 = .ok (.invokevirtual 920, 3) := by decide +kernel
theorem dX12_isForm_223 : decode cX12_isForm 223 = .ok (.ifCond .eq 7, 3) := by decide +kernel
theorem dX12_isForm_226 : decode cX12_isForm 226 = .ok (.iconst 1, 1) := by decide +kernel
theorem dX12_isForm_227 : decode cX12_isForm 227 = .ok (.goto 4, 3) := by decide +kernel
theorem dX12_isForm_230 : decode cX12_isForm 230 = .ok (.iconst 0, 1) := by decide +kernel
theorem dX12_isForm_231 : decode cX12_isForm 231 = .ok (.ireturn, 1) := by decide +kernel
theorem dX12_isForm_232 : decode cX12_isForm 232 = .ok (.iload_n 2, 1) := by decide +kernel
theorem dX12_isForm_233 : decode cX12_isForm 233 = .ok (.iconst 4, 1) := by decide +kernel
theorem dX12_isForm_234 : decode cX12_isForm 234 = .ok (.if_icmp .ne 21, 3) := by decide +kernel
theorem dX12_isForm_237 : decode cX12_isForm 237 = .ok (.aload_n 0, 1) := by decide +kernel
theorem dX12_isForm_238 : decode cX12_isForm 238 = .ok (.aload_n 0, 1) := by decide +kernel
theorem dX12_isForm_239 : decode cX12_isForm 239 = .ok (.iload_n 1, 1) := by decide +kernel
theorem dX12_isForm_240 : decode cX12_isForm 240 = .ok (.iconst 1, 1) := by decide +kernel
theorem dX12_isForm_241 : decode cX12_isForm 241 = .ok (.invokevirtual 471, 3) := by decide +kernel
theorem dX12_isForm_244 : decode cX12_isForm 244 = .ok (.invokevirtual 815, 3) := by decide +kernel
theorem dX12_isForm_247 : decode cX12_isForm 247 = .ok (.iconst (-1), 1) := by decide +kernel
theorem dX12_isForm_248 : decode cX12_isForm 248 = .ok (.if_icmp .eq 7, 3) := by decide +kernel
theorem dX12_isForm_251 : decode cX12_isForm 251 = .ok (.iconst 1, 1) := by decide +kernel
theorem dX12_isForm_252 : decode cX12_isForm 252 = .ok (.goto 4, 3) := by decide +kernel
theorem dX12_isForm_255 : decode cX12_isForm 255 = .ok (.iconst 0, 1) := by decide +kernel
theorem dX12_isForm_256 : decode cX12_isForm 256 = .ok (.ireturn, 1) := by decide +kernel
theorem dX12_isForm_257 : decode cX12_isForm 257 = .ok (.iload_n 2, 1) := by decide +kernel
theorem dX12_isForm_258 : decode cX12_isForm 258 = .ok (.iconst 2, 1) := by decide +kernel
theorem dX12_isForm_259 : decode cX12_isForm 259 = .ok (.if_icmp .lt 25, 3) := by decide +kernel
theorem dX12_isForm_262 : decode cX12_isForm 262 = .ok (.aload_n 0, 1) := by decide +kernel
theorem dX12_isForm_263 : decode cX12_isForm 263 = .ok (.aload_n 0, 1) := by decide +kernel
theorem dX12_isForm_264 : decode cX12_isForm 264 = .ok (.getfield 14, 3) := by decide +kernel
theorem dX12_isForm_267 : decode cX12_isForm 267 = .ok (.aload_n 0, 1) := by decide +kernel
theorem dX12_isForm_268 : decode cX12_isForm 268 = .ok (.getfield 14, 3) := by decide +kernel
theorem dX12_isForm_271 : decode cX12_isForm 271 = .ok (.iload_n 1, 1) := by decide +kernel
theorem dX12_isForm_272 : decode cX12_isForm 272 = .ok (.iaload, 1) := by decide +kernel
theorem dX12_isForm_273 : decode cX12_isForm 273 = .ok (.iaload, 1) := by decide +kernel
theorem dX12_isForm_274 : decode cX12_isForm 274 = .ok (.invokevirtual 872, 3) := by decide +kernel
theorem dX12_isForm_277 : decode cX12_isForm 277 = .ok (.ifCond .eq 7, 3) := by decide +kernel
theorem dX12_isForm_280 : decode cX12_isForm 280 = .ok (.iconst 1, 1) := by decide +kernel
theorem dX12_isForm_281 : decode cX12_isForm 281 = .ok (.goto 4, 3) := by decide +kernel
theorem dX12_isForm_284 : decode cX12_isForm 284 = .ok (.iconst 0, 1) := by decide +kernel
theorem dX12_isForm_285 : decode cX12_isForm 285 = .ok (.ireturn, 1) := by decide +kernel
theorem dX12_isForm_286 : decode cX12_isForm 286 = .ok (.iload_n 2, 1) := by decide +kernel
theorem dX12_isForm_287 : decode cX12_isForm 287 = .ok (.iconst 2, 1) := by decide +kernel
theorem dX12_isForm_288 : decode cX12_isForm 288 = .ok (.if_icmp .ne 7, 3) := by decide +kernel
theorem dX12_isForm_291 : decode cX12_isForm 291 = .ok (.iconst 1, 1) := by decide +kernel
theorem dX12_isForm_292 : decode cX12_isForm 292 = .ok (.goto 4, 3) := by decide +kernel
theorem dX12_isForm_295 : decode cX12_isForm 295 = .ok (.iconst 0, 1) := by decide +kernel
theorem dX12_isForm_296 : decode cX12_isForm 296 = .ok (.ireturn, 1) := by decide +kernel
theorem dX12_isForm_297 : decode cX12_isForm 297 = .ok (.iload_n 2, 1) := by decide +kernel
theorem dX12_isForm_298 : decode cX12_isForm 298 = .ok (.iconst 3, 1) := by decide +kernel
theorem dX12_isForm_299 : decode cX12_isForm 299 = .ok (.if_icmp .ne 7, 3) := by decide +kernel
theorem dX12_isForm_302 : decode cX12_isForm 302 = .ok (.iconst 1, 1) := by decide +kernel
theorem dX12_isForm_303 : decode cX12_isForm 303 = .ok (.goto 4, 3) := by decide +kernel
theorem dX12_isForm_306 : decode cX12_isForm 306 = .ok (.iconst 0, 1) := by decide +kernel
theorem dX12_isForm_307 : decode cX12_isForm 307 = .ok (.ireturn, 1) := by decide +kernel
theorem dX12_isForm_308 : decode cX12_isForm 308 = .ok (.aload_n 0, 1) := by decide +kernel
theorem dX12_isForm_309 : decode cX12_isForm 309 = .ok (.iload_n 1, 1) := by decide +kernel
theorem dX12_isForm_310 : decode cX12_isForm 310 = .ok (.invokevirtual 923, 3) := by decide +kernel
theorem dX12_isForm_313 : decode cX12_isForm 313 = .ok (.ireturn, 1) := by decide +kernel
theorem dX12_isForm_314 : decode cX12_isForm 314 = .ok (.iconst 0, 1) := by decide +kernel
theorem dX12_isForm_315 : decode cX12_isForm 315 = .ok (.ireturn, 1) := by decide +kernel

section
variable {p : Program} {l : Launch} {e : Env} {R : Room} {s : State} {m : MethodId} {args : Array Value} {below : List Frame} {meth : Method} {c : Code} {H : Heap} {locs : List Loc} {Qf : State → Prop}
variable {ls : Array Slot} {D : va_G} {ca : Nat → ClassId} {A : Nat → Prop} {h0 : Nat} {ad : Nat → Nat} {H0 : Heap} {u : iST}
def w_isForm (a0 : Int) (Q : Int → iST → Prop) (u : iST) : Prop :=
  w_lengthOf a0 (fun v1 u => 
  br (1 ≤ v1) (
    bd a0 452000 (rd (u.2.1 0 a0) (fun v2 => 
    br (v2 = 27) (
      w_isInduction a0 (fun v3 u => 
      zt v3 (Q v3 u)) u) (
    br (v2 = 28) (
      zt 0 (Q 0 u)) (
    br (v2 = 29) (
      w_areTerms a0 1 2 (fun v6 u => 
      zt v6 (Q v6 u)) u) (
    br (v2 = 30) (
      w_areTerms a0 1 2 (fun v8 u => 
      zt v8 (Q v8 u)) u) (
    br (v2 = 31) (
      w_areTerms a0 1 2 (fun v10 u => 
      br (v10 = 0) (
        zt 0 (Q 0 u)) (
        w_nth a0 1 (fun v11 u => 
        w_termOf v11 (fun v12 u => 
        w_told v12 (fun v13 u => 
        br (v13 = (-1)) (
          zt 0 (Q 0 u)) (
          zt 1 (Q 1 u))) u) u) u)) u) (
    br (v2 = 32) (
      w_areTerms a0 1 3 (fun v15 u => 
      zt v15 (Q v15 u)) u) (
    br (v2 = 33) (
      w_areTerms a0 1 3 (fun v17 u => 
      zt v17 (Q v17 u)) u) (
    br (v2 = 34) (
      w_areTerms a0 1 3 (fun v19 u => 
      zt v19 (Q v19 u)) u) (
    br (v2 = 35) (
      w_areTerms a0 1 4 (fun v21 u => 
      zt v21 (Q v21 u)) u) (
    br (v2 = 36) (
      w_areTerms a0 1 4 (fun v23 u => 
      zt v23 (Q v23 u)) u) (
    br (v2 = 37) (
      br (v1 ≠ 2) (
        zt 0 (Q 0 u)) (
        w_nth a0 1 (fun v25 u => 
        w_definition v25 (fun v26 u => 
        br (v26 = (-1)) (
          zt 0 (Q 0 u)) (
          zt 1 (Q 1 u))) u) u)) (
    br (v2 = 38) (
      br (v1 ≠ 2) (
        zt 0 (Q 0 u)) (
        w_nth a0 1 (fun v28 u => 
        w_theoremOf v28 (fun v29 u => 
        br (v29 = (-1)) (
          zt 0 (Q 0 u)) (
          zt 1 (Q 1 u))) u) u)) (
    br (v2 = 39) (
      br (v1 ≠ 3) (
        zt 0 (Q 0 u)) (
        w_nth a0 1 (fun v31 u => 
        w_isTermList v31 (fun v32 u => 
        br (v32 = 0) (
          zt 0 (Q 0 u)) (
          zt 1 (Q 1 u))) u) u)) (
    br (v2 = 40) (
      br (v1 ≠ 4) (
        zt 0 (Q 0 u)) (
        w_nth a0 1 (fun v34 u => 
        w_termOf v34 (fun v35 u => 
        br (v35 = (-1)) (
          zt 0 (Q 0 u)) (
          zt 1 (Q 1 u))) u) u)) (
    br (v2 = 41) (
      br (v1 < 2) (
        zt 0 (Q 0 u)) (
        bd a0 452000 (rd (u.2.1 1 a0) (fun v37 => 
        bd v37 452000 (rd (u.2.1 1 v37) (fun v38 => 
        w_arePairs v38 (fun v39 u => 
        br (v39 = 0) (
          zt 0 (Q 0 u)) (
          zt 1 (Q 1 u))) u)))))) (
    br (v2 = 42) (
      br (v1 ≠ 2) (
        zt 0 (Q 0 u)) (
        zt 1 (Q 1 u))) (
    br (v2 = 43) (
      br (v1 ≠ 3) (
        zt 0 (Q 0 u)) (
        zt 1 (Q 1 u))) (
    zt 0 (Q 0 u))))))))))))))))))))) (
    zt 0 (Q 0 u))) u
set_option maxRecDepth 20000 in
set_option maxHeartbeats 4000000 in
theorem b_isForm_s (X : kX p m c cX12_isForm 3 s args D ca) (hRf : 9 ≤ R.frames) (hRl : 205 ≤ R.locals) {Q : Int → iST → Prop} (hret : ∀ (v : Int) (u : iST) (H : Heap) (locs : List Loc) (ls : Array Slot) (pc : Nat), bz v → Q v u → kW D ca A h0 ad H0 H locs u → decode cX12_isForm pc = .ok (.ireturn, 1) → W p l e R s m args below meth c H locs 0 0 Qf (F0 m pc ls [.int (jI v)])) {a0 : Int} (ra0 : inR a0) (hw : kW D ca A h0 ad H0 H locs u) (hl : lv_has ls 3 [(0, .ref h0), (1, .int (jI a0))]) (h : w_isForm a0 Q u) : W p l e R s m args below meth c H locs 0 0 Qf (F0 m 0 ls []) := by
  have hx := X.1.1
  have hb := X.1.2.1
  unfold w_isForm at h
  refine lv_aload_n hx hb dX12_isForm_0 rfl (lv_at hl 0 rfl) ?_
  refine lv_iload_n hx hb dX12_isForm_1 rfl (lv_at hl 1 rfl) ?_
  refine kcI (n := 1) (c_lengthOf ra0 h) G_lengthOf E_lengthOf X hw (Nat.le_trans (Nat.le_of_ble_eq_true rfl) hRf) (Nat.le_trans (Nat.le_of_ble_eq_true rfl) hRl) rfl hl.1 (Nat.le_of_ble_eq_true rfl) rfl dX12_isForm_2 (fun v1 u H locs rv1 h hw => ?_)
  refine lv_istore_n hx hb dX12_isForm_5 rfl hl (by decide) rfl (fun ls hl => ?_)
  have hl : lv_has ls 3 [(2, .int (jI v1)), (0, .ref (h0)), (1, .int (jI a0))] := hl
  refine lv_iload_n hx hb dX12_isForm_6 rfl (lv_at hl 0 rfl) ?_
  refine lv_iconst hx hb dX12_isForm_7 (v := jI 1) rfl ?_
  refine k_icmp_ge hx hb rv1 (by decide) dX12_isForm_8 (tgt := 13) rfl h (fun h => ?_) (fun h => ?_)
  · refine lv_aload_n hx hb dX12_isForm_13 rfl (lv_at hl 1 rfl) ?_
    refine gA 0 8 (by decide) L_0 (fun _ _ => mF_0) rfl X hw dX12_isForm_14 ?_
    refine lv_iload_n hx hb dX12_isForm_17 rfl (lv_at hl 2 rfl) ?_
    refine aL 0 1 0 452000 (fun _ _ _ _ => mG_0) (fun _ => rfl) X hw ra0 dX12_isForm_18 rfl h (fun v2 rv2 h => ?_)
    refine br_sp h (fun ek h => ?_) (fun n4 h => ?_)
    · refine k_tabIn (tgt := 308) (off := 289) hx hb dX12_isForm_19 ek (by decide) (by decide) rfl rfl ?_
      refine lv_aload_n hx hb dX12_isForm_308 rfl (lv_at hl 1 rfl) ?_
      refine lv_iload_n hx hb dX12_isForm_309 rfl (lv_at hl 2 rfl) ?_
      refine kcI (n := 1) (c_isInduction ra0 h) G_isInduction E_isInduction X hw (Nat.le_trans (Nat.le_of_ble_eq_true rfl) hRf) (Nat.le_trans (Nat.le_of_ble_eq_true rfl) hRl) rfl hl.1 (Nat.le_of_ble_eq_true rfl) rfl dX12_isForm_310 (fun v3 u H locs rv3 h hw => ?_)
      exact hret _ _ _ _ _ _ h.1 h.2 hw dX12_isForm_313
    refine br_sp h (fun ek h => ?_) (fun n5 h => ?_)
    · refine k_tabIn (tgt := 314) (off := 295) hx hb dX12_isForm_19 ek (by decide) (by decide) rfl rfl ?_
      refine lv_iconst hx hb dX12_isForm_314 (v := jI 0) rfl ?_
      exact hret _ _ _ _ _ _ h.1 h.2 hw dX12_isForm_315
    refine br_sp h (fun ek h => ?_) (fun n7 h => ?_)
    · refine k_tabIn (tgt := 100) (off := 81) hx hb dX12_isForm_19 ek (by decide) (by decide) rfl rfl ?_
      refine lv_aload_n hx hb dX12_isForm_100 rfl (lv_at hl 1 rfl) ?_
      refine lv_iload_n hx hb dX12_isForm_101 rfl (lv_at hl 2 rfl) ?_
      refine lv_iconst hx hb dX12_isForm_102 (v := jI 1) rfl ?_
      refine lv_iconst hx hb dX12_isForm_103 (v := jI 2) rfl ?_
      refine kcI (n := 3) (c_areTerms ra0 (by decide) (by decide) h) G_areTerms E_areTerms X hw (Nat.le_trans (Nat.le_of_ble_eq_true rfl) hRf) (Nat.le_trans (Nat.le_of_ble_eq_true rfl) hRl) rfl hl.1 (Nat.le_of_ble_eq_true rfl) rfl dX12_isForm_104 (fun v6 u H locs rv6 h hw => ?_)
      exact hret _ _ _ _ _ _ h.1 h.2 hw dX12_isForm_107
    refine br_sp h (fun ek h => ?_) (fun n9 h => ?_)
    · refine k_tabIn (tgt := 100) (off := 81) hx hb dX12_isForm_19 ek (by decide) (by decide) rfl rfl ?_
      refine lv_aload_n hx hb dX12_isForm_100 rfl (lv_at hl 1 rfl) ?_
      refine lv_iload_n hx hb dX12_isForm_101 rfl (lv_at hl 2 rfl) ?_
      refine lv_iconst hx hb dX12_isForm_102 (v := jI 1) rfl ?_
      refine lv_iconst hx hb dX12_isForm_103 (v := jI 2) rfl ?_
      refine kcI (n := 3) (c_areTerms ra0 (by decide) (by decide) h) G_areTerms E_areTerms X hw (Nat.le_trans (Nat.le_of_ble_eq_true rfl) hRf) (Nat.le_trans (Nat.le_of_ble_eq_true rfl) hRl) rfl hl.1 (Nat.le_of_ble_eq_true rfl) rfl dX12_isForm_104 (fun v8 u H locs rv8 h hw => ?_)
      exact hret _ _ _ _ _ _ h.1 h.2 hw dX12_isForm_107
    refine br_sp h (fun ek h => ?_) (fun n14 h => ?_)
    · refine k_tabIn (tgt := 108) (off := 89) hx hb dX12_isForm_19 ek (by decide) (by decide) rfl rfl ?_
      refine lv_aload_n hx hb dX12_isForm_108 rfl (lv_at hl 1 rfl) ?_
      refine lv_iload_n hx hb dX12_isForm_109 rfl (lv_at hl 2 rfl) ?_
      refine lv_iconst hx hb dX12_isForm_110 (v := jI 1) rfl ?_
      refine lv_iconst hx hb dX12_isForm_111 (v := jI 2) rfl ?_
      refine kcI (n := 3) (c_areTerms ra0 (by decide) (by decide) h) G_areTerms E_areTerms X hw (Nat.le_trans (Nat.le_of_ble_eq_true rfl) hRf) (Nat.le_trans (Nat.le_of_ble_eq_true rfl) hRl) rfl hl.1 (Nat.le_of_ble_eq_true rfl) rfl dX12_isForm_112 (fun v10 u H locs rv10 h hw => ?_)
      refine k_if_eq hx hb rv10 dX12_isForm_115 (tgt := 140) rfl h (fun h => ?_) (fun h => ?_)
      · refine lv_iconst hx hb dX12_isForm_140 (v := jI 0) rfl ?_
        exact hret _ _ _ _ _ _ h.1 h.2 hw dX12_isForm_141
      · refine lv_aload_n hx hb dX12_isForm_118 rfl (lv_at hl 1 rfl) ?_
        refine lv_aload_n hx hb dX12_isForm_119 rfl (lv_at hl 1 rfl) ?_
        refine lv_aload_n hx hb dX12_isForm_120 rfl (lv_at hl 1 rfl) ?_
        refine lv_iload_n hx hb dX12_isForm_121 rfl (lv_at hl 2 rfl) ?_
        refine lv_iconst hx hb dX12_isForm_122 (v := jI 1) rfl ?_
        refine kcI (n := 2) (c_nth ra0 (by decide) h) G_nth E_nth X hw (Nat.le_trans (Nat.le_of_ble_eq_true rfl) hRf) (Nat.le_trans (Nat.le_of_ble_eq_true rfl) hRl) rfl hl.1 (Nat.le_of_ble_eq_true rfl) rfl dX12_isForm_123 (fun v11 u H locs rv11 h hw => ?_)
        refine kcI (n := 1) (c_termOf rv11 h) G_termOf E_termOf X hw (Nat.le_trans (Nat.le_of_ble_eq_true rfl) hRf) (Nat.le_trans (Nat.le_of_ble_eq_true rfl) hRl) rfl hl.1 (Nat.le_of_ble_eq_true rfl) rfl dX12_isForm_126 (fun v12 u H locs rv12 h hw => ?_)
        refine kcI (n := 1) (c_told rv12 h) G_told E_told X hw (Nat.le_trans (Nat.le_of_ble_eq_true rfl) hRf) (Nat.le_trans (Nat.le_of_ble_eq_true rfl) hRl) rfl hl.1 (Nat.le_of_ble_eq_true rfl) rfl dX12_isForm_129 (fun v13 u H locs rv13 h hw => ?_)
        refine lv_iconst hx hb dX12_isForm_132 (v := jI (-1)) rfl ?_
        refine k_icmp_eq hx hb rv13 (by decide) dX12_isForm_133 (tgt := 140) rfl h (fun h => ?_) (fun h => ?_)
        · refine lv_iconst hx hb dX12_isForm_140 (v := jI 0) rfl ?_
          exact hret _ _ _ _ _ _ h.1 h.2 hw dX12_isForm_141
        · refine lv_iconst hx hb dX12_isForm_136 (v := jI 1) rfl ?_
          refine lv_goto hx hb dX12_isForm_137 (tgt := 141) rfl ?_
          exact hret _ _ _ _ _ _ h.1 h.2 hw dX12_isForm_141
    refine br_sp h (fun ek h => ?_) (fun n16 h => ?_)
    · refine k_tabIn (tgt := 142) (off := 123) hx hb dX12_isForm_19 ek (by decide) (by decide) rfl rfl ?_
      refine lv_aload_n hx hb dX12_isForm_142 rfl (lv_at hl 1 rfl) ?_
      refine lv_iload_n hx hb dX12_isForm_143 rfl (lv_at hl 2 rfl) ?_
      refine lv_iconst hx hb dX12_isForm_144 (v := jI 1) rfl ?_
      refine lv_iconst hx hb dX12_isForm_145 (v := jI 3) rfl ?_
      refine kcI (n := 3) (c_areTerms ra0 (by decide) (by decide) h) G_areTerms E_areTerms X hw (Nat.le_trans (Nat.le_of_ble_eq_true rfl) hRf) (Nat.le_trans (Nat.le_of_ble_eq_true rfl) hRl) rfl hl.1 (Nat.le_of_ble_eq_true rfl) rfl dX12_isForm_146 (fun v15 u H locs rv15 h hw => ?_)
      exact hret _ _ _ _ _ _ h.1 h.2 hw dX12_isForm_149
    refine br_sp h (fun ek h => ?_) (fun n18 h => ?_)
    · refine k_tabIn (tgt := 142) (off := 123) hx hb dX12_isForm_19 ek (by decide) (by decide) rfl rfl ?_
      refine lv_aload_n hx hb dX12_isForm_142 rfl (lv_at hl 1 rfl) ?_
      refine lv_iload_n hx hb dX12_isForm_143 rfl (lv_at hl 2 rfl) ?_
      refine lv_iconst hx hb dX12_isForm_144 (v := jI 1) rfl ?_
      refine lv_iconst hx hb dX12_isForm_145 (v := jI 3) rfl ?_
      refine kcI (n := 3) (c_areTerms ra0 (by decide) (by decide) h) G_areTerms E_areTerms X hw (Nat.le_trans (Nat.le_of_ble_eq_true rfl) hRf) (Nat.le_trans (Nat.le_of_ble_eq_true rfl) hRl) rfl hl.1 (Nat.le_of_ble_eq_true rfl) rfl dX12_isForm_146 (fun v17 u H locs rv17 h hw => ?_)
      exact hret _ _ _ _ _ _ h.1 h.2 hw dX12_isForm_149
    refine br_sp h (fun ek h => ?_) (fun n20 h => ?_)
    · refine k_tabIn (tgt := 142) (off := 123) hx hb dX12_isForm_19 ek (by decide) (by decide) rfl rfl ?_
      refine lv_aload_n hx hb dX12_isForm_142 rfl (lv_at hl 1 rfl) ?_
      refine lv_iload_n hx hb dX12_isForm_143 rfl (lv_at hl 2 rfl) ?_
      refine lv_iconst hx hb dX12_isForm_144 (v := jI 1) rfl ?_
      refine lv_iconst hx hb dX12_isForm_145 (v := jI 3) rfl ?_
      refine kcI (n := 3) (c_areTerms ra0 (by decide) (by decide) h) G_areTerms E_areTerms X hw (Nat.le_trans (Nat.le_of_ble_eq_true rfl) hRf) (Nat.le_trans (Nat.le_of_ble_eq_true rfl) hRl) rfl hl.1 (Nat.le_of_ble_eq_true rfl) rfl dX12_isForm_146 (fun v19 u H locs rv19 h hw => ?_)
      exact hret _ _ _ _ _ _ h.1 h.2 hw dX12_isForm_149
    refine br_sp h (fun ek h => ?_) (fun n22 h => ?_)
    · refine k_tabIn (tgt := 150) (off := 131) hx hb dX12_isForm_19 ek (by decide) (by decide) rfl rfl ?_
      refine lv_aload_n hx hb dX12_isForm_150 rfl (lv_at hl 1 rfl) ?_
      refine lv_iload_n hx hb dX12_isForm_151 rfl (lv_at hl 2 rfl) ?_
      refine lv_iconst hx hb dX12_isForm_152 (v := jI 1) rfl ?_
      refine lv_iconst hx hb dX12_isForm_153 (v := jI 4) rfl ?_
      refine kcI (n := 3) (c_areTerms ra0 (by decide) (by decide) h) G_areTerms E_areTerms X hw (Nat.le_trans (Nat.le_of_ble_eq_true rfl) hRf) (Nat.le_trans (Nat.le_of_ble_eq_true rfl) hRl) rfl hl.1 (Nat.le_of_ble_eq_true rfl) rfl dX12_isForm_154 (fun v21 u H locs rv21 h hw => ?_)
      exact hret _ _ _ _ _ _ h.1 h.2 hw dX12_isForm_157
    refine br_sp h (fun ek h => ?_) (fun n24 h => ?_)
    · refine k_tabIn (tgt := 150) (off := 131) hx hb dX12_isForm_19 ek (by decide) (by decide) rfl rfl ?_
      refine lv_aload_n hx hb dX12_isForm_150 rfl (lv_at hl 1 rfl) ?_
      refine lv_iload_n hx hb dX12_isForm_151 rfl (lv_at hl 2 rfl) ?_
      refine lv_iconst hx hb dX12_isForm_152 (v := jI 1) rfl ?_
      refine lv_iconst hx hb dX12_isForm_153 (v := jI 4) rfl ?_
      refine kcI (n := 3) (c_areTerms ra0 (by decide) (by decide) h) G_areTerms E_areTerms X hw (Nat.le_trans (Nat.le_of_ble_eq_true rfl) hRf) (Nat.le_trans (Nat.le_of_ble_eq_true rfl) hRl) rfl hl.1 (Nat.le_of_ble_eq_true rfl) rfl dX12_isForm_154 (fun v23 u H locs rv23 h hw => ?_)
      exact hret _ _ _ _ _ _ h.1 h.2 hw dX12_isForm_157
    refine br_sp h (fun ek h => ?_) (fun n27 h => ?_)
    · refine k_tabIn (tgt := 158) (off := 139) hx hb dX12_isForm_19 ek (by decide) (by decide) rfl rfl ?_
      refine lv_iload_n hx hb dX12_isForm_158 rfl (lv_at hl 0 rfl) ?_
      refine lv_iconst hx hb dX12_isForm_159 (v := jI 2) rfl ?_
      refine k_icmp_ne hx hb rv1 (by decide) dX12_isForm_160 (tgt := 181) rfl h (fun h => ?_) (fun h => ?_)
      · refine lv_iconst hx hb dX12_isForm_181 (v := jI 0) rfl ?_
        exact hret _ _ _ _ _ _ h.1 h.2 hw dX12_isForm_182
      · refine lv_aload_n hx hb dX12_isForm_163 rfl (lv_at hl 1 rfl) ?_
        refine lv_aload_n hx hb dX12_isForm_164 rfl (lv_at hl 1 rfl) ?_
        refine lv_iload_n hx hb dX12_isForm_165 rfl (lv_at hl 2 rfl) ?_
        refine lv_iconst hx hb dX12_isForm_166 (v := jI 1) rfl ?_
        refine kcI (n := 2) (c_nth ra0 (by decide) h) G_nth E_nth X hw (Nat.le_trans (Nat.le_of_ble_eq_true rfl) hRf) (Nat.le_trans (Nat.le_of_ble_eq_true rfl) hRl) rfl hl.1 (Nat.le_of_ble_eq_true rfl) rfl dX12_isForm_167 (fun v25 u H locs rv25 h hw => ?_)
        refine kcI (n := 1) (c_definition rv25 h) G_definition E_definition X hw (Nat.le_trans (Nat.le_of_ble_eq_true rfl) hRf) (Nat.le_trans (Nat.le_of_ble_eq_true rfl) hRl) rfl hl.1 (Nat.le_of_ble_eq_true rfl) rfl dX12_isForm_170 (fun v26 u H locs rv26 h hw => ?_)
        refine lv_iconst hx hb dX12_isForm_173 (v := jI (-1)) rfl ?_
        refine k_icmp_eq hx hb rv26 (by decide) dX12_isForm_174 (tgt := 181) rfl h (fun h => ?_) (fun h => ?_)
        · refine lv_iconst hx hb dX12_isForm_181 (v := jI 0) rfl ?_
          exact hret _ _ _ _ _ _ h.1 h.2 hw dX12_isForm_182
        · refine lv_iconst hx hb dX12_isForm_177 (v := jI 1) rfl ?_
          refine lv_goto hx hb dX12_isForm_178 (tgt := 182) rfl ?_
          exact hret _ _ _ _ _ _ h.1 h.2 hw dX12_isForm_182
    refine br_sp h (fun ek h => ?_) (fun n30 h => ?_)
    · refine k_tabIn (tgt := 183) (off := 164) hx hb dX12_isForm_19 ek (by decide) (by decide) rfl rfl ?_
      refine lv_iload_n hx hb dX12_isForm_183 rfl (lv_at hl 0 rfl) ?_
      refine lv_iconst hx hb dX12_isForm_184 (v := jI 2) rfl ?_
      refine k_icmp_ne hx hb rv1 (by decide) dX12_isForm_185 (tgt := 206) rfl h (fun h => ?_) (fun h => ?_)
      · refine lv_iconst hx hb dX12_isForm_206 (v := jI 0) rfl ?_
        exact hret _ _ _ _ _ _ h.1 h.2 hw dX12_isForm_207
      · refine lv_aload_n hx hb dX12_isForm_188 rfl (lv_at hl 1 rfl) ?_
        refine lv_aload_n hx hb dX12_isForm_189 rfl (lv_at hl 1 rfl) ?_
        refine lv_iload_n hx hb dX12_isForm_190 rfl (lv_at hl 2 rfl) ?_
        refine lv_iconst hx hb dX12_isForm_191 (v := jI 1) rfl ?_
        refine kcI (n := 2) (c_nth ra0 (by decide) h) G_nth E_nth X hw (Nat.le_trans (Nat.le_of_ble_eq_true rfl) hRf) (Nat.le_trans (Nat.le_of_ble_eq_true rfl) hRl) rfl hl.1 (Nat.le_of_ble_eq_true rfl) rfl dX12_isForm_192 (fun v28 u H locs rv28 h hw => ?_)
        refine kcI (n := 1) (c_theoremOf rv28 h) G_theoremOf E_theoremOf X hw (Nat.le_trans (Nat.le_of_ble_eq_true rfl) hRf) (Nat.le_trans (Nat.le_of_ble_eq_true rfl) hRl) rfl hl.1 (Nat.le_of_ble_eq_true rfl) rfl dX12_isForm_195 (fun v29 u H locs rv29 h hw => ?_)
        refine lv_iconst hx hb dX12_isForm_198 (v := jI (-1)) rfl ?_
        refine k_icmp_eq hx hb rv29 (by decide) dX12_isForm_199 (tgt := 206) rfl h (fun h => ?_) (fun h => ?_)
        · refine lv_iconst hx hb dX12_isForm_206 (v := jI 0) rfl ?_
          exact hret _ _ _ _ _ _ h.1 h.2 hw dX12_isForm_207
        · refine lv_iconst hx hb dX12_isForm_202 (v := jI 1) rfl ?_
          refine lv_goto hx hb dX12_isForm_203 (tgt := 207) rfl ?_
          exact hret _ _ _ _ _ _ h.1 h.2 hw dX12_isForm_207
    refine br_sp h (fun ek h => ?_) (fun n33 h => ?_)
    · refine k_tabIn (tgt := 208) (off := 189) hx hb dX12_isForm_19 ek (by decide) (by decide) rfl rfl ?_
      refine lv_iload_n hx hb dX12_isForm_208 rfl (lv_at hl 0 rfl) ?_
      refine lv_iconst hx hb dX12_isForm_209 (v := jI 3) rfl ?_
      refine k_icmp_ne hx hb rv1 (by decide) dX12_isForm_210 (tgt := 230) rfl h (fun h => ?_) (fun h => ?_)
      · refine lv_iconst hx hb dX12_isForm_230 (v := jI 0) rfl ?_
        exact hret _ _ _ _ _ _ h.1 h.2 hw dX12_isForm_231
      · refine lv_aload_n hx hb dX12_isForm_213 rfl (lv_at hl 1 rfl) ?_
        refine lv_aload_n hx hb dX12_isForm_214 rfl (lv_at hl 1 rfl) ?_
        refine lv_iload_n hx hb dX12_isForm_215 rfl (lv_at hl 2 rfl) ?_
        refine lv_iconst hx hb dX12_isForm_216 (v := jI 1) rfl ?_
        refine kcI (n := 2) (c_nth ra0 (by decide) h) G_nth E_nth X hw (Nat.le_trans (Nat.le_of_ble_eq_true rfl) hRf) (Nat.le_trans (Nat.le_of_ble_eq_true rfl) hRl) rfl hl.1 (Nat.le_of_ble_eq_true rfl) rfl dX12_isForm_217 (fun v31 u H locs rv31 h hw => ?_)
        refine kcI (n := 1) (c_isTermList rv31 h) G_isTermList E_isTermList X hw (Nat.le_trans (Nat.le_of_ble_eq_true rfl) hRf) (Nat.le_trans (Nat.le_of_ble_eq_true rfl) hRl) rfl hl.1 (Nat.le_of_ble_eq_true rfl) rfl dX12_isForm_220 (fun v32 u H locs rv32 h hw => ?_)
        refine k_if_eq hx hb rv32 dX12_isForm_223 (tgt := 230) rfl h (fun h => ?_) (fun h => ?_)
        · refine lv_iconst hx hb dX12_isForm_230 (v := jI 0) rfl ?_
          exact hret _ _ _ _ _ _ h.1 h.2 hw dX12_isForm_231
        · refine lv_iconst hx hb dX12_isForm_226 (v := jI 1) rfl ?_
          refine lv_goto hx hb dX12_isForm_227 (tgt := 231) rfl ?_
          exact hret _ _ _ _ _ _ h.1 h.2 hw dX12_isForm_231
    refine br_sp h (fun ek h => ?_) (fun n36 h => ?_)
    · refine k_tabIn (tgt := 232) (off := 213) hx hb dX12_isForm_19 ek (by decide) (by decide) rfl rfl ?_
      refine lv_iload_n hx hb dX12_isForm_232 rfl (lv_at hl 0 rfl) ?_
      refine lv_iconst hx hb dX12_isForm_233 (v := jI 4) rfl ?_
      refine k_icmp_ne hx hb rv1 (by decide) dX12_isForm_234 (tgt := 255) rfl h (fun h => ?_) (fun h => ?_)
      · refine lv_iconst hx hb dX12_isForm_255 (v := jI 0) rfl ?_
        exact hret _ _ _ _ _ _ h.1 h.2 hw dX12_isForm_256
      · refine lv_aload_n hx hb dX12_isForm_237 rfl (lv_at hl 1 rfl) ?_
        refine lv_aload_n hx hb dX12_isForm_238 rfl (lv_at hl 1 rfl) ?_
        refine lv_iload_n hx hb dX12_isForm_239 rfl (lv_at hl 2 rfl) ?_
        refine lv_iconst hx hb dX12_isForm_240 (v := jI 1) rfl ?_
        refine kcI (n := 2) (c_nth ra0 (by decide) h) G_nth E_nth X hw (Nat.le_trans (Nat.le_of_ble_eq_true rfl) hRf) (Nat.le_trans (Nat.le_of_ble_eq_true rfl) hRl) rfl hl.1 (Nat.le_of_ble_eq_true rfl) rfl dX12_isForm_241 (fun v34 u H locs rv34 h hw => ?_)
        refine kcI (n := 1) (c_termOf rv34 h) G_termOf E_termOf X hw (Nat.le_trans (Nat.le_of_ble_eq_true rfl) hRf) (Nat.le_trans (Nat.le_of_ble_eq_true rfl) hRl) rfl hl.1 (Nat.le_of_ble_eq_true rfl) rfl dX12_isForm_244 (fun v35 u H locs rv35 h hw => ?_)
        refine lv_iconst hx hb dX12_isForm_247 (v := jI (-1)) rfl ?_
        refine k_icmp_eq hx hb rv35 (by decide) dX12_isForm_248 (tgt := 255) rfl h (fun h => ?_) (fun h => ?_)
        · refine lv_iconst hx hb dX12_isForm_255 (v := jI 0) rfl ?_
          exact hret _ _ _ _ _ _ h.1 h.2 hw dX12_isForm_256
        · refine lv_iconst hx hb dX12_isForm_251 (v := jI 1) rfl ?_
          refine lv_goto hx hb dX12_isForm_252 (tgt := 256) rfl ?_
          exact hret _ _ _ _ _ _ h.1 h.2 hw dX12_isForm_256
    refine br_sp h (fun ek h => ?_) (fun n40 h => ?_)
    · refine k_tabIn (tgt := 257) (off := 238) hx hb dX12_isForm_19 ek (by decide) (by decide) rfl rfl ?_
      refine lv_iload_n hx hb dX12_isForm_257 rfl (lv_at hl 0 rfl) ?_
      refine lv_iconst hx hb dX12_isForm_258 (v := jI 2) rfl ?_
      refine k_icmp_lt hx hb rv1 (by decide) dX12_isForm_259 (tgt := 284) rfl h (fun h => ?_) (fun h => ?_)
      · refine lv_iconst hx hb dX12_isForm_284 (v := jI 0) rfl ?_
        exact hret _ _ _ _ _ _ h.1 h.2 hw dX12_isForm_285
      · refine lv_aload_n hx hb dX12_isForm_262 rfl (lv_at hl 1 rfl) ?_
        refine lv_aload_n hx hb dX12_isForm_263 rfl (lv_at hl 1 rfl) ?_
        refine gA 1 14 (by decide) L_1 (fun _ _ => mF_1) rfl X hw dX12_isForm_264 ?_
        refine lv_aload_n hx hb dX12_isForm_267 rfl (lv_at hl 1 rfl) ?_
        refine gA 1 14 (by decide) L_1 (fun _ _ => mF_1) rfl X hw dX12_isForm_268 ?_
        refine lv_iload_n hx hb dX12_isForm_271 rfl (lv_at hl 2 rfl) ?_
        refine aL 1 2 1 452000 (fun _ _ _ _ => mG_1) (fun _ => rfl) X hw ra0 dX12_isForm_272 rfl h (fun v37 rv37 h => ?_)
        refine aL 1 2 1 452000 (fun _ _ _ _ => mG_1) (fun _ => rfl) X hw rv37 dX12_isForm_273 rfl h (fun v38 rv38 h => ?_)
        refine kcI (n := 1) (c_arePairs rv38 h) G_arePairs E_arePairs X hw (Nat.le_trans (Nat.le_of_ble_eq_true rfl) hRf) (Nat.le_trans (Nat.le_of_ble_eq_true rfl) hRl) rfl hl.1 (Nat.le_of_ble_eq_true rfl) rfl dX12_isForm_274 (fun v39 u H locs rv39 h hw => ?_)
        refine k_if_eq hx hb rv39 dX12_isForm_277 (tgt := 284) rfl h (fun h => ?_) (fun h => ?_)
        · refine lv_iconst hx hb dX12_isForm_284 (v := jI 0) rfl ?_
          exact hret _ _ _ _ _ _ h.1 h.2 hw dX12_isForm_285
        · refine lv_iconst hx hb dX12_isForm_280 (v := jI 1) rfl ?_
          refine lv_goto hx hb dX12_isForm_281 (tgt := 285) rfl ?_
          exact hret _ _ _ _ _ _ h.1 h.2 hw dX12_isForm_285
    refine br_sp h (fun ek h => ?_) (fun n41 h => ?_)
    · refine k_tabIn (tgt := 286) (off := 267) hx hb dX12_isForm_19 ek (by decide) (by decide) rfl rfl ?_
      refine lv_iload_n hx hb dX12_isForm_286 rfl (lv_at hl 0 rfl) ?_
      refine lv_iconst hx hb dX12_isForm_287 (v := jI 2) rfl ?_
      refine k_icmp_ne hx hb rv1 (by decide) dX12_isForm_288 (tgt := 295) rfl h (fun h => ?_) (fun h => ?_)
      · refine lv_iconst hx hb dX12_isForm_295 (v := jI 0) rfl ?_
        exact hret _ _ _ _ _ _ h.1 h.2 hw dX12_isForm_296
      · refine lv_iconst hx hb dX12_isForm_291 (v := jI 1) rfl ?_
        refine lv_goto hx hb dX12_isForm_292 (tgt := 296) rfl ?_
        exact hret _ _ _ _ _ _ h.1 h.2 hw dX12_isForm_296
    refine br_sp h (fun ek h => ?_) (fun n42 h => ?_)
    · refine k_tabIn (tgt := 297) (off := 278) hx hb dX12_isForm_19 ek (by decide) (by decide) rfl rfl ?_
      refine lv_iload_n hx hb dX12_isForm_297 rfl (lv_at hl 0 rfl) ?_
      refine lv_iconst hx hb dX12_isForm_298 (v := jI 3) rfl ?_
      refine k_icmp_ne hx hb rv1 (by decide) dX12_isForm_299 (tgt := 306) rfl h (fun h => ?_) (fun h => ?_)
      · refine lv_iconst hx hb dX12_isForm_306 (v := jI 0) rfl ?_
        exact hret _ _ _ _ _ _ h.1 h.2 hw dX12_isForm_307
      · refine lv_iconst hx hb dX12_isForm_302 (v := jI 1) rfl ?_
        refine lv_goto hx hb dX12_isForm_303 (tgt := 307) rfl ?_
        exact hret _ _ _ _ _ _ h.1 h.2 hw dX12_isForm_307
    refine k_tabOut (tgt := 314) hx hb rv2 dX12_isForm_19 (by omega) rfl ?_
    refine lv_iconst hx hb dX12_isForm_314 (v := jI 0) rfl ?_
    exact hret _ _ _ _ _ _ h.1 h.2 hw dX12_isForm_315
  · refine lv_iconst hx hb dX12_isForm_11 (v := jI 0) rfl ?_
    exact hret _ _ _ _ _ _ h.1 h.2 hw dX12_isForm_12

end
theorem c_isForm {l : Launch} {a0 : Int} (ra0 : inR a0) {Q : Int → iST → Prop} {u : iST} (h : w_isForm a0 Q u) : kMI l yX12_isForm (.code yX12_isForm cX12_isForm 3 (some .boolean) :: wsM) { frames := 9, cells := 0, slots := 0, locals := 205 } [.int (jI a0)] Q u := kMZ_of rfl (fun _ => Nat.le_of_ble_eq_true rfl) (fun X hRf hRl hret hw hl => b_isForm_s X hRf hRl hret ra0 hw hl h)
