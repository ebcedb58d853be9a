/-! prove -/
theorem dX12_prove_0 : decode cX12_prove 0 = .ok (.aload_n 0, 1) := by decide +kernel
theorem dX12_prove_1 : decode cX12_prove 1 = .ok (.iconst 0, 1) := by decide +kernel
theorem dX12_prove_2 : decode cX12_prove 2 = .ok (.putfield 748, 3) := by decide +kernel
theorem dX12_prove_5 : decode cX12_prove 5 = .ok (.aload_n 0, 1) := by decide +kernel
theorem dX12_prove_6 : decode cX12_prove 6 = .ok (.getfield 733, 3) := by decide +kernel
theorem dX12_prove_9 : decode cX12_prove 9 = .ok (.iconst 1, 1) := by decide +kernel
theorem dX12_prove_10 : decode cX12_prove 10 = .ok (.isub, 1) := by decide +kernel
theorem dX12_prove_11 : decode cX12_prove 11 = .ok (.istore_n 1, 1) := by decide +kernel
theorem dX12_prove_12 : decode cX12_prove 12 = .ok (.iload_n 1, 1) := by decide +kernel
theorem dX12_prove_13 : decode cX12_prove 13 = .ok (.ifCond .lt 29, 3) := by decide +kernel
theorem dX12_prove_16 : decode cX12_prove 16 = .ok (.aload_n 0, 1) := by decide +kernel
theorem dX12_prove_17 : decode cX12_prove 17 = .ok (.getfield 251, 3) := by decide +kernel
theorem dX12_prove_20 : decode cX12_prove 20 = .ok (.aload_n 0, 1) := by decide +kernel
theorem dX12_prove_21 : decode cX12_prove 21 = .ok (.getfield 748, 3) := by decide +kernel
theorem dX12_prove_24 : decode cX12_prove 24 = .ok (.iload_n 1, 1) := by decide +kernel
theorem dX12_prove_25 : decode cX12_prove 25 = .ok (.iastore, 1) := by decide +kernel
theorem dX12_prove_26 : decode cX12_prove 26 = .ok (.aload_n 0, 1) := by decide +kernel
theorem dX12_prove_27 : decode cX12_prove 27 = .ok (.dup, 1) := by decide +kernel
theorem dX12_prove_28 : decode cX12_prove 28 = .ok (.getfield 748, 3) := by decide +kernel
theorem dX12_prove_31 : decode cX12_prove 31 = .ok (.iconst 1, 1) := by decide +kernel
theorem dX12_prove_32 : decode cX12_prove 32 = .ok (.iadd, 1) := by decide +kernel
theorem dX12_prove_33 : decode cX12_prove 33 = .ok (.putfield 748, 3) := by decide +kernel
theorem dX12_prove_36 : decode cX12_prove 36 = .ok (.iinc 1 (-1), 3) := by decide +kernel
theorem dX12_prove_39 : decode cX12_prove 39 = .ok (.goto (-27), 3) := by decide +kernel
theorem dX12_prove_42 : decode cX12_prove 42 = .ok (.aload_n 0, 1) := by decide +kernel
theorem dX12_prove_43 : decode cX12_prove 43 = .ok (.iconst 0, 1) := by decide +kernel
theorem dX12_prove_44 : decode cX12_prove 44 = .ok (.putfield 751, 3) := by decide +kernel
theorem dX12_prove_47 : decode cX12_prove 47 = .ok (.aload_n 0, 1) := by decide +kernel
theorem dX12_prove_48 : decode cX12_prove 48 = .ok (.getfield 480, 3) := by decide +kernel
theorem dX12_prove_51 : decode cX12_prove 51 = .ok (.ifCond .ne 79, 3) := by decide +kernel
theorem dX12_prove_54 : decode cX12_prove 54 = .ok (.aload_n 0, 1) := by decide +kernel
theorem dX12_prove_55 : decode cX12_prove 55 = .ok (.getfield 748, 3) := by decide +kernel
theorem dX12_prove_58 : decode cX12_prove 58 = .ok (.ifCond .le 72, 3) := by decide +kernel
theorem dX12_prove_61 : decode cX12_prove 61 = .ok (.aload_n 0, 1) := by decide +kernel
theorem dX12_prove_62 : decode cX12_prove 62 = .ok (.getfield 751, 3) := by decide +kernel
theorem dX12_prove_65 : decode cX12_prove 65 = .ok (.bipush 20, 2) := by decide +kernel
theorem dX12_prove_67 : decode cX12_prove 67 = .ok (.if_icmp .ge 63, 3) := by decide +kernel
theorem dX12_prove_70 : decode cX12_prove 70 = .ok (.aload_n 0, 1) := by decide +kernel
theorem dX12_prove_71 : decode cX12_prove 71 = .ok (.getfield 251, 3) := by decide +kernel
theorem dX12_prove_74 : decode cX12_prove 74 = .ok (.aload_n 0, 1) := by decide +kernel
theorem dX12_prove_75 : decode cX12_prove 75 = .ok (.getfield 748, 3) := by decide +kernel
theorem dX12_prove_78 : decode cX12_prove 78 = .ok (.iconst 1, 1) := by decide +kernel
theorem dX12_prove_79 : decode cX12_prove 79 = .ok (.isub, 1) := by decide +kernel
theorem dX12_prove_80 : decode cX12_prove 80 = .ok (.iaload, 1) := by decide +kernel
theorem dX12_prove_81 : decode cX12_prove 81 = .ok (.istore_n 1, 1) := by decide +kernel
theorem dX12_prove_82 : decode cX12_prove 82 = .ok (.aload_n 0, 1) := by decide +kernel
theorem dX12_prove_83 : decode cX12_prove 83 = .ok (.iload_n 1, 1) := by decide +kernel
theorem dX12_prove_84 : decode cX12_prove 84 = .ok (.invokevirtual 773, 3) := by decide +kernel
theorem dX12_prove_87 : decode cX12_prove 87 = .ok (.ifCond .eq 16, 3) := by decide +kernel
theorem dX12_prove_90 : decode cX12_prove 90 = .ok (.aload_n 0, 1) := by decide +kernel
theorem dX12_prove_91 : decode cX12_prove 91 = .ok (.dup, 1) := by decide +kernel
theorem dX12_prove_92 : decode cX12_prove 92 = .ok (.getfield 748, 3) := by decide +kernel
theorem dX12_prove_95 : decode cX12_prove 95 = .ok (.iconst 1, 1) := by decide +kernel
theorem dX12_prove_96 : decode cX12_prove 96 = .ok (.isub, 1) := by decide +kernel
theorem dX12_prove_97 : decode cX12_prove 97 = .ok (.putfield 748, 3) := by decide +kernel
theorem dX12_prove_100 : decode cX12_prove 100 = .ok (.goto 27, 3) := by decide +kernel
theorem dX12_prove_103 : decode cX12_prove 103 = .ok (.aload_n 0, 1) := by decide +kernel
theorem dX12_prove_104 : decode cX12_prove 104 = .ok (.getfield 248, 3) := by decide +kernel
theorem dX12_prove_107 : decode cX12_prove 107 = .ok (.iload_n 1, 1) := by decide +kernel
theorem dX12_prove_108 : decode cX12_prove 108 = .ok (.iaload, 1) := by decide +kernel
theorem dX12_prove_109 : decode cX12_prove 109 = .ok (.bipush 6, 2) := by decide +kernel
theorem dX12_prove_111 : decode cX12_prove 111 = .ok (.if_icmp .ne 11, 3) := by decide +kernel
theorem dX12_prove_114 : decode cX12_prove 114 = .ok (.aload_n 0, 1) := by decide +kernel
theorem dX12_prove_115 : decode cX12_prove 115 = .ok (.iload_n 1, 1) := by decide +kernel
theorem dX12_prove_116 : decode cX12_prove 116 = .ok (.invokevirtual 767, 3) := by decide +kernel
theorem dX12_prove_119 : decode cX12_prove 119 = .ok (.goto 8, 3) := by decide +kernel
theorem dX12_prove_122 : decode cX12_prove 122 = .ok (.aload_n 0, 1) := by decide +kernel
theorem dX12_prove_123 : decode cX12_prove 123 = .ok (.iload_n 1, 1) := by decide +kernel
theorem dX12_prove_124 : decode cX12_prove 124 = .ok (.invokevirtual 776, 3) := by decide +kernel
theorem dX12_prove_127 : decode cX12_prove 127 = .ok (.goto (-80), 3) := by decide +kernel
theorem dX12_prove_130 : decode cX12_prove 130 = .ok (.aload_n 0, 1) := by decide +kernel
theorem dX12_prove_131 : decode cX12_prove 131 = .ok (.iconst 0, 1) := by decide +kernel
theorem dX12_prove_132 : decode cX12_prove 132 = .ok (.putfield 625, 3) := by decide +kernel
theorem dX12_prove_135 : decode cX12_prove 135 = .ok (.aload_n 0, 1) := by decide +kernel
theorem dX12_prove_136 : decode cX12_prove 136 = .ok (.aload_n 0, 1) := by decide +kernel
theorem dX12_prove_137 : decode cX12_prove 137 = .ok (.getfield 480, 3) := by decide +kernel
theorem dX12_prove_140 : decode cX12_prove 140 = .ok (.ifCond .ne 14, 3) := by decide +kernel
theorem dX12_prove_143 : decode cX12_prove 143 = .ok (.aload_n 0, 1) := by decide +kernel
theorem dX12_prove_144 : decode cX12_prove 144 = .ok (.getfield 751, 3) := by decide +kernel
theorem dX12_prove_147 : decode cX12_prove 147 = .ok (.ifCond .ne 7, 3) := by decide +kernel
theorem dX12_prove_150 : decode cX12_prove 150 = .ok (.iconst 1, 1) := by decide +kernel
theorem dX12_prove_151 : decode cX12_prove 151 = .ok (.goto 4, 3) := by decide +kernel
theorem dX12_prove_154 : decode cX12_prove 154 = .ok (.iconst 0, 1) := by decide +kernel
theorem dX12_prove_155 : decode cX12_prove 155 = .ok (.putfield 779, 3) := by decide +kernel
theorem dX12_prove_158 : decode cX12_prove 158 = .ok (.aload_n 0, 1) := by decide +kernel
theorem dX12_prove_159 : decode cX12_prove 159 = .ok (.getfield 779, 3) := by decide +kernel
theorem dX12_prove_162 : decode cX12_prove 162 = .ok (.ireturn, 1) := by decide +kernel

section
variable {p : Program} {l : Launch} {e : Env} {R : Room} {s : State} {m : MethodId} {args : Array Value} {below : List Frame} {meth : Method} {c : Code} {H : Heap} {locs : List Loc} {Qf : State → Prop}
variable {ls : Array Slot} {D : va_G} {ca : Nat → ClassId} {A : Nat → Prop} {h0 : Nat} {ad : Nat → Nat} {H0 : Heap} {u : iST}
def w_prove_155 (Q : Int → iST → Prop) (y1 : Int) (u : iST) : Prop :=
  zt y1 (sw (iI u 62 y1) (fun u => 
  rz (u.1 62) (fun v5 => 
  zt v5 (Q v5 u))))
set_option maxRecDepth 20000 in
set_option maxHeartbeats 4000000 in
theorem b_prove_155 (X : kX p m c cX12_prove 2 s args D ca) (hRf : 14 ≤ R.frames) (hRl : 330 ≤ R.locals) {Q : Int → iST → Prop} (hret : ∀ (v : Int) (u : iST) (H : Heap) (locs : List Loc) (ls : Array Slot) (pc : Nat), bz v → Q v u → kW D ca A h0 ad H0 H locs u → decode cX12_prove pc = .ok (.ireturn, 1) → W p l e R s m args below meth c H locs 0 0 Qf (F0 m pc ls [.int (jI v)])) {y1 : Int} (ry1 : inR y1) (hw : kW D ca A h0 ad H0 H locs u) (hl : lv_has ls 2 [(0, .ref h0)]) (h : w_prove_155 Q y1 u) : W p l e R s m args below meth c H locs 0 0 Qf (F0 m 155 ls [.int (jI y1), .ref (h0)]) := by
  have hx := X.1.1
  have hb := X.1.2.1
  unfold w_prove_155 at h
  refine pZ 62 779 (by decide) L_62 rfl rfl rfl (fun _ _ _ _ _ => mSI_62) X hw dX12_prove_155 h (fun H locs u hw h => ?_)
  refine lv_aload_n hx hb dX12_prove_158 rfl (lv_at hl 0 rfl) ?_
  refine gZ 62 779 (by decide) L_62 (fun _ _ => mF_62) rfl (by decide) X hw dX12_prove_159 h (fun v5 rv5 h => ?_)
  exact hret _ _ _ _ _ _ h.1 h.2 hw dX12_prove_162

def w_prove_154 (Q : Int → iST → Prop) (u : iST) : Prop :=
  w_prove_155 Q 0 u
set_option maxRecDepth 20000 in
set_option maxHeartbeats 4000000 in
theorem b_prove_154 (X : kX p m c cX12_prove 2 s args D ca) (hRf : 14 ≤ R.frames) (hRl : 330 ≤ R.locals) {Q : Int → iST → Prop} (hret : ∀ (v : Int) (u : iST) (H : Heap) (locs : List Loc) (ls : Array Slot) (pc : Nat), bz v → Q v u → kW D ca A h0 ad H0 H locs u → decode cX12_prove pc = .ok (.ireturn, 1) → W p l e R s m args below meth c H locs 0 0 Qf (F0 m pc ls [.int (jI v)])) (hw : kW D ca A h0 ad H0 H locs u) (hl : lv_has ls 2 [(0, .ref h0)]) (h : w_prove_154 Q u) : W p l e R s m args below meth c H locs 0 0 Qf (F0 m 154 ls [.ref (h0)]) := by
  have hx := X.1.1
  have hb := X.1.2.1
  unfold w_prove_154 at h
  refine lv_iconst hx hb dX12_prove_154 (v := jI 0) rfl ?_
  exact b_prove_155 X hRf hRl hret (by decide) hw hl h

def w_prove_130 (Q : Int → iST → Prop) (u : iST) : Prop :=
  sw (iI u 109 0) (fun u => 
  rd (u.1 61) (fun v4 => 
  br (v4 ≠ 0) (
    w_prove_154 Q u) (
    rd (u.1 63) (fun v6 => 
    br (v6 ≠ 0) (
      w_prove_154 Q u) (
      w_prove_155 Q 1 u)))))
set_option maxRecDepth 20000 in
set_option maxHeartbeats 4000000 in
theorem b_prove_130 (X : kX p m c cX12_prove 2 s args D ca) (hRf : 14 ≤ R.frames) (hRl : 330 ≤ R.locals) {Q : Int → iST → Prop} (hret : ∀ (v : Int) (u : iST) (H : Heap) (locs : List Loc) (ls : Array Slot) (pc : Nat), bz v → Q v u → kW D ca A h0 ad H0 H locs u → decode cX12_prove pc = .ok (.ireturn, 1) → W p l e R s m args below meth c H locs 0 0 Qf (F0 m pc ls [.int (jI v)])) (hw : kW D ca A h0 ad H0 H locs u) (hl : lv_has ls 2 [(0, .ref h0)]) (h : w_prove_130 Q u) : W p l e R s m args below meth c H locs 0 0 Qf (F0 m 130 ls []) := by
  have hx := X.1.1
  have hb := X.1.2.1
  unfold w_prove_130 at h
  refine lv_aload_n hx hb dX12_prove_130 rfl (lv_at hl 0 rfl) ?_
  refine lv_iconst hx hb dX12_prove_131 (v := jI 0) rfl ?_
  refine pS 109 625 (by decide) L_109 rfl rfl rfl (fun _ _ _ _ _ => mSI_109) (by decide) X hw (by decide) dX12_prove_132 h (fun H locs u hw h => ?_)
  refine lv_aload_n hx hb dX12_prove_135 rfl (lv_at hl 0 rfl) ?_
  refine lv_aload_n hx hb dX12_prove_136 rfl (lv_at hl 0 rfl) ?_
  refine gS 61 480 (by decide) L_61 (fun _ _ => mF_61) rfl X hw dX12_prove_137 h (fun v4 rv4 h => ?_)
  refine k_if_ne hx hb rv4 dX12_prove_140 (tgt := 154) rfl h (fun h => ?_) (fun h => ?_)
  · exact b_prove_154 X hRf hRl hret hw hl h
  · refine lv_aload_n hx hb dX12_prove_143 rfl (lv_at hl 0 rfl) ?_
    refine gS 63 751 (by decide) L_63 (fun _ _ => mF_63) rfl X hw dX12_prove_144 h (fun v6 rv6 h => ?_)
    refine k_if_ne hx hb rv6 dX12_prove_147 (tgt := 154) rfl h (fun h => ?_) (fun h => ?_)
    · exact b_prove_154 X hRf hRl hret hw hl h
    · refine lv_iconst hx hb dX12_prove_150 (v := jI 1) rfl ?_
      refine lv_goto hx hb dX12_prove_151 (tgt := 155) rfl ?_
      exact b_prove_155 X hRf hRl hret (by decide) hw hl h

def w_prove_47b (R47 : iST → Prop) (Q : Int → iST → Prop) (u : iST) : Prop :=
  rd (u.1 61) (fun v3 => 
  br (v3 ≠ 0) (
    w_prove_130 Q u) (
    rd (u.1 119) (fun v7 => 
    br (v7 ≤ 0) (
      w_prove_130 Q u) (
      rd (u.1 63) (fun v8 => 
      br (20 ≤ v8) (
        w_prove_130 Q u) (
        rd (u.1 119) (fun v9 => 
        ov (v9 - 1) (
        bd (v9 - 1) 2300 (rd (u.2.1 118 (v9 - 1)) (fun v11 => 
        w_isProved v11 (fun v12 u => 
        br (v12 = 0) (
          bd v11 2300 (rd (u.2.1 116 v11) (fun v13 => 
          br (v13 ≠ 6) (
            w_round v11 (fun u => 
            R47 u) u) (
            w_leave v11 (fun u => 
            R47 u) u)))) (
          rd (u.1 119) (fun v16 => 
          ov (v16 - 1) (
          sw (iI u 119 (v16 - 1)) (fun u => 
          R47 u))))) u))))))))))
def w_prove_47 (Q : Int → iST → Prop) (u : iST) : Prop := ∀ R47 : iST → Prop, (∀ (u : iST), w_prove_47b R47 Q u → R47 u) → R47 u
set_option maxRecDepth 20000 in
set_option maxHeartbeats 4000000 in
theorem b_prove_47 (X : kX p m c cX12_prove 2 s args D ca) (hRf : 14 ≤ R.frames) (hRl : 330 ≤ R.locals) {Q : Int → iST → Prop} (hret : ∀ (v : Int) (u : iST) (H : Heap) (locs : List Loc) (ls : Array Slot) (pc : Nat), bz v → Q v u → kW D ca A h0 ad H0 H locs u → decode cX12_prove pc = .ok (.ireturn, 1) → W p l e R s m args below meth c H locs 0 0 Qf (F0 m pc ls [.int (jI v)])) (hw : kW D ca A h0 ad H0 H locs u) (hl : lv_has ls 2 [(0, .ref h0)]) (h : w_prove_47 Q u) : W p l e R s m args below meth c H locs 0 0 Qf (F0 m 47 ls []) := by
  refine h (fun u => ∀ (H : Heap) (locs : List Loc) (ls : Array Slot), kW D ca A h0 ad H0 H locs u → lv_has ls 2 [(0, .ref h0)] → W p l e R s m args below meth c H locs 0 0 Qf (F0 m 47 ls [])) ?_ H locs ls hw hl
  clear h hl hw
  intro u h H locs ls hw hl
  have hR47 : ∀ (u : iST) (H : Heap) (locs : List Loc) (ls : Array Slot), kW D ca A h0 ad H0 H locs u → lv_has ls 2 [(0, .ref h0)] → (fun u => ∀ (H : Heap) (locs : List Loc) (ls : Array Slot), kW D ca A h0 ad H0 H locs u → lv_has ls 2 [(0, .ref h0)] → W p l e R s m args below meth c H locs 0 0 Qf (F0 m 47 ls [])) u → W p l e R s m args below meth c H locs 0 0 Qf (F0 m 47 ls []) := fun u H locs ls hw hl h => h H locs ls hw hl
  have hx := X.1.1
  have hb := X.1.2.1
  unfold w_prove_47b at h
  refine lv_aload_n hx hb dX12_prove_47 rfl (lv_at hl 0 rfl) ?_
  refine gS 61 480 (by decide) L_61 (fun _ _ => mF_61) rfl X hw dX12_prove_48 h (fun v3 rv3 h => ?_)
  refine k_if_ne hx hb rv3 dX12_prove_51 (tgt := 130) rfl h (fun h => ?_) (fun h => ?_)
  · exact b_prove_130 X hRf hRl hret hw hl h
  · refine lv_aload_n hx hb dX12_prove_54 rfl (lv_at hl 0 rfl) ?_
    refine gS 119 748 (by decide) L_119 (fun _ _ => mF_119) rfl X hw dX12_prove_55 h (fun v7 rv7 h => ?_)
    refine k_if_le hx hb rv7 dX12_prove_58 (tgt := 130) rfl h (fun h => ?_) (fun h => ?_)
    · exact b_prove_130 X hRf hRl hret hw hl h
    · refine lv_aload_n hx hb dX12_prove_61 rfl (lv_at hl 0 rfl) ?_
      refine gS 63 751 (by decide) L_63 (fun _ _ => mF_63) rfl X hw dX12_prove_62 h (fun v8 rv8 h => ?_)
      refine lv_bipush hx hb dX12_prove_65 (v := jI 20) rfl ?_
      refine k_icmp_ge hx hb rv8 (by decide) dX12_prove_67 (tgt := 130) rfl h (fun h => ?_) (fun h => ?_)
      · exact b_prove_130 X hRf hRl hret hw hl h
      · refine lv_aload_n hx hb dX12_prove_70 rfl (lv_at hl 0 rfl) ?_
        refine gA 118 251 (by decide) L_118 (fun _ _ => mF_118) rfl X hw dX12_prove_71 ?_
        refine lv_aload_n hx hb dX12_prove_74 rfl (lv_at hl 0 rfl) ?_
        refine gS 119 748 (by decide) L_119 (fun _ _ => mF_119) rfl X hw dX12_prove_75 h (fun v9 rv9 h => ?_)
        refine lv_iconst hx hb dX12_prove_78 (v := jI 1) rfl ?_
        refine k_isub hx hb dX12_prove_79 h (fun r10 h => ?_)
        refine aL 118 76 75 2300 (fun _ _ _ _ => mG_118) (fun _ => rfl) X hw r10 dX12_prove_80 rfl h (fun v11 rv11 h => ?_)
        refine lv_istore_n hx hb dX12_prove_81 rfl hl (by decide) rfl (fun ls hl => ?_)
        have hl : lv_has ls 2 [(1, .int (jI v11)), (0, .ref (h0))] := hl
        refine lv_aload_n hx hb dX12_prove_82 rfl (lv_at hl 1 rfl) ?_
        refine lv_iload_n hx hb dX12_prove_83 rfl (lv_at hl 0 rfl) ?_
        refine kcI (n := 1) (c_isProved rv11 h) G_isProved E_isProved X hw (Nat.le_trans (Nat.le_of_ble_eq_true rfl) hRf) (Nat.le_trans (Nat.le_of_ble_eq_true rfl) hRl) rfl hl.1 (Nat.le_of_ble_eq_true rfl) rfl dX12_prove_84 (fun v12 u H locs rv12 h hw => ?_)
        refine k_if_eq hx hb rv12 dX12_prove_87 (tgt := 103) rfl h (fun h => ?_) (fun h => ?_)
        · refine lv_aload_n hx hb dX12_prove_103 rfl (lv_at hl 1 rfl) ?_
          refine gA 116 248 (by decide) L_116 (fun _ _ => mF_116) rfl X hw dX12_prove_104 ?_
          refine lv_iload_n hx hb dX12_prove_107 rfl (lv_at hl 0 rfl) ?_
          refine aL 116 75 74 2300 (fun _ _ _ _ => mG_116) (fun _ => rfl) X hw rv11 dX12_prove_108 rfl h (fun v13 rv13 h => ?_)
          refine lv_bipush hx hb dX12_prove_109 (v := jI 6) rfl ?_
          refine k_icmp_ne hx hb rv13 (by decide) dX12_prove_111 (tgt := 122) rfl h (fun h => ?_) (fun h => ?_)
          · refine lv_aload_n hx hb dX12_prove_122 rfl (lv_at hl 1 rfl) ?_
            refine lv_iload_n hx hb dX12_prove_123 rfl (lv_at hl 0 rfl) ?_
            refine kcV (n := 1) (c_round rv11 h) G_round E_round X hw (Nat.le_trans (Nat.le_of_ble_eq_true rfl) hRf) (Nat.le_trans (Nat.le_of_ble_eq_true rfl) hRl) rfl hl.1 (Nat.le_of_ble_eq_true rfl) rfl dX12_prove_124 (fun u H locs h hw => ?_)
            refine lv_goto hx hb dX12_prove_127 (tgt := 47) rfl ?_
            exact hR47 _ H locs ls hw (lv_sub hl [1] rfl) h
          · refine lv_aload_n hx hb dX12_prove_114 rfl (lv_at hl 1 rfl) ?_
            refine lv_iload_n hx hb dX12_prove_115 rfl (lv_at hl 0 rfl) ?_
            refine kcV (n := 1) (c_leave rv11 h) G_leave E_leave X hw (Nat.le_trans (Nat.le_of_ble_eq_true rfl) hRf) (Nat.le_trans (Nat.le_of_ble_eq_true rfl) hRl) rfl hl.1 (Nat.le_of_ble_eq_true rfl) rfl dX12_prove_116 (fun u H locs h hw => ?_)
            refine lv_goto hx hb dX12_prove_119 (tgt := 127) rfl ?_
            refine lv_goto hx hb dX12_prove_127 (tgt := 47) rfl ?_
            exact hR47 _ H locs ls hw (lv_sub hl [1] rfl) h
        · refine lv_aload_n hx hb dX12_prove_90 rfl (lv_at hl 1 rfl) ?_
          refine lv_dup hx hb dX12_prove_91 rfl ?_
          refine gS 119 748 (by decide) L_119 (fun _ _ => mF_119) rfl X hw dX12_prove_92 h (fun v16 rv16 h => ?_)
          refine lv_iconst hx hb dX12_prove_95 (v := jI 1) rfl ?_
          refine k_isub hx hb dX12_prove_96 h (fun r17 h => ?_)
          refine pS 119 748 (by decide) L_119 rfl rfl rfl (fun _ _ _ _ _ => mSI_119) (by decide) X hw r17 dX12_prove_97 h (fun H locs u hw h => ?_)
          refine lv_goto hx hb dX12_prove_100 (tgt := 127) rfl ?_
          refine lv_goto hx hb dX12_prove_127 (tgt := 47) rfl ?_
          exact hR47 _ H locs ls hw (lv_sub hl [1] rfl) h

def w_prove_12b (R12 : Int → iST → Prop) (Q : Int → iST → Prop) (x1 : Int) (u : iST) : Prop :=
  br (x1 < 0) (
    sw (iI u 63 0) (fun u => 
    w_prove_47 Q u)) (
    rd (u.1 119) (fun v18 => 
    bd v18 2300 (sw (iA u 118 v18 x1) (fun u => 
    rd (u.1 119) (fun v19 => 
    ov (v19 + 1) (
    sw (iI u 119 (v19 + 1)) (fun u => 
    ov (x1 + (-1)) (
    R12 (x1 + (-1)) u))))))))
def w_prove_12 (Q : Int → iST → Prop) (x1 : Int) (u : iST) : Prop := ∀ R12 : Int → iST → Prop, (∀ (x1 : Int) (u : iST), w_prove_12b R12 Q x1 u → R12 x1 u) → R12 x1 u
set_option maxRecDepth 20000 in
set_option maxHeartbeats 4000000 in
theorem b_prove_12 (X : kX p m c cX12_prove 2 s args D ca) (hRf : 14 ≤ R.frames) (hRl : 330 ≤ R.locals) {Q : Int → iST → Prop} (hret : ∀ (v : Int) (u : iST) (H : Heap) (locs : List Loc) (ls : Array Slot) (pc : Nat), bz v → Q v u → kW D ca A h0 ad H0 H locs u → decode cX12_prove pc = .ok (.ireturn, 1) → W p l e R s m args below meth c H locs 0 0 Qf (F0 m pc ls [.int (jI v)])) {x1 : Int} (rx1 : inR x1) (hw : kW D ca A h0 ad H0 H locs u) (hl : lv_has ls 2 [(0, .ref h0), (1, .int (jI x1))]) (h : w_prove_12 Q x1 u) : W p l e R s m args below meth c H locs 0 0 Qf (F0 m 12 ls []) := by
  refine h (fun x1 u => ∀ (H : Heap) (locs : List Loc) (ls : Array Slot), inR x1 → kW D ca A h0 ad H0 H locs u → lv_has ls 2 [(0, .ref h0), (1, .int (jI x1))] → W p l e R s m args below meth c H locs 0 0 Qf (F0 m 12 ls [])) ?_ H locs ls rx1 hw hl
  clear h hl hw rx1
  intro x1 u h H locs ls rx1 hw hl
  have hR12 : ∀ (x1 : Int) (u : iST) (H : Heap) (locs : List Loc) (ls : Array Slot), inR x1 → kW D ca A h0 ad H0 H locs u → lv_has ls 2 [(0, .ref h0), (1, .int (jI x1))] → (fun (x1 : Int) u => ∀ (H : Heap) (locs : List Loc) (ls : Array Slot), inR x1 → kW D ca A h0 ad H0 H locs u → lv_has ls 2 [(0, .ref h0), (1, .int (jI x1))] → W p l e R s m args below meth c H locs 0 0 Qf (F0 m 12 ls [])) x1 u → W p l e R s m args below meth c H locs 0 0 Qf (F0 m 12 ls []) := fun x1 u H locs ls rx1 hw hl h => h H locs ls rx1 hw hl
  have hx := X.1.1
  have hb := X.1.2.1
  unfold w_prove_12b at h
  refine lv_iload_n hx hb dX12_prove_12 rfl (lv_at hl 1 rfl) ?_
  refine k_if_lt hx hb rx1 dX12_prove_13 (tgt := 42) rfl h (fun h => ?_) (fun h => ?_)
  · refine lv_aload_n hx hb dX12_prove_42 rfl (lv_at hl 0 rfl) ?_
    refine lv_iconst hx hb dX12_prove_43 (v := jI 0) rfl ?_
    refine pS 63 751 (by decide) L_63 rfl rfl rfl (fun _ _ _ _ _ => mSI_63) (by decide) X hw (by decide) dX12_prove_44 h (fun H locs u hw h => ?_)
    exact b_prove_47 X hRf hRl hret hw (lv_sub hl [0] rfl) h
  · refine lv_aload_n hx hb dX12_prove_16 rfl (lv_at hl 0 rfl) ?_
    refine gA 118 251 (by decide) L_118 (fun _ _ => mF_118) rfl X hw dX12_prove_17 ?_
    refine lv_aload_n hx hb dX12_prove_20 rfl (lv_at hl 0 rfl) ?_
    refine gS 119 748 (by decide) L_119 (fun _ _ => mF_119) rfl X hw dX12_prove_21 h (fun v18 rv18 h => ?_)
    refine lv_iload_n hx hb dX12_prove_24 rfl (lv_at hl 1 rfl) ?_
    refine aS 118 76 75 2300 (fun _ _ _ _ => mG_118) (fun _ => rfl) (fun _ _ _ _ _ _ => mSA_118) (by decide) X hw rv18 rx1 dX12_prove_25 rfl h (fun H locs u hw h => ?_)
    refine lv_aload_n hx hb dX12_prove_26 rfl (lv_at hl 0 rfl) ?_
    refine lv_dup hx hb dX12_prove_27 rfl ?_
    refine gS 119 748 (by decide) L_119 (fun _ _ => mF_119) rfl X hw dX12_prove_28 h (fun v19 rv19 h => ?_)
    refine lv_iconst hx hb dX12_prove_31 (v := jI 1) rfl ?_
    refine k_iadd hx hb dX12_prove_32 h (fun r20 h => ?_)
    refine pS 119 748 (by decide) L_119 rfl rfl rfl (fun _ _ _ _ _ => mSI_119) (by decide) X hw r20 dX12_prove_33 h (fun H locs u hw h => ?_)
    refine k_iinc (k := 1) hx hb dX12_prove_36 hl rfl (by decide) rfl h (fun ls r21 h hl => ?_)
    have hl : lv_has ls 2 [(1, .int (jI (x1 + (-1)))), (0, .ref (h0))] := hl
    refine lv_goto hx hb dX12_prove_39 (tgt := 12) rfl ?_
    exact hR12 _ _ H locs ls r21 hw (lv_sub hl [1, 0] rfl) h

def w_prove (Q : Int → iST → Prop) (u : iST) : Prop :=
  sw (iI u 119 0) (fun u => 
  rd (u.1 117) (fun v1 => 
  ov (v1 - 1) (
  w_prove_12 Q (v1 - 1) u)))
set_option maxRecDepth 20000 in
set_option maxHeartbeats 4000000 in
theorem b_prove_s (X : kX p m c cX12_prove 2 s args D ca) (hRf : 14 ≤ R.frames) (hRl : 330 ≤ R.locals) {Q : Int → iST → Prop} (hret : ∀ (v : Int) (u : iST) (H : Heap) (locs : List Loc) (ls : Array Slot) (pc : Nat), bz v → Q v u → kW D ca A h0 ad H0 H locs u → decode cX12_prove pc = .ok (.ireturn, 1) → W p l e R s m args below meth c H locs 0 0 Qf (F0 m pc ls [.int (jI v)])) (hw : kW D ca A h0 ad H0 H locs u) (hl : lv_has ls 2 [(0, .ref h0)]) (h : w_prove Q u) : W p l e R s m args below meth c H locs 0 0 Qf (F0 m 0 ls []) := by
  have hx := X.1.1
  have hb := X.1.2.1
  unfold w_prove at h
  refine lv_aload_n hx hb dX12_prove_0 rfl (lv_at hl 0 rfl) ?_
  refine lv_iconst hx hb dX12_prove_1 (v := jI 0) rfl ?_
  refine pS 119 748 (by decide) L_119 rfl rfl rfl (fun _ _ _ _ _ => mSI_119) (by decide) X hw (by decide) dX12_prove_2 h (fun H locs u hw h => ?_)
  refine lv_aload_n hx hb dX12_prove_5 rfl (lv_at hl 0 rfl) ?_
  refine gS 117 733 (by decide) L_117 (fun _ _ => mF_117) rfl X hw dX12_prove_6 h (fun v1 rv1 h => ?_)
  refine lv_iconst hx hb dX12_prove_9 (v := jI 1) rfl ?_
  refine k_isub hx hb dX12_prove_10 h (fun r2 h => ?_)
  refine lv_istore_n hx hb dX12_prove_11 rfl hl (by decide) rfl (fun ls hl => ?_)
  have hl : lv_has ls 2 [(1, .int (jI (v1 - 1))), (0, .ref (h0))] := hl
  exact b_prove_12 X hRf hRl hret r2 hw (lv_sub hl [1, 0] rfl) h

end
theorem c_prove {l : Launch} {Q : Int → iST → Prop} {u : iST} (h : w_prove Q u) : kMI l yX12_prove (.code yX12_prove cX12_prove 2 (some .boolean) :: wsM) { frames := 14, cells := 0, slots := 0, locals := 330 } [] Q u := kMZ_of rfl (fun _ => Nat.le_of_ble_eq_true rfl) (fun X hRf hRl hret hw hl => b_prove_s X hRf hRl hret hw hl h)

/-! tellOut -/
theorem dX12_tellOut_0 : decode cX12_tellOut 0 = .ok (.aload_n 0, 1) := by decide +kernel
theorem dX12_tellOut_1 : decode cX12_tellOut 1 = .ok (.iconst 0, 1) := by decide +kernel
theorem dX12_tellOut_2 : decode cX12_tellOut 2 = .ok (.putfield 441, 3) := by decide +kernel
theorem dX12_tellOut_5 : decode cX12_tellOut 5 = .ok (.aload_n 0, 1) := by decide +kernel
theorem dX12_tellOut_6 : decode cX12_tellOut 6 = .ok (.iload_n 1, 1) := by decide +kernel
theorem dX12_tellOut_7 : decode cX12_tellOut 7 = .ok (.invokevirtual 465, 3) := by decide +kernel
theorem dX12_tellOut_10 : decode cX12_tellOut 10 = .ok (.return_, 1) := by decide +kernel

section
variable {p : Program} {l : Launch} {e : Env} {R : Room} {s : State} {m : MethodId} {args : Array Value} {below : List Frame} {meth : Method} {c : Code} {H : Heap} {locs : List Loc} {Qf : State → Prop}
variable {ls : Array Slot} {D : va_G} {ca : Nat → ClassId} {A : Nat → Prop} {h0 : Nat} {ad : Nat → Nat} {H0 : Heap} {u : iST}
def w_tellOut (a0 : Int) (Q : iST → Prop) (u : iST) : Prop :=
  sw (iI u 16 0) (fun u => 
  w_tellObject a0 (fun u => 
  Q u) u)
set_option maxRecDepth 20000 in
set_option maxHeartbeats 4000000 in
theorem b_tellOut_s (X : kX p m c cX12_tellOut 2 s args D ca) (hRf : 3 ≤ R.frames) (hRl : 67 ≤ R.locals) {Q : iST → Prop} (hret : ∀ (u : iST) (H : Heap) (locs : List Loc) (ls : Array Slot) (pc : Nat), Q u → kW D ca A h0 ad H0 H locs u → decode cX12_tellOut pc = .ok (.return_, 1) → W p l e R s m args below meth c H locs 0 0 Qf (F0 m pc ls [])) {a0 : Int} (ra0 : inR a0) (hw : kW D ca A h0 ad H0 H locs u) (hl : lv_has ls 2 [(0, .ref h0), (1, .int (jI a0))]) (h : w_tellOut a0 Q u) : W p l e R s m args below meth c H locs 0 0 Qf (F0 m 0 ls []) := by
  have hx := X.1.1
  have hb := X.1.2.1
  unfold w_tellOut at h
  refine lv_aload_n hx hb dX12_tellOut_0 rfl (lv_at hl 0 rfl) ?_
  refine lv_iconst hx hb dX12_tellOut_1 (v := jI 0) rfl ?_
  refine pS 16 441 (by decide) L_16 rfl rfl rfl (fun _ _ _ _ _ => mSI_16) (by decide) X hw (by decide) dX12_tellOut_2 h (fun H locs u hw h => ?_)
  refine lv_aload_n hx hb dX12_tellOut_5 rfl (lv_at hl 0 rfl) ?_
  refine lv_iload_n hx hb dX12_tellOut_6 rfl (lv_at hl 1 rfl) ?_
  refine kcV (n := 1) (c_tellObject ra0 h) G_tellObject E_tellObject X hw (Nat.le_trans (Nat.le_of_ble_eq_true rfl) hRf) (Nat.le_trans (Nat.le_of_ble_eq_true rfl) hRl) rfl hl.1 (Nat.le_of_ble_eq_true rfl) rfl dX12_tellOut_7 (fun u H locs h hw => ?_)
  exact hret _ _ _ _ _ h hw dX12_tellOut_10

end
theorem c_tellOut {l : Launch} {a0 : Int} (ra0 : inR a0) {Q : iST → Prop} {u : iST} (h : w_tellOut a0 Q u) : kMV l yX12_tellOut (.code yX12_tellOut cX12_tellOut 2 none :: wsM) { frames := 3, cells := 0, slots := 0, locals := 67 } [.int (jI a0)] Q u := kMV_of rfl (fun _ => Nat.le_of_ble_eq_true rfl) (fun X hRf hRl hret hw hl => b_tellOut_s X hRf hRl hret ra0 hw hl h)

/-! rowList -/
theorem dX12_rowList_0 : decode cX12_rowList 0 = .ok (.iconst 0, 1) := by decide +kernel
theorem dX12_rowList_1 : decode cX12_rowList 1 = .ok (.istore_n 2, 1) := by decide +kernel
theorem dX12_rowList_2 : decode cX12_rowList 2 = .ok (.aload_n 0, 1) := by decide +kernel
theorem dX12_rowList_3 : decode cX12_rowList 3 = .ok (.getfield 245, 3) := by decide +kernel
theorem dX12_rowList_6 : decode cX12_rowList 6 = .ok (.iload_n 1, 1) := by decide +kernel
theorem dX12_rowList_7 : decode cX12_rowList 7 = .ok (.iaload, 1) := by decide +kernel
theorem dX12_rowList_8 : decode cX12_rowList 8 = .ok (.iconst 1, 1) := by decide +kernel
theorem dX12_rowList_9 : decode cX12_rowList 9 = .ok (.isub, 1) := by decide +kernel
theorem dX12_rowList_10 : decode cX12_rowList 10 = .ok (.istore_n 3, 1) := by decide +kernel
theorem dX12_rowList_11 : decode cX12_rowList 11 = .ok (.iload_n 3, 1) := by decide +kernel
theorem dX12_rowList_12 : decode cX12_rowList 12 = .ok (.ifCond .lt 26, 3) := by decide +kernel
theorem dX12_rowList_15 : decode cX12_rowList 15 = .ok (.aload_n 0, 1) := by decide +kernel
theorem dX12_rowList_16 : decode cX12_rowList 16 = .ok (.aload_n 0, 1) := by decide +kernel
theorem dX12_rowList_17 : decode cX12_rowList 17 = .ok (.getfield 242, 3) := by decide +kernel
theorem dX12_rowList_20 : decode cX12_rowList 20 = .ok (.bipush 30, 2) := by decide +kernel
theorem dX12_rowList_22 : decode cX12_rowList 22 = .ok (.iload_n 1, 1) := by decide +kernel
theorem dX12_rowList_23 : decode cX12_rowList 23 = .ok (.imul, 1) := by decide +kernel
theorem dX12_rowList_24 : decode cX12_rowList 24 = .ok (.iload_n 3, 1) := by decide +kernel
theorem dX12_rowList_25 : decode cX12_rowList 25 = .ok (.iadd, 1) := by decide +kernel
theorem dX12_rowList_26 : decode cX12_rowList 26 = .ok (.iaload, 1) := by decide +kernel
theorem dX12_rowList_27 : decode cX12_rowList 27 = .ok (.iload_n 2, 1) := by decide +kernel
theorem dX12_rowList_28 : decode cX12_rowList 28 = .ok (.invokevirtual 353, 3) := by decide +kernel
theorem dX12_rowList_31 : decode cX12_rowList 31 = .ok (.istore_n 2, 1) := by decide +kernel
theorem dX12_rowList_32 : decode cX12_rowList 32 = .ok (.iinc 3 (-1), 3) := by decide +kernel
theorem dX12_rowList_35 : decode cX12_rowList 35 = .ok (.goto (-24), 3) := by decide +kernel
theorem dX12_rowList_38 : decode cX12_rowList 38 = .ok (.iload_n 2, 1) := by decide +kernel
theorem dX12_rowList_39 : decode cX12_rowList 39 = .ok (.ireturn, 1) := by decide +kernel

section
variable {p : Program} {l : Launch} {e : Env} {R : Room} {s : State} {m : MethodId} {args : Array Value} {below : List Frame} {meth : Method} {c : Code} {H : Heap} {locs : List Loc} {Qf : State → Prop}
variable {ls : Array Slot} {D : va_G} {ca : Nat → ClassId} {A : Nat → Prop} {h0 : Nat} {ad : Nat → Nat} {H0 : Heap} {u : iST}
def w_rowList_11b (R11 : Int → Int → Int → iST → Prop) (Q : Int → iST → Prop) (x1 : Int) (x2 : Int) (x3 : Int) (u : iST) : Prop :=
  br (x3 < 0) (
    Q x2 u) (
    ov (30 * x1) (
    ov ((30 * x1) + x3) (
    bd ((30 * x1) + x3) 69000 (rd (u.2.1 114 ((30 * x1) + x3)) (fun v5 => 
    w_pair v5 x2 (fun v6 u => 
    ov (x3 + (-1)) (
    R11 x1 v6 (x3 + (-1)) u)) u)))))
def w_rowList_11 (Q : Int → iST → Prop) (x1 : Int) (x2 : Int) (x3 : Int) (u : iST) : Prop := ∀ R11 : Int → Int → Int → iST → Prop, (∀ (x1 : Int) (x2 : Int) (x3 : Int) (u : iST), w_rowList_11b R11 Q x1 x2 x3 u → R11 x1 x2 x3 u) → R11 x1 x2 x3 u
set_option maxRecDepth 20000 in
set_option maxHeartbeats 4000000 in
theorem b_rowList_11 (X : kX p m c cX12_rowList 4 s args D ca) (hRf : 2 ≤ R.frames) (hRl : 47 ≤ R.locals) {Q : Int → iST → Prop} (hret : ∀ (v : Int) (u : iST) (H : Heap) (locs : List Loc) (ls : Array Slot) (pc : Nat), inR v → Q v u → kW D ca A h0 ad H0 H locs u → decode cX12_rowList pc = .ok (.ireturn, 1) → W p l e R s m args below meth c H locs 0 0 Qf (F0 m pc ls [.int (jI v)])) {x1 x2 x3 : Int} (rx1 : inR x1) (rx2 : inR x2) (rx3 : inR x3) (hw : kW D ca A h0 ad H0 H locs u) (hl : lv_has ls 4 [(0, .ref h0), (1, .int (jI x1)), (2, .int (jI x2)), (3, .int (jI x3))]) (h : w_rowList_11 Q x1 x2 x3 u) : W p l e R s m args below meth c H locs 0 0 Qf (F0 m 11 ls []) := by
  refine h (fun x1 x2 x3 u => ∀ (H : Heap) (locs : List Loc) (ls : Array Slot), inR x1 → inR x2 → inR x3 → kW D ca A h0 ad H0 H locs u → lv_has ls 4 [(0, .ref h0), (1, .int (jI x1)), (2, .int (jI x2)), (3, .int (jI x3))] → W p l e R s m args below meth c H locs 0 0 Qf (F0 m 11 ls [])) ?_ H locs ls rx1 rx2 rx3 hw hl
  clear h hl hw rx1 rx2 rx3
  intro x1 x2 x3 u h H locs ls rx1 rx2 rx3 hw hl
  have hR11 : ∀ (x1 : Int) (x2 : Int) (x3 : Int) (u : iST) (H : Heap) (locs : List Loc) (ls : Array Slot), inR x1 → inR x2 → inR x3 → kW D ca A h0 ad H0 H locs u → lv_has ls 4 [(0, .ref h0), (1, .int (jI x1)), (2, .int (jI x2)), (3, .int (jI x3))] → (fun (x1 : Int) (x2 : Int) (x3 : Int) u => ∀ (H : Heap) (locs : List Loc) (ls : Array Slot), inR x1 → inR x2 → inR x3 → kW D ca A h0 ad H0 H locs u → lv_has ls 4 [(0, .ref h0), (1, .int (jI x1)), (2, .int (jI x2)), (3, .int (jI x3))] → W p l e R s m args below meth c H locs 0 0 Qf (F0 m 11 ls [])) x1 x2 x3 u → W p l e R s m args below meth c H locs 0 0 Qf (F0 m 11 ls []) := fun x1 x2 x3 u H locs ls rx1 rx2 rx3 hw hl h => h H locs ls rx1 rx2 rx3 hw hl
  have hx := X.1.1
  have hb := X.1.2.1
  unfold w_rowList_11b at h
  refine lv_iload_n hx hb dX12_rowList_11 rfl (lv_at hl 3 rfl) ?_
  refine k_if_lt hx hb rx3 dX12_rowList_12 (tgt := 38) rfl h (fun h => ?_) (fun h => ?_)
  · refine lv_iload_n hx hb dX12_rowList_38 rfl (lv_at hl 2 rfl) ?_
    exact hret _ _ _ _ _ _ rx2 h hw dX12_rowList_39
  · refine lv_aload_n hx hb dX12_rowList_15 rfl (lv_at hl 0 rfl) ?_
    refine lv_aload_n hx hb dX12_rowList_16 rfl (lv_at hl 0 rfl) ?_
    refine gA 114 242 (by decide) L_114 (fun _ _ => mF_114) rfl X hw dX12_rowList_17 ?_
    refine lv_bipush hx hb dX12_rowList_20 (v := jI 30) rfl ?_
    refine lv_iload_n hx hb dX12_rowList_22 rfl (lv_at hl 1 rfl) ?_
    refine k_imul hx hb dX12_rowList_23 h (fun r3 h => ?_)
    refine lv_iload_n hx hb dX12_rowList_24 rfl (lv_at hl 3 rfl) ?_
    refine k_iadd hx hb dX12_rowList_25 h (fun r4 h => ?_)
    refine aL 114 73 72 69000 (fun _ _ _ _ => mG_114) (fun _ => rfl) X hw r4 dX12_rowList_26 rfl h (fun v5 rv5 h => ?_)
    refine lv_iload_n hx hb dX12_rowList_27 rfl (lv_at hl 2 rfl) ?_
    refine kcI (n := 2) (c_pair rv5 rx2 h) G_pair E_pair X hw (Nat.le_trans (Nat.le_of_ble_eq_true rfl) hRf) (Nat.le_trans (Nat.le_of_ble_eq_true rfl) hRl) rfl hl.1 (Nat.le_of_ble_eq_true rfl) rfl dX12_rowList_28 (fun v6 u H locs rv6 h hw => ?_)
    refine lv_istore_n hx hb dX12_rowList_31 rfl hl (by decide) rfl (fun ls hl => ?_)
    have hl : lv_has ls 4 [(2, .int (jI v6)), (0, .ref (h0)), (1, .int (jI x1)), (3, .int (jI x3))] := hl
    refine k_iinc (k := 3) hx hb dX12_rowList_32 hl rfl (by decide) rfl h (fun ls r7 h hl => ?_)
    have hl : lv_has ls 4 [(3, .int (jI (x3 + (-1)))), (2, .int (jI v6)), (0, .ref (h0)), (1, .int (jI x1))] := hl
    refine lv_goto hx hb dX12_rowList_35 (tgt := 11) rfl ?_
    exact hR11 _ _ _ _ H locs ls rx1 rv6 r7 hw (lv_sub hl [2, 3, 1, 0] rfl) h

def w_rowList (a0 : Int) (Q : Int → iST → Prop) (u : iST) : Prop :=
  bd a0 2300 (rd (u.2.1 115 a0) (fun v1 => 
  ov (v1 - 1) (
  w_rowList_11 Q a0 0 (v1 - 1) u)))
set_option maxRecDepth 20000 in
set_option maxHeartbeats 4000000 in
theorem b_rowList_s (X : kX p m c cX12_rowList 4 s args D ca) (hRf : 2 ≤ R.frames) (hRl : 47 ≤ R.locals) {Q : Int → iST → Prop} (hret : ∀ (v : Int) (u : iST) (H : Heap) (locs : List Loc) (ls : Array Slot) (pc : Nat), inR v → Q v u → kW D ca A h0 ad H0 H locs u → decode cX12_rowList pc = .ok (.ireturn, 1) → W p l e R s m args below meth c H locs 0 0 Qf (F0 m pc ls [.int (jI v)])) {a0 : Int} (ra0 : inR a0) (hw : kW D ca A h0 ad H0 H locs u) (hl : lv_has ls 4 [(0, .ref h0), (1, .int (jI a0))]) (h : w_rowList a0 Q u) : W p l e R s m args below meth c H locs 0 0 Qf (F0 m 0 ls []) := by
  have hx := X.1.1
  have hb := X.1.2.1
  unfold w_rowList at h
  refine lv_iconst hx hb dX12_rowList_0 (v := jI 0) rfl ?_
  refine lv_istore_n hx hb dX12_rowList_1 rfl hl (by decide) rfl (fun ls hl => ?_)
  have hl : lv_has ls 4 [(2, .int (jI 0)), (0, .ref (h0)), (1, .int (jI a0))] := hl
  refine lv_aload_n hx hb dX12_rowList_2 rfl (lv_at hl 1 rfl) ?_
  refine gA 115 245 (by decide) L_115 (fun _ _ => mF_115) rfl X hw dX12_rowList_3 ?_
  refine lv_iload_n hx hb dX12_rowList_6 rfl (lv_at hl 2 rfl) ?_
  refine aL 115 74 73 2300 (fun _ _ _ _ => mG_115) (fun _ => rfl) X hw ra0 dX12_rowList_7 rfl h (fun v1 rv1 h => ?_)
  refine lv_iconst hx hb dX12_rowList_8 (v := jI 1) rfl ?_
  refine k_isub hx hb dX12_rowList_9 h (fun r2 h => ?_)
  refine lv_istore_n hx hb dX12_rowList_10 rfl hl (by decide) rfl (fun ls hl => ?_)
  have hl : lv_has ls 4 [(3, .int (jI (v1 - 1))), (2, .int (jI 0)), (0, .ref (h0)), (1, .int (jI a0))] := hl
  exact b_rowList_11 X hRf hRl hret ra0 (by decide) r2 hw (lv_sub hl [2, 3, 1, 0] rfl) h

end
theorem c_rowList {l : Launch} {a0 : Int} (ra0 : inR a0) {Q : Int → iST → Prop} {u : iST} (h : w_rowList a0 Q u) : kMI l yX12_rowList (.code yX12_rowList cX12_rowList 4 (some .int) :: wsM) { frames := 2, cells := 0, slots := 0, locals := 47 } [.int (jI a0)] Q u := kMI_of rfl (fun _ => Nat.le_of_ble_eq_true rfl) (fun X hRf hRl hret hw hl => b_rowList_s X hRf hRl hret ra0 hw hl h)

/-! tellLeft -/
theorem dX12_tellLeft_0 : decode cX12_tellLeft 0 = .ok (.iconst 0, 1) := by decide +kernel
theorem dX12_tellLeft_1 : decode cX12_tellLeft 1 = .ok (.istore_n 1, 1) := by decide +kernel
theorem dX12_tellLeft_2 : decode cX12_tellLeft 2 = .ok (.aload_n 0, 1) := by decide +kernel
theorem dX12_tellLeft_3 : decode cX12_tellLeft 3 = .ok (.getfield 751, 3) := by decide +kernel
theorem dX12_tellLeft_6 : decode cX12_tellLeft 6 = .ok (.iconst 1, 1) := by decide +kernel
theorem dX12_tellLeft_7 : decode cX12_tellLeft 7 = .ok (.isub, 1) := by decide +kernel
theorem dX12_tellLeft_8 : decode cX12_tellLeft 8 = .ok (.istore_n 2, 1) := by decide +kernel
theorem dX12_tellLeft_9 : decode cX12_tellLeft 9 = .ok (.iload_n 2, 1) := by decide +kernel
theorem dX12_tellLeft_10 : decode cX12_tellLeft 10 = .ok (.ifCond .lt 25, 3) := by decide +kernel
theorem dX12_tellLeft_13 : decode cX12_tellLeft 13 = .ok (.aload_n 0, 1) := by decide +kernel
theorem dX12_tellLeft_14 : decode cX12_tellLeft 14 = .ok (.aload_n 0, 1) := by decide +kernel
theorem dX12_tellLeft_15 : decode cX12_tellLeft 15 = .ok (.aload_n 0, 1) := by decide +kernel
theorem dX12_tellLeft_16 : decode cX12_tellLeft 16 = .ok (.getfield 254, 3) := by decide +kernel
theorem dX12_tellLeft_19 : decode cX12_tellLeft 19 = .ok (.iload_n 2, 1) := by decide +kernel
theorem dX12_tellLeft_20 : decode cX12_tellLeft 20 = .ok (.iaload, 1) := by decide +kernel
theorem dX12_tellLeft_21 : decode cX12_tellLeft 21 = .ok (.invokevirtual 782, 3) := by decide +kernel
theorem dX12_tellLeft_24 : decode cX12_tellLeft 24 = .ok (.iload_n 1, 1) := by decide +kernel
theorem dX12_tellLeft_25 : decode cX12_tellLeft 25 = .ok (.invokevirtual 353, 3) := by decide +kernel
theorem dX12_tellLeft_28 : decode cX12_tellLeft 28 = .ok (.istore_n 1, 1) := by decide +kernel
theorem dX12_tellLeft_29 : decode cX12_tellLeft 29 = .ok (.iinc 2 (-1), 3) := by decide +kernel
theorem dX12_tellLeft_32 : decode cX12_tellLeft 32 = .ok (.goto (-23), 3) := by decide +kernel
theorem dX12_tellLeft_35 : decode cX12_tellLeft 35 = .ok (.aload_n 0, 1) := by decide +kernel
theorem dX12_tellLeft_36 : decode cX12_tellLeft 36 = .ok (.iload_n 1, 1) := by decide +kernel
theorem dX12_tellLeft_37 : decode cX12_tellLeft 37 = .ok (.invokevirtual 785, 3) := by decide +kernel
theorem dX12_tellLeft_40 : decode cX12_tellLeft 40 = .ok (.return_, 1) := by decide +kernel

section
variable {p : Program} {l : Launch} {e : Env} {R : Room} {s : State} {m : MethodId} {args : Array Value} {below : List Frame} {meth : Method} {c : Code} {H : Heap} {locs : List Loc} {Qf : State → Prop}
variable {ls : Array Slot} {D : va_G} {ca : Nat → ClassId} {A : Nat → Prop} {h0 : Nat} {ad : Nat → Nat} {H0 : Heap} {u : iST}
def w_tellLeft_9b (R9 : Int → Int → iST → Prop) (Q : iST → Prop) (x1 : Int) (x2 : Int) (u : iST) : Prop :=
  br (x2 < 0) (
    w_tellOut x1 (fun u => 
    Q u) u) (
    bd x2 20 (rd (u.2.1 120 x2) (fun v4 => 
    w_rowList v4 (fun v5 u => 
    w_pair v5 x1 (fun v6 u => 
    ov (x2 + (-1)) (
    R9 v6 (x2 + (-1)) u)) u) u)))
def w_tellLeft_9 (Q : iST → Prop) (x1 : Int) (x2 : Int) (u : iST) : Prop := ∀ R9 : Int → Int → iST → Prop, (∀ (x1 : Int) (x2 : Int) (u : iST), w_tellLeft_9b R9 Q x1 x2 u → R9 x1 x2 u) → R9 x1 x2 u
set_option maxRecDepth 20000 in
set_option maxHeartbeats 4000000 in
theorem b_tellLeft_9 (X : kX p m c cX12_tellLeft 3 s args D ca) (hRf : 4 ≤ R.frames) (hRl : 88 ≤ R.locals) {Q : iST → Prop} (hret : ∀ (u : iST) (H : Heap) (locs : List Loc) (ls : Array Slot) (pc : Nat), Q u → kW D ca A h0 ad H0 H locs u → decode cX12_tellLeft pc = .ok (.return_, 1) → W p l e R s m args below meth c H locs 0 0 Qf (F0 m pc ls [])) {x1 x2 : Int} (rx1 : inR x1) (rx2 : inR x2) (hw : kW D ca A h0 ad H0 H locs u) (hl : lv_has ls 3 [(0, .ref h0), (1, .int (jI x1)), (2, .int (jI x2))]) (h : w_tellLeft_9 Q x1 x2 u) : W p l e R s m args below meth c H locs 0 0 Qf (F0 m 9 ls []) := by
  refine h (fun x1 x2 u => ∀ (H : Heap) (locs : List Loc) (ls : Array Slot), inR x1 → inR x2 → kW D ca A h0 ad H0 H locs u → lv_has ls 3 [(0, .ref h0), (1, .int (jI x1)), (2, .int (jI x2))] → W p l e R s m args below meth c H locs 0 0 Qf (F0 m 9 ls [])) ?_ H locs ls rx1 rx2 hw hl
  clear h hl hw rx1 rx2
  intro x1 x2 u h H locs ls rx1 rx2 hw hl
  have hR9 : ∀ (x1 : Int) (x2 : Int) (u : iST) (H : Heap) (locs : List Loc) (ls : Array Slot), inR x1 → inR x2 → kW D ca A h0 ad H0 H locs u → lv_has ls 3 [(0, .ref h0), (1, .int (jI x1)), (2, .int (jI x2))] → (fun (x1 : Int) (x2 : Int) u => ∀ (H : Heap) (locs : List Loc) (ls : Array Slot), inR x1 → inR x2 → kW D ca A h0 ad H0 H locs u → lv_has ls 3 [(0, .ref h0), (1, .int (jI x1)), (2, .int (jI x2))] → W p l e R s m args below meth c H locs 0 0 Qf (F0 m 9 ls [])) x1 x2 u → W p l e R s m args below meth c H locs 0 0 Qf (F0 m 9 ls []) := fun x1 x2 u H locs ls rx1 rx2 hw hl h => h H locs ls rx1 rx2 hw hl
  have hx := X.1.1
  have hb := X.1.2.1
  unfold w_tellLeft_9b at h
  refine lv_iload_n hx hb dX12_tellLeft_9 rfl (lv_at hl 2 rfl) ?_
  refine k_if_lt hx hb rx2 dX12_tellLeft_10 (tgt := 35) rfl h (fun h => ?_) (fun h => ?_)
  · refine lv_aload_n hx hb dX12_tellLeft_35 rfl (lv_at hl 0 rfl) ?_
    refine lv_iload_n hx hb dX12_tellLeft_36 rfl (lv_at hl 1 rfl) ?_
    refine kcV (n := 1) (c_tellOut rx1 h) G_tellOut E_tellOut X hw (Nat.le_trans (Nat.le_of_ble_eq_true rfl) hRf) (Nat.le_trans (Nat.le_of_ble_eq_true rfl) hRl) rfl hl.1 (Nat.le_of_ble_eq_true rfl) rfl dX12_tellLeft_37 (fun u H locs h hw => ?_)
    exact hret _ _ _ _ _ h hw dX12_tellLeft_40
  · refine lv_aload_n hx hb dX12_tellLeft_13 rfl (lv_at hl 0 rfl) ?_
    refine lv_aload_n hx hb dX12_tellLeft_14 rfl (lv_at hl 0 rfl) ?_
    refine lv_aload_n hx hb dX12_tellLeft_15 rfl (lv_at hl 0 rfl) ?_
    refine gA 120 254 (by decide) L_120 (fun _ _ => mF_120) rfl X hw dX12_tellLeft_16 ?_
    refine lv_iload_n hx hb dX12_tellLeft_19 rfl (lv_at hl 2 rfl) ?_
    refine aL 120 77 76 20 (fun _ _ _ _ => mG_120) (fun _ => rfl) X hw rx2 dX12_tellLeft_20 rfl h (fun v4 rv4 h => ?_)
    refine kcI (n := 1) (c_rowList rv4 h) G_rowList E_rowList X hw (Nat.le_trans (Nat.le_of_ble_eq_true rfl) hRf) (Nat.le_trans (Nat.le_of_ble_eq_true rfl) hRl) rfl hl.1 (Nat.le_of_ble_eq_true rfl) rfl dX12_tellLeft_21 (fun v5 u H locs rv5 h hw => ?_)
    refine lv_iload_n hx hb dX12_tellLeft_24 rfl (lv_at hl 1 rfl) ?_
    refine kcI (n := 2) (c_pair rv5 rx1 h) G_pair E_pair X hw (Nat.le_trans (Nat.le_of_ble_eq_true rfl) hRf) (Nat.le_trans (Nat.le_of_ble_eq_true rfl) hRl) rfl hl.1 (Nat.le_of_ble_eq_true rfl) rfl dX12_tellLeft_25 (fun v6 u H locs rv6 h hw => ?_)
    refine lv_istore_n hx hb dX12_tellLeft_28 rfl hl (by decide) rfl (fun ls hl => ?_)
    have hl : lv_has ls 3 [(1, .int (jI v6)), (0, .ref (h0)), (2, .int (jI x2))] := hl
    refine k_iinc (k := 2) hx hb dX12_tellLeft_29 hl rfl (by decide) rfl h (fun ls r7 h hl => ?_)
    have hl : lv_has ls 3 [(2, .int (jI (x2 + (-1)))), (1, .int (jI v6)), (0, .ref (h0))] := hl
    refine lv_goto hx hb dX12_tellLeft_32 (tgt := 9) rfl ?_
    exact hR9 _ _ _ H locs ls rv6 r7 hw (lv_sub hl [2, 1, 0] rfl) h

def w_tellLeft (Q : iST → Prop) (u : iST) : Prop :=
  rd (u.1 63) (fun v1 => 
  ov (v1 - 1) (
  w_tellLeft_9 Q 0 (v1 - 1) u))
set_option maxRecDepth 20000 in
set_option maxHeartbeats 4000000 in
theorem b_tellLeft_s (X : kX p m c cX12_tellLeft 3 s args D ca) (hRf : 4 ≤ R.frames) (hRl : 88 ≤ R.locals) {Q : iST → Prop} (hret : ∀ (u : iST) (H : Heap) (locs : List Loc) (ls : Array Slot) (pc : Nat), Q u → kW D ca A h0 ad H0 H locs u → decode cX12_tellLeft pc = .ok (.return_, 1) → W p l e R s m args below meth c H locs 0 0 Qf (F0 m pc ls [])) (hw : kW D ca A h0 ad H0 H locs u) (hl : lv_has ls 3 [(0, .ref h0)]) (h : w_tellLeft Q u) : W p l e R s m args below meth c H locs 0 0 Qf (F0 m 0 ls []) := by
  have hx := X.1.1
  have hb := X.1.2.1
  unfold w_tellLeft at h
  refine lv_iconst hx hb dX12_tellLeft_0 (v := jI 0) rfl ?_
  refine lv_istore_n hx hb dX12_tellLeft_1 rfl hl (by decide) rfl (fun ls hl => ?_)
  have hl : lv_has ls 3 [(1, .int (jI 0)), (0, .ref (h0))] := hl
  refine lv_aload_n hx hb dX12_tellLeft_2 rfl (lv_at hl 1 rfl) ?_
  refine gS 63 751 (by decide) L_63 (fun _ _ => mF_63) rfl X hw dX12_tellLeft_3 h (fun v1 rv1 h => ?_)
  refine lv_iconst hx hb dX12_tellLeft_6 (v := jI 1) rfl ?_
  refine k_isub hx hb dX12_tellLeft_7 h (fun r2 h => ?_)
  refine lv_istore_n hx hb dX12_tellLeft_8 rfl hl (by decide) rfl (fun ls hl => ?_)
  have hl : lv_has ls 3 [(2, .int (jI (v1 - 1))), (1, .int (jI 0)), (0, .ref (h0))] := hl
  exact b_tellLeft_9 X hRf hRl hret (by decide) r2 hw (lv_sub hl [2, 1, 0] rfl) h

end
theorem c_tellLeft {l : Launch} {Q : iST → Prop} {u : iST} (h : w_tellLeft Q u) : kMV l yX12_tellLeft (.code yX12_tellLeft cX12_tellLeft 3 none :: wsM) { frames := 4, cells := 0, slots := 0, locals := 88 } [] Q u := kMV_of rfl (fun _ => Nat.le_of_ble_eq_true rfl) (fun X hRf hRl hret hw hl => b_tellLeft_s X hRf hRl hret hw hl h)

/-! pathsOf -/
theorem dX12_pathsOf_0 : decode cX12_pathsOf 0 = .ok (.aload_n 0, 1) := by decide +kernel
theorem dX12_pathsOf_1 : decode cX12_pathsOf 1 = .ok (.iconst 0, 1) := by decide +kernel
theorem dX12_pathsOf_2 : decode cX12_pathsOf 2 = .ok (.putfield 788, 3) := by decide +kernel
theorem dX12_pathsOf_5 : decode cX12_pathsOf 5 = .ok (.iconst 1, 1) := by decide +kernel
theorem dX12_pathsOf_6 : decode cX12_pathsOf 6 = .ok (.istore_n 2, 1) := by decide +kernel
theorem dX12_pathsOf_7 : decode cX12_pathsOf 7 = .ok (.aload_n 0, 1) := by decide +kernel
theorem dX12_pathsOf_8 : decode cX12_pathsOf 8 = .ok (.getfield 269, 3) := by decide +kernel
theorem dX12_pathsOf_11 : decode cX12_pathsOf 11 = .ok (.iconst 0, 1) := by decide +kernel
theorem dX12_pathsOf_12 : decode cX12_pathsOf 12 = .ok (.iload_n 1, 1) := by decide +kernel
theorem dX12_pathsOf_13 : decode cX12_pathsOf 13 = .ok (.iastore, 1) := by decide +kernel
theorem dX12_pathsOf_14 : decode cX12_pathsOf 14 = .ok (.aload_n 0, 1) := by decide +kernel
theorem dX12_pathsOf_15 : decode cX12_pathsOf 15 = .ok (.getfield 275, 3) := by decide +kernel
theorem dX12_pathsOf_18 : decode cX12_pathsOf 18 = .ok (.iconst 0, 1) := by decide +kernel
theorem dX12_pathsOf_19 : decode cX12_pathsOf 19 = .ok (.iconst 0, 1) := by decide +kernel
theorem dX12_pathsOf_20 : decode cX12_pathsOf 20 = .ok (.iastore, 1) := by decide +kernel
theorem dX12_pathsOf_21 : decode cX12_pathsOf 21 = .ok (.iload_n 2, 1) := by decide +kernel
theorem dX12_pathsOf_22 : decode cX12_pathsOf 22 = .ok (.ifCond .le 245, 3) := by decide +kernel
theorem dX12_pathsOf_25 : decode cX12_pathsOf 25 = .ok (.iinc 2 (-1), 3) := by decide +kernel
theorem dX12_pathsOf_28 : decode cX12_pathsOf 28 = .ok (.aload_n 0, 1) := by decide +kernel
theorem dX12_pathsOf_29 : decode cX12_pathsOf 29 = .ok (.getfield 269, 3) := by decide +kernel
theorem dX12_pathsOf_32 : decode cX12_pathsOf 32 = .ok (.iload_n 2, 1) := by decide +kernel
theorem dX12_pathsOf_33 : decode cX12_pathsOf 33 = .ok (.iaload, 1) := by decide +kernel
theorem dX12_pathsOf_34 : decode cX12_pathsOf 34 = .ok (.istore_n 3, 1) := by decide +kernel
theorem dX12_pathsOf_35 : decode cX12_pathsOf 35 = .ok (.aload_n 0, 1) := by decide +kernel
theorem dX12_pathsOf_36 : decode cX12_pathsOf 36 = .ok (.getfield 275, 3) := by decide +kernel
theorem dX12_pathsOf_39 : decode cX12_pathsOf 39 = .ok (.iload_n 2, 1) := by decide +kernel
theorem dX12_pathsOf_40 : decode cX12_pathsOf 40 = .ok (.iaload, 1) := by decide +kernel
theorem dX12_pathsOf_41 : decode cX12_pathsOf 41 = .ok (.istore 4, 2) := by decide +kernel
theorem dX12_pathsOf_43 : decode cX12_pathsOf 43 = .ok (.aload_n 0, 1) := by decide +kernel
theorem dX12_pathsOf_44 : decode cX12_pathsOf 44 = .ok (.iload_n 3, 1) := by decide +kernel
theorem dX12_pathsOf_45 : decode cX12_pathsOf 45 = .ok (.iconst 3, 1) := by decide +kernel
theorem dX12_pathsOf_46 : decode cX12_pathsOf 46 = .ok (.invokevirtual 542, 3) := by decide +kernel
theorem dX12_pathsOf_49 : decode cX12_pathsOf 49 = .ok (.ifCond .ne 80, 3) := by decide +kernel
theorem dX12_pathsOf_52 : decode cX12_pathsOf 52 = .ok (.aload_n 0, 1) := by decide +kernel
theorem dX12_pathsOf_53 : decode cX12_pathsOf 53 = .ok (.getfield 260, 3) := by decide +kernel
theorem dX12_pathsOf_56 : decode cX12_pathsOf 56 = .ok (.aload_n 0, 1) := by decide +kernel
theorem dX12_pathsOf_57 : decode cX12_pathsOf 57 = .ok (.getfield 788, 3) := by decide +kernel
theorem dX12_pathsOf_60 : decode cX12_pathsOf 60 = .ok (.iload_n 3, 1) := by decide +kernel
theorem dX12_pathsOf_61 : decode cX12_pathsOf 61 = .ok (.iastore, 1) := by decide +kernel
theorem dX12_pathsOf_62 : decode cX12_pathsOf 62 = .ok (.aload_n 0, 1) := by decide +kernel
theorem dX12_pathsOf_63 : decode cX12_pathsOf 63 = .ok (.getfield 266, 3) := by decide +kernel
theorem dX12_pathsOf_66 : decode cX12_pathsOf 66 = .ok (.aload_n 0, 1) := by decide +kernel
theorem dX12_pathsOf_67 : decode cX12_pathsOf 67 = .ok (.getfield 788, 3) := by decide +kernel
theorem dX12_pathsOf_70 : decode cX12_pathsOf 70 = .ok (.iload 4, 2) := by decide +kernel
theorem dX12_pathsOf_72 : decode cX12_pathsOf 72 = .ok (.iastore, 1) := by decide +kernel
theorem dX12_pathsOf_73 : decode cX12_pathsOf 73 = .ok (.iconst 0, 1) := by decide +kernel
theorem dX12_pathsOf_74 : decode cX12_pathsOf 74 = .ok (.istore 5, 2) := by decide +kernel
theorem dX12_pathsOf_76 : decode cX12_pathsOf 76 = .ok (.iload 5, 2) := by decide +kernel
theorem dX12_pathsOf_78 : decode cX12_pathsOf 78 = .ok (.iload 4, 2) := by decide +kernel
theorem dX12_pathsOf_80 : decode cX12_pathsOf 80 = .ok (.if_icmp .ge 36, 3) := by decide +kernel
theorem dX12_pathsOf_83 : decode cX12_pathsOf 83 = .ok (.aload_n 0, 1) := by decide +kernel
theorem dX12_pathsOf_84 : decode cX12_pathsOf 84 = .ok (.getfield 263, 3) := by decide +kernel
theorem dX12_pathsOf_87 : decode cX12_pathsOf 87 = .ok (.bipush 64, 2) := by decide +kernel
theorem dX12_pathsOf_89 : decode cX12_pathsOf 89 = .ok (.aload_n 0, 1) := by decide +kernel
theorem dX12_pathsOf_90 : decode cX12_pathsOf 90 = .ok (.getfield 788, 3) := by decide +kernel
theorem dX12_pathsOf_93 : decode cX12_pathsOf 93 = .ok (.imul, 1) := by decide +kernel
theorem dX12_pathsOf_94 : decode cX12_pathsOf 94 = .ok (.iload 5, 2) := by decide +kernel
theorem dX12_pathsOf_96 : decode cX12_pathsOf 96 = .ok (.iadd, 1) := by decide +kernel
theorem dX12_pathsOf_97 : decode cX12_pathsOf 97 = .ok (.aload_n 0, 1) := by decide +kernel
theorem dX12_pathsOf_98 : decode cX12_pathsOf 98 = .ok (.getfield 272, 3) := by decide +kernel
theorem dX12_pathsOf_101 : decode cX12_pathsOf 101 = .ok (.bipush 64, 2) := by decide +kernel
theorem dX12_pathsOf_103 : decode cX12_pathsOf 103 = .ok (.iload_n 2, 1) := by decide +kernel
theorem dX12_pathsOf_104 : decode cX12_pathsOf 104 = .ok (.imul, 1) := by decide +kernel
theorem dX12_pathsOf_105 : decode cX12_pathsOf 105 = .ok (.iload 5, 2) := by decide +kernel
theorem dX12_pathsOf_107 : decode cX12_pathsOf 107 = .ok (.iadd, 1) := by decide +kernel
theorem dX12_pathsOf_108 : decode cX12_pathsOf 108 = .ok (.iaload, 1) := by decide +kernel
theorem dX12_pathsOf_109 : decode cX12_pathsOf 109 = .ok (.iastore, 1) := by decide +kernel
theorem dX12_pathsOf_110 : decode cX12_pathsOf 110 = .ok (.iinc 5 1, 3) := by decide +kernel
theorem dX12_pathsOf_113 : decode cX12_pathsOf 113 = .ok (.goto (-37), 3) := by decide +kernel
theorem dX12_pathsOf_116 : decode cX12_pathsOf 116 = .ok (.aload_n 0, 1) := by decide +kernel
theorem dX12_pathsOf_117 : decode cX12_pathsOf 117 = .ok (.dup, 1) := by decide +kernel
theorem dX12_pathsOf_118 : decode cX12_pathsOf 118 = .ok (.getfield 788, 3) := by decide +kernel
theorem dX12_pathsOf_121 : decode cX12_pathsOf 121 = .ok (.iconst 1, 1) := by decide +kernel
theorem dX12_pathsOf_122 : decode cX12_pathsOf 122 = .ok (.iadd, 1) := by decide +kernel
theorem dX12_pathsOf_123 : decode cX12_pathsOf 123 = .ok (.putfield 788, 3) := by decide +kernel
theorem dX12_pathsOf_126 : decode cX12_pathsOf 126 = .ok (.goto (-105), 3) := by decide +kernel
theorem dX12_pathsOf_129 : decode cX12_pathsOf 129 = .ok (.aload_n 0, 1) := by decide +kernel
theorem dX12_pathsOf_130 : decode cX12_pathsOf 130 = .ok (.iload_n 3, 1) := by decide +kernel
theorem dX12_pathsOf_131 : decode cX12_pathsOf 131 = .ok (.iconst 1, 1) := by decide +kernel
theorem dX12_pathsOf_132 : decode cX12_pathsOf 132 = .ok (.invokevirtual 592, 3) := by decide +kernel
theorem dX12_pathsOf_135 : decode cX12_pathsOf 135 = .ok (.istore 5, 2) := by decide +kernel
theorem dX12_pathsOf_137 : decode cX12_pathsOf 137 = .ok (.iconst 0, 1) := by decide +kernel
theorem dX12_pathsOf_138 : decode cX12_pathsOf 138 = .ok (.istore 6, 2) := by decide +kernel
theorem dX12_pathsOf_140 : decode cX12_pathsOf 140 = .ok (.iload 6, 2) := by decide +kernel
theorem dX12_pathsOf_142 : decode cX12_pathsOf 142 = .ok (.iload 4, 2) := by decide +kernel
theorem dX12_pathsOf_144 : decode cX12_pathsOf 144 = .ok (.if_icmp .ge 35, 3) := by decide +kernel
theorem dX12_pathsOf_147 : decode cX12_pathsOf 147 = .ok (.aload_n 0, 1) := by decide +kernel
theorem dX12_pathsOf_148 : decode cX12_pathsOf 148 = .ok (.getfield 272, 3) := by decide +kernel
theorem dX12_pathsOf_151 : decode cX12_pathsOf 151 = .ok (.bipush 64, 2) := by decide +kernel
theorem dX12_pathsOf_153 : decode cX12_pathsOf 153 = .ok (.iload_n 2, 1) := by decide +kernel
theorem dX12_pathsOf_154 : decode cX12_pathsOf 154 = .ok (.iconst 1, 1) := by decide +kernel
theorem dX12_pathsOf_155 : decode cX12_pathsOf 155 = .ok (.iadd, 1) := by decide +kernel
theorem dX12_pathsOf_156 : decode cX12_pathsOf 156 = .ok (.imul, 1) := by decide +kernel
theorem dX12_pathsOf_157 : decode cX12_pathsOf 157 = .ok (.iload 6, 2) := by decide +kernel
theorem dX12_pathsOf_159 : decode cX12_pathsOf 159 = .ok (.iadd, 1) := by decide +kernel
theorem dX12_pathsOf_160 : decode cX12_pathsOf 160 = .ok (.aload_n 0, 1) := by decide +kernel
theorem dX12_pathsOf_161 : decode cX12_pathsOf 161 = .ok (.getfield 272, 3) := by decide +kernel
theorem dX12_pathsOf_164 : decode cX12_pathsOf 164 = .ok (.bipush 64, 2) := by decide +kernel
theorem dX12_pathsOf_166 : decode cX12_pathsOf 166 = .ok (.iload_n 2, 1) := by decide +kernel
theorem dX12_pathsOf_167 : decode cX12_pathsOf 167 = .ok (.imul, 1) := by decide +kernel
theorem dX12_pathsOf_168 : decode cX12_pathsOf 168 = .ok (.iload 6, 2) := by decide +kernel
theorem dX12_pathsOf_170 : decode cX12_pathsOf 170 = .ok (.iadd, 1) := by decide +kernel
theorem dX12_pathsOf_171 : decode cX12_pathsOf 171 = .ok (.iaload, 1) := by decide +kernel
theorem dX12_pathsOf_172 : decode cX12_pathsOf 172 = .ok (.iastore, 1) := by decide +kernel
theorem dX12_pathsOf_173 : decode cX12_pathsOf 173 = .ok (.iinc 6 1, 3) := by decide +kernel
theorem dX12_pathsOf_176 : decode cX12_pathsOf 176 = .ok (.goto (-36), 3) := by decide +kernel
theorem dX12_pathsOf_179 : decode cX12_pathsOf 179 = .ok (.aload_n 0, 1) := by decide +kernel
theorem dX12_pathsOf_180 : decode cX12_pathsOf 180 = .ok (.getfield 272, 3) := by decide +kernel
theorem dX12_pathsOf_183 : decode cX12_pathsOf 183 = .ok (.bipush 64, 2) := by decide +kernel
theorem dX12_pathsOf_185 : decode cX12_pathsOf 185 = .ok (.iload_n 2, 1) := by decide +kernel
theorem dX12_pathsOf_186 : decode cX12_pathsOf 186 = .ok (.imul, 1) := by decide +kernel
theorem dX12_pathsOf_187 : decode cX12_pathsOf 187 = .ok (.iload 4, 2) := by decide +kernel
theorem dX12_pathsOf_189 : decode cX12_pathsOf 189 = .ok (.iadd, 1) := by decide +kernel
theorem dX12_pathsOf_190 : decode cX12_pathsOf 190 = .ok (.aload_n 0, 1) := by decide +kernel
theorem dX12_pathsOf_191 : decode cX12_pathsOf 191 = .ok (.iload 5, 2) := by decide +kernel
theorem dX12_pathsOf_193 : decode cX12_pathsOf 193 = .ok (.invokevirtual 659, 3) := by decide +kernel
theorem dX12_pathsOf_196 : decode cX12_pathsOf 196 = .ok (.iastore, 1) := by decide +kernel
theorem dX12_pathsOf_197 : decode cX12_pathsOf 197 = .ok (.aload_n 0, 1) := by decide +kernel
theorem dX12_pathsOf_198 : decode cX12_pathsOf 198 = .ok (.getfield 272, 3) := by decide +kernel
theorem dX12_pathsOf_201 : decode cX12_pathsOf 201 = .ok (.bipush 64, 2) := by decide +kernel
theorem dX12_pathsOf_203 : decode cX12_pathsOf 203 = .ok (.iload_n 2, 1) := by decide +kernel
theorem dX12_pathsOf_204 : decode cX12_pathsOf 204 = .ok (.iconst 1, 1) := by decide +kernel
theorem dX12_pathsOf_205 : decode cX12_pathsOf 205 = .ok (.iadd, 1) := by decide +kernel
theorem dX12_pathsOf_206 : decode cX12_pathsOf 206 = .ok (.imul, 1) := by decide +kernel
theorem dX12_pathsOf_207 : decode cX12_pathsOf 207 = .ok (.iload 4, 2) := by decide +kernel
theorem dX12_pathsOf_209 : decode cX12_pathsOf 209 = .ok (.iadd, 1) := by decide +kernel
theorem dX12_pathsOf_210 : decode cX12_pathsOf 210 = .ok (.iload 5, 2) := by decide +kernel
theorem dX12_pathsOf_212 : decode cX12_pathsOf 212 = .ok (.iastore, 1) := by decide +kernel
theorem dX12_pathsOf_213 : decode cX12_pathsOf 213 = .ok (.aload_n 0, 1) := by decide +kernel
theorem dX12_pathsOf_214 : decode cX12_pathsOf 214 = .ok (.getfield 275, 3) := by decide +kernel
theorem dX12_pathsOf_217 : decode cX12_pathsOf 217 = .ok (.iload_n 2, 1) := by decide +kernel
theorem dX12_pathsOf_218 : decode cX12_pathsOf 218 = .ok (.iload 4, 2) := by decide +kernel
theorem dX12_pathsOf_220 : decode cX12_pathsOf 220 = .ok (.iconst 1, 1) := by decide +kernel
theorem dX12_pathsOf_221 : decode cX12_pathsOf 221 = .ok (.iadd, 1) := by decide +kernel
theorem dX12_pathsOf_222 : decode cX12_pathsOf 222 = .ok (.iastore, 1) := by decide +kernel
theorem dX12_pathsOf_223 : decode cX12_pathsOf 223 = .ok (.aload_n 0, 1) := by decide +kernel
theorem dX12_pathsOf_224 : decode cX12_pathsOf 224 = .ok (.getfield 275, 3) := by decide +kernel
theorem dX12_pathsOf_227 : decode cX12_pathsOf 227 = .ok (.iload_n 2, 1) := by decide +kernel
theorem dX12_pathsOf_228 : decode cX12_pathsOf 228 = .ok (.iconst 1, 1) := by decide +kernel
theorem dX12_pathsOf_229 : decode cX12_pathsOf 229 = .ok (.iadd, 1) := by decide +kernel
theorem dX12_pathsOf_230 : decode cX12_pathsOf 230 = .ok (.iload 4, 2) := by decide +kernel
theorem dX12_pathsOf_232 : decode cX12_pathsOf 232 = .ok (.iconst 1, 1) := by decide +kernel
theorem dX12_pathsOf_233 : decode cX12_pathsOf 233 = .ok (.iadd, 1) := by decide +kernel
theorem dX12_pathsOf_234 : decode cX12_pathsOf 234 = .ok (.iastore, 1) := by decide +kernel
theorem dX12_pathsOf_235 : decode cX12_pathsOf 235 = .ok (.aload_n 0, 1) := by decide +kernel
theorem dX12_pathsOf_236 : decode cX12_pathsOf 236 = .ok (.getfield 269, 3) := by decide +kernel
theorem dX12_pathsOf_239 : decode cX12_pathsOf 239 = .ok (.iload_n 2, 1) := by decide +kernel
theorem dX12_pathsOf_240 : decode cX12_pathsOf 240 = .ok (.aload_n 0, 1) := by decide +kernel
theorem dX12_pathsOf_241 : decode cX12_pathsOf 241 = .ok (.iload_n 3, 1) := by decide +kernel
theorem dX12_pathsOf_242 : decode cX12_pathsOf 242 = .ok (.iconst 3, 1) := by decide +kernel
theorem dX12_pathsOf_243 : decode cX12_pathsOf 243 = .ok (.invokevirtual 592, 3) := by decide +kernel
theorem dX12_pathsOf_246 : decode cX12_pathsOf 246 = .ok (.iastore, 1) := by decide +kernel
theorem dX12_pathsOf_247 : decode cX12_pathsOf 247 = .ok (.aload_n 0, 1) := by decide +kernel
theorem dX12_pathsOf_248 : decode cX12_pathsOf 248 = .ok (.getfield 269, 3) := by decide +kernel
theorem dX12_pathsOf_251 : decode cX12_pathsOf 251 = .ok (.iload_n 2, 1) := by decide +kernel
theorem dX12_pathsOf_252 : decode cX12_pathsOf 252 = .ok (.iconst 1, 1) := by decide +kernel
theorem dX12_pathsOf_253 : decode cX12_pathsOf 253 = .ok (.iadd, 1) := by decide +kernel
theorem dX12_pathsOf_254 : decode cX12_pathsOf 254 = .ok (.aload_n 0, 1) := by decide +kernel
theorem dX12_pathsOf_255 : decode cX12_pathsOf 255 = .ok (.iload_n 3, 1) := by decide +kernel
theorem dX12_pathsOf_256 : decode cX12_pathsOf 256 = .ok (.iconst 2, 1) := by decide +kernel
theorem dX12_pathsOf_257 : decode cX12_pathsOf 257 = .ok (.invokevirtual 592, 3) := by decide +kernel
theorem dX12_pathsOf_260 : decode cX12_pathsOf 260 = .ok (.iastore, 1) := by decide +kernel
theorem dX12_pathsOf_261 : decode cX12_pathsOf 261 = .ok (.iinc 2 2, 3) := by decide +kernel
theorem dX12_pathsOf_264 : decode cX12_pathsOf 264 = .ok (.goto (-243), 3) := by decide +kernel
theorem dX12_pathsOf_267 : decode cX12_pathsOf 267 = .ok (.return_, 1) := by decide +kernel

section
variable {p : Program} {l : Launch} {e : Env} {R : Room} {s : State} {m : MethodId} {args : Array Value} {below : List Frame} {meth : Method} {c : Code} {H : Heap} {locs : List Loc} {Qf : State → Prop}
variable {ls : Array Slot} {D : va_G} {ca : Nat → ClassId} {A : Nat → Prop} {h0 : Nat} {ad : Nat → Nat} {H0 : Heap} {u : iST}
def w_pathsOf_140b (R21 : Int → iST → Prop) (R140 : Int → Int → Int → Int → Int → iST → Prop) (Q : iST → Prop) (x2 : Int) (x3 : Int) (x4 : Int) (x5 : Int) (x6 : Int) (u : iST) : Prop :=
  br (x4 ≤ x6) (
    ov (64 * x2) (
    ov ((64 * x2) + x4) (
    w_notOf x5 (fun v8 u => 
    bd ((64 * x2) + x4) 8192 (sw (iA u 128 ((64 * x2) + x4) v8) (fun u => 
    ov (x2 + 1) (
    ov (64 * (x2 + 1)) (
    ov ((64 * (x2 + 1)) + x4) (
    bd ((64 * (x2 + 1)) + x4) 8192 (sw (iA u 128 ((64 * (x2 + 1)) + x4) x5) (fun u => 
    ov (x4 + 1) (
    bd x2 128 (sw (iA u 129 x2 (x4 + 1)) (fun u => 
    ov (x2 + 1) (
    ov (x4 + 1) (
    bd (x2 + 1) 128 (sw (iA u 129 (x2 + 1) (x4 + 1)) (fun u => 
    w_term x3 3 (fun v15 u => 
    bd x2 128 (sw (iA u 127 x2 v15) (fun u => 
    ov (x2 + 1) (
    w_term x3 2 (fun v17 u => 
    bd (x2 + 1) 128 (sw (iA u 127 (x2 + 1) v17) (fun u => 
    ov (x2 + 2) (
    R21 (x2 + 2) u)))) u)))) u))))))))))))))) u))) (
    ov (x2 + 1) (
    ov (64 * (x2 + 1)) (
    ov ((64 * (x2 + 1)) + x6) (
    ov (64 * x2) (
    ov ((64 * x2) + x6) (
    bd ((64 * x2) + x6) 8192 (rd (u.2.1 128 ((64 * x2) + x6)) (fun v24 => 
    bd ((64 * (x2 + 1)) + x6) 8192 (sw (iA u 128 ((64 * (x2 + 1)) + x6) v24) (fun u => 
    ov (x6 + 1) (
    R140 x2 x3 x4 x5 (x6 + 1) u)))))))))))
def w_pathsOf_140 (R21 : Int → iST → Prop) (Q : iST → Prop) (x2 : Int) (x3 : Int) (x4 : Int) (x5 : Int) (x6 : Int) (u : iST) : Prop := ∀ R140 : Int → Int → Int → Int → Int → iST → Prop, (∀ (x2 : Int) (x3 : Int) (x4 : Int) (x5 : Int) (x6 : Int) (u : iST), w_pathsOf_140b R21 R140 Q x2 x3 x4 x5 x6 u → R140 x2 x3 x4 x5 x6 u) → R140 x2 x3 x4 x5 x6 u
set_option maxRecDepth 20000 in
set_option maxHeartbeats 4000000 in
theorem b_pathsOf_140 (X : kX p m c cX12_pathsOf 7 s args D ca) (hRf : 6 ≤ R.frames) (hRl : 135 ≤ R.locals) {Q : iST → Prop} (hret : ∀ (u : iST) (H : Heap) (locs : List Loc) (ls : Array Slot) (pc : Nat), Q u → kW D ca A h0 ad H0 H locs u → decode cX12_pathsOf pc = .ok (.return_, 1) → W p l e R s m args below meth c H locs 0 0 Qf (F0 m pc ls [])) {R21 : Int → iST → Prop} (hR21 : ∀ (x2 : Int) (u : iST) (H : Heap) (locs : List Loc) (ls : Array Slot), inR x2 → kW D ca A h0 ad H0 H locs u → lv_has ls 7 [(0, .ref h0), (2, .int (jI x2))] → R21 x2 u → W p l e R s m args below meth c H locs 0 0 Qf (F0 m 21 ls [])) {x2 x3 x4 x5 x6 : Int} (rx2 : inR x2) (rx3 : inR x3) (rx4 : inR x4) (rx5 : inR x5) (rx6 : inR x6) (hw : kW D ca A h0 ad H0 H locs u) (hl : lv_has ls 7 [(0, .ref h0), (2, .int (jI x2)), (3, .int (jI x3)), (4, .int (jI x4)), (5, .int (jI x5)), (6, .int (jI x6))]) (h : w_pathsOf_140 R21 Q x2 x3 x4 x5 x6 u) : W p l e R s m args below meth c H locs 0 0 Qf (F0 m 140 ls []) := by
  refine h (fun x2 x3 x4 x5 x6 u => ∀ (H : Heap) (locs : List Loc) (ls : Array Slot), inR x2 → inR x3 → inR x4 → inR x5 → inR x6 → kW D ca A h0 ad H0 H locs u → lv_has ls 7 [(0, .ref h0), (2, .int (jI x2)), (3, .int (jI x3)), (4, .int (jI x4)), (5, .int (jI x5)), (6, .int (jI x6))] → W p l e R s m args below meth c H locs 0 0 Qf (F0 m 140 ls [])) ?_ H locs ls rx2 rx3 rx4 rx5 rx6 hw hl
  clear h hl hw rx2 rx3 rx4 rx5 rx6
  intro x2 x3 x4 x5 x6 u h H locs ls rx2 rx3 rx4 rx5 rx6 hw hl
  have hR140 : ∀ (x2 : Int) (x3 : Int) (x4 : Int) (x5 : Int) (x6 : Int) (u : iST) (H : Heap) (locs : List Loc) (ls : Array Slot), inR x2 → inR x3 → inR x4 → inR x5 → inR x6 → kW D ca A h0 ad H0 H locs u → lv_has ls 7 [(0, .ref h0), (2, .int (jI x2)), (3, .int (jI x3)), (4, .int (jI x4)), (5, .int (jI x5)), (6, .int (jI x6))] → (fun (x2 : Int) (x3 : Int) (x4 : Int) (x5 : Int) (x6 : Int) u => ∀ (H : Heap) (locs : List Loc) (ls : Array Slot), inR x2 → inR x3 → inR x4 → inR x5 → inR x6 → kW D ca A h0 ad H0 H locs u → lv_has ls 7 [(0, .ref h0), (2, .int (jI x2)), (3, .int (jI x3)), (4, .int (jI x4)), (5, .int (jI x5)), (6, .int (jI x6))] → W p l e R s m args below meth c H locs 0 0 Qf (F0 m 140 ls [])) x2 x3 x4 x5 x6 u → W p l e R s m args below meth c H locs 0 0 Qf (F0 m 140 ls []) := fun x2 x3 x4 x5 x6 u H locs ls rx2 rx3 rx4 rx5 rx6 hw hl h => h H locs ls rx2 rx3 rx4 rx5 rx6 hw hl
  have hx := X.1.1
  have hb := X.1.2.1
  unfold w_pathsOf_140b at h
  refine lv_iload hx hb dX12_pathsOf_140 (lv_at hl 5 rfl) ?_
  refine lv_iload hx hb dX12_pathsOf_142 (lv_at hl 3 rfl) ?_
  refine k_icmp_ge hx hb rx6 rx4 dX12_pathsOf_144 (tgt := 179) rfl h (fun h => ?_) (fun h => ?_)
  · refine lv_aload_n hx hb dX12_pathsOf_179 rfl (lv_at hl 0 rfl) ?_
    refine gA 128 272 (by decide) L_128 (fun _ _ => mF_128) rfl X hw dX12_pathsOf_180 ?_
    refine lv_bipush hx hb dX12_pathsOf_183 (v := jI 64) rfl ?_
    refine lv_iload_n hx hb dX12_pathsOf_185 rfl (lv_at hl 1 rfl) ?_
    refine k_imul hx hb dX12_pathsOf_186 h (fun r6 h => ?_)
    refine lv_iload hx hb dX12_pathsOf_187 (lv_at hl 3 rfl) ?_
    refine k_iadd hx hb dX12_pathsOf_189 h (fun r7 h => ?_)
    refine lv_aload_n hx hb dX12_pathsOf_190 rfl (lv_at hl 0 rfl) ?_
    refine lv_iload hx hb dX12_pathsOf_191 (lv_at hl 4 rfl) ?_
    refine kcI (n := 1) (c_notOf rx5 h) G_notOf E_notOf X hw (Nat.le_trans (Nat.le_of_ble_eq_true rfl) hRf) (Nat.le_trans (Nat.le_of_ble_eq_true rfl) hRl) rfl hl.1 (Nat.le_of_ble_eq_true rfl) rfl dX12_pathsOf_193 (fun v8 u H locs rv8 h hw => ?_)
    refine aS 128 83 82 8192 (fun _ _ _ _ => mG_128) (fun _ => rfl) (fun _ _ _ _ _ _ => mSA_128) (by decide) X hw r7 rv8 dX12_pathsOf_196 rfl h (fun H locs u hw h => ?_)
    refine lv_aload_n hx hb dX12_pathsOf_197 rfl (lv_at hl 0 rfl) ?_
    refine gA 128 272 (by decide) L_128 (fun _ _ => mF_128) rfl X hw dX12_pathsOf_198 ?_
    refine lv_bipush hx hb dX12_pathsOf_201 (v := jI 64) rfl ?_
    refine lv_iload_n hx hb dX12_pathsOf_203 rfl (lv_at hl 1 rfl) ?_
    refine lv_iconst hx hb dX12_pathsOf_204 (v := jI 1) rfl ?_
    refine k_iadd hx hb dX12_pathsOf_205 h (fun r9 h => ?_)
    refine k_imul hx hb dX12_pathsOf_206 h (fun r10 h => ?_)
    refine lv_iload hx hb dX12_pathsOf_207 (lv_at hl 3 rfl) ?_
    refine k_iadd hx hb dX12_pathsOf_209 h (fun r11 h => ?_)
    refine lv_iload hx hb dX12_pathsOf_210 (lv_at hl 4 rfl) ?_
    refine aS 128 83 82 8192 (fun _ _ _ _ => mG_128) (fun _ => rfl) (fun _ _ _ _ _ _ => mSA_128) (by decide) X hw r11 rx5 dX12_pathsOf_212 rfl h (fun H locs u hw h => ?_)
    refine lv_aload_n hx hb dX12_pathsOf_213 rfl (lv_at hl 0 rfl) ?_
    refine gA 129 275 (by decide) L_129 (fun _ _ => mF_129) rfl X hw dX12_pathsOf_214 ?_
    refine lv_iload_n hx hb dX12_pathsOf_217 rfl (lv_at hl 1 rfl) ?_
    refine lv_iload hx hb dX12_pathsOf_218 (lv_at hl 3 rfl) ?_
    refine lv_iconst hx hb dX12_pathsOf_220 (v := jI 1) rfl ?_
    refine k_iadd hx hb dX12_pathsOf_221 h (fun r12 h => ?_)
    refine aS 129 84 83 128 (fun _ _ _ _ => mG_129) (fun _ => rfl) (fun _ _ _ _ _ _ => mSA_129) (by decide) X hw rx2 r12 dX12_pathsOf_222 rfl h (fun H locs u hw h => ?_)
    refine lv_aload_n hx hb dX12_pathsOf_223 rfl (lv_at hl 0 rfl) ?_
    refine gA 129 275 (by decide) L_129 (fun _ _ => mF_129) rfl X hw dX12_pathsOf_224 ?_
    refine lv_iload_n hx hb dX12_pathsOf_227 rfl (lv_at hl 1 rfl) ?_
    refine lv_iconst hx hb dX12_pathsOf_228 (v := jI 1) rfl ?_
    refine k_iadd hx hb dX12_pathsOf_229 h (fun r13 h => ?_)
    refine lv_iload hx hb dX12_pathsOf_230 (lv_at hl 3 rfl) ?_
    refine lv_iconst hx hb dX12_pathsOf_232 (v := jI 1) rfl ?_
    refine k_iadd hx hb dX12_pathsOf_233 h (fun r14 h => ?_)
    refine aS 129 84 83 128 (fun _ _ _ _ => mG_129) (fun _ => rfl) (fun _ _ _ _ _ _ => mSA_129) (by decide) X hw r13 r14 dX12_pathsOf_234 rfl h (fun H locs u hw h => ?_)
    refine lv_aload_n hx hb dX12_pathsOf_235 rfl (lv_at hl 0 rfl) ?_
    refine gA 127 269 (by decide) L_127 (fun _ _ => mF_127) rfl X hw dX12_pathsOf_236 ?_
    refine lv_iload_n hx hb dX12_pathsOf_239 rfl (lv_at hl 1 rfl) ?_
    refine lv_aload_n hx hb dX12_pathsOf_240 rfl (lv_at hl 0 rfl) ?_
    refine lv_iload_n hx hb dX12_pathsOf_241 rfl (lv_at hl 2 rfl) ?_
    refine lv_iconst hx hb dX12_pathsOf_242 (v := jI 3) rfl ?_
    refine kcI (n := 2) (c_term rx3 (by decide) h) G_term E_term X hw (Nat.le_trans (Nat.le_of_ble_eq_true rfl) hRf) (Nat.le_trans (Nat.le_of_ble_eq_true rfl) hRl) rfl hl.1 (Nat.le_of_ble_eq_true rfl) rfl dX12_pathsOf_243 (fun v15 u H locs rv15 h hw => ?_)
    refine aS 127 82 81 128 (fun _ _ _ _ => mG_127) (fun _ => rfl) (fun _ _ _ _ _ _ => mSA_127) (by decide) X hw rx2 rv15 dX12_pathsOf_246 rfl h (fun H locs u hw h => ?_)
    refine lv_aload_n hx hb dX12_pathsOf_247 rfl (lv_at hl 0 rfl) ?_
    refine gA 127 269 (by decide) L_127 (fun _ _ => mF_127) rfl X hw dX12_pathsOf_248 ?_
    refine lv_iload_n hx hb dX12_pathsOf_251 rfl (lv_at hl 1 rfl) ?_
    refine lv_iconst hx hb dX12_pathsOf_252 (v := jI 1) rfl ?_
    refine k_iadd hx hb dX12_pathsOf_253 h (fun r16 h => ?_)
    refine lv_aload_n hx hb dX12_pathsOf_254 rfl (lv_at hl 0 rfl) ?_
    refine lv_iload_n hx hb dX12_pathsOf_255 rfl (lv_at hl 2 rfl) ?_
    refine lv_iconst hx hb dX12_pathsOf_256 (v := jI 2) rfl ?_
    refine kcI (n := 2) (c_term rx3 (by decide) h) G_term E_term X hw (Nat.le_trans (Nat.le_of_ble_eq_true rfl) hRf) (Nat.le_trans (Nat.le_of_ble_eq_true rfl) hRl) rfl hl.1 (Nat.le_of_ble_eq_true rfl) rfl dX12_pathsOf_257 (fun v17 u H locs rv17 h hw => ?_)
    refine aS 127 82 81 128 (fun _ _ _ _ => mG_127) (fun _ => rfl) (fun _ _ _ _ _ _ => mSA_127) (by decide) X hw r16 rv17 dX12_pathsOf_260 rfl h (fun H locs u hw h => ?_)
    refine k_iinc (k := 1) hx hb dX12_pathsOf_261 hl rfl (by decide) rfl h (fun ls r18 h hl => ?_)
    have hl : lv_has ls 7 [(2, .int (jI (x2 + 2))), (0, .ref (h0)), (3, .int (jI x3)), (4, .int (jI x4)), (5, .int (jI x5)), (6, .int (jI x6))] := hl
    refine lv_goto hx hb dX12_pathsOf_264 (tgt := 21) rfl ?_
    exact hR21 _ _ H locs ls r18 hw (lv_sub hl [1, 0] rfl) h
  · refine lv_aload_n hx hb dX12_pathsOf_147 rfl (lv_at hl 0 rfl) ?_
    refine gA 128 272 (by decide) L_128 (fun _ _ => mF_128) rfl X hw dX12_pathsOf_148 ?_
    refine lv_bipush hx hb dX12_pathsOf_151 (v := jI 64) rfl ?_
    refine lv_iload_n hx hb dX12_pathsOf_153 rfl (lv_at hl 1 rfl) ?_
    refine lv_iconst hx hb dX12_pathsOf_154 (v := jI 1) rfl ?_
    refine k_iadd hx hb dX12_pathsOf_155 h (fun r19 h => ?_)
    refine k_imul hx hb dX12_pathsOf_156 h (fun r20 h => ?_)
    refine lv_iload hx hb dX12_pathsOf_157 (lv_at hl 5 rfl) ?_
    refine k_iadd hx hb dX12_pathsOf_159 h (fun r21 h => ?_)
    refine lv_aload_n hx hb dX12_pathsOf_160 rfl (lv_at hl 0 rfl) ?_
    refine gA 128 272 (by decide) L_128 (fun _ _ => mF_128) rfl X hw dX12_pathsOf_161 ?_
    refine lv_bipush hx hb dX12_pathsOf_164 (v := jI 64) rfl ?_
    refine lv_iload_n hx hb dX12_pathsOf_166 rfl (lv_at hl 1 rfl) ?_
    refine k_imul hx hb dX12_pathsOf_167 h (fun r22 h => ?_)
    refine lv_iload hx hb dX12_pathsOf_168 (lv_at hl 5 rfl) ?_
    refine k_iadd hx hb dX12_pathsOf_170 h (fun r23 h => ?_)
    refine aL 128 83 82 8192 (fun _ _ _ _ => mG_128) (fun _ => rfl) X hw r23 dX12_pathsOf_171 rfl h (fun v24 rv24 h => ?_)
    refine aS 128 83 82 8192 (fun _ _ _ _ => mG_128) (fun _ => rfl) (fun _ _ _ _ _ _ => mSA_128) (by decide) X hw r21 rv24 dX12_pathsOf_172 rfl h (fun H locs u hw h => ?_)
    refine k_iinc (k := 5) hx hb dX12_pathsOf_173 hl rfl (by decide) rfl h (fun ls r25 h hl => ?_)
    have hl : lv_has ls 7 [(6, .int (jI (x6 + 1))), (0, .ref (h0)), (2, .int (jI x2)), (3, .int (jI x3)), (4, .int (jI x4)), (5, .int (jI x5))] := hl
    refine lv_goto hx hb dX12_pathsOf_176 (tgt := 140) rfl ?_
    exact hR140 _ _ _ _ _ _ H locs ls rx2 rx3 rx4 rx5 r25 hw (lv_sub hl [1, 2, 3, 4, 5, 0] rfl) h

def w_pathsOf_76b (R21 : Int → iST → Prop) (R76 : Int → Int → Int → iST → Prop) (Q : iST → Prop) (x2 : Int) (x4 : Int) (x5 : Int) (u : iST) : Prop :=
  br (x4 ≤ x5) (
    rd (u.1 126) (fun v28 => 
    ov (v28 + 1) (
    sw (iI u 126 (v28 + 1)) (fun u => 
    R21 x2 u)))) (
    rd (u.1 126) (fun v30 => 
    ov (64 * v30) (
    ov ((64 * v30) + x5) (
    ov (64 * x2) (
    ov ((64 * x2) + x5) (
    bd ((64 * x2) + x5) 8192 (rd (u.2.1 128 ((64 * x2) + x5)) (fun v35 => 
    bd ((64 * v30) + x5) 8192 (sw (iA u 124 ((64 * v30) + x5) v35) (fun u => 
    ov (x5 + 1) (
    R76 x2 x4 (x5 + 1) u)))))))))))
def w_pathsOf_76 (R21 : Int → iST → Prop) (Q : iST → Prop) (x2 : Int) (x4 : Int) (x5 : Int) (u : iST) : Prop := ∀ R76 : Int → Int → Int → iST → Prop, (∀ (x2 : Int) (x4 : Int) (x5 : Int) (u : iST), w_pathsOf_76b R21 R76 Q x2 x4 x5 u → R76 x2 x4 x5 u) → R76 x2 x4 x5 u
set_option maxRecDepth 20000 in
set_option maxHeartbeats 4000000 in
theorem b_pathsOf_76 (X : kX p m c cX12_pathsOf 7 s args D ca) (hRf : 6 ≤ R.frames) (hRl : 135 ≤ R.locals) {Q : iST → Prop} (hret : ∀ (u : iST) (H : Heap) (locs : List Loc) (ls : Array Slot) (pc : Nat), Q u → kW D ca A h0 ad H0 H locs u → decode cX12_pathsOf pc = .ok (.return_, 1) → W p l e R s m args below meth c H locs 0 0 Qf (F0 m pc ls [])) {R21 : Int → iST → Prop} (hR21 : ∀ (x2 : Int) (u : iST) (H : Heap) (locs : List Loc) (ls : Array Slot), inR x2 → kW D ca A h0 ad H0 H locs u → lv_has ls 7 [(0, .ref h0), (2, .int (jI x2))] → R21 x2 u → W p l e R s m args below meth c H locs 0 0 Qf (F0 m 21 ls [])) {x2 x4 x5 : Int} (rx2 : inR x2) (rx4 : inR x4) (rx5 : inR x5) (hw : kW D ca A h0 ad H0 H locs u) (hl : lv_has ls 7 [(0, .ref h0), (2, .int (jI x2)), (4, .int (jI x4)), (5, .int (jI x5))]) (h : w_pathsOf_76 R21 Q x2 x4 x5 u) : W p l e R s m args below meth c H locs 0 0 Qf (F0 m 76 ls []) := by
  refine h (fun x2 x4 x5 u => ∀ (H : Heap) (locs : List Loc) (ls : Array Slot), inR x2 → inR x4 → inR x5 → kW D ca A h0 ad H0 H locs u → lv_has ls 7 [(0, .ref h0), (2, .int (jI x2)), (4, .int (jI x4)), (5, .int (jI x5))] → W p l e R s m args below meth c H locs 0 0 Qf (F0 m 76 ls [])) ?_ H locs ls rx2 rx4 rx5 hw hl
  clear h hl hw rx2 rx4 rx5
  intro x2 x4 x5 u h H locs ls rx2 rx4 rx5 hw hl
  have hR76 : ∀ (x2 : Int) (x4 : Int) (x5 : Int) (u : iST) (H : Heap) (locs : List Loc) (ls : Array Slot), inR x2 → inR x4 → inR x5 → kW D ca A h0 ad H0 H locs u → lv_has ls 7 [(0, .ref h0), (2, .int (jI x2)), (4, .int (jI x4)), (5, .int (jI x5))] → (fun (x2 : Int) (x4 : Int) (x5 : Int) u => ∀ (H : Heap) (locs : List Loc) (ls : Array Slot), inR x2 → inR x4 → inR x5 → kW D ca A h0 ad H0 H locs u → lv_has ls 7 [(0, .ref h0), (2, .int (jI x2)), (4, .int (jI x4)), (5, .int (jI x5))] → W p l e R s m args below meth c H locs 0 0 Qf (F0 m 76 ls [])) x2 x4 x5 u → W p l e R s m args below meth c H locs 0 0 Qf (F0 m 76 ls []) := fun x2 x4 x5 u H locs ls rx2 rx4 rx5 hw hl h => h H locs ls rx2 rx4 rx5 hw hl
  have hx := X.1.1
  have hb := X.1.2.1
  unfold w_pathsOf_76b at h
  refine lv_iload hx hb dX12_pathsOf_76 (lv_at hl 3 rfl) ?_
  refine lv_iload hx hb dX12_pathsOf_78 (lv_at hl 2 rfl) ?_
  refine k_icmp_ge hx hb rx5 rx4 dX12_pathsOf_80 (tgt := 116) rfl h (fun h => ?_) (fun h => ?_)
  · refine lv_aload_n hx hb dX12_pathsOf_116 rfl (lv_at hl 0 rfl) ?_
    refine lv_dup hx hb dX12_pathsOf_117 rfl ?_
    refine gS 126 788 (by decide) L_126 (fun _ _ => mF_126) rfl X hw dX12_pathsOf_118 h (fun v28 rv28 h => ?_)
    refine lv_iconst hx hb dX12_pathsOf_121 (v := jI 1) rfl ?_
    refine k_iadd hx hb dX12_pathsOf_122 h (fun r29 h => ?_)
    refine pS 126 788 (by decide) L_126 rfl rfl rfl (fun _ _ _ _ _ => mSI_126) (by decide) X hw r29 dX12_pathsOf_123 h (fun H locs u hw h => ?_)
    refine lv_goto hx hb dX12_pathsOf_126 (tgt := 21) rfl ?_
    exact hR21 _ _ H locs ls rx2 hw (lv_sub hl [0, 1] rfl) h
  · refine lv_aload_n hx hb dX12_pathsOf_83 rfl (lv_at hl 0 rfl) ?_
    refine gA 124 263 (by decide) L_124 (fun _ _ => mF_124) rfl X hw dX12_pathsOf_84 ?_
    refine lv_bipush hx hb dX12_pathsOf_87 (v := jI 64) rfl ?_
    refine lv_aload_n hx hb dX12_pathsOf_89 rfl (lv_at hl 0 rfl) ?_
    refine gS 126 788 (by decide) L_126 (fun _ _ => mF_126) rfl X hw dX12_pathsOf_90 h (fun v30 rv30 h => ?_)
    refine k_imul hx hb dX12_pathsOf_93 h (fun r31 h => ?_)
    refine lv_iload hx hb dX12_pathsOf_94 (lv_at hl 3 rfl) ?_
    refine k_iadd hx hb dX12_pathsOf_96 h (fun r32 h => ?_)
    refine lv_aload_n hx hb dX12_pathsOf_97 rfl (lv_at hl 0 rfl) ?_
    refine gA 128 272 (by decide) L_128 (fun _ _ => mF_128) rfl X hw dX12_pathsOf_98 ?_
    refine lv_bipush hx hb dX12_pathsOf_101 (v := jI 64) rfl ?_
    refine lv_iload_n hx hb dX12_pathsOf_103 rfl (lv_at hl 1 rfl) ?_
    refine k_imul hx hb dX12_pathsOf_104 h (fun r33 h => ?_)
    refine lv_iload hx hb dX12_pathsOf_105 (lv_at hl 3 rfl) ?_
    refine k_iadd hx hb dX12_pathsOf_107 h (fun r34 h => ?_)
    refine aL 128 83 82 8192 (fun _ _ _ _ => mG_128) (fun _ => rfl) X hw r34 dX12_pathsOf_108 rfl h (fun v35 rv35 h => ?_)
    refine aS 124 80 79 8192 (fun _ _ _ _ => mG_124) (fun _ => rfl) (fun _ _ _ _ _ _ => mSA_124) (by decide) X hw r32 rv35 dX12_pathsOf_109 rfl h (fun H locs u hw h => ?_)
    refine k_iinc (k := 3) hx hb dX12_pathsOf_110 hl rfl (by decide) rfl h (fun ls r36 h hl => ?_)
    have hl : lv_has ls 7 [(5, .int (jI (x5 + 1))), (0, .ref (h0)), (2, .int (jI x2)), (4, .int (jI x4))] := hl
    refine lv_goto hx hb dX12_pathsOf_113 (tgt := 76) rfl ?_
    exact hR76 _ _ _ _ H locs ls rx2 rx4 r36 hw (lv_sub hl [1, 2, 3, 0] rfl) h

def w_pathsOf_21b (R21 : Int → iST → Prop) (Q : iST → Prop) (x2 : Int) (u : iST) : Prop :=
  br (x2 ≤ 0) (
    Q u) (
    ov (x2 + (-1)) (
    bd (x2 + (-1)) 128 (rd (u.2.1 127 (x2 + (-1))) (fun v2 => 
    bd (x2 + (-1)) 128 (rd (u.2.1 129 (x2 + (-1))) (fun v3 => 
    w_isCallOf v2 3 (fun v4 u => 
    br (v4 ≠ 0) (
      w_term v2 1 (fun v5 u => 
      w_pathsOf_140 R21 Q (x2 + (-1)) v2 v3 v5 0 u) u) (
      rd (u.1 126) (fun v26 => 
      bd v26 128 (sw (iA u 123 v26 v2) (fun u => 
      rd (u.1 126) (fun v27 => 
      bd v27 128 (sw (iA u 125 v27 v3) (fun u => 
      w_pathsOf_76 R21 Q (x2 + (-1)) v3 0 u)))))))) u))))))
def w_pathsOf_21 (Q : iST → Prop) (x2 : Int) (u : iST) : Prop := ∀ R21 : Int → iST → Prop, (∀ (x2 : Int) (u : iST), w_pathsOf_21b R21 Q x2 u → R21 x2 u) → R21 x2 u
set_option maxRecDepth 20000 in
set_option maxHeartbeats 4000000 in
theorem b_pathsOf_21 (X : kX p m c cX12_pathsOf 7 s args D ca) (hRf : 6 ≤ R.frames) (hRl : 135 ≤ R.locals) {Q : iST → Prop} (hret : ∀ (u : iST) (H : Heap) (locs : List Loc) (ls : Array Slot) (pc : Nat), Q u → kW D ca A h0 ad H0 H locs u → decode cX12_pathsOf pc = .ok (.return_, 1) → W p l e R s m args below meth c H locs 0 0 Qf (F0 m pc ls [])) {x2 : Int} (rx2 : inR x2) (hw : kW D ca A h0 ad H0 H locs u) (hl : lv_has ls 7 [(0, .ref h0), (2, .int (jI x2))]) (h : w_pathsOf_21 Q x2 u) : W p l e R s m args below meth c H locs 0 0 Qf (F0 m 21 ls []) := by
  refine h (fun x2 u => ∀ (H : Heap) (locs : List Loc) (ls : Array Slot), inR x2 → kW D ca A h0 ad H0 H locs u → lv_has ls 7 [(0, .ref h0), (2, .int (jI x2))] → W p l e R s m args below meth c H locs 0 0 Qf (F0 m 21 ls [])) ?_ H locs ls rx2 hw hl
  clear h hl hw rx2
  intro x2 u h H locs ls rx2 hw hl
  have hR21 : ∀ (x2 : Int) (u : iST) (H : Heap) (locs : List Loc) (ls : Array Slot), inR x2 → kW D ca A h0 ad H0 H locs u → lv_has ls 7 [(0, .ref h0), (2, .int (jI x2))] → (fun (x2 : Int) u => ∀ (H : Heap) (locs : List Loc) (ls : Array Slot), inR x2 → kW D ca A h0 ad H0 H locs u → lv_has ls 7 [(0, .ref h0), (2, .int (jI x2))] → W p l e R s m args below meth c H locs 0 0 Qf (F0 m 21 ls [])) x2 u → W p l e R s m args below meth c H locs 0 0 Qf (F0 m 21 ls []) := fun x2 u H locs ls rx2 hw hl h => h H locs ls rx2 hw hl
  have hx := X.1.1
  have hb := X.1.2.1
  unfold w_pathsOf_21b at h
  refine lv_iload_n hx hb dX12_pathsOf_21 rfl (lv_at hl 1 rfl) ?_
  refine k_if_le hx hb rx2 dX12_pathsOf_22 (tgt := 267) rfl h (fun h => ?_) (fun h => ?_)
  · exact hret _ _ _ _ _ h hw dX12_pathsOf_267
  · refine k_iinc (k := 1) hx hb dX12_pathsOf_25 hl rfl (by decide) rfl h (fun ls r1 h hl => ?_)
    have hl : lv_has ls 7 [(2, .int (jI (x2 + (-1)))), (0, .ref (h0))] := hl
    refine lv_aload_n hx hb dX12_pathsOf_28 rfl (lv_at hl 1 rfl) ?_
    refine gA 127 269 (by decide) L_127 (fun _ _ => mF_127) rfl X hw dX12_pathsOf_29 ?_
    refine lv_iload_n hx hb dX12_pathsOf_32 rfl (lv_at hl 0 rfl) ?_
    refine aL 127 82 81 128 (fun _ _ _ _ => mG_127) (fun _ => rfl) X hw r1 dX12_pathsOf_33 rfl h (fun v2 rv2 h => ?_)
    refine lv_istore_n hx hb dX12_pathsOf_34 rfl hl (by decide) rfl (fun ls hl => ?_)
    have hl : lv_has ls 7 [(3, .int (jI v2)), (2, .int (jI (x2 + (-1)))), (0, .ref (h0))] := hl
    refine lv_aload_n hx hb dX12_pathsOf_35 rfl (lv_at hl 2 rfl) ?_
    refine gA 129 275 (by decide) L_129 (fun _ _ => mF_129) rfl X hw dX12_pathsOf_36 ?_
    refine lv_iload_n hx hb dX12_pathsOf_39 rfl (lv_at hl 1 rfl) ?_
    refine aL 129 84 83 128 (fun _ _ _ _ => mG_129) (fun _ => rfl) X hw r1 dX12_pathsOf_40 rfl h (fun v3 rv3 h => ?_)
    refine lv_istore hx hb dX12_pathsOf_41 hl (by decide) rfl (fun ls hl => ?_)
    have hl : lv_has ls 7 [(4, .int (jI v3)), (3, .int (jI v2)), (2, .int (jI (x2 + (-1)))), (0, .ref (h0))] := hl
    refine lv_aload_n hx hb dX12_pathsOf_43 rfl (lv_at hl 3 rfl) ?_
    refine lv_iload_n hx hb dX12_pathsOf_44 rfl (lv_at hl 1 rfl) ?_
    refine lv_iconst hx hb dX12_pathsOf_45 (v := jI 3) rfl ?_
    refine kcI (n := 2) (c_isCallOf rv2 (by decide) h) G_isCallOf E_isCallOf X hw (Nat.le_trans (Nat.le_of_ble_eq_true rfl) hRf) (Nat.le_trans (Nat.le_of_ble_eq_true rfl) hRl) rfl hl.1 (Nat.le_of_ble_eq_true rfl) rfl dX12_pathsOf_46 (fun v4 u H locs rv4 h hw => ?_)
    refine k_if_ne hx hb rv4 dX12_pathsOf_49 (tgt := 129) rfl h (fun h => ?_) (fun h => ?_)
    · refine lv_aload_n hx hb dX12_pathsOf_129 rfl (lv_at hl 3 rfl) ?_
      refine lv_iload_n hx hb dX12_pathsOf_130 rfl (lv_at hl 1 rfl) ?_
      refine lv_iconst hx hb dX12_pathsOf_131 (v := jI 1) rfl ?_
      refine kcI (n := 2) (c_term rv2 (by decide) h) G_term E_term X hw (Nat.le_trans (Nat.le_of_ble_eq_true rfl) hRf) (Nat.le_trans (Nat.le_of_ble_eq_true rfl) hRl) rfl hl.1 (Nat.le_of_ble_eq_true rfl) rfl dX12_pathsOf_132 (fun v5 u H locs rv5 h hw => ?_)
      refine lv_istore hx hb dX12_pathsOf_135 hl (by decide) rfl (fun ls hl => ?_)
      have hl : lv_has ls 7 [(5, .int (jI v5)), (4, .int (jI v3)), (3, .int (jI v2)), (2, .int (jI (x2 + (-1)))), (0, .ref (h0))] := hl
      refine lv_iconst hx hb dX12_pathsOf_137 (v := jI 0) rfl ?_
      refine lv_istore hx hb dX12_pathsOf_138 hl (by decide) rfl (fun ls hl => ?_)
      have hl : lv_has ls 7 [(6, .int (jI 0)), (5, .int (jI v5)), (4, .int (jI v3)), (3, .int (jI v2)), (2, .int (jI (x2 + (-1)))), (0, .ref (h0))] := hl
      exact b_pathsOf_140 X hRf hRl hret hR21 r1 rv2 rv3 rv5 (by decide) hw (lv_sub hl [5, 4, 3, 2, 1, 0] rfl) h
    · refine lv_aload_n hx hb dX12_pathsOf_52 rfl (lv_at hl 3 rfl) ?_
      refine gA 123 260 (by decide) L_123 (fun _ _ => mF_123) rfl X hw dX12_pathsOf_53 ?_
      refine lv_aload_n hx hb dX12_pathsOf_56 rfl (lv_at hl 3 rfl) ?_
      refine gS 126 788 (by decide) L_126 (fun _ _ => mF_126) rfl X hw dX12_pathsOf_57 h (fun v26 rv26 h => ?_)
      refine lv_iload_n hx hb dX12_pathsOf_60 rfl (lv_at hl 1 rfl) ?_
      refine aS 123 79 78 128 (fun _ _ _ _ => mG_123) (fun _ => rfl) (fun _ _ _ _ _ _ => mSA_123) (by decide) X hw rv26 rv2 dX12_pathsOf_61 rfl h (fun H locs u hw h => ?_)
      refine lv_aload_n hx hb dX12_pathsOf_62 rfl (lv_at hl 3 rfl) ?_
      refine gA 125 266 (by decide) L_125 (fun _ _ => mF_125) rfl X hw dX12_pathsOf_63 ?_
      refine lv_aload_n hx hb dX12_pathsOf_66 rfl (lv_at hl 3 rfl) ?_
      refine gS 126 788 (by decide) L_126 (fun _ _ => mF_126) rfl X hw dX12_pathsOf_67 h (fun v27 rv27 h => ?_)
      refine lv_iload hx hb dX12_pathsOf_70 (lv_at hl 0 rfl) ?_
      refine aS 125 81 80 128 (fun _ _ _ _ => mG_125) (fun _ => rfl) (fun _ _ _ _ _ _ => mSA_125) (by decide) X hw rv27 rv3 dX12_pathsOf_72 rfl h (fun H locs u hw h => ?_)
      refine lv_iconst hx hb dX12_pathsOf_73 (v := jI 0) rfl ?_
      refine lv_istore hx hb dX12_pathsOf_74 hl (by decide) rfl (fun ls hl => ?_)
      have hl : lv_has ls 7 [(5, .int (jI 0)), (4, .int (jI v3)), (3, .int (jI v2)), (2, .int (jI (x2 + (-1)))), (0, .ref (h0))] := hl
      exact b_pathsOf_76 X hRf hRl hret hR21 r1 rv3 (by decide) hw (lv_sub hl [4, 3, 1, 0] rfl) h

def w_pathsOf (a0 : Int) (Q : iST → Prop) (u : iST) : Prop :=
  sw (iI u 126 0) (fun u => 
  bd 0 128 (sw (iA u 127 0 a0) (fun u => 
  bd 0 128 (sw (iA u 129 0 0) (fun u => 
  w_pathsOf_21 Q 1 u)))))
set_option maxRecDepth 20000 in
set_option maxHeartbeats 4000000 in
theorem b_pathsOf_s (X : kX p m c cX12_pathsOf 7 s args D ca) (hRf : 6 ≤ R.frames) (hRl : 135 ≤ R.locals) {Q : iST → Prop} (hret : ∀ (u : iST) (H : Heap) (locs : List Loc) (ls : Array Slot) (pc : Nat), Q u → kW D ca A h0 ad H0 H locs u → decode cX12_pathsOf pc = .ok (.return_, 1) → W p l e R s m args below meth c H locs 0 0 Qf (F0 m pc ls [])) {a0 : Int} (ra0 : inR a0) (hw : kW D ca A h0 ad H0 H locs u) (hl : lv_has ls 7 [(0, .ref h0), (1, .int (jI a0))]) (h : w_pathsOf a0 Q u) : W p l e R s m args below meth c H locs 0 0 Qf (F0 m 0 ls []) := by
  have hx := X.1.1
  have hb := X.1.2.1
  unfold w_pathsOf at h
  refine lv_aload_n hx hb dX12_pathsOf_0 rfl (lv_at hl 0 rfl) ?_
  refine lv_iconst hx hb dX12_pathsOf_1 (v := jI 0) rfl ?_
  refine pS 126 788 (by decide) L_126 rfl rfl rfl (fun _ _ _ _ _ => mSI_126) (by decide) X hw (by decide) dX12_pathsOf_2 h (fun H locs u hw h => ?_)
  refine lv_iconst hx hb dX12_pathsOf_5 (v := jI 1) rfl ?_
  refine lv_istore_n hx hb dX12_pathsOf_6 rfl hl (by decide) rfl (fun ls hl => ?_)
  have hl : lv_has ls 7 [(2, .int (jI 1)), (0, .ref (h0)), (1, .int (jI a0))] := hl
  refine lv_aload_n hx hb dX12_pathsOf_7 rfl (lv_at hl 1 rfl) ?_
  refine gA 127 269 (by decide) L_127 (fun _ _ => mF_127) rfl X hw dX12_pathsOf_8 ?_
  refine lv_iconst hx hb dX12_pathsOf_11 (v := jI 0) rfl ?_
  refine lv_iload_n hx hb dX12_pathsOf_12 rfl (lv_at hl 2 rfl) ?_
  refine aS 127 82 81 128 (fun _ _ _ _ => mG_127) (fun _ => rfl) (fun _ _ _ _ _ _ => mSA_127) (by decide) X hw (by decide) ra0 dX12_pathsOf_13 rfl h (fun H locs u hw h => ?_)
  refine lv_aload_n hx hb dX12_pathsOf_14 rfl (lv_at hl 1 rfl) ?_
  refine gA 129 275 (by decide) L_129 (fun _ _ => mF_129) rfl X hw dX12_pathsOf_15 ?_
  refine lv_iconst hx hb dX12_pathsOf_18 (v := jI 0) rfl ?_
  refine lv_iconst hx hb dX12_pathsOf_19 (v := jI 0) rfl ?_
  refine aS 129 84 83 128 (fun _ _ _ _ => mG_129) (fun _ => rfl) (fun _ _ _ _ _ _ => mSA_129) (by decide) X hw (by decide) (by decide) dX12_pathsOf_20 rfl h (fun H locs u hw h => ?_)
  exact b_pathsOf_21 X hRf hRl hret (by decide) hw (lv_sub hl [1, 0] rfl) h

end
theorem c_pathsOf {l : Launch} {a0 : Int} (ra0 : inR a0) {Q : iST → Prop} {u : iST} (h : w_pathsOf a0 Q u) : kMV l yX12_pathsOf (.code yX12_pathsOf cX12_pathsOf 7 none :: wsM) { frames := 6, cells := 0, slots := 0, locals := 135 } [.int (jI a0)] Q u := kMV_of rfl (fun _ => Nat.le_of_ble_eq_true rfl) (fun X hRf hRl hret hw hl => b_pathsOf_s X hRf hRl hret ra0 hw hl h)

/-! find -/
theorem dX12_find_0 : decode cX12_find 0 = .ok (.aload_n 0, 1) := by decide +kernel
theorem dX12_find_1 : decode cX12_find 1 = .ok (.iconst 0, 1) := by decide +kernel
theorem dX12_find_2 : decode cX12_find 2 = .ok (.putfield 791, 3) := by decide +kernel
theorem dX12_find_5 : decode cX12_find 5 = .ok (.aload_n 0, 1) := by decide +kernel
theorem dX12_find_6 : decode cX12_find 6 = .ok (.iconst 0, 1) := by decide +kernel
theorem dX12_find_7 : decode cX12_find 7 = .ok (.putfield 549, 3) := by decide +kernel
theorem dX12_find_10 : decode cX12_find 10 = .ok (.aload_n 0, 1) := by decide +kernel
theorem dX12_find_11 : decode cX12_find 11 = .ok (.iload_n 1, 1) := by decide +kernel
theorem dX12_find_12 : decode cX12_find 12 = .ok (.invokevirtual 552, 3) := by decide +kernel
theorem dX12_find_15 : decode cX12_find 15 = .ok (.aload_n 0, 1) := by decide +kernel
theorem dX12_find_16 : decode cX12_find 16 = .ok (.getfield 549, 3) := by decide +kernel
theorem dX12_find_19 : decode cX12_find 19 = .ok (.ifCond .le 43, 3) := by decide +kernel
theorem dX12_find_22 : decode cX12_find 22 = .ok (.aload_n 0, 1) := by decide +kernel
theorem dX12_find_23 : decode cX12_find 23 = .ok (.invokevirtual 555, 3) := by decide +kernel
theorem dX12_find_26 : decode cX12_find 26 = .ok (.istore_n 3, 1) := by decide +kernel
theorem dX12_find_27 : decode cX12_find 27 = .ok (.aload_n 0, 1) := by decide +kernel
theorem dX12_find_28 : decode cX12_find 28 = .ok (.iload_n 3, 1) := by decide +kernel
theorem dX12_find_29 : decode cX12_find 29 = .ok (.iload_n 2, 1) := by decide +kernel
theorem dX12_find_30 : decode cX12_find 30 = .ok (.invokevirtual 542, 3) := by decide +kernel
theorem dX12_find_33 : decode cX12_find 33 = .ok (.ifCond .ne 6, 3) := by decide +kernel
theorem dX12_find_36 : decode cX12_find 36 = .ok (.goto (-21), 3) := by decide +kernel
theorem dX12_find_39 : decode cX12_find 39 = .ok (.aload_n 0, 1) := by decide +kernel
theorem dX12_find_40 : decode cX12_find 40 = .ok (.getfield 278, 3) := by decide +kernel
theorem dX12_find_43 : decode cX12_find 43 = .ok (.aload_n 0, 1) := by decide +kernel
theorem dX12_find_44 : decode cX12_find 44 = .ok (.getfield 791, 3) := by decide +kernel
theorem dX12_find_47 : decode cX12_find 47 = .ok (.iload_n 3, 1) := by decide +kernel
theorem dX12_find_48 : decode cX12_find 48 = .ok (.iastore, 1) := by decide +kernel
theorem dX12_find_49 : decode cX12_find 49 = .ok (.aload_n 0, 1) := by decide +kernel
theorem dX12_find_50 : decode cX12_find 50 = .ok (.dup, 1) := by decide +kernel
theorem dX12_find_51 : decode cX12_find 51 = .ok (.getfield 791, 3) := by decide +kernel
theorem dX12_find_54 : decode cX12_find 54 = .ok (.iconst 1, 1) := by decide +kernel
theorem dX12_find_55 : decode cX12_find 55 = .ok (.iadd, 1) := by decide +kernel
theorem dX12_find_56 : decode cX12_find 56 = .ok (.putfield 791, 3) := by decide +kernel
theorem dX12_find_59 : decode cX12_find 59 = .ok (.goto (-44), 3) := by decide +kernel
theorem dX12_find_62 : decode cX12_find 62 = .ok (.return_, 1) := by decide +kernel

section
variable {p : Program} {l : Launch} {e : Env} {R : Room} {s : State} {m : MethodId} {args : Array Value} {below : List Frame} {meth : Method} {c : Code} {H : Heap} {locs : List Loc} {Qf : State → Prop}
variable {ls : Array Slot} {D : va_G} {ca : Nat → ClassId} {A : Nat → Prop} {h0 : Nat} {ad : Nat → Nat} {H0 : Heap} {u : iST}
def w_find_15b (R15 : Int → iST → Prop) (Q : iST → Prop) (x2 : Int) (u : iST) : Prop :=
  rd (u.1 76) (fun v2 => 
  br (v2 ≤ 0) (
    Q u) (
    w_walkOn (fun v3 u => 
    w_isCallOf v3 x2 (fun v4 u => 
    br (v4 ≠ 0) (
      rd (u.1 131) (fun v5 => 
      bd v5 130 (sw (iA u 130 v5 v3) (fun u => 
      rd (u.1 131) (fun v6 => 
      ov (v6 + 1) (
      sw (iI u 131 (v6 + 1)) (fun u => 
      R15 x2 u))))))) (
      R15 x2 u)) u) u))
def w_find_15 (Q : iST → Prop) (x2 : Int) (u : iST) : Prop := ∀ R15 : Int → iST → Prop, (∀ (x2 : Int) (u : iST), w_find_15b R15 Q x2 u → R15 x2 u) → R15 x2 u
set_option maxRecDepth 20000 in
set_option maxHeartbeats 4000000 in
theorem b_find_15 (X : kX p m c cX12_find 4 s args D ca) (hRf : 3 ≤ R.frames) (hRl : 67 ≤ R.locals) {Q : iST → Prop} (hret : ∀ (u : iST) (H : Heap) (locs : List Loc) (ls : Array Slot) (pc : Nat), Q u → kW D ca A h0 ad H0 H locs u → decode cX12_find pc = .ok (.return_, 1) → W p l e R s m args below meth c H locs 0 0 Qf (F0 m pc ls [])) {x2 : Int} (rx2 : inR x2) (hw : kW D ca A h0 ad H0 H locs u) (hl : lv_has ls 4 [(0, .ref h0), (2, .int (jI x2))]) (h : w_find_15 Q x2 u) : W p l e R s m args below meth c H locs 0 0 Qf (F0 m 15 ls []) := by
  refine h (fun x2 u => ∀ (H : Heap) (locs : List Loc) (ls : Array Slot), inR x2 → kW D ca A h0 ad H0 H locs u → lv_has ls 4 [(0, .ref h0), (2, .int (jI x2))] → W p l e R s m args below meth c H locs 0 0 Qf (F0 m 15 ls [])) ?_ H locs ls rx2 hw hl
  clear h hl hw rx2
  intro x2 u h H locs ls rx2 hw hl
  have hR15 : ∀ (x2 : Int) (u : iST) (H : Heap) (locs : List Loc) (ls : Array Slot), inR x2 → kW D ca A h0 ad H0 H locs u → lv_has ls 4 [(0, .ref h0), (2, .int (jI x2))] → (fun (x2 : Int) u => ∀ (H : Heap) (locs : List Loc) (ls : Array Slot), inR x2 → kW D ca A h0 ad H0 H locs u → lv_has ls 4 [(0, .ref h0), (2, .int (jI x2))] → W p l e R s m args below meth c H locs 0 0 Qf (F0 m 15 ls [])) x2 u → W p l e R s m args below meth c H locs 0 0 Qf (F0 m 15 ls []) := fun x2 u H locs ls rx2 hw hl h => h H locs ls rx2 hw hl
  have hx := X.1.1
  have hb := X.1.2.1
  unfold w_find_15b at h
  refine lv_aload_n hx hb dX12_find_15 rfl (lv_at hl 0 rfl) ?_
  refine gS 76 549 (by decide) L_76 (fun _ _ => mF_76) rfl X hw dX12_find_16 h (fun v2 rv2 h => ?_)
  refine k_if_le hx hb rv2 dX12_find_19 (tgt := 62) rfl h (fun h => ?_) (fun h => ?_)
  · exact hret _ _ _ _ _ h hw dX12_find_62
  · refine lv_aload_n hx hb dX12_find_22 rfl (lv_at hl 0 rfl) ?_
    refine kcI (n := 0) (c_walkOn h) G_walkOn E_walkOn X hw (Nat.le_trans (Nat.le_of_ble_eq_true rfl) hRf) (Nat.le_trans (Nat.le_of_ble_eq_true rfl) hRl) rfl hl.1 (Nat.le_of_ble_eq_true rfl) rfl dX12_find_23 (fun v3 u H locs rv3 h hw => ?_)
    refine lv_istore_n hx hb dX12_find_26 rfl hl (by decide) rfl (fun ls hl => ?_)
    have hl : lv_has ls 4 [(3, .int (jI v3)), (0, .ref (h0)), (2, .int (jI x2))] := hl
    refine lv_aload_n hx hb dX12_find_27 rfl (lv_at hl 1 rfl) ?_
    refine lv_iload_n hx hb dX12_find_28 rfl (lv_at hl 0 rfl) ?_
    refine lv_iload_n hx hb dX12_find_29 rfl (lv_at hl 2 rfl) ?_
    refine kcI (n := 2) (c_isCallOf rv3 rx2 h) G_isCallOf E_isCallOf X hw (Nat.le_trans (Nat.le_of_ble_eq_true rfl) hRf) (Nat.le_trans (Nat.le_of_ble_eq_true rfl) hRl) rfl hl.1 (Nat.le_of_ble_eq_true rfl) rfl dX12_find_30 (fun v4 u H locs rv4 h hw => ?_)
    refine k_if_ne hx hb rv4 dX12_find_33 (tgt := 39) rfl h (fun h => ?_) (fun h => ?_)
    · refine lv_aload_n hx hb dX12_find_39 rfl (lv_at hl 1 rfl) ?_
      refine gA 130 278 (by decide) L_130 (fun _ _ => mF_130) rfl X hw dX12_find_40 ?_
      refine lv_aload_n hx hb dX12_find_43 rfl (lv_at hl 1 rfl) ?_
      refine gS 131 791 (by decide) L_131 (fun _ _ => mF_131) rfl X hw dX12_find_44 h (fun v5 rv5 h => ?_)
      refine lv_iload_n hx hb dX12_find_47 rfl (lv_at hl 0 rfl) ?_
      refine aS 130 85 84 130 (fun _ _ _ _ => mG_130) (fun _ => rfl) (fun _ _ _ _ _ _ => mSA_130) (by decide) X hw rv5 rv3 dX12_find_48 rfl h (fun H locs u hw h => ?_)
      refine lv_aload_n hx hb dX12_find_49 rfl (lv_at hl 1 rfl) ?_
      refine lv_dup hx hb dX12_find_50 rfl ?_
      refine gS 131 791 (by decide) L_131 (fun _ _ => mF_131) rfl X hw dX12_find_51 h (fun v6 rv6 h => ?_)
      refine lv_iconst hx hb dX12_find_54 (v := jI 1) rfl ?_
      refine k_iadd hx hb dX12_find_55 h (fun r7 h => ?_)
      refine pS 131 791 (by decide) L_131 rfl rfl rfl (fun _ _ _ _ _ => mSI_131) (by decide) X hw r7 dX12_find_56 h (fun H locs u hw h => ?_)
      refine lv_goto hx hb dX12_find_59 (tgt := 15) rfl ?_
      exact hR15 _ _ H locs ls rx2 hw (lv_sub hl [1, 2] rfl) h
    · refine lv_goto hx hb dX12_find_36 (tgt := 15) rfl ?_
      exact hR15 _ _ H locs ls rx2 hw (lv_sub hl [1, 2] rfl) h

def w_find (a0 : Int) (a1 : Int) (Q : iST → Prop) (u : iST) : Prop :=
  sw (iI u 131 0) (fun u => 
  sw (iI u 76 0) (fun u => 
  w_walkTo a0 (fun u => 
  w_find_15 Q a1 u) u))
set_option maxRecDepth 20000 in
set_option maxHeartbeats 4000000 in
theorem b_find_s (X : kX p m c cX12_find 4 s args D ca) (hRf : 3 ≤ R.frames) (hRl : 67 ≤ R.locals) {Q : iST → Prop} (hret : ∀ (u : iST) (H : Heap) (locs : List Loc) (ls : Array Slot) (pc : Nat), Q u → kW D ca A h0 ad H0 H locs u → decode cX12_find pc = .ok (.return_, 1) → W p l e R s m args below meth c H locs 0 0 Qf (F0 m pc ls [])) {a0 a1 : Int} (ra0 : inR a0) (ra1 : inR a1) (hw : kW D ca A h0 ad H0 H locs u) (hl : lv_has ls 4 [(0, .ref h0), (1, .int (jI a0)), (2, .int (jI a1))]) (h : w_find a0 a1 Q u) : W p l e R s m args below meth c H locs 0 0 Qf (F0 m 0 ls []) := by
  have hx := X.1.1
  have hb := X.1.2.1
  unfold w_find at h
  refine lv_aload_n hx hb dX12_find_0 rfl (lv_at hl 0 rfl) ?_
  refine lv_iconst hx hb dX12_find_1 (v := jI 0) rfl ?_
  refine pS 131 791 (by decide) L_131 rfl rfl rfl (fun _ _ _ _ _ => mSI_131) (by decide) X hw (by decide) dX12_find_2 h (fun H locs u hw h => ?_)
  refine lv_aload_n hx hb dX12_find_5 rfl (lv_at hl 0 rfl) ?_
  refine lv_iconst hx hb dX12_find_6 (v := jI 0) rfl ?_
  refine pS 76 549 (by decide) L_76 rfl rfl rfl (fun _ _ _ _ _ => mSI_76) (by decide) X hw (by decide) dX12_find_7 h (fun H locs u hw h => ?_)
  refine lv_aload_n hx hb dX12_find_10 rfl (lv_at hl 0 rfl) ?_
  refine lv_iload_n hx hb dX12_find_11 rfl (lv_at hl 1 rfl) ?_
  refine kcV (n := 1) (c_walkTo ra0 h) G_walkTo E_walkTo X hw (Nat.le_trans (Nat.le_of_ble_eq_true rfl) hRf) (Nat.le_trans (Nat.le_of_ble_eq_true rfl) hRl) rfl hl.1 (Nat.le_of_ble_eq_true rfl) rfl dX12_find_12 (fun u H locs h hw => ?_)
  exact b_find_15 X hRf hRl hret ra1 hw (lv_sub hl [0, 2] rfl) h

end
theorem c_find {l : Launch} {a0 : Int} {a1 : Int} (ra0 : inR a0) (ra1 : inR a1) {Q : iST → Prop} {u : iST} (h : w_find a0 a1 Q u) : kMV l yX12_find (.code yX12_find cX12_find 4 none :: wsM) { frames := 3, cells := 0, slots := 0, locals := 67 } [.int (jI a0), .int (jI a1)] Q u := kMV_of rfl (fun _ => Nat.le_of_ble_eq_true rfl) (fun X hRf hRl hret hw hl => b_find_s X hRf hRl hret ra0 ra1 hw hl h)

/-! isNewName -/
theorem dX12_isNewName_0 : decode cX12_isNewName 0 = .ok (.aload_n 0, 1) := by decide +kernel
theorem dX12_isNewName_1 : decode cX12_isNewName 1 = .ok (.iload_n 1, 1) := by decide +kernel
theorem dX12_isNewName_2 : decode cX12_isNewName 2 = .ok (.invokevirtual 444, 3) := by decide +kernel
theorem dX12_isNewName_5 : decode cX12_isNewName 5 = .ok (.ifCond .eq 14, 3) := by decide +kernel
theorem dX12_isNewName_8 : decode cX12_isNewName 8 = .ok (.iload_n 1, 1) := by decide +kernel
theorem dX12_isNewName_9 : decode cX12_isNewName 9 = .ok (.invokestatic 794, 3) := by decide +kernel
theorem dX12_isNewName_12 : decode cX12_isNewName 12 = .ok (.ifCond .ne 7, 3) := by decide +kernel
theorem dX12_isNewName_15 : decode cX12_isNewName 15 = .ok (.iconst 1, 1) := by decide +kernel
theorem dX12_isNewName_16 : decode cX12_isNewName 16 = .ok (.goto 4, 3) := by decide +kernel
theorem dX12_isNewName_19 : decode cX12_isNewName 19 = .ok (.iconst 0, 1) := by decide +kernel
theorem dX12_isNewName_20 : decode cX12_isNewName 20 = .ok (.ireturn, 1) := by decide +kernel

section
variable {p : Program} {l : Launch} {e : Env} {R : Room} {s : State} {m : MethodId} {args : Array Value} {below : List Frame} {meth : Method} {c : Code} {H : Heap} {locs : List Loc} {Qf : State → Prop}
variable {ls : Array Slot} {D : va_G} {ca : Nat → ClassId} {A : Nat → Prop} {h0 : Nat} {ad : Nat → Nat} {H0 : Heap} {u : iST}
def w_isNewName (a0 : Int) (Q : Int → iST → Prop) (u : iST) : Prop :=
  w_isSymbol a0 (fun v1 u => 
  br (v1 = 0) (
    zt 0 (Q 0 u)) (
    w_isReserved a0 (fun v2 u => 
    br (v2 ≠ 0) (
      zt 0 (Q 0 u)) (
      zt 1 (Q 1 u))) u)) u
set_option maxRecDepth 20000 in
set_option maxHeartbeats 4000000 in
theorem b_isNewName_s (X : kX p m c cX12_isNewName 2 s args D ca) (hRf : 1 ≤ R.frames) (hRl : 21 ≤ R.locals) {Q : Int → iST → Prop} (hret : ∀ (v : Int) (u : iST) (H : Heap) (locs : List Loc) (ls : Array Slot) (pc : Nat), bz v → Q v u → kW D ca A h0 ad H0 H locs u → decode cX12_isNewName pc = .ok (.ireturn, 1) → W p l e R s m args below meth c H locs 0 0 Qf (F0 m pc ls [.int (jI v)])) {a0 : Int} (ra0 : inR a0) (hw : kW D ca A h0 ad H0 H locs u) (hl : lv_has ls 2 [(0, .ref h0), (1, .int (jI a0))]) (h : w_isNewName a0 Q u) : W p l e R s m args below meth c H locs 0 0 Qf (F0 m 0 ls []) := by
  have hx := X.1.1
  have hb := X.1.2.1
  unfold w_isNewName at h
  refine lv_aload_n hx hb dX12_isNewName_0 rfl (lv_at hl 0 rfl) ?_
  refine lv_iload_n hx hb dX12_isNewName_1 rfl (lv_at hl 1 rfl) ?_
  refine kcI (n := 1) (c_isSymbol ra0 h) G_isSymbol E_isSymbol X hw (Nat.le_trans (Nat.le_of_ble_eq_true rfl) hRf) (Nat.le_trans (Nat.le_of_ble_eq_true rfl) hRl) rfl hl.1 (Nat.le_of_ble_eq_true rfl) rfl dX12_isNewName_2 (fun v1 u H locs rv1 h hw => ?_)
  refine k_if_eq hx hb rv1 dX12_isNewName_5 (tgt := 19) rfl h (fun h => ?_) (fun h => ?_)
  · refine lv_iconst hx hb dX12_isNewName_19 (v := jI 0) rfl ?_
    exact hret _ _ _ _ _ _ h.1 h.2 hw dX12_isNewName_20
  · refine lv_iload_n hx hb dX12_isNewName_8 rfl (lv_at hl 1 rfl) ?_
    refine kcT (n := 1) (c_isReserved ra0 h) G_isReserved E_isReserved X hw (Nat.le_trans (Nat.le_of_ble_eq_true rfl) hRf) (Nat.le_trans (Nat.le_of_ble_eq_true rfl) hRl) rfl hl.1 (Nat.le_of_ble_eq_true rfl) rfl dX12_isNewName_9 (fun v2 u H locs rv2 h hw => ?_)
    refine k_if_ne hx hb rv2 dX12_isNewName_12 (tgt := 19) rfl h (fun h => ?_) (fun h => ?_)
    · refine lv_iconst hx hb dX12_isNewName_19 (v := jI 0) rfl ?_
      exact hret _ _ _ _ _ _ h.1 h.2 hw dX12_isNewName_20
    · refine lv_iconst hx hb dX12_isNewName_15 (v := jI 1) rfl ?_
      refine lv_goto hx hb dX12_isNewName_16 (tgt := 20) rfl ?_
      exact hret _ _ _ _ _ _ h.1 h.2 hw dX12_isNewName_20

end
theorem c_isNewName {l : Launch} {a0 : Int} (ra0 : inR a0) {Q : Int → iST → Prop} {u : iST} (h : w_isNewName a0 Q u) : kMI l yX12_isNewName (.code yX12_isNewName cX12_isNewName 2 (some .boolean) :: wsM) { frames := 1, cells := 0, slots := 0, locals := 21 } [.int (jI a0)] Q u := kMZ_of rfl (fun _ => Nat.le_of_ble_eq_true rfl) (fun X hRf hRl hret hw hl => b_isNewName_s X hRf hRl hret ra0 hw hl h)

/-! definition -/
theorem dX12_definition_0 : decode cX12_definition 0 = .ok (.iconst 0, 1) := by decide +kernel
theorem dX12_definition_1 : decode cX12_definition 1 = .ok (.istore_n 2, 1) := by decide +kernel
theorem dX12_definition_2 : decode cX12_definition 2 = .ok (.iload_n 2, 1) := by decide +kernel
theorem dX12_definition_3 : decode cX12_definition 3 = .ok (.aload_n 0, 1) := by decide +kernel
theorem dX12_definition_4 : decode cX12_definition 4 = .ok (.getfield 474, 3) := by decide +kernel
theorem dX12_definition_7 : decode cX12_definition 7 = .ok (.if_icmp .ge 21, 3) := by decide +kernel
theorem dX12_definition_10 : decode cX12_definition 10 = .ok (.aload_n 0, 1) := by decide +kernel
theorem dX12_definition_11 : decode cX12_definition 11 = .ok (.getfield 78, 3) := by decide +kernel
theorem dX12_definition_14 : decode cX12_definition 14 = .ok (.iload_n 2, 1) := by decide +kernel
theorem dX12_definition_15 : decode cX12_definition 15 = .ok (.iaload, 1) := by decide +kernel
theorem dX12_definition_16 : decode cX12_definition 16 = .ok (.iload_n 1, 1) := by decide +kernel
theorem dX12_definition_17 : decode cX12_definition 17 = .ok (.if_icmp .ne 5, 3) := by decide +kernel
theorem dX12_definition_20 : decode cX12_definition 20 = .ok (.iload_n 2, 1) := by decide +kernel
theorem dX12_definition_21 : decode cX12_definition 21 = .ok (.ireturn, 1) := by decide +kernel
theorem dX12_definition_22 : decode cX12_definition 22 = .ok (.iinc 2 1, 3) := by decide +kernel
theorem dX12_definition_25 : decode cX12_definition 25 = .ok (.goto (-23), 3) := by decide +kernel
theorem dX12_definition_28 : decode cX12_definition 28 = .ok (.iconst (-1), 1) := by decide +kernel
theorem dX12_definition_29 : decode cX12_definition 29 = .ok (.ireturn, 1) := by decide +kernel

section
variable {p : Program} {l : Launch} {e : Env} {R : Room} {s : State} {m : MethodId} {args : Array Value} {below : List Frame} {meth : Method} {c : Code} {H : Heap} {locs : List Loc} {Qf : State → Prop}
variable {ls : Array Slot} {D : va_G} {ca : Nat → ClassId} {A : Nat → Prop} {h0 : Nat} {ad : Nat → Nat} {H0 : Heap} {u : iST}
def w_definition_2b (R2 : Int → Int → iST → Prop) (Q : Int → iST → Prop) (x1 : Int) (x2 : Int) (u : iST) : Prop :=
  rd (u.1 35) (fun v1 => 
  br (v1 ≤ x2) (
    Q (-1) u) (
    bd x2 40 (rd (u.2.1 36 x2) (fun v2 => 
    br (v2 ≠ x1) (
      ov (x2 + 1) (
      R2 x1 (x2 + 1) u)) (
      Q x2 u)))))
def w_definition_2 (Q : Int → iST → Prop) (x1 : Int) (x2 : Int) (u : iST) : Prop := ∀ R2 : Int → Int → iST → Prop, (∀ (x1 : Int) (x2 : Int) (u : iST), w_definition_2b R2 Q x1 x2 u → R2 x1 x2 u) → R2 x1 x2 u
set_option maxRecDepth 20000 in
set_option maxHeartbeats 4000000 in
theorem b_definition_2 (X : kX p m c cX12_definition 3 s args D ca) (hRf : 0 ≤ R.frames) (hRl : 0 ≤ R.locals) {Q : Int → iST → Prop} (hret : ∀ (v : Int) (u : iST) (H : Heap) (locs : List Loc) (ls : Array Slot) (pc : Nat), inR v → Q v u → kW D ca A h0 ad H0 H locs u → decode cX12_definition pc = .ok (.ireturn, 1) → W p l e R s m args below meth c H locs 0 0 Qf (F0 m pc ls [.int (jI v)])) {x1 x2 : Int} (rx1 : inR x1) (rx2 : inR x2) (hw : kW D ca A h0 ad H0 H locs u) (hl : lv_has ls 3 [(0, .ref h0), (1, .int (jI x1)), (2, .int (jI x2))]) (h : w_definition_2 Q x1 x2 u) : W p l e R s m args below meth c H locs 0 0 Qf (F0 m 2 ls []) := by
  refine h (fun x1 x2 u => ∀ (H : Heap) (locs : List Loc) (ls : Array Slot), inR x1 → inR x2 → kW D ca A h0 ad H0 H locs u → lv_has ls 3 [(0, .ref h0), (1, .int (jI x1)), (2, .int (jI x2))] → W p l e R s m args below meth c H locs 0 0 Qf (F0 m 2 ls [])) ?_ H locs ls rx1 rx2 hw hl
  clear h hl hw rx1 rx2
  intro x1 x2 u h H locs ls rx1 rx2 hw hl
  have hR2 : ∀ (x1 : Int) (x2 : Int) (u : iST) (H : Heap) (locs : List Loc) (ls : Array Slot), inR x1 → inR x2 → kW D ca A h0 ad H0 H locs u → lv_has ls 3 [(0, .ref h0), (1, .int (jI x1)), (2, .int (jI x2))] → (fun (x1 : Int) (x2 : Int) u => ∀ (H : Heap) (locs : List Loc) (ls : Array Slot), inR x1 → inR x2 → kW D ca A h0 ad H0 H locs u → lv_has ls 3 [(0, .ref h0), (1, .int (jI x1)), (2, .int (jI x2))] → W p l e R s m args below meth c H locs 0 0 Qf (F0 m 2 ls [])) x1 x2 u → W p l e R s m args below meth c H locs 0 0 Qf (F0 m 2 ls []) := fun x1 x2 u H locs ls rx1 rx2 hw hl h => h H locs ls rx1 rx2 hw hl
  have hx := X.1.1
  have hb := X.1.2.1
  unfold w_definition_2b at h
  refine lv_iload_n hx hb dX12_definition_2 rfl (lv_at hl 2 rfl) ?_
  refine lv_aload_n hx hb dX12_definition_3 rfl (lv_at hl 0 rfl) ?_
  refine gS 35 474 (by decide) L_35 (fun _ _ => mF_35) rfl X hw dX12_definition_4 h (fun v1 rv1 h => ?_)
  refine k_icmp_ge hx hb rx2 rv1 dX12_definition_7 (tgt := 28) rfl h (fun h => ?_) (fun h => ?_)
  · refine lv_iconst hx hb dX12_definition_28 (v := jI (-1)) rfl ?_
    exact hret _ _ _ _ _ _ (by decide) h hw dX12_definition_29
  · refine lv_aload_n hx hb dX12_definition_10 rfl (lv_at hl 0 rfl) ?_
    refine gA 36 78 (by decide) L_36 (fun _ _ => mF_36) rfl X hw dX12_definition_11 ?_
    refine lv_iload_n hx hb dX12_definition_14 rfl (lv_at hl 2 rfl) ?_
    refine aL 36 21 20 40 (fun _ _ _ _ => mG_36) (fun _ => rfl) X hw rx2 dX12_definition_15 rfl h (fun v2 rv2 h => ?_)
    refine lv_iload_n hx hb dX12_definition_16 rfl (lv_at hl 1 rfl) ?_
    refine k_icmp_ne hx hb rv2 rx1 dX12_definition_17 (tgt := 22) rfl h (fun h => ?_) (fun h => ?_)
    · refine k_iinc (k := 2) hx hb dX12_definition_22 hl rfl (by decide) rfl h (fun ls r3 h hl => ?_)
      have hl : lv_has ls 3 [(2, .int (jI (x2 + 1))), (0, .ref (h0)), (1, .int (jI x1))] := hl
      refine lv_goto hx hb dX12_definition_25 (tgt := 2) rfl ?_
      exact hR2 _ _ _ H locs ls rx1 r3 hw (lv_sub hl [1, 2, 0] rfl) h
    · refine lv_iload_n hx hb dX12_definition_20 rfl (lv_at hl 2 rfl) ?_
      exact hret _ _ _ _ _ _ rx2 h hw dX12_definition_21

def w_definition (a0 : Int) (Q : Int → iST → Prop) (u : iST) : Prop :=
  w_definition_2 Q a0 0 u
set_option maxRecDepth 20000 in
set_option maxHeartbeats 4000000 in
theorem b_definition_s (X : kX p m c cX12_definition 3 s args D ca) (hRf : 0 ≤ R.frames) (hRl : 0 ≤ R.locals) {Q : Int → iST → Prop} (hret : ∀ (v : Int) (u : iST) (H : Heap) (locs : List Loc) (ls : Array Slot) (pc : Nat), inR v → Q v u → kW D ca A h0 ad H0 H locs u → decode cX12_definition pc = .ok (.ireturn, 1) → W p l e R s m args below meth c H locs 0 0 Qf (F0 m pc ls [.int (jI v)])) {a0 : Int} (ra0 : inR a0) (hw : kW D ca A h0 ad H0 H locs u) (hl : lv_has ls 3 [(0, .ref h0), (1, .int (jI a0))]) (h : w_definition a0 Q u) : W p l e R s m args below meth c H locs 0 0 Qf (F0 m 0 ls []) := by
  have hx := X.1.1
  have hb := X.1.2.1
  unfold w_definition at h
  refine lv_iconst hx hb dX12_definition_0 (v := jI 0) rfl ?_
  refine lv_istore_n hx hb dX12_definition_1 rfl hl (by decide) rfl (fun ls hl => ?_)
  have hl : lv_has ls 3 [(2, .int (jI 0)), (0, .ref (h0)), (1, .int (jI a0))] := hl
  exact b_definition_2 X hRf hRl hret ra0 (by decide) hw (lv_sub hl [1, 2, 0] rfl) h

end
theorem c_definition {l : Launch} {a0 : Int} (ra0 : inR a0) {Q : Int → iST → Prop} {u : iST} (h : w_definition a0 Q u) : kMI l yX12_definition (.code yX12_definition cX12_definition 3 (some .int) :: wsM) { frames := 0, cells := 0, slots := 0, locals := 0 } [.int (jI a0)] Q u := kMI_of rfl (fun _ => Nat.le_of_ble_eq_true rfl) (fun X hRf hRl hret hw hl => b_definition_s X hRf hRl hret ra0 hw hl h)

/-! theoremOf -/
theorem dX12_theoremOf_0 : decode cX12_theoremOf 0 = .ok (.iconst 0, 1) := by decide +kernel
theorem dX12_theoremOf_1 : decode cX12_theoremOf 1 = .ok (.istore_n 2, 1) := by decide +kernel
theorem dX12_theoremOf_2 : decode cX12_theoremOf 2 = .ok (.iload_n 2, 1) := by decide +kernel
theorem dX12_theoremOf_3 : decode cX12_theoremOf 3 = .ok (.aload_n 0, 1) := by decide +kernel
theorem dX12_theoremOf_4 : decode cX12_theoremOf 4 = .ok (.getfield 699, 3) := by decide +kernel
theorem dX12_theoremOf_7 : decode cX12_theoremOf 7 = .ok (.if_icmp .ge 21, 3) := by decide +kernel
theorem dX12_theoremOf_10 : decode cX12_theoremOf 10 = .ok (.aload_n 0, 1) := by decide +kernel
theorem dX12_theoremOf_11 : decode cX12_theoremOf 11 = .ok (.getfield 97, 3) := by decide +kernel
theorem dX12_theoremOf_14 : decode cX12_theoremOf 14 = .ok (.iload_n 2, 1) := by decide +kernel
theorem dX12_theoremOf_15 : decode cX12_theoremOf 15 = .ok (.iaload, 1) := by decide +kernel
theorem dX12_theoremOf_16 : decode cX12_theoremOf 16 = .ok (.iload_n 1, 1) := by decide +kernel
theorem dX12_theoremOf_17 : decode cX12_theoremOf 17 = .ok (.if_icmp .ne 5, 3) := by decide +kernel
theorem dX12_theoremOf_20 : decode cX12_theoremOf 20 = .ok (.iload_n 2, 1) := by decide +kernel
theorem dX12_theoremOf_21 : decode cX12_theoremOf 21 = .ok (.ireturn, 1) := by decide +kernel
theorem dX12_theoremOf_22 : decode cX12_theoremOf 22 = .ok (.iinc 2 1, 3) := by decide +kernel
theorem dX12_theoremOf_25 : decode cX12_theoremOf 25 = .ok (.goto (-23), 3) := by decide +kernel
theorem dX12_theoremOf_28 : decode cX12_theoremOf 28 = .ok (.iconst (-1), 1) := by decide +kernel
theorem dX12_theoremOf_29 : decode cX12_theoremOf 29 = .ok (.ireturn, 1) := by decide +kernel

section
variable {p : Program} {l : Launch} {e : Env} {R : Room} {s : State} {m : MethodId} {args : Array Value} {below : List Frame} {meth : Method} {c : Code} {H : Heap} {locs : List Loc} {Qf : State → Prop}
variable {ls : Array Slot} {D : va_G} {ca : Nat → ClassId} {A : Nat → Prop} {h0 : Nat} {ad : Nat → Nat} {H0 : Heap} {u : iST}
def w_theoremOf_2b (R2 : Int → Int → iST → Prop) (Q : Int → iST → Prop) (x1 : Int) (x2 : Int) (u : iST) : Prop :=
  rd (u.1 42) (fun v1 => 
  br (v1 ≤ x2) (
    Q (-1) u) (
    bd x2 60 (rd (u.2.1 43 x2) (fun v2 => 
    br (v2 ≠ x1) (
      ov (x2 + 1) (
      R2 x1 (x2 + 1) u)) (
      Q x2 u)))))
def w_theoremOf_2 (Q : Int → iST → Prop) (x1 : Int) (x2 : Int) (u : iST) : Prop := ∀ R2 : Int → Int → iST → Prop, (∀ (x1 : Int) (x2 : Int) (u : iST), w_theoremOf_2b R2 Q x1 x2 u → R2 x1 x2 u) → R2 x1 x2 u
set_option maxRecDepth 20000 in
set_option maxHeartbeats 4000000 in
theorem b_theoremOf_2 (X : kX p m c cX12_theoremOf 3 s args D ca) (hRf : 0 ≤ R.frames) (hRl : 0 ≤ R.locals) {Q : Int → iST → Prop} (hret : ∀ (v : Int) (u : iST) (H : Heap) (locs : List Loc) (ls : Array Slot) (pc : Nat), inR v → Q v u → kW D ca A h0 ad H0 H locs u → decode cX12_theoremOf pc = .ok (.ireturn, 1) → W p l e R s m args below meth c H locs 0 0 Qf (F0 m pc ls [.int (jI v)])) {x1 x2 : Int} (rx1 : inR x1) (rx2 : inR x2) (hw : kW D ca A h0 ad H0 H locs u) (hl : lv_has ls 3 [(0, .ref h0), (1, .int (jI x1)), (2, .int (jI x2))]) (h : w_theoremOf_2 Q x1 x2 u) : W p l e R s m args below meth c H locs 0 0 Qf (F0 m 2 ls []) := by
  refine h (fun x1 x2 u => ∀ (H : Heap) (locs : List Loc) (ls : Array Slot), inR x1 → inR x2 → kW D ca A h0 ad H0 H locs u → lv_has ls 3 [(0, .ref h0), (1, .int (jI x1)), (2, .int (jI x2))] → W p l e R s m args below meth c H locs 0 0 Qf (F0 m 2 ls [])) ?_ H locs ls rx1 rx2 hw hl
  clear h hl hw rx1 rx2
  intro x1 x2 u h H locs ls rx1 rx2 hw hl
  have hR2 : ∀ (x1 : Int) (x2 : Int) (u : iST) (H : Heap) (locs : List Loc) (ls : Array Slot), inR x1 → inR x2 → kW D ca A h0 ad H0 H locs u → lv_has ls 3 [(0, .ref h0), (1, .int (jI x1)), (2, .int (jI x2))] → (fun (x1 : Int) (x2 : Int) u => ∀ (H : Heap) (locs : List Loc) (ls : Array Slot), inR x1 → inR x2 → kW D ca A h0 ad H0 H locs u → lv_has ls 3 [(0, .ref h0), (1, .int (jI x1)), (2, .int (jI x2))] → W p l e R s m args below meth c H locs 0 0 Qf (F0 m 2 ls [])) x1 x2 u → W p l e R s m args below meth c H locs 0 0 Qf (F0 m 2 ls []) := fun x1 x2 u H locs ls rx1 rx2 hw hl h => h H locs ls rx1 rx2 hw hl
  have hx := X.1.1
  have hb := X.1.2.1
  unfold w_theoremOf_2b at h
  refine lv_iload_n hx hb dX12_theoremOf_2 rfl (lv_at hl 2 rfl) ?_
  refine lv_aload_n hx hb dX12_theoremOf_3 rfl (lv_at hl 0 rfl) ?_
  refine gS 42 699 (by decide) L_42 (fun _ _ => mF_42) rfl X hw dX12_theoremOf_4 h (fun v1 rv1 h => ?_)
  refine k_icmp_ge hx hb rx2 rv1 dX12_theoremOf_7 (tgt := 28) rfl h (fun h => ?_) (fun h => ?_)
  · refine lv_iconst hx hb dX12_theoremOf_28 (v := jI (-1)) rfl ?_
    exact hret _ _ _ _ _ _ (by decide) h hw dX12_theoremOf_29
  · refine lv_aload_n hx hb dX12_theoremOf_10 rfl (lv_at hl 0 rfl) ?_
    refine gA 43 97 (by decide) L_43 (fun _ _ => mF_43) rfl X hw dX12_theoremOf_11 ?_
    refine lv_iload_n hx hb dX12_theoremOf_14 rfl (lv_at hl 2 rfl) ?_
    refine aL 43 27 26 60 (fun _ _ _ _ => mG_43) (fun _ => rfl) X hw rx2 dX12_theoremOf_15 rfl h (fun v2 rv2 h => ?_)
    refine lv_iload_n hx hb dX12_theoremOf_16 rfl (lv_at hl 1 rfl) ?_
    refine k_icmp_ne hx hb rv2 rx1 dX12_theoremOf_17 (tgt := 22) rfl h (fun h => ?_) (fun h => ?_)
    · refine k_iinc (k := 2) hx hb dX12_theoremOf_22 hl rfl (by decide) rfl h (fun ls r3 h hl => ?_)
      have hl : lv_has ls 3 [(2, .int (jI (x2 + 1))), (0, .ref (h0)), (1, .int (jI x1))] := hl
      refine lv_goto hx hb dX12_theoremOf_25 (tgt := 2) rfl ?_
      exact hR2 _ _ _ H locs ls rx1 r3 hw (lv_sub hl [1, 2, 0] rfl) h
    · refine lv_iload_n hx hb dX12_theoremOf_20 rfl (lv_at hl 2 rfl) ?_
      exact hret _ _ _ _ _ _ rx2 h hw dX12_theoremOf_21

def w_theoremOf (a0 : Int) (Q : Int → iST → Prop) (u : iST) : Prop :=
  w_theoremOf_2 Q a0 0 u
set_option maxRecDepth 20000 in
set_option maxHeartbeats 4000000 in
theorem b_theoremOf_s (X : kX p m c cX12_theoremOf 3 s args D ca) (hRf : 0 ≤ R.frames) (hRl : 0 ≤ R.locals) {Q : Int → iST → Prop} (hret : ∀ (v : Int) (u : iST) (H : Heap) (locs : List Loc) (ls : Array Slot) (pc : Nat), inR v → Q v u → kW D ca A h0 ad H0 H locs u → decode cX12_theoremOf pc = .ok (.ireturn, 1) → W p l e R s m args below meth c H locs 0 0 Qf (F0 m pc ls [.int (jI v)])) {a0 : Int} (ra0 : inR a0) (hw : kW D ca A h0 ad H0 H locs u) (hl : lv_has ls 3 [(0, .ref h0), (1, .int (jI a0))]) (h : w_theoremOf a0 Q u) : W p l e R s m args below meth c H locs 0 0 Qf (F0 m 0 ls []) := by
  have hx := X.1.1
  have hb := X.1.2.1
  unfold w_theoremOf at h
  refine lv_iconst hx hb dX12_theoremOf_0 (v := jI 0) rfl ?_
  refine lv_istore_n hx hb dX12_theoremOf_1 rfl hl (by decide) rfl (fun ls hl => ?_)
  have hl : lv_has ls 3 [(2, .int (jI 0)), (0, .ref (h0)), (1, .int (jI a0))] := hl
  exact b_theoremOf_2 X hRf hRl hret ra0 (by decide) hw (lv_sub hl [1, 2, 0] rfl) h

end
theorem c_theoremOf {l : Launch} {a0 : Int} (ra0 : inR a0) {Q : Int → iST → Prop} {u : iST} (h : w_theoremOf a0 Q u) : kMI l yX12_theoremOf (.code yX12_theoremOf cX12_theoremOf 3 (some .int) :: wsM) { frames := 0, cells := 0, slots := 0, locals := 0 } [.int (jI a0)] Q u := kMI_of rfl (fun _ => Nat.le_of_ble_eq_true rfl) (fun X hRf hRl hret hw hl => b_theoremOf_s X hRf hRl hret ra0 hw hl h)

/-! areVariables -/
theorem dX12_areVariables_0 : decode cX12_areVariables 0 = .ok (.aload_n 0, 1) := by decide +kernel
theorem dX12_areVariables_1 : decode cX12_areVariables 1 = .ok (.iload_n 1, 1) := by decide +kernel
theorem dX12_areVariables_2 : decode cX12_areVariables 2 = .ok (.invokevirtual 529, 3) := by decide +kernel
theorem dX12_areVariables_5 : decode cX12_areVariables 5 = .ok (.istore_n 3, 1) := by decide +kernel
theorem dX12_areVariables_6 : decode cX12_areVariables 6 = .ok (.iload_n 3, 1) := by decide +kernel
theorem dX12_areVariables_7 : decode cX12_areVariables 7 = .ok (.iconst (-1), 1) := by decide +kernel
theorem dX12_areVariables_8 : decode cX12_areVariables 8 = .ok (.if_icmp .eq 8, 3) := by decide +kernel
theorem dX12_areVariables_11 : decode cX12_areVariables 11 = .ok (.iload_n 3, 1) := by decide +kernel
theorem dX12_areVariables_12 : decode cX12_areVariables 12 = .ok (.iload_n 2, 1) := by decide +kernel
theorem dX12_areVariables_13 : decode cX12_areVariables 13 = .ok (.if_icmp .le 5, 3) := by decide +kernel
theorem dX12_areVariables_16 : decode cX12_areVariables 16 = .ok (.iconst 0, 1) := by decide +kernel
theorem dX12_areVariables_17 : decode cX12_areVariables 17 = .ok (.ireturn, 1) := by decide +kernel
theorem dX12_areVariables_18 : decode cX12_areVariables 18 = .ok (.iconst 0, 1) := by decide +kernel
theorem dX12_areVariables_19 : decode cX12_areVariables 19 = .ok (.istore 4, 2) := by decide +kernel
theorem dX12_areVariables_21 : decode cX12_areVariables 21 = .ok (.iload 4, 2) := by decide +kernel
theorem dX12_areVariables_23 : decode cX12_areVariables 23 = .ok (.iload_n 3, 1) := by decide +kernel
theorem dX12_areVariables_24 : decode cX12_areVariables 24 = .ok (.if_icmp .ge 60, 3) := by decide +kernel
theorem dX12_areVariables_27 : decode cX12_areVariables 27 = .ok (.aload_n 0, 1) := by decide +kernel
theorem dX12_areVariables_28 : decode cX12_areVariables 28 = .ok (.aload_n 0, 1) := by decide +kernel
theorem dX12_areVariables_29 : decode cX12_areVariables 29 = .ok (.iload_n 1, 1) := by decide +kernel
theorem dX12_areVariables_30 : decode cX12_areVariables 30 = .ok (.iload 4, 2) := by decide +kernel
theorem dX12_areVariables_32 : decode cX12_areVariables 32 = .ok (.invokevirtual 471, 3) := by decide +kernel
theorem dX12_areVariables_35 : decode cX12_areVariables 35 = .ok (.invokevirtual 504, 3) := by decide +kernel
theorem dX12_areVariables_38 : decode cX12_areVariables 38 = .ok (.ifCond .ne 5, 3) := by decide +kernel
theorem dX12_areVariables_41 : decode cX12_areVariables 41 = .ok (.iconst 0, 1) := by decide +kernel
theorem dX12_areVariables_42 : decode cX12_areVariables 42 = .ok (.ireturn, 1) := by decide +kernel
theorem dX12_areVariables_43 : decode cX12_areVariables 43 = .ok (.iconst 0, 1) := by decide +kernel
theorem dX12_areVariables_44 : decode cX12_areVariables 44 = .ok (.istore 5, 2) := by decide +kernel
theorem dX12_areVariables_46 : decode cX12_areVariables 46 = .ok (.iload 5, 2) := by decide +kernel
theorem dX12_areVariables_48 : decode cX12_areVariables 48 = .ok (.iload 4, 2) := by decide +kernel
theorem dX12_areVariables_50 : decode cX12_areVariables 50 = .ok (.if_icmp .ge 28, 3) := by decide +kernel
theorem dX12_areVariables_53 : decode cX12_areVariables 53 = .ok (.aload_n 0, 1) := by decide +kernel
theorem dX12_areVariables_54 : decode cX12_areVariables 54 = .ok (.iload_n 1, 1) := by decide +kernel
theorem dX12_areVariables_55 : decode cX12_areVariables 55 = .ok (.iload 5, 2) := by decide +kernel
theorem dX12_areVariables_57 : decode cX12_areVariables 57 = .ok (.invokevirtual 471, 3) := by decide +kernel
theorem dX12_areVariables_60 : decode cX12_areVariables 60 = .ok (.aload_n 0, 1) := by decide +kernel
theorem dX12_areVariables_61 : decode cX12_areVariables 61 = .ok (.iload_n 1, 1) := by decide +kernel
theorem dX12_areVariables_62 : decode cX12_areVariables 62 = .ok (.iload 4, 2) := by decide +kernel
theorem dX12_areVariables_64 : decode cX12_areVariables 64 = .ok (.invokevirtual 471, 3) := by decide +kernel
theorem dX12_areVariables_67 : decode cX12_areVariables 67 = .ok (.if_icmp .ne 5, 3) := by decide +kernel
theorem dX12_areVariables_70 : decode cX12_areVariables 70 = .ok (.iconst 0, 1) := by decide +kernel
theorem dX12_areVariables_71 : decode cX12_areVariables 71 = .ok (.ireturn, 1) := by decide +kernel
theorem dX12_areVariables_72 : decode cX12_areVariables 72 = .ok (.iinc 5 1, 3) := by decide +kernel
theorem dX12_areVariables_75 : decode cX12_areVariables 75 = .ok (.goto (-29), 3) := by decide +kernel
theorem dX12_areVariables_78 : decode cX12_areVariables 78 = .ok (.iinc 4 1, 3) := by decide +kernel
theorem dX12_areVariables_81 : decode cX12_areVariables 81 = .ok (.goto (-60), 3) := by decide +kernel
theorem dX12_areVariables_84 : decode cX12_areVariables 84 = .ok (.iconst 1, 1) := by decide +kernel
theorem dX12_areVariables_85 : decode cX12_areVariables 85 = .ok (.ireturn, 1) := by decide +kernel

section
variable {p : Program} {l : Launch} {e : Env} {R : Room} {s : State} {m : MethodId} {args : Array Value} {below : List Frame} {meth : Method} {c : Code} {H : Heap} {locs : List Loc} {Qf : State → Prop}
variable {ls : Array Slot} {D : va_G} {ca : Nat → ClassId} {A : Nat → Prop} {h0 : Nat} {ad : Nat → Nat} {H0 : Heap} {u : iST}
def w_areVariables_46b (R21 : Int → Int → Int → iST → Prop) (R46 : Int → Int → Int → Int → iST → Prop) (Q : Int → iST → Prop) (x1 : Int) (x3 : Int) (x4 : Int) (x5 : Int) (u : iST) : Prop :=
  br (x4 ≤ x5) (
    ov (x4 + 1) (
    R21 x1 x3 (x4 + 1) u)) (
    w_nth x1 x5 (fun v5 u => 
    w_nth x1 x4 (fun v6 u => 
    br (v5 ≠ v6) (
      ov (x5 + 1) (
      R46 x1 x3 x4 (x5 + 1) u)) (
      zt 0 (Q 0 u))) u) u)
def w_areVariables_46 (R21 : Int → Int → Int → iST → Prop) (Q : Int → iST → Prop) (x1 : Int) (x3 : Int) (x4 : Int) (x5 : Int) (u : iST) : Prop := ∀ R46 : Int → Int → Int → Int → iST → Prop, (∀ (x1 : Int) (x3 : Int) (x4 : Int) (x5 : Int) (u : iST), w_areVariables_46b R21 R46 Q x1 x3 x4 x5 u → R46 x1 x3 x4 x5 u) → R46 x1 x3 x4 x5 u
set_option maxRecDepth 20000 in
set_option maxHeartbeats 4000000 in
theorem b_areVariables_46 (X : kX p m c cX12_areVariables 6 s args D ca) (hRf : 2 ≤ R.frames) (hRl : 44 ≤ R.locals) {Q : Int → iST → Prop} (hret : ∀ (v : Int) (u : iST) (H : Heap) (locs : List Loc) (ls : Array Slot) (pc : Nat), bz v → Q v u → kW D ca A h0 ad H0 H locs u → decode cX12_areVariables pc = .ok (.ireturn, 1) → W p l e R s m args below meth c H locs 0 0 Qf (F0 m pc ls [.int (jI v)])) {R21 : Int → Int → Int → iST → Prop} (hR21 : ∀ (x1 : Int) (x3 : Int) (x4 : Int) (u : iST) (H : Heap) (locs : List Loc) (ls : Array Slot), inR x1 → inR x3 → inR x4 → kW D ca A h0 ad H0 H locs u → lv_has ls 6 [(0, .ref h0), (1, .int (jI x1)), (3, .int (jI x3)), (4, .int (jI x4))] → R21 x1 x3 x4 u → W p l e R s m args below meth c H locs 0 0 Qf (F0 m 21 ls [])) {x1 x3 x4 x5 : Int} (rx1 : inR x1) (rx3 : inR x3) (rx4 : inR x4) (rx5 : inR x5) (hw : kW D ca A h0 ad H0 H locs u) (hl : lv_has ls 6 [(0, .ref h0), (1, .int (jI x1)), (3, .int (jI x3)), (4, .int (jI x4)), (5, .int (jI x5))]) (h : w_areVariables_46 R21 Q x1 x3 x4 x5 u) : W p l e R s m args below meth c H locs 0 0 Qf (F0 m 46 ls []) := by
  refine h (fun x1 x3 x4 x5 u => ∀ (H : Heap) (locs : List Loc) (ls : Array Slot), inR x1 → inR x3 → inR x4 → inR x5 → kW D ca A h0 ad H0 H locs u → lv_has ls 6 [(0, .ref h0), (1, .int (jI x1)), (3, .int (jI x3)), (4, .int (jI x4)), (5, .int (jI x5))] → W p l e R s m args below meth c H locs 0 0 Qf (F0 m 46 ls [])) ?_ H locs ls rx1 rx3 rx4 rx5 hw hl
  clear h hl hw rx1 rx3 rx4 rx5
  intro x1 x3 x4 x5 u h H locs ls rx1 rx3 rx4 rx5 hw hl
  have hR46 : ∀ (x1 : Int) (x3 : Int) (x4 : Int) (x5 : Int) (u : iST) (H : Heap) (locs : List Loc) (ls : Array Slot), inR x1 → inR x3 → inR x4 → inR x5 → kW D ca A h0 ad H0 H locs u → lv_has ls 6 [(0, .ref h0), (1, .int (jI x1)), (3, .int (jI x3)), (4, .int (jI x4)), (5, .int (jI x5))] → (fun (x1 : Int) (x3 : Int) (x4 : Int) (x5 : Int) u => ∀ (H : Heap) (locs : List Loc) (ls : Array Slot), inR x1 → inR x3 → inR x4 → inR x5 → kW D ca A h0 ad H0 H locs u → lv_has ls 6 [(0, .ref h0), (1, .int (jI x1)), (3, .int (jI x3)), (4, .int (jI x4)), (5, .int (jI x5))] → W p l e R s m args below meth c H locs 0 0 Qf (F0 m 46 ls [])) x1 x3 x4 x5 u → W p l e R s m args below meth c H locs 0 0 Qf (F0 m 46 ls []) := fun x1 x3 x4 x5 u H locs ls rx1 rx3 rx4 rx5 hw hl h => h H locs ls rx1 rx3 rx4 rx5 hw hl
  have hx := X.1.1
  have hb := X.1.2.1
  unfold w_areVariables_46b at h
  refine lv_iload hx hb dX12_areVariables_46 (lv_at hl 4 rfl) ?_
  refine lv_iload hx hb dX12_areVariables_48 (lv_at hl 3 rfl) ?_
  refine k_icmp_ge hx hb rx5 rx4 dX12_areVariables_50 (tgt := 78) rfl h (fun h => ?_) (fun h => ?_)
  · refine k_iinc (k := 3) hx hb dX12_areVariables_78 hl rfl (by decide) rfl h (fun ls r4 h hl => ?_)
    have hl : lv_has ls 6 [(4, .int (jI (x4 + 1))), (0, .ref (h0)), (1, .int (jI x1)), (3, .int (jI x3)), (5, .int (jI x5))] := hl
    refine lv_goto hx hb dX12_areVariables_81 (tgt := 21) rfl ?_
    exact hR21 _ _ _ _ H locs ls rx1 rx3 r4 hw (lv_sub hl [1, 2, 3, 0] rfl) h
  · refine lv_aload_n hx hb dX12_areVariables_53 rfl (lv_at hl 0 rfl) ?_
    refine lv_iload_n hx hb dX12_areVariables_54 rfl (lv_at hl 1 rfl) ?_
    refine lv_iload hx hb dX12_areVariables_55 (lv_at hl 4 rfl) ?_
    refine kcI (n := 2) (c_nth rx1 rx5 h) G_nth E_nth X hw (Nat.le_trans (Nat.le_of_ble_eq_true rfl) hRf) (Nat.le_trans (Nat.le_of_ble_eq_true rfl) hRl) rfl hl.1 (Nat.le_of_ble_eq_true rfl) rfl dX12_areVariables_57 (fun v5 u H locs rv5 h hw => ?_)
    refine lv_aload_n hx hb dX12_areVariables_60 rfl (lv_at hl 0 rfl) ?_
    refine lv_iload_n hx hb dX12_areVariables_61 rfl (lv_at hl 1 rfl) ?_
    refine lv_iload hx hb dX12_areVariables_62 (lv_at hl 3 rfl) ?_
    refine kcI (n := 2) (c_nth rx1 rx4 h) G_nth E_nth X hw (Nat.le_trans (Nat.le_of_ble_eq_true rfl) hRf) (Nat.le_trans (Nat.le_of_ble_eq_true rfl) hRl) rfl hl.1 (Nat.le_of_ble_eq_true rfl) rfl dX12_areVariables_64 (fun v6 u H locs rv6 h hw => ?_)
    refine k_icmp_ne hx hb rv5 rv6 dX12_areVariables_67 (tgt := 72) rfl h (fun h => ?_) (fun h => ?_)
    · refine k_iinc (k := 4) hx hb dX12_areVariables_72 hl rfl (by decide) rfl h (fun ls r7 h hl => ?_)
      have hl : lv_has ls 6 [(5, .int (jI (x5 + 1))), (0, .ref (h0)), (1, .int (jI x1)), (3, .int (jI x3)), (4, .int (jI x4))] := hl
      refine lv_goto hx hb dX12_areVariables_75 (tgt := 46) rfl ?_
      exact hR46 _ _ _ _ _ H locs ls rx1 rx3 rx4 r7 hw (lv_sub hl [1, 2, 3, 4, 0] rfl) h
    · refine lv_iconst hx hb dX12_areVariables_70 (v := jI 0) rfl ?_
      exact hret _ _ _ _ _ _ h.1 h.2 hw dX12_areVariables_71

def w_areVariables_21b (R21 : Int → Int → Int → iST → Prop) (Q : Int → iST → Prop) (x1 : Int) (x3 : Int) (x4 : Int) (u : iST) : Prop :=
  br (x3 ≤ x4) (
    zt 1 (Q 1 u)) (
    w_nth x1 x4 (fun v2 u => 
    w_isVariable v2 (fun v3 u => 
    br (v3 ≠ 0) (
      w_areVariables_46 R21 Q x1 x3 x4 0 u) (
      zt 0 (Q 0 u))) u) u)
def w_areVariables_21 (Q : Int → iST → Prop) (x1 : Int) (x3 : Int) (x4 : Int) (u : iST) : Prop := ∀ R21 : Int → Int → Int → iST → Prop, (∀ (x1 : Int) (x3 : Int) (x4 : Int) (u : iST), w_areVariables_21b R21 Q x1 x3 x4 u → R21 x1 x3 x4 u) → R21 x1 x3 x4 u
set_option maxRecDepth 20000 in
set_option maxHeartbeats 4000000 in
theorem b_areVariables_21 (X : kX p m c cX12_areVariables 6 s args D ca) (hRf : 2 ≤ R.frames) (hRl : 44 ≤ R.locals) {Q : Int → iST → Prop} (hret : ∀ (v : Int) (u : iST) (H : Heap) (locs : List Loc) (ls : Array Slot) (pc : Nat), bz v → Q v u → kW D ca A h0 ad H0 H locs u → decode cX12_areVariables pc = .ok (.ireturn, 1) → W p l e R s m args below meth c H locs 0 0 Qf (F0 m pc ls [.int (jI v)])) {x1 x3 x4 : Int} (rx1 : inR x1) (rx3 : inR x3) (rx4 : inR x4) (hw : kW D ca A h0 ad H0 H locs u) (hl : lv_has ls 6 [(0, .ref h0), (1, .int (jI x1)), (3, .int (jI x3)), (4, .int (jI x4))]) (h : w_areVariables_21 Q x1 x3 x4 u) : W p l e R s m args below meth c H locs 0 0 Qf (F0 m 21 ls []) := by
  refine h (fun x1 x3 x4 u => ∀ (H : Heap) (locs : List Loc) (ls : Array Slot), inR x1 → inR x3 → inR x4 → kW D ca A h0 ad H0 H locs u → lv_has ls 6 [(0, .ref h0), (1, .int (jI x1)), (3, .int (jI x3)), (4, .int (jI x4))] → W p l e R s m args below meth c H locs 0 0 Qf (F0 m 21 ls [])) ?_ H locs ls rx1 rx3 rx4 hw hl
  clear h hl hw rx1 rx3 rx4
  intro x1 x3 x4 u h H locs ls rx1 rx3 rx4 hw hl
  have hR21 : ∀ (x1 : Int) (x3 : Int) (x4 : Int) (u : iST) (H : Heap) (locs : List Loc) (ls : Array Slot), inR x1 → inR x3 → inR x4 → kW D ca A h0 ad H0 H locs u → lv_has ls 6 [(0, .ref h0), (1, .int (jI x1)), (3, .int (jI x3)), (4, .int (jI x4))] → (fun (x1 : Int) (x3 : Int) (x4 : Int) u => ∀ (H : Heap) (locs : List Loc) (ls : Array Slot), inR x1 → inR x3 → inR x4 → kW D ca A h0 ad H0 H locs u → lv_has ls 6 [(0, .ref h0), (1, .int (jI x1)), (3, .int (jI x3)), (4, .int (jI x4))] → W p l e R s m args below meth c H locs 0 0 Qf (F0 m 21 ls [])) x1 x3 x4 u → W p l e R s m args below meth c H locs 0 0 Qf (F0 m 21 ls []) := fun x1 x3 x4 u H locs ls rx1 rx3 rx4 hw hl h => h H locs ls rx1 rx3 rx4 hw hl
  have hx := X.1.1
  have hb := X.1.2.1
  unfold w_areVariables_21b at h
  refine lv_iload hx hb dX12_areVariables_21 (lv_at hl 3 rfl) ?_
  refine lv_iload_n hx hb dX12_areVariables_23 rfl (lv_at hl 2 rfl) ?_
  refine k_icmp_ge hx hb rx4 rx3 dX12_areVariables_24 (tgt := 84) rfl h (fun h => ?_) (fun h => ?_)
  · refine lv_iconst hx hb dX12_areVariables_84 (v := jI 1) rfl ?_
    exact hret _ _ _ _ _ _ h.1 h.2 hw dX12_areVariables_85
  · refine lv_aload_n hx hb dX12_areVariables_27 rfl (lv_at hl 0 rfl) ?_
    refine lv_aload_n hx hb dX12_areVariables_28 rfl (lv_at hl 0 rfl) ?_
    refine lv_iload_n hx hb dX12_areVariables_29 rfl (lv_at hl 1 rfl) ?_
    refine lv_iload hx hb dX12_areVariables_30 (lv_at hl 3 rfl) ?_
    refine kcI (n := 2) (c_nth rx1 rx4 h) G_nth E_nth X hw (Nat.le_trans (Nat.le_of_ble_eq_true rfl) hRf) (Nat.le_trans (Nat.le_of_ble_eq_true rfl) hRl) rfl hl.1 (Nat.le_of_ble_eq_true rfl) rfl dX12_areVariables_32 (fun v2 u H locs rv2 h hw => ?_)
    refine kcI (n := 1) (c_isVariable rv2 h) G_isVariable E_isVariable X hw (Nat.le_trans (Nat.le_of_ble_eq_true rfl) hRf) (Nat.le_trans (Nat.le_of_ble_eq_true rfl) hRl) rfl hl.1 (Nat.le_of_ble_eq_true rfl) rfl dX12_areVariables_35 (fun v3 u H locs rv3 h hw => ?_)
    refine k_if_ne hx hb rv3 dX12_areVariables_38 (tgt := 43) rfl h (fun h => ?_) (fun h => ?_)
    · refine lv_iconst hx hb dX12_areVariables_43 (v := jI 0) rfl ?_
      refine lv_istore hx hb dX12_areVariables_44 hl (by decide) rfl (fun ls hl => ?_)
      have hl : lv_has ls 6 [(5, .int (jI 0)), (0, .ref (h0)), (1, .int (jI x1)), (3, .int (jI x3)), (4, .int (jI x4))] := hl
      exact b_areVariables_46 X hRf hRl hret hR21 rx1 rx3 rx4 (by decide) hw (lv_sub hl [1, 2, 3, 4, 0] rfl) h
    · refine lv_iconst hx hb dX12_areVariables_41 (v := jI 0) rfl ?_
      exact hret _ _ _ _ _ _ h.1 h.2 hw dX12_areVariables_42

def w_areVariables (a0 : Int) (a1 : Int) (Q : Int → iST → Prop) (u : iST) : Prop :=
  w_lengthOf a0 (fun v1 u => 
  br (v1 = (-1)) (
    zt 0 (Q 0 u)) (
    br (v1 ≤ a1) (
      w_areVariables_21 Q a0 v1 0 u) (
      zt 0 (Q 0 u)))) u
set_option maxRecDepth 20000 in
set_option maxHeartbeats 4000000 in
theorem b_areVariables_s (X : kX p m c cX12_areVariables 6 s args D ca) (hRf : 2 ≤ R.frames) (hRl : 44 ≤ R.locals) {Q : Int → iST → Prop} (hret : ∀ (v : Int) (u : iST) (H : Heap) (locs : List Loc) (ls : Array Slot) (pc : Nat), bz v → Q v u → kW D ca A h0 ad H0 H locs u → decode cX12_areVariables pc = .ok (.ireturn, 1) → W p l e R s m args below meth c H locs 0 0 Qf (F0 m pc ls [.int (jI v)])) {a0 a1 : Int} (ra0 : inR a0) (ra1 : inR a1) (hw : kW D ca A h0 ad H0 H locs u) (hl : lv_has ls 6 [(0, .ref h0), (1, .int (jI a0)), (2, .int (jI a1))]) (h : w_areVariables a0 a1 Q u) : W p l e R s m args below meth c H locs 0 0 Qf (F0 m 0 ls []) := by
  have hx := X.1.1
  have hb := X.1.2.1
  unfold w_areVariables at h
  refine lv_aload_n hx hb dX12_areVariables_0 rfl (lv_at hl 0 rfl) ?_
  refine lv_iload_n hx hb dX12_areVariables_1 rfl (lv_at hl 1 rfl) ?_
  refine kcI (n := 1) (c_lengthOf ra0 h) G_lengthOf E_lengthOf X hw (Nat.le_trans (Nat.le_of_ble_eq_true rfl) hRf) (Nat.le_trans (Nat.le_of_ble_eq_true rfl) hRl) rfl hl.1 (Nat.le_of_ble_eq_true rfl) rfl dX12_areVariables_2 (fun v1 u H locs rv1 h hw => ?_)
  refine lv_istore_n hx hb dX12_areVariables_5 rfl hl (by decide) rfl (fun ls hl => ?_)
  have hl : lv_has ls 6 [(3, .int (jI v1)), (0, .ref (h0)), (1, .int (jI a0)), (2, .int (jI a1))] := hl
  refine lv_iload_n hx hb dX12_areVariables_6 rfl (lv_at hl 0 rfl) ?_
  refine lv_iconst hx hb dX12_areVariables_7 (v := jI (-1)) rfl ?_
  refine k_icmp_eq hx hb rv1 (by decide) dX12_areVariables_8 (tgt := 16) rfl h (fun h => ?_) (fun h => ?_)
  · refine lv_iconst hx hb dX12_areVariables_16 (v := jI 0) rfl ?_
    exact hret _ _ _ _ _ _ h.1 h.2 hw dX12_areVariables_17
  · refine lv_iload_n hx hb dX12_areVariables_11 rfl (lv_at hl 0 rfl) ?_
    refine lv_iload_n hx hb dX12_areVariables_12 rfl (lv_at hl 3 rfl) ?_
    refine k_icmp_le hx hb rv1 ra1 dX12_areVariables_13 (tgt := 18) rfl h (fun h => ?_) (fun h => ?_)
    · refine lv_iconst hx hb dX12_areVariables_18 (v := jI 0) rfl ?_
      refine lv_istore hx hb dX12_areVariables_19 hl (by decide) rfl (fun ls hl => ?_)
      have hl : lv_has ls 6 [(4, .int (jI 0)), (3, .int (jI v1)), (0, .ref (h0)), (1, .int (jI a0)), (2, .int (jI a1))] := hl
      exact b_areVariables_21 X hRf hRl hret ra0 rv1 (by decide) hw (lv_sub hl [2, 3, 1, 0] rfl) h
    · refine lv_iconst hx hb dX12_areVariables_16 (v := jI 0) rfl ?_
      exact hret _ _ _ _ _ _ h.1 h.2 hw dX12_areVariables_17

end
theorem c_areVariables {l : Launch} {a0 : Int} {a1 : Int} (ra0 : inR a0) (ra1 : inR a1) {Q : Int → iST → Prop} {u : iST} (h : w_areVariables a0 a1 Q u) : kMI l yX12_areVariables (.code yX12_areVariables cX12_areVariables 6 (some .boolean) :: wsM) { frames := 2, cells := 0, slots := 0, locals := 44 } [.int (jI a0), .int (jI a1)] Q u := kMZ_of rfl (fun _ => Nat.le_of_ble_eq_true rfl) (fun X hRf hRl hret hw hl => b_areVariables_s X hRf hRl hret ra0 ra1 hw hl h)

/-! isIn -/
theorem dX12_isIn_0 : decode cX12_isIn 0 = .ok (.iload_n 1, 1) := by decide +kernel
theorem dX12_isIn_1 : decode cX12_isIn 1 = .ok (.istore_n 3, 1) := by decide +kernel
theorem dX12_isIn_2 : decode cX12_isIn 2 = .ok (.iload_n 3, 1) := by decide +kernel
theorem dX12_isIn_3 : decode cX12_isIn 3 = .ok (.ifCond .eq 25, 3) := by decide +kernel
theorem dX12_isIn_6 : decode cX12_isIn 6 = .ok (.aload_n 0, 1) := by decide +kernel
theorem dX12_isIn_7 : decode cX12_isIn 7 = .ok (.getfield 8, 3) := by decide +kernel
theorem dX12_isIn_10 : decode cX12_isIn 10 = .ok (.iload_n 3, 1) := by decide +kernel
theorem dX12_isIn_11 : decode cX12_isIn 11 = .ok (.iaload, 1) := by decide +kernel
theorem dX12_isIn_12 : decode cX12_isIn 12 = .ok (.iload_n 2, 1) := by decide +kernel
theorem dX12_isIn_13 : decode cX12_isIn 13 = .ok (.if_icmp .ne 5, 3) := by decide +kernel
theorem dX12_isIn_16 : decode cX12_isIn 16 = .ok (.iconst 1, 1) := by decide +kernel
theorem dX12_isIn_17 : decode cX12_isIn 17 = .ok (.ireturn, 1) := by decide +kernel
theorem dX12_isIn_18 : decode cX12_isIn 18 = .ok (.aload_n 0, 1) := by decide +kernel
theorem dX12_isIn_19 : decode cX12_isIn 19 = .ok (.getfield 14, 3) := by decide +kernel
theorem dX12_isIn_22 : decode cX12_isIn 22 = .ok (.iload_n 3, 1) := by decide +kernel
theorem dX12_isIn_23 : decode cX12_isIn 23 = .ok (.iaload, 1) := by decide +kernel
theorem dX12_isIn_24 : decode cX12_isIn 24 = .ok (.istore_n 3, 1) := by decide +kernel
theorem dX12_isIn_25 : decode cX12_isIn 25 = .ok (.goto (-23), 3) := by decide +kernel
theorem dX12_isIn_28 : decode cX12_isIn 28 = .ok (.iconst 0, 1) := by decide +kernel
theorem dX12_isIn_29 : decode cX12_isIn 29 = .ok (.ireturn, 1) := by decide +kernel

section
variable {p : Program} {l : Launch} {e : Env} {R : Room} {s : State} {m : MethodId} {args : Array Value} {below : List Frame} {meth : Method} {c : Code} {H : Heap} {locs : List Loc} {Qf : State → Prop}
variable {ls : Array Slot} {D : va_G} {ca : Nat → ClassId} {A : Nat → Prop} {h0 : Nat} {ad : Nat → Nat} {H0 : Heap} {u : iST}
def w_isIn_2b (R2 : Int → Int → iST → Prop) (Q : Int → iST → Prop) (x2 : Int) (x3 : Int) (u : iST) : Prop :=
  br (x3 = 0) (
    zt 0 (Q 0 u)) (
    bd x3 452000 (rd (u.2.1 0 x3) (fun v1 => 
    br (v1 ≠ x2) (
      bd x3 452000 (rd (u.2.1 1 x3) (fun v2 => 
      R2 x2 v2 u))) (
      zt 1 (Q 1 u)))))
def w_isIn_2 (Q : Int → iST → Prop) (x2 : Int) (x3 : Int) (u : iST) : Prop := ∀ R2 : Int → Int → iST → Prop, (∀ (x2 : Int) (x3 : Int) (u : iST), w_isIn_2b R2 Q x2 x3 u → R2 x2 x3 u) → R2 x2 x3 u
set_option maxRecDepth 20000 in
set_option maxHeartbeats 4000000 in
theorem b_isIn_2 (X : kX p m c cX12_isIn 4 s args D ca) (hRf : 0 ≤ R.frames) (hRl : 0 ≤ R.locals) {Q : Int → iST → Prop} (hret : ∀ (v : Int) (u : iST) (H : Heap) (locs : List Loc) (ls : Array Slot) (pc : Nat), bz v → Q v u → kW D ca A h0 ad H0 H locs u → decode cX12_isIn pc = .ok (.ireturn, 1) → W p l e R s m args below meth c H locs 0 0 Qf (F0 m pc ls [.int (jI v)])) {x2 x3 : Int} (rx2 : inR x2) (rx3 : inR x3) (hw : kW D ca A h0 ad H0 H locs u) (hl : lv_has ls 4 [(0, .ref h0), (2, .int (jI x2)), (3, .int (jI x3))]) (h : w_isIn_2 Q x2 x3 u) : W p l e R s m args below meth c H locs 0 0 Qf (F0 m 2 ls []) := by
  refine h (fun x2 x3 u => ∀ (H : Heap) (locs : List Loc) (ls : Array Slot), inR x2 → inR x3 → kW D ca A h0 ad H0 H locs u → lv_has ls 4 [(0, .ref h0), (2, .int (jI x2)), (3, .int (jI x3))] → W p l e R s m args below meth c H locs 0 0 Qf (F0 m 2 ls [])) ?_ H locs ls rx2 rx3 hw hl
  clear h hl hw rx2 rx3
  intro x2 x3 u h H locs ls rx2 rx3 hw hl
  have hR2 : ∀ (x2 : Int) (x3 : Int) (u : iST) (H : Heap) (locs : List Loc) (ls : Array Slot), inR x2 → inR x3 → kW D ca A h0 ad H0 H locs u → lv_has ls 4 [(0, .ref h0), (2, .int (jI x2)), (3, .int (jI x3))] → (fun (x2 : Int) (x3 : Int) u => ∀ (H : Heap) (locs : List Loc) (ls : Array Slot), inR x2 → inR x3 → kW D ca A h0 ad H0 H locs u → lv_has ls 4 [(0, .ref h0), (2, .int (jI x2)), (3, .int (jI x3))] → W p l e R s m args below meth c H locs 0 0 Qf (F0 m 2 ls [])) x2 x3 u → W p l e R s m args below meth c H locs 0 0 Qf (F0 m 2 ls []) := fun x2 x3 u H locs ls rx2 rx3 hw hl h => h H locs ls rx2 rx3 hw hl
  have hx := X.1.1
  have hb := X.1.2.1
  unfold w_isIn_2b at h
  refine lv_iload_n hx hb dX12_isIn_2 rfl (lv_at hl 2 rfl) ?_
  refine k_if_eq hx hb rx3 dX12_isIn_3 (tgt := 28) rfl h (fun h => ?_) (fun h => ?_)
  · refine lv_iconst hx hb dX12_isIn_28 (v := jI 0) rfl ?_
    exact hret _ _ _ _ _ _ h.1 h.2 hw dX12_isIn_29
  · refine lv_aload_n hx hb dX12_isIn_6 rfl (lv_at hl 0 rfl) ?_
    refine gA 0 8 (by decide) L_0 (fun _ _ => mF_0) rfl X hw dX12_isIn_7 ?_
    refine lv_iload_n hx hb dX12_isIn_10 rfl (lv_at hl 2 rfl) ?_
    refine aL 0 1 0 452000 (fun _ _ _ _ => mG_0) (fun _ => rfl) X hw rx3 dX12_isIn_11 rfl h (fun v1 rv1 h => ?_)
    refine lv_iload_n hx hb dX12_isIn_12 rfl (lv_at hl 1 rfl) ?_
    refine k_icmp_ne hx hb rv1 rx2 dX12_isIn_13 (tgt := 18) rfl h (fun h => ?_) (fun h => ?_)
    · refine lv_aload_n hx hb dX12_isIn_18 rfl (lv_at hl 0 rfl) ?_
      refine gA 1 14 (by decide) L_1 (fun _ _ => mF_1) rfl X hw dX12_isIn_19 ?_
      refine lv_iload_n hx hb dX12_isIn_22 rfl (lv_at hl 2 rfl) ?_
      refine aL 1 2 1 452000 (fun _ _ _ _ => mG_1) (fun _ => rfl) X hw rx3 dX12_isIn_23 rfl h (fun v2 rv2 h => ?_)
      refine lv_istore_n hx hb dX12_isIn_24 rfl hl (by decide) rfl (fun ls hl => ?_)
      have hl : lv_has ls 4 [(3, .int (jI v2)), (0, .ref (h0)), (2, .int (jI x2))] := hl
      refine lv_goto hx hb dX12_isIn_25 (tgt := 2) rfl ?_
      exact hR2 _ _ _ H locs ls rx2 rv2 hw (lv_sub hl [1, 2, 0] rfl) h
    · refine lv_iconst hx hb dX12_isIn_16 (v := jI 1) rfl ?_
      exact hret _ _ _ _ _ _ h.1 h.2 hw dX12_isIn_17

def w_isIn (a0 : Int) (a1 : Int) (Q : Int → iST → Prop) (u : iST) : Prop :=
  w_isIn_2 Q a1 a0 u
set_option maxRecDepth 20000 in
set_option maxHeartbeats 4000000 in
theorem b_isIn_s (X : kX p m c cX12_isIn 4 s args D ca) (hRf : 0 ≤ R.frames) (hRl : 0 ≤ R.locals) {Q : Int → iST → Prop} (hret : ∀ (v : Int) (u : iST) (H : Heap) (locs : List Loc) (ls : Array Slot) (pc : Nat), bz v → Q v u → kW D ca A h0 ad H0 H locs u → decode cX12_isIn pc = .ok (.ireturn, 1) → W p l e R s m args below meth c H locs 0 0 Qf (F0 m pc ls [.int (jI v)])) {a0 a1 : Int} (ra0 : inR a0) (ra1 : inR a1) (hw : kW D ca A h0 ad H0 H locs u) (hl : lv_has ls 4 [(0, .ref h0), (1, .int (jI a0)), (2, .int (jI a1))]) (h : w_isIn a0 a1 Q u) : W p l e R s m args below meth c H locs 0 0 Qf (F0 m 0 ls []) := by
  have hx := X.1.1
  have hb := X.1.2.1
  unfold w_isIn at h
  refine lv_iload_n hx hb dX12_isIn_0 rfl (lv_at hl 1 rfl) ?_
  refine lv_istore_n hx hb dX12_isIn_1 rfl hl (by decide) rfl (fun ls hl => ?_)
  have hl : lv_has ls 4 [(3, .int (jI a0)), (0, .ref (h0)), (1, .int (jI a0)), (2, .int (jI a1))] := hl
  exact b_isIn_2 X hRf hRl hret ra1 ra0 hw (lv_sub hl [1, 3, 0] rfl) h

end
theorem c_isIn {l : Launch} {a0 : Int} {a1 : Int} (ra0 : inR a0) (ra1 : inR a1) {Q : Int → iST → Prop} {u : iST} (h : w_isIn a0 a1 Q u) : kMI l yX12_isIn (.code yX12_isIn cX12_isIn 4 (some .boolean) :: wsM) { frames := 0, cells := 0, slots := 0, locals := 0 } [.int (jI a0), .int (jI a1)] Q u := kMZ_of rfl (fun _ => Nat.le_of_ble_eq_true rfl) (fun X hRf hRl hret hw hl => b_isIn_s X hRf hRl hret ra0 ra1 hw hl h)
