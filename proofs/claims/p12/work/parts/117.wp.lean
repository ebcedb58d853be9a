/-! goProof -/
theorem dX12_goProof_0 : decode cX12_goProof 0 = .ok (.aload_n 0, 1) := by decide +kernel
theorem dX12_goProof_1 : decode cX12_goProof 1 = .ok (.getfield 926, 3) := by decide +kernel
theorem dX12_goProof_4 : decode cX12_goProof 4 = .ok (.iconst 1, 1) := by decide +kernel
theorem dX12_goProof_5 : decode cX12_goProof 5 = .ok (.isub, 1) := by decide +kernel
theorem dX12_goProof_6 : decode cX12_goProof 6 = .ok (.istore_n 1, 1) := by decide +kernel
theorem dX12_goProof_7 : decode cX12_goProof 7 = .ok (.aload_n 0, 1) := by decide +kernel
theorem dX12_goProof_8 : decode cX12_goProof 8 = .ok (.getfield 290, 3) := by decide +kernel
theorem dX12_goProof_11 : decode cX12_goProof 11 = .ok (.iload_n 1, 1) := by decide +kernel
theorem dX12_goProof_12 : decode cX12_goProof 12 = .ok (.iaload, 1) := by decide +kernel
theorem dX12_goProof_13 : decode cX12_goProof 13 = .ok (.istore_n 2, 1) := by decide +kernel
theorem dX12_goProof_14 : decode cX12_goProof 14 = .ok (.aload_n 0, 1) := by decide +kernel
theorem dX12_goProof_15 : decode cX12_goProof 15 = .ok (.getfield 293, 3) := by decide +kernel
theorem dX12_goProof_18 : decode cX12_goProof 18 = .ok (.iload_n 1, 1) := by decide +kernel
theorem dX12_goProof_19 : decode cX12_goProof 19 = .ok (.iaload, 1) := by decide +kernel
theorem dX12_goProof_20 : decode cX12_goProof 20 = .ok (.aload_n 0, 1) := by decide +kernel
theorem dX12_goProof_21 : decode cX12_goProof 21 = .ok (.iload_n 2, 1) := by decide +kernel
theorem dX12_goProof_22 : decode cX12_goProof 22 = .ok (.invokevirtual 962, 3) := by decide +kernel
theorem dX12_goProof_25 : decode cX12_goProof 25 = .ok (.if_icmp .ge 31, 3) := by decide +kernel
theorem dX12_goProof_28 : decode cX12_goProof 28 = .ok (.aload_n 0, 1) := by decide +kernel
theorem dX12_goProof_29 : decode cX12_goProof 29 = .ok (.getfield 293, 3) := by decide +kernel
theorem dX12_goProof_32 : decode cX12_goProof 32 = .ok (.iload_n 1, 1) := by decide +kernel
theorem dX12_goProof_33 : decode cX12_goProof 33 = .ok (.dup2, 1) := by decide +kernel
theorem dX12_goProof_34 : decode cX12_goProof 34 = .ok (.iaload, 1) := by decide +kernel
theorem dX12_goProof_35 : decode cX12_goProof 35 = .ok (.iconst 1, 1) := by decide +kernel
theorem dX12_goProof_36 : decode cX12_goProof 36 = .ok (.iadd, 1) := by decide +kernel
theorem dX12_goProof_37 : decode cX12_goProof 37 = .ok (.iastore, 1) := by decide +kernel
theorem dX12_goProof_38 : decode cX12_goProof 38 = .ok (.aload_n 0, 1) := by decide +kernel
theorem dX12_goProof_39 : decode cX12_goProof 39 = .ok (.aload_n 0, 1) := by decide +kernel
theorem dX12_goProof_40 : decode cX12_goProof 40 = .ok (.iload_n 2, 1) := by decide +kernel
theorem dX12_goProof_41 : decode cX12_goProof 41 = .ok (.aload_n 0, 1) := by decide +kernel
theorem dX12_goProof_42 : decode cX12_goProof 42 = .ok (.getfield 293, 3) := by decide +kernel
theorem dX12_goProof_45 : decode cX12_goProof 45 = .ok (.iload_n 1, 1) := by decide +kernel
theorem dX12_goProof_46 : decode cX12_goProof 46 = .ok (.iaload, 1) := by decide +kernel
theorem dX12_goProof_47 : decode cX12_goProof 47 = .ok (.iconst 1, 1) := by decide +kernel
theorem dX12_goProof_48 : decode cX12_goProof 48 = .ok (.isub, 1) := by decide +kernel
theorem dX12_goProof_49 : decode cX12_goProof 49 = .ok (.invokevirtual 471, 3) := by decide +kernel
theorem dX12_goProof_52 : decode cX12_goProof 52 = .ok (.invokevirtual 965, 3) := by decide +kernel
theorem dX12_goProof_55 : decode cX12_goProof 55 = .ok (.return_, 1) := by decide +kernel
theorem dX12_goProof_56 : decode cX12_goProof 56 = .ok (.aload_n 0, 1) := by decide +kernel
theorem dX12_goProof_57 : decode cX12_goProof 57 = .ok (.iload_n 1, 1) := by decide +kernel
theorem dX12_goProof_58 : decode cX12_goProof 58 = .ok (.invokevirtual 968, 3) := by decide +kernel
theorem dX12_goProof_61 : decode cX12_goProof 61 = .ok (.istore_n 3, 1) := by decide +kernel
theorem dX12_goProof_62 : decode cX12_goProof 62 = .ok (.aload_n 0, 1) := by decide +kernel
theorem dX12_goProof_63 : decode cX12_goProof 63 = .ok (.getfield 480, 3) := by decide +kernel
theorem dX12_goProof_66 : decode cX12_goProof 66 = .ok (.ifCond .eq 4, 3) := by decide +kernel
theorem dX12_goProof_69 : decode cX12_goProof 69 = .ok (.return_, 1) := by decide +kernel
theorem dX12_goProof_70 : decode cX12_goProof 70 = .ok (.iload_n 3, 1) := by decide +kernel
theorem dX12_goProof_71 : decode cX12_goProof 71 = .ok (.ifCond .ne 9, 3) := by decide +kernel
theorem dX12_goProof_74 : decode cX12_goProof 74 = .ok (.aload_n 0, 1) := by decide +kernel
theorem dX12_goProof_75 : decode cX12_goProof 75 = .ok (.iload_n 2, 1) := by decide +kernel
theorem dX12_goProof_76 : decode cX12_goProof 76 = .ok (.putfield 932, 3) := by decide +kernel
theorem dX12_goProof_79 : decode cX12_goProof 79 = .ok (.return_, 1) := by decide +kernel
theorem dX12_goProof_80 : decode cX12_goProof 80 = .ok (.aload_n 0, 1) := by decide +kernel
theorem dX12_goProof_81 : decode cX12_goProof 81 = .ok (.invokevirtual 730, 3) := by decide +kernel
theorem dX12_goProof_84 : decode cX12_goProof 84 = .ok (.aload_n 0, 1) := by decide +kernel
theorem dX12_goProof_85 : decode cX12_goProof 85 = .ok (.getfield 480, 3) := by decide +kernel
theorem dX12_goProof_88 : decode cX12_goProof 88 = .ok (.ifCond .eq 4, 3) := by decide +kernel
theorem dX12_goProof_91 : decode cX12_goProof 91 = .ok (.return_, 1) := by decide +kernel
theorem dX12_goProof_92 : decode cX12_goProof 92 = .ok (.aload_n 0, 1) := by decide +kernel
theorem dX12_goProof_93 : decode cX12_goProof 93 = .ok (.dup, 1) := by decide +kernel
theorem dX12_goProof_94 : decode cX12_goProof 94 = .ok (.getfield 926, 3) := by decide +kernel
theorem dX12_goProof_97 : decode cX12_goProof 97 = .ok (.iconst 1, 1) := by decide +kernel
theorem dX12_goProof_98 : decode cX12_goProof 98 = .ok (.isub, 1) := by decide +kernel
theorem dX12_goProof_99 : decode cX12_goProof 99 = .ok (.putfield 926, 3) := by decide +kernel
theorem dX12_goProof_102 : decode cX12_goProof 102 = .ok (.aload_n 0, 1) := by decide +kernel
theorem dX12_goProof_103 : decode cX12_goProof 103 = .ok (.aload_n 0, 1) := by decide +kernel
theorem dX12_goProof_104 : decode cX12_goProof 104 = .ok (.getfield 296, 3) := by decide +kernel
theorem dX12_goProof_107 : decode cX12_goProof 107 = .ok (.iload_n 1, 1) := by decide +kernel
theorem dX12_goProof_108 : decode cX12_goProof 108 = .ok (.iaload, 1) := by decide +kernel
theorem dX12_goProof_109 : decode cX12_goProof 109 = .ok (.putfield 938, 3) := by decide +kernel
theorem dX12_goProof_112 : decode cX12_goProof 112 = .ok (.iconst 0, 1) := by decide +kernel
theorem dX12_goProof_113 : decode cX12_goProof 113 = .ok (.istore 4, 2) := by decide +kernel
theorem dX12_goProof_115 : decode cX12_goProof 115 = .ok (.iload 4, 2) := by decide +kernel
theorem dX12_goProof_117 : decode cX12_goProof 117 = .ok (.aload_n 0, 1) := by decide +kernel
theorem dX12_goProof_118 : decode cX12_goProof 118 = .ok (.getfield 727, 3) := by decide +kernel
theorem dX12_goProof_121 : decode cX12_goProof 121 = .ok (.if_icmp .ge 31, 3) := by decide +kernel
theorem dX12_goProof_124 : decode cX12_goProof 124 = .ok (.aload_n 0, 1) := by decide +kernel
theorem dX12_goProof_125 : decode cX12_goProof 125 = .ok (.getfield 299, 3) := by decide +kernel
theorem dX12_goProof_128 : decode cX12_goProof 128 = .ok (.bipush 30, 2) := by decide +kernel
theorem dX12_goProof_130 : decode cX12_goProof 130 = .ok (.aload_n 0, 1) := by decide +kernel
theorem dX12_goProof_131 : decode cX12_goProof 131 = .ok (.getfield 938, 3) := by decide +kernel
theorem dX12_goProof_134 : decode cX12_goProof 134 = .ok (.imul, 1) := by decide +kernel
theorem dX12_goProof_135 : decode cX12_goProof 135 = .ok (.iload 4, 2) := by decide +kernel
theorem dX12_goProof_137 : decode cX12_goProof 137 = .ok (.iadd, 1) := by decide +kernel
theorem dX12_goProof_138 : decode cX12_goProof 138 = .ok (.aload_n 0, 1) := by decide +kernel
theorem dX12_goProof_139 : decode cX12_goProof 139 = .ok (.getfield 257, 3) := by decide +kernel
theorem dX12_goProof_142 : decode cX12_goProof 142 = .ok (.iload 4, 2) := by decide +kernel
theorem dX12_goProof_144 : decode cX12_goProof 144 = .ok (.iaload, 1) := by decide +kernel
theorem dX12_goProof_145 : decode cX12_goProof 145 = .ok (.iastore, 1) := by decide +kernel
theorem dX12_goProof_146 : decode cX12_goProof 146 = .ok (.iinc 4 1, 3) := by decide +kernel
theorem dX12_goProof_149 : decode cX12_goProof 149 = .ok (.goto (-34), 3) := by decide +kernel
theorem dX12_goProof_152 : decode cX12_goProof 152 = .ok (.aload_n 0, 1) := by decide +kernel
theorem dX12_goProof_153 : decode cX12_goProof 153 = .ok (.getfield 302, 3) := by decide +kernel
theorem dX12_goProof_156 : decode cX12_goProof 156 = .ok (.aload_n 0, 1) := by decide +kernel
theorem dX12_goProof_157 : decode cX12_goProof 157 = .ok (.getfield 938, 3) := by decide +kernel
theorem dX12_goProof_160 : decode cX12_goProof 160 = .ok (.aload_n 0, 1) := by decide +kernel
theorem dX12_goProof_161 : decode cX12_goProof 161 = .ok (.getfield 727, 3) := by decide +kernel
theorem dX12_goProof_164 : decode cX12_goProof 164 = .ok (.iastore, 1) := by decide +kernel
theorem dX12_goProof_165 : decode cX12_goProof 165 = .ok (.aload_n 0, 1) := by decide +kernel
theorem dX12_goProof_166 : decode cX12_goProof 166 = .ok (.dup, 1) := by decide +kernel
theorem dX12_goProof_167 : decode cX12_goProof 167 = .ok (.getfield 938, 3) := by decide +kernel
theorem dX12_goProof_170 : decode cX12_goProof 170 = .ok (.iconst 1, 1) := by decide +kernel
theorem dX12_goProof_171 : decode cX12_goProof 171 = .ok (.iadd, 1) := by decide +kernel
theorem dX12_goProof_172 : decode cX12_goProof 172 = .ok (.putfield 938, 3) := by decide +kernel
theorem dX12_goProof_175 : decode cX12_goProof 175 = .ok (.return_, 1) := by decide +kernel

section
variable {p : Program} {l : Launch} {e : Env} {R : Room} {s : State} {m : MethodId} {args : Array Value} {below : List Frame} {meth : Method} {c : Code} {H : Heap} {locs : List Loc} {Qf : State → Prop}
variable {ls : Array Slot} {D : va_G} {ca : Nat → ClassId} {A : Nat → Prop} {h0 : Nat} {ad : Nat → Nat} {H0 : Heap} {u : iST}
def w_goProof_115b (R115 : Int → iST → Prop) (Q : iST → Prop) (x4 : Int) (u : iST) : Prop :=
  rd (u.1 122) (fun v13 => 
  br (v13 ≤ x4) (
    rd (u.1 147) (fun v14 => 
    rd (u.1 122) (fun v15 => 
    bd v14 350 (sw (iA u 146 v14 v15) (fun u => 
    rd (u.1 147) (fun v16 => 
    ov (v16 + 1) (
    sw (iI u 147 (v16 + 1)) (fun u => 
    Q u)))))))) (
    rd (u.1 147) (fun v18 => 
    ov (30 * v18) (
    ov ((30 * v18) + x4) (
    bd x4 1200 (rd (u.2.1 121 x4) (fun v21 => 
    bd ((30 * v18) + x4) 10500 (sw (iA u 145 ((30 * v18) + x4) v21) (fun u => 
    ov (x4 + 1) (
    R115 (x4 + 1) u))))))))))
def w_goProof_115 (Q : iST → Prop) (x4 : Int) (u : iST) : Prop := ∀ R115 : Int → iST → Prop, (∀ (x4 : Int) (u : iST), w_goProof_115b R115 Q x4 u → R115 x4 u) → R115 x4 u
set_option maxRecDepth 20000 in
set_option maxHeartbeats 4000000 in
theorem b_goProof_115 (X : kX p m c cX12_goProof 5 s args D ca) (hRf : 11 ≤ R.frames) (hRl : 248 ≤ R.locals) {Q : iST → Prop} (hret : ∀ (u : iST) (H : Heap) (locs : List Loc) (ls : Array Slot) (pc : Nat), Q u → kW D ca A h0 ad H0 H locs u → decode cX12_goProof pc = .ok (.return_, 1) → W p l e R s m args below meth c H locs 0 0 Qf (F0 m pc ls [])) {x4 : Int} (rx4 : inR x4) (hw : kW D ca A h0 ad H0 H locs u) (hl : lv_has ls 5 [(0, .ref h0), (4, .int (jI x4))]) (h : w_goProof_115 Q x4 u) : W p l e R s m args below meth c H locs 0 0 Qf (F0 m 115 ls []) := by
  refine h (fun x4 u => ∀ (H : Heap) (locs : List Loc) (ls : Array Slot), inR x4 → kW D ca A h0 ad H0 H locs u → lv_has ls 5 [(0, .ref h0), (4, .int (jI x4))] → W p l e R s m args below meth c H locs 0 0 Qf (F0 m 115 ls [])) ?_ H locs ls rx4 hw hl
  clear h hl hw rx4
  intro x4 u h H locs ls rx4 hw hl
  have hR115 : ∀ (x4 : Int) (u : iST) (H : Heap) (locs : List Loc) (ls : Array Slot), inR x4 → kW D ca A h0 ad H0 H locs u → lv_has ls 5 [(0, .ref h0), (4, .int (jI x4))] → (fun (x4 : Int) u => ∀ (H : Heap) (locs : List Loc) (ls : Array Slot), inR x4 → kW D ca A h0 ad H0 H locs u → lv_has ls 5 [(0, .ref h0), (4, .int (jI x4))] → W p l e R s m args below meth c H locs 0 0 Qf (F0 m 115 ls [])) x4 u → W p l e R s m args below meth c H locs 0 0 Qf (F0 m 115 ls []) := fun x4 u H locs ls rx4 hw hl h => h H locs ls rx4 hw hl
  have hx := X.1.1
  have hb := X.1.2.1
  unfold w_goProof_115b at h
  refine lv_iload hx hb dX12_goProof_115 (lv_at hl 1 rfl) ?_
  refine lv_aload_n hx hb dX12_goProof_117 rfl (lv_at hl 0 rfl) ?_
  refine gS 122 727 (by decide) L_122 (fun _ _ => mF_122) rfl X hw dX12_goProof_118 h (fun v13 rv13 h => ?_)
  refine k_icmp_ge hx hb rx4 rv13 dX12_goProof_121 (tgt := 152) rfl h (fun h => ?_) (fun h => ?_)
  · refine lv_aload_n hx hb dX12_goProof_152 rfl (lv_at hl 0 rfl) ?_
    refine gA 146 302 (by decide) L_146 (fun _ _ => mF_146) rfl X hw dX12_goProof_153 ?_
    refine lv_aload_n hx hb dX12_goProof_156 rfl (lv_at hl 0 rfl) ?_
    refine gS 147 938 (by decide) L_147 (fun _ _ => mF_147) rfl X hw dX12_goProof_157 h (fun v14 rv14 h => ?_)
    refine lv_aload_n hx hb dX12_goProof_160 rfl (lv_at hl 0 rfl) ?_
    refine gS 122 727 (by decide) L_122 (fun _ _ => mF_122) rfl X hw dX12_goProof_161 h (fun v15 rv15 h => ?_)
    refine aS 146 93 92 350 (fun _ _ _ _ => mG_146) (fun _ => rfl) (fun _ _ _ _ _ _ => mSA_146) (by decide) X hw rv14 rv15 dX12_goProof_164 rfl h (fun H locs u hw h => ?_)
    refine lv_aload_n hx hb dX12_goProof_165 rfl (lv_at hl 0 rfl) ?_
    refine lv_dup hx hb dX12_goProof_166 rfl ?_
    refine gS 147 938 (by decide) L_147 (fun _ _ => mF_147) rfl X hw dX12_goProof_167 h (fun v16 rv16 h => ?_)
    refine lv_iconst hx hb dX12_goProof_170 (v := jI 1) rfl ?_
    refine k_iadd hx hb dX12_goProof_171 h (fun r17 h => ?_)
    refine pS 147 938 (by decide) L_147 rfl rfl rfl (fun _ _ _ _ _ => mSI_147) (by decide) X hw r17 dX12_goProof_172 h (fun H locs u hw h => ?_)
    exact hret _ _ _ _ _ h hw dX12_goProof_175
  · refine lv_aload_n hx hb dX12_goProof_124 rfl (lv_at hl 0 rfl) ?_
    refine gA 145 299 (by decide) L_145 (fun _ _ => mF_145) rfl X hw dX12_goProof_125 ?_
    refine lv_bipush hx hb dX12_goProof_128 (v := jI 30) rfl ?_
    refine lv_aload_n hx hb dX12_goProof_130 rfl (lv_at hl 0 rfl) ?_
    refine gS 147 938 (by decide) L_147 (fun _ _ => mF_147) rfl X hw dX12_goProof_131 h (fun v18 rv18 h => ?_)
    refine k_imul hx hb dX12_goProof_134 h (fun r19 h => ?_)
    refine lv_iload hx hb dX12_goProof_135 (lv_at hl 1 rfl) ?_
    refine k_iadd hx hb dX12_goProof_137 h (fun r20 h => ?_)
    refine lv_aload_n hx hb dX12_goProof_138 rfl (lv_at hl 0 rfl) ?_
    refine gA 121 257 (by decide) L_121 (fun _ _ => mF_121) rfl X hw dX12_goProof_139 ?_
    refine lv_iload hx hb dX12_goProof_142 (lv_at hl 1 rfl) ?_
    refine aL 121 78 77 1200 (fun _ _ _ _ => mG_121) (fun _ => rfl) X hw rx4 dX12_goProof_144 rfl h (fun v21 rv21 h => ?_)
    refine aS 145 92 91 10500 (fun _ _ _ _ => mG_145) (fun _ => rfl) (fun _ _ _ _ _ _ => mSA_145) (by decide) X hw r20 rv21 dX12_goProof_145 rfl h (fun H locs u hw h => ?_)
    refine k_iinc (k := 1) hx hb dX12_goProof_146 hl rfl (by decide) rfl h (fun ls r22 h hl => ?_)
    have hl : lv_has ls 5 [(4, .int (jI (x4 + 1))), (0, .ref (h0))] := hl
    refine lv_goto hx hb dX12_goProof_149 (tgt := 115) rfl ?_
    exact hR115 _ _ H locs ls r22 hw (lv_sub hl [1, 0] rfl) h

def w_goProof (Q : iST → Prop) (u : iST) : Prop :=
  rd (u.1 144) (fun v1 => 
  ov (v1 - 1) (
  bd (v1 - 1) 40 (rd (u.2.1 141 (v1 - 1)) (fun v3 => 
  bd (v1 - 1) 40 (rd (u.2.1 142 (v1 - 1)) (fun v4 => 
  w_partsTo v3 (fun v5 u => 
  br (v5 ≤ v4) (
    w_concludes (v1 - 1) (fun v6 u => 
    rd (u.1 61) (fun v7 => 
    br (v7 = 0) (
      br (v6 ≠ 0) (
        w_bounded (fun u => 
        rd (u.1 61) (fun v9 => 
        br (v9 = 0) (
          rd (u.1 144) (fun v10 => 
          ov (v10 - 1) (
          sw (iI u 144 (v10 - 1)) (fun u => 
          bd (v1 - 1) 40 (rd (u.2.1 143 (v1 - 1)) (fun v12 => 
          sw (iI u 147 v12) (fun u => 
          w_goProof_115 Q 0 u))))))) (
          Q u))) u) (
        sw (iI u 148 v3) (fun u => 
        Q u))) (
      Q u))) u) (
    bd (v1 - 1) 40 (rd (u.2.1 142 (v1 - 1)) (fun v23 => 
    ov (v23 + 1) (
    bd (v1 - 1) 40 (sw (iA u 142 (v1 - 1) (v23 + 1)) (fun u => 
    bd (v1 - 1) 40 (rd (u.2.1 142 (v1 - 1)) (fun v25 => 
    ov (v25 - 1) (
    w_nth v3 (v25 - 1) (fun v27 u => 
    w_beginProof v27 (fun u => 
    Q u) u) u)))))))))) u))))))
set_option maxRecDepth 20000 in
set_option maxHeartbeats 4000000 in
theorem b_goProof_s (X : kX p m c cX12_goProof 5 s args D ca) (hRf : 11 ≤ R.frames) (hRl : 248 ≤ R.locals) {Q : iST → Prop} (hret : ∀ (u : iST) (H : Heap) (locs : List Loc) (ls : Array Slot) (pc : Nat), Q u → kW D ca A h0 ad H0 H locs u → decode cX12_goProof pc = .ok (.return_, 1) → W p l e R s m args below meth c H locs 0 0 Qf (F0 m pc ls [])) (hw : kW D ca A h0 ad H0 H locs u) (hl : lv_has ls 5 [(0, .ref h0)]) (h : w_goProof Q u) : W p l e R s m args below meth c H locs 0 0 Qf (F0 m 0 ls []) := by
  have hx := X.1.1
  have hb := X.1.2.1
  unfold w_goProof at h
  refine lv_aload_n hx hb dX12_goProof_0 rfl (lv_at hl 0 rfl) ?_
  refine gS 144 926 (by decide) L_144 (fun _ _ => mF_144) rfl X hw dX12_goProof_1 h (fun v1 rv1 h => ?_)
  refine lv_iconst hx hb dX12_goProof_4 (v := jI 1) rfl ?_
  refine k_isub hx hb dX12_goProof_5 h (fun r2 h => ?_)
  refine lv_istore_n hx hb dX12_goProof_6 rfl hl (by decide) rfl (fun ls hl => ?_)
  have hl : lv_has ls 5 [(1, .int (jI (v1 - 1))), (0, .ref (h0))] := hl
  refine lv_aload_n hx hb dX12_goProof_7 rfl (lv_at hl 1 rfl) ?_
  refine gA 141 290 (by decide) L_141 (fun _ _ => mF_141) rfl X hw dX12_goProof_8 ?_
  refine lv_iload_n hx hb dX12_goProof_11 rfl (lv_at hl 0 rfl) ?_
  refine aL 141 89 88 40 (fun _ _ _ _ => mG_141) (fun _ => rfl) X hw r2 dX12_goProof_12 rfl h (fun v3 rv3 h => ?_)
  refine lv_istore_n hx hb dX12_goProof_13 rfl hl (by decide) rfl (fun ls hl => ?_)
  have hl : lv_has ls 5 [(2, .int (jI v3)), (1, .int (jI (v1 - 1))), (0, .ref (h0))] := hl
  refine lv_aload_n hx hb dX12_goProof_14 rfl (lv_at hl 2 rfl) ?_
  refine gA 142 293 (by decide) L_142 (fun _ _ => mF_142) rfl X hw dX12_goProof_15 ?_
  refine lv_iload_n hx hb dX12_goProof_18 rfl (lv_at hl 1 rfl) ?_
  refine aL 142 90 89 40 (fun _ _ _ _ => mG_142) (fun _ => rfl) X hw r2 dX12_goProof_19 rfl h (fun v4 rv4 h => ?_)
  refine lv_aload_n hx hb dX12_goProof_20 rfl (lv_at hl 2 rfl) ?_
  refine lv_iload_n hx hb dX12_goProof_21 rfl (lv_at hl 0 rfl) ?_
  refine kcI (n := 1) (c_partsTo rv3 h) G_partsTo E_partsTo X hw (Nat.le_trans (Nat.le_of_ble_eq_true rfl) hRf) (Nat.le_trans (Nat.le_of_ble_eq_true rfl) hRl) rfl hl.1 (Nat.le_of_ble_eq_true rfl) rfl dX12_goProof_22 (fun v5 u H locs rv5 h hw => ?_)
  refine k_icmp_ge hx hb rv4 rv5 dX12_goProof_25 (tgt := 56) rfl h (fun h => ?_) (fun h => ?_)
  · refine lv_aload_n hx hb dX12_goProof_56 rfl (lv_at hl 2 rfl) ?_
    refine lv_iload_n hx hb dX12_goProof_57 rfl (lv_at hl 1 rfl) ?_
    refine kcI (n := 1) (c_concludes r2 h) G_concludes E_concludes X hw (Nat.le_trans (Nat.le_of_ble_eq_true rfl) hRf) (Nat.le_trans (Nat.le_of_ble_eq_true rfl) hRl) rfl hl.1 (Nat.le_of_ble_eq_true rfl) rfl dX12_goProof_58 (fun v6 u H locs rv6 h hw => ?_)
    refine lv_istore_n hx hb dX12_goProof_61 rfl hl (by decide) rfl (fun ls hl => ?_)
    have hl : lv_has ls 5 [(3, .int (jI v6)), (2, .int (jI v3)), (1, .int (jI (v1 - 1))), (0, .ref (h0))] := hl
    refine lv_aload_n hx hb dX12_goProof_62 rfl (lv_at hl 3 rfl) ?_
    refine gS 61 480 (by decide) L_61 (fun _ _ => mF_61) rfl X hw dX12_goProof_63 h (fun v7 rv7 h => ?_)
    refine k_if_eq hx hb rv7 dX12_goProof_66 (tgt := 70) rfl h (fun h => ?_) (fun h => ?_)
    · refine lv_iload_n hx hb dX12_goProof_70 rfl (lv_at hl 0 rfl) ?_
      refine k_if_ne hx hb rv6 dX12_goProof_71 (tgt := 80) rfl h (fun h => ?_) (fun h => ?_)
      · refine lv_aload_n hx hb dX12_goProof_80 rfl (lv_at hl 3 rfl) ?_
        refine kcV (n := 0) (c_bounded h) G_bounded E_bounded X hw (Nat.le_trans (Nat.le_of_ble_eq_true rfl) hRf) (Nat.le_trans (Nat.le_of_ble_eq_true rfl) hRl) rfl hl.1 (Nat.le_of_ble_eq_true rfl) rfl dX12_goProof_81 (fun u H locs h hw => ?_)
        refine lv_aload_n hx hb dX12_goProof_84 rfl (lv_at hl 3 rfl) ?_
        refine gS 61 480 (by decide) L_61 (fun _ _ => mF_61) rfl X hw dX12_goProof_85 h (fun v9 rv9 h => ?_)
        refine k_if_eq hx hb rv9 dX12_goProof_88 (tgt := 92) rfl h (fun h => ?_) (fun h => ?_)
        · refine lv_aload_n hx hb dX12_goProof_92 rfl (lv_at hl 3 rfl) ?_
          refine lv_dup hx hb dX12_goProof_93 rfl ?_
          refine gS 144 926 (by decide) L_144 (fun _ _ => mF_144) rfl X hw dX12_goProof_94 h (fun v10 rv10 h => ?_)
          refine lv_iconst hx hb dX12_goProof_97 (v := jI 1) rfl ?_
          refine k_isub hx hb dX12_goProof_98 h (fun r11 h => ?_)
          refine pS 144 926 (by decide) L_144 rfl rfl rfl (fun _ _ _ _ _ => mSI_144) (by decide) X hw r11 dX12_goProof_99 h (fun H locs u hw h => ?_)
          refine lv_aload_n hx hb dX12_goProof_102 rfl (lv_at hl 3 rfl) ?_
          refine lv_aload_n hx hb dX12_goProof_103 rfl (lv_at hl 3 rfl) ?_
          refine gA 143 296 (by decide) L_143 (fun _ _ => mF_143) rfl X hw dX12_goProof_104 ?_
          refine lv_iload_n hx hb dX12_goProof_107 rfl (lv_at hl 2 rfl) ?_
          refine aL 143 91 90 40 (fun _ _ _ _ => mG_143) (fun _ => rfl) X hw r2 dX12_goProof_108 rfl h (fun v12 rv12 h => ?_)
          refine pS 147 938 (by decide) L_147 rfl rfl rfl (fun _ _ _ _ _ => mSI_147) (by decide) X hw rv12 dX12_goProof_109 h (fun H locs u hw h => ?_)
          refine lv_iconst hx hb dX12_goProof_112 (v := jI 0) rfl ?_
          refine lv_istore hx hb dX12_goProof_113 hl (by decide) rfl (fun ls hl => ?_)
          have hl : lv_has ls 5 [(4, .int (jI 0)), (3, .int (jI v6)), (2, .int (jI v3)), (1, .int (jI (v1 - 1))), (0, .ref (h0))] := hl
          exact b_goProof_115 X hRf hRl hret (by decide) hw (lv_sub hl [4, 0] rfl) h
        · exact hret _ _ _ _ _ h hw dX12_goProof_91
      · refine lv_aload_n hx hb dX12_goProof_74 rfl (lv_at hl 3 rfl) ?_
        refine lv_iload_n hx hb dX12_goProof_75 rfl (lv_at hl 1 rfl) ?_
        refine pS 148 932 (by decide) L_148 rfl rfl rfl (fun _ _ _ _ _ => mSI_148) (by decide) X hw rv3 dX12_goProof_76 h (fun H locs u hw h => ?_)
        exact hret _ _ _ _ _ h hw dX12_goProof_79
    · exact hret _ _ _ _ _ h hw dX12_goProof_69
  · refine lv_aload_n hx hb dX12_goProof_28 rfl (lv_at hl 2 rfl) ?_
    refine gA 142 293 (by decide) L_142 (fun _ _ => mF_142) rfl X hw dX12_goProof_29 ?_
    refine lv_iload_n hx hb dX12_goProof_32 rfl (lv_at hl 1 rfl) ?_
    refine lv_dup2_11 hx hb dX12_goProof_33 rfl rfl ?_
    refine aL 142 90 89 40 (fun _ _ _ _ => mG_142) (fun _ => rfl) X hw r2 dX12_goProof_34 rfl h (fun v23 rv23 h => ?_)
    refine lv_iconst hx hb dX12_goProof_35 (v := jI 1) rfl ?_
    refine k_iadd hx hb dX12_goProof_36 h (fun r24 h => ?_)
    refine aS 142 90 89 40 (fun _ _ _ _ => mG_142) (fun _ => rfl) (fun _ _ _ _ _ _ => mSA_142) (by decide) X hw r2 r24 dX12_goProof_37 rfl h (fun H locs u hw h => ?_)
    refine lv_aload_n hx hb dX12_goProof_38 rfl (lv_at hl 2 rfl) ?_
    refine lv_aload_n hx hb dX12_goProof_39 rfl (lv_at hl 2 rfl) ?_
    refine lv_iload_n hx hb dX12_goProof_40 rfl (lv_at hl 0 rfl) ?_
    refine lv_aload_n hx hb dX12_goProof_41 rfl (lv_at hl 2 rfl) ?_
    refine gA 142 293 (by decide) L_142 (fun _ _ => mF_142) rfl X hw dX12_goProof_42 ?_
    refine lv_iload_n hx hb dX12_goProof_45 rfl (lv_at hl 1 rfl) ?_
    refine aL 142 90 89 40 (fun _ _ _ _ => mG_142) (fun _ => rfl) X hw r2 dX12_goProof_46 rfl h (fun v25 rv25 h => ?_)
    refine lv_iconst hx hb dX12_goProof_47 (v := jI 1) rfl ?_
    refine k_isub hx hb dX12_goProof_48 h (fun r26 h => ?_)
    refine kcI (n := 2) (c_nth rv3 r26 h) G_nth E_nth X hw (Nat.le_trans (Nat.le_of_ble_eq_true rfl) hRf) (Nat.le_trans (Nat.le_of_ble_eq_true rfl) hRl) rfl hl.1 (Nat.le_of_ble_eq_true rfl) rfl dX12_goProof_49 (fun v27 u H locs rv27 h hw => ?_)
    refine kcV (n := 1) (c_beginProof rv27 h) G_beginProof E_beginProof X hw (Nat.le_trans (Nat.le_of_ble_eq_true rfl) hRf) (Nat.le_trans (Nat.le_of_ble_eq_true rfl) hRl) rfl hl.1 (Nat.le_of_ble_eq_true rfl) rfl dX12_goProof_52 (fun u H locs h hw => ?_)
    exact hret _ _ _ _ _ h hw dX12_goProof_55

end
theorem c_goProof {l : Launch} {Q : iST → Prop} {u : iST} (h : w_goProof Q u) : kMV l yX12_goProof (.code yX12_goProof cX12_goProof 5 none :: wsM) { frames := 11, cells := 0, slots := 0, locals := 248 } [] Q u := kMV_of rfl (fun _ => Nat.le_of_ble_eq_true rfl) (fun X hRf hRl hret hw hl => b_goProof_s X hRf hRl hret hw hl h)

/-! check -/
theorem dX12_check_0 : decode cX12_check 0 = .ok (.aload_n 0, 1) := by decide +kernel
theorem dX12_check_1 : decode cX12_check 1 = .ok (.iload_n 1, 1) := by decide +kernel
theorem dX12_check_2 : decode cX12_check 2 = .ok (.invokevirtual 529, 3) := by decide +kernel
theorem dX12_check_5 : decode cX12_check 5 = .ok (.iconst 4, 1) := by decide +kernel
theorem dX12_check_6 : decode cX12_check 6 = .ok (.if_icmp .ne 16, 3) := by decide +kernel
theorem dX12_check_9 : decode cX12_check 9 = .ok (.aload_n 0, 1) := by decide +kernel
theorem dX12_check_10 : decode cX12_check 10 = .ok (.aload_n 0, 1) := by decide +kernel
theorem dX12_check_11 : decode cX12_check 11 = .ok (.iload_n 1, 1) := by decide +kernel
theorem dX12_check_12 : decode cX12_check 12 = .ok (.iconst 1, 1) := by decide +kernel
theorem dX12_check_13 : decode cX12_check 13 = .ok (.invokevirtual 471, 3) := by decide +kernel
theorem dX12_check_16 : decode cX12_check 16 = .ok (.invokevirtual 809, 3) := by decide +kernel
theorem dX12_check_19 : decode cX12_check 19 = .ok (.ifCond .ne 5, 3) := by decide +kernel
theorem dX12_check_22 : decode cX12_check 22 = .ok (.iconst 2, 1) := by decide +kernel
theorem dX12_check_23 : decode cX12_check 23 = .ok (.ireturn, 1) := by decide +kernel
theorem dX12_check_24 : decode cX12_check 24 = .ok (.aload_n 0, 1) := by decide +kernel
theorem dX12_check_25 : decode cX12_check 25 = .ok (.aload_n 0, 1) := by decide +kernel
theorem dX12_check_26 : decode cX12_check 26 = .ok (.iload_n 1, 1) := by decide +kernel
theorem dX12_check_27 : decode cX12_check 27 = .ok (.iconst 2, 1) := by decide +kernel
theorem dX12_check_28 : decode cX12_check 28 = .ok (.invokevirtual 471, 3) := by decide +kernel
theorem dX12_check_31 : decode cX12_check 31 = .ok (.invokevirtual 815, 3) := by decide +kernel
theorem dX12_check_34 : decode cX12_check 34 = .ok (.istore_n 2, 1) := by decide +kernel
theorem dX12_check_35 : decode cX12_check 35 = .ok (.iload_n 2, 1) := by decide +kernel
theorem dX12_check_36 : decode cX12_check 36 = .ok (.iconst (-1), 1) := by decide +kernel
theorem dX12_check_37 : decode cX12_check 37 = .ok (.if_icmp .ne 5, 3) := by decide +kernel
theorem dX12_check_40 : decode cX12_check 40 = .ok (.iconst 2, 1) := by decide +kernel
theorem dX12_check_41 : decode cX12_check 41 = .ok (.ireturn, 1) := by decide +kernel
theorem dX12_check_42 : decode cX12_check 42 = .ok (.aload_n 0, 1) := by decide +kernel
theorem dX12_check_43 : decode cX12_check 43 = .ok (.aload_n 0, 1) := by decide +kernel
theorem dX12_check_44 : decode cX12_check 44 = .ok (.iload_n 1, 1) := by decide +kernel
theorem dX12_check_45 : decode cX12_check 45 = .ok (.iconst 1, 1) := by decide +kernel
theorem dX12_check_46 : decode cX12_check 46 = .ok (.invokevirtual 471, 3) := by decide +kernel
theorem dX12_check_49 : decode cX12_check 49 = .ok (.invokevirtual 875, 3) := by decide +kernel
theorem dX12_check_52 : decode cX12_check 52 = .ok (.iconst (-1), 1) := by decide +kernel
theorem dX12_check_53 : decode cX12_check 53 = .ok (.if_icmp .eq 5, 3) := by decide +kernel
theorem dX12_check_56 : decode cX12_check 56 = .ok (.iconst 3, 1) := by decide +kernel
theorem dX12_check_57 : decode cX12_check 57 = .ok (.ireturn, 1) := by decide +kernel
theorem dX12_check_58 : decode cX12_check 58 = .ok (.aload_n 0, 1) := by decide +kernel
theorem dX12_check_59 : decode cX12_check 59 = .ok (.getfield 699, 3) := by decide +kernel
theorem dX12_check_62 : decode cX12_check 62 = .ok (.bipush 60, 2) := by decide +kernel
theorem dX12_check_64 : decode cX12_check 64 = .ok (.if_icmp .ne 6, 3) := by decide +kernel
theorem dX12_check_67 : decode cX12_check 67 = .ok (.bipush 8, 2) := by decide +kernel
theorem dX12_check_69 : decode cX12_check 69 = .ok (.ireturn, 1) := by decide +kernel
theorem dX12_check_70 : decode cX12_check 70 = .ok (.aload_n 0, 1) := by decide +kernel
theorem dX12_check_71 : decode cX12_check 71 = .ok (.getfield 332, 3) := by decide +kernel
theorem dX12_check_74 : decode cX12_check 74 = .ok (.istore_n 3, 1) := by decide +kernel
theorem dX12_check_75 : decode cX12_check 75 = .ok (.aload_n 0, 1) := by decide +kernel
theorem dX12_check_76 : decode cX12_check 76 = .ok (.iconst 0, 1) := by decide +kernel
theorem dX12_check_77 : decode cX12_check 77 = .ok (.putfield 926, 3) := by decide +kernel
theorem dX12_check_80 : decode cX12_check 80 = .ok (.aload_n 0, 1) := by decide +kernel
theorem dX12_check_81 : decode cX12_check 81 = .ok (.iconst 0, 1) := by decide +kernel
theorem dX12_check_82 : decode cX12_check 82 = .ok (.putfield 938, 3) := by decide +kernel
theorem dX12_check_85 : decode cX12_check 85 = .ok (.aload_n 0, 1) := by decide +kernel
theorem dX12_check_86 : decode cX12_check 86 = .ok (.iconst (-1), 1) := by decide +kernel
theorem dX12_check_87 : decode cX12_check 87 = .ok (.putfield 932, 3) := by decide +kernel
theorem dX12_check_90 : decode cX12_check 90 = .ok (.aload_n 0, 1) := by decide +kernel
theorem dX12_check_91 : decode cX12_check 91 = .ok (.aload_n 0, 1) := by decide +kernel
theorem dX12_check_92 : decode cX12_check 92 = .ok (.iload_n 1, 1) := by decide +kernel
theorem dX12_check_93 : decode cX12_check 93 = .ok (.iconst 3, 1) := by decide +kernel
theorem dX12_check_94 : decode cX12_check 94 = .ok (.invokevirtual 471, 3) := by decide +kernel
theorem dX12_check_97 : decode cX12_check 97 = .ok (.invokevirtual 965, 3) := by decide +kernel
theorem dX12_check_100 : decode cX12_check 100 = .ok (.aload_n 0, 1) := by decide +kernel
theorem dX12_check_101 : decode cX12_check 101 = .ok (.getfield 480, 3) := by decide +kernel
theorem dX12_check_104 : decode cX12_check 104 = .ok (.ifCond .ne 25, 3) := by decide +kernel
theorem dX12_check_107 : decode cX12_check 107 = .ok (.aload_n 0, 1) := by decide +kernel
theorem dX12_check_108 : decode cX12_check 108 = .ok (.getfield 932, 3) := by decide +kernel
theorem dX12_check_111 : decode cX12_check 111 = .ok (.iconst (-1), 1) := by decide +kernel
theorem dX12_check_112 : decode cX12_check 112 = .ok (.if_icmp .ne 17, 3) := by decide +kernel
theorem dX12_check_115 : decode cX12_check 115 = .ok (.aload_n 0, 1) := by decide +kernel
theorem dX12_check_116 : decode cX12_check 116 = .ok (.getfield 926, 3) := by decide +kernel
theorem dX12_check_119 : decode cX12_check 119 = .ok (.ifCond .le 10, 3) := by decide +kernel
theorem dX12_check_122 : decode cX12_check 122 = .ok (.aload_n 0, 1) := by decide +kernel
theorem dX12_check_123 : decode cX12_check 123 = .ok (.invokevirtual 971, 3) := by decide +kernel
theorem dX12_check_126 : decode cX12_check 126 = .ok (.goto (-26), 3) := by decide +kernel
theorem dX12_check_129 : decode cX12_check 129 = .ok (.aload_n 0, 1) := by decide +kernel
theorem dX12_check_130 : decode cX12_check 130 = .ok (.getfield 480, 3) := by decide +kernel
theorem dX12_check_133 : decode cX12_check 133 = .ok (.ifCond .eq 5, 3) := by decide +kernel
theorem dX12_check_136 : decode cX12_check 136 = .ok (.iconst 4, 1) := by decide +kernel
theorem dX12_check_137 : decode cX12_check 137 = .ok (.ireturn, 1) := by decide +kernel
theorem dX12_check_138 : decode cX12_check 138 = .ok (.aload_n 0, 1) := by decide +kernel
theorem dX12_check_139 : decode cX12_check 139 = .ok (.getfield 932, 3) := by decide +kernel
theorem dX12_check_142 : decode cX12_check 142 = .ok (.iconst (-1), 1) := by decide +kernel
theorem dX12_check_143 : decode cX12_check 143 = .ok (.if_icmp .eq 14, 3) := by decide +kernel
theorem dX12_check_146 : decode cX12_check 146 = .ok (.aload_n 0, 1) := by decide +kernel
theorem dX12_check_147 : decode cX12_check 147 = .ok (.aload_n 0, 1) := by decide +kernel
theorem dX12_check_148 : decode cX12_check 148 = .ok (.getfield 932, 3) := by decide +kernel
theorem dX12_check_151 : decode cX12_check 151 = .ok (.invokevirtual 785, 3) := by decide +kernel
theorem dX12_check_154 : decode cX12_check 154 = .ok (.bipush 7, 2) := by decide +kernel
theorem dX12_check_156 : decode cX12_check 156 = .ok (.ireturn, 1) := by decide +kernel
theorem dX12_check_157 : decode cX12_check 157 = .ok (.iconst 0, 1) := by decide +kernel
theorem dX12_check_158 : decode cX12_check 158 = .ok (.istore 4, 2) := by decide +kernel
theorem dX12_check_160 : decode cX12_check 160 = .ok (.iload 4, 2) := by decide +kernel
theorem dX12_check_162 : decode cX12_check 162 = .ok (.aload_n 0, 1) := by decide +kernel
theorem dX12_check_163 : decode cX12_check 163 = .ok (.getfield 302, 3) := by decide +kernel
theorem dX12_check_166 : decode cX12_check 166 = .ok (.iconst 0, 1) := by decide +kernel
theorem dX12_check_167 : decode cX12_check 167 = .ok (.iaload, 1) := by decide +kernel
theorem dX12_check_168 : decode cX12_check 168 = .ok (.if_icmp .ge 71, 3) := by decide +kernel
theorem dX12_check_171 : decode cX12_check 171 = .ok (.aload_n 0, 1) := by decide +kernel
theorem dX12_check_172 : decode cX12_check 172 = .ok (.getfield 299, 3) := by decide +kernel
theorem dX12_check_175 : decode cX12_check 175 = .ok (.iload 4, 2) := by decide +kernel
theorem dX12_check_177 : decode cX12_check 177 = .ok (.iaload, 1) := by decide +kernel
theorem dX12_check_178 : decode cX12_check 178 = .ok (.iload_n 2, 1) := by decide +kernel
theorem dX12_check_179 : decode cX12_check 179 = .ok (.if_icmp .ne 6, 3) := by decide +kernel
theorem dX12_check_182 : decode cX12_check 182 = .ok (.goto 51, 3) := by decide +kernel
theorem dX12_check_185 : decode cX12_check 185 = .ok (.iconst 0, 1) := by decide +kernel
theorem dX12_check_186 : decode cX12_check 186 = .ok (.istore 5, 2) := by decide +kernel
theorem dX12_check_188 : decode cX12_check 188 = .ok (.aload_n 0, 1) := by decide +kernel
theorem dX12_check_189 : decode cX12_check 189 = .ok (.getfield 302, 3) := by decide +kernel
theorem dX12_check_192 : decode cX12_check 192 = .ok (.iconst 0, 1) := by decide +kernel
theorem dX12_check_193 : decode cX12_check 193 = .ok (.iaload, 1) := by decide +kernel
theorem dX12_check_194 : decode cX12_check 194 = .ok (.iconst 1, 1) := by decide +kernel
theorem dX12_check_195 : decode cX12_check 195 = .ok (.isub, 1) := by decide +kernel
theorem dX12_check_196 : decode cX12_check 196 = .ok (.istore 6, 2) := by decide +kernel
theorem dX12_check_198 : decode cX12_check 198 = .ok (.iload 6, 2) := by decide +kernel
theorem dX12_check_200 : decode cX12_check 200 = .ok (.ifCond .lt 24, 3) := by decide +kernel
theorem dX12_check_203 : decode cX12_check 203 = .ok (.aload_n 0, 1) := by decide +kernel
theorem dX12_check_204 : decode cX12_check 204 = .ok (.aload_n 0, 1) := by decide +kernel
theorem dX12_check_205 : decode cX12_check 205 = .ok (.getfield 299, 3) := by decide +kernel
theorem dX12_check_208 : decode cX12_check 208 = .ok (.iload 6, 2) := by decide +kernel
theorem dX12_check_210 : decode cX12_check 210 = .ok (.iaload, 1) := by decide +kernel
theorem dX12_check_211 : decode cX12_check 211 = .ok (.iload 5, 2) := by decide +kernel
theorem dX12_check_213 : decode cX12_check 213 = .ok (.invokevirtual 353, 3) := by decide +kernel
theorem dX12_check_216 : decode cX12_check 216 = .ok (.istore 5, 2) := by decide +kernel
theorem dX12_check_218 : decode cX12_check 218 = .ok (.iinc 6 (-1), 3) := by decide +kernel
theorem dX12_check_221 : decode cX12_check 221 = .ok (.goto (-23), 3) := by decide +kernel
theorem dX12_check_224 : decode cX12_check 224 = .ok (.aload_n 0, 1) := by decide +kernel
theorem dX12_check_225 : decode cX12_check 225 = .ok (.iload 5, 2) := by decide +kernel
theorem dX12_check_227 : decode cX12_check 227 = .ok (.invokevirtual 785, 3) := by decide +kernel
theorem dX12_check_230 : decode cX12_check 230 = .ok (.bipush 7, 2) := by decide +kernel
theorem dX12_check_232 : decode cX12_check 232 = .ok (.ireturn, 1) := by decide +kernel
theorem dX12_check_233 : decode cX12_check 233 = .ok (.iinc 4 1, 3) := by decide +kernel
theorem dX12_check_236 : decode cX12_check 236 = .ok (.goto (-76), 3) := by decide +kernel
theorem dX12_check_239 : decode cX12_check 239 = .ok (.aload_n 0, 1) := by decide +kernel
theorem dX12_check_240 : decode cX12_check 240 = .ok (.iload_n 3, 1) := by decide +kernel
theorem dX12_check_241 : decode cX12_check 241 = .ok (.invokevirtual 839, 3) := by decide +kernel
theorem dX12_check_244 : decode cX12_check 244 = .ok (.aload_n 0, 1) := by decide +kernel
theorem dX12_check_245 : decode cX12_check 245 = .ok (.aload_n 0, 1) := by decide +kernel
theorem dX12_check_246 : decode cX12_check 246 = .ok (.iload_n 1, 1) := by decide +kernel
theorem dX12_check_247 : decode cX12_check 247 = .ok (.iconst 1, 1) := by decide +kernel
theorem dX12_check_248 : decode cX12_check 248 = .ok (.invokevirtual 471, 3) := by decide +kernel
theorem dX12_check_251 : decode cX12_check 251 = .ok (.iload_n 2, 1) := by decide +kernel
theorem dX12_check_252 : decode cX12_check 252 = .ok (.iconst 3, 1) := by decide +kernel
theorem dX12_check_253 : decode cX12_check 253 = .ok (.invokevirtual 908, 3) := by decide +kernel
theorem dX12_check_256 : decode cX12_check 256 = .ok (.iconst 0, 1) := by decide +kernel
theorem dX12_check_257 : decode cX12_check 257 = .ok (.ireturn, 1) := by decide +kernel

section
variable {p : Program} {l : Launch} {e : Env} {R : Room} {s : State} {m : MethodId} {args : Array Value} {below : List Frame} {meth : Method} {c : Code} {H : Heap} {locs : List Loc} {Qf : State → Prop}
variable {ls : Array Slot} {D : va_G} {ca : Nat → ClassId} {A : Nat → Prop} {h0 : Nat} {ad : Nat → Nat} {H0 : Heap} {u : iST}
def w_check_198b (R198 : Int → Int → iST → Prop) (Q : Int → iST → Prop) (x5 : Int) (x6 : Int) (u : iST) : Prop :=
  br (x6 < 0) (
    w_tellOut x5 (fun u => 
    Q 7 u) u) (
    bd x6 10500 (rd (u.2.1 145 x6) (fun v23 => 
    w_pair v23 x5 (fun v24 u => 
    ov (x6 + (-1)) (
    R198 v24 (x6 + (-1)) u)) u)))
def w_check_198 (Q : Int → iST → Prop) (x5 : Int) (x6 : Int) (u : iST) : Prop := ∀ R198 : Int → Int → iST → Prop, (∀ (x5 : Int) (x6 : Int) (u : iST), w_check_198b R198 Q x5 x6 u → R198 x5 x6 u) → R198 x5 x6 u
set_option maxRecDepth 20000 in
set_option maxHeartbeats 4000000 in
theorem b_check_198 (X : kX p m c cX12_check 7 s args D ca) (hRf : 12 ≤ R.frames) (hRl : 272 ≤ R.locals) {Q : Int → iST → Prop} (hret : ∀ (v : Int) (u : iST) (H : Heap) (locs : List Loc) (ls : Array Slot) (pc : Nat), inR v → Q v u → kW D ca A h0 ad H0 H locs u → decode cX12_check pc = .ok (.ireturn, 1) → W p l e R s m args below meth c H locs 0 0 Qf (F0 m pc ls [.int (jI v)])) {x5 x6 : Int} (rx5 : inR x5) (rx6 : inR x6) (hw : kW D ca A h0 ad H0 H locs u) (hl : lv_has ls 7 [(0, .ref h0), (5, .int (jI x5)), (6, .int (jI x6))]) (h : w_check_198 Q x5 x6 u) : W p l e R s m args below meth c H locs 0 0 Qf (F0 m 198 ls []) := by
  refine h (fun x5 x6 u => ∀ (H : Heap) (locs : List Loc) (ls : Array Slot), inR x5 → inR x6 → kW D ca A h0 ad H0 H locs u → lv_has ls 7 [(0, .ref h0), (5, .int (jI x5)), (6, .int (jI x6))] → W p l e R s m args below meth c H locs 0 0 Qf (F0 m 198 ls [])) ?_ H locs ls rx5 rx6 hw hl
  clear h hl hw rx5 rx6
  intro x5 x6 u h H locs ls rx5 rx6 hw hl
  have hR198 : ∀ (x5 : Int) (x6 : Int) (u : iST) (H : Heap) (locs : List Loc) (ls : Array Slot), inR x5 → inR x6 → kW D ca A h0 ad H0 H locs u → lv_has ls 7 [(0, .ref h0), (5, .int (jI x5)), (6, .int (jI x6))] → (fun (x5 : Int) (x6 : Int) u => ∀ (H : Heap) (locs : List Loc) (ls : Array Slot), inR x5 → inR x6 → kW D ca A h0 ad H0 H locs u → lv_has ls 7 [(0, .ref h0), (5, .int (jI x5)), (6, .int (jI x6))] → W p l e R s m args below meth c H locs 0 0 Qf (F0 m 198 ls [])) x5 x6 u → W p l e R s m args below meth c H locs 0 0 Qf (F0 m 198 ls []) := fun x5 x6 u H locs ls rx5 rx6 hw hl h => h H locs ls rx5 rx6 hw hl
  have hx := X.1.1
  have hb := X.1.2.1
  unfold w_check_198b at h
  refine lv_iload hx hb dX12_check_198 (lv_at hl 2 rfl) ?_
  refine k_if_lt hx hb rx6 dX12_check_200 (tgt := 224) rfl h (fun h => ?_) (fun h => ?_)
  · refine lv_aload_n hx hb dX12_check_224 rfl (lv_at hl 0 rfl) ?_
    refine lv_iload hx hb dX12_check_225 (lv_at hl 1 rfl) ?_
    refine kcV (n := 1) (c_tellOut rx5 h) G_tellOut E_tellOut X hw (Nat.le_trans (Nat.le_of_ble_eq_true rfl) hRf) (Nat.le_trans (Nat.le_of_ble_eq_true rfl) hRl) rfl hl.1 (Nat.le_of_ble_eq_true rfl) rfl dX12_check_227 (fun u H locs h hw => ?_)
    refine lv_bipush hx hb dX12_check_230 (v := jI 7) rfl ?_
    exact hret _ _ _ _ _ _ (by decide) h hw dX12_check_232
  · refine lv_aload_n hx hb dX12_check_203 rfl (lv_at hl 0 rfl) ?_
    refine lv_aload_n hx hb dX12_check_204 rfl (lv_at hl 0 rfl) ?_
    refine gA 145 299 (by decide) L_145 (fun _ _ => mF_145) rfl X hw dX12_check_205 ?_
    refine lv_iload hx hb dX12_check_208 (lv_at hl 2 rfl) ?_
    refine aL 145 92 91 10500 (fun _ _ _ _ => mG_145) (fun _ => rfl) X hw rx6 dX12_check_210 rfl h (fun v23 rv23 h => ?_)
    refine lv_iload hx hb dX12_check_211 (lv_at hl 1 rfl) ?_
    refine kcI (n := 2) (c_pair rv23 rx5 h) G_pair E_pair X hw (Nat.le_trans (Nat.le_of_ble_eq_true rfl) hRf) (Nat.le_trans (Nat.le_of_ble_eq_true rfl) hRl) rfl hl.1 (Nat.le_of_ble_eq_true rfl) rfl dX12_check_213 (fun v24 u H locs rv24 h hw => ?_)
    refine lv_istore hx hb dX12_check_216 hl (by decide) rfl (fun ls hl => ?_)
    have hl : lv_has ls 7 [(5, .int (jI v24)), (0, .ref (h0)), (6, .int (jI x6))] := hl
    refine k_iinc (k := 2) hx hb dX12_check_218 hl rfl (by decide) rfl h (fun ls r25 h hl => ?_)
    have hl : lv_has ls 7 [(6, .int (jI (x6 + (-1)))), (5, .int (jI v24)), (0, .ref (h0))] := hl
    refine lv_goto hx hb dX12_check_221 (tgt := 198) rfl ?_
    exact hR198 _ _ _ H locs ls rv24 r25 hw (lv_sub hl [2, 1, 0] rfl) h

def w_check_160b (R160 : Int → Int → Int → Int → iST → Prop) (Q : Int → iST → Prop) (x1 : Int) (x2 : Int) (x3 : Int) (x4 : Int) (u : iST) : Prop :=
  bd 0 350 (rd (u.2.1 146 0) (fun v15 => 
  br (v15 ≤ x4) (
    w_forget x3 (fun u => 
    w_nth x1 1 (fun v17 u => 
    w_addTheorem v17 x2 3 (fun u => 
    Q 0 u) u) u) u) (
    bd x4 10500 (rd (u.2.1 145 x4) (fun v19 => 
    br (v19 ≠ x2) (
      bd 0 350 (rd (u.2.1 146 0) (fun v20 => 
      ov (v20 - 1) (
      w_check_198 Q 0 (v20 - 1) u)))) (
      ov (x4 + 1) (
      R160 x1 x2 x3 (x4 + 1) u)))))))
def w_check_160 (Q : Int → iST → Prop) (x1 : Int) (x2 : Int) (x3 : Int) (x4 : Int) (u : iST) : Prop := ∀ R160 : Int → Int → Int → Int → iST → Prop, (∀ (x1 : Int) (x2 : Int) (x3 : Int) (x4 : Int) (u : iST), w_check_160b R160 Q x1 x2 x3 x4 u → R160 x1 x2 x3 x4 u) → R160 x1 x2 x3 x4 u
set_option maxRecDepth 20000 in
set_option maxHeartbeats 4000000 in
theorem b_check_160 (X : kX p m c cX12_check 7 s args D ca) (hRf : 12 ≤ R.frames) (hRl : 272 ≤ R.locals) {Q : Int → iST → Prop} (hret : ∀ (v : Int) (u : iST) (H : Heap) (locs : List Loc) (ls : Array Slot) (pc : Nat), inR v → Q v u → kW D ca A h0 ad H0 H locs u → decode cX12_check pc = .ok (.ireturn, 1) → W p l e R s m args below meth c H locs 0 0 Qf (F0 m pc ls [.int (jI v)])) {x1 x2 x3 x4 : Int} (rx1 : inR x1) (rx2 : inR x2) (rx3 : inR x3) (rx4 : inR x4) (hw : kW D ca A h0 ad H0 H locs u) (hl : lv_has ls 7 [(0, .ref h0), (1, .int (jI x1)), (2, .int (jI x2)), (3, .int (jI x3)), (4, .int (jI x4))]) (h : w_check_160 Q x1 x2 x3 x4 u) : W p l e R s m args below meth c H locs 0 0 Qf (F0 m 160 ls []) := by
  refine h (fun x1 x2 x3 x4 u => ∀ (H : Heap) (locs : List Loc) (ls : Array Slot), inR x1 → inR x2 → inR x3 → inR x4 → kW D ca A h0 ad H0 H locs u → lv_has ls 7 [(0, .ref h0), (1, .int (jI x1)), (2, .int (jI x2)), (3, .int (jI x3)), (4, .int (jI x4))] → W p l e R s m args below meth c H locs 0 0 Qf (F0 m 160 ls [])) ?_ H locs ls rx1 rx2 rx3 rx4 hw hl
  clear h hl hw rx1 rx2 rx3 rx4
  intro x1 x2 x3 x4 u h H locs ls rx1 rx2 rx3 rx4 hw hl
  have hR160 : ∀ (x1 : Int) (x2 : Int) (x3 : Int) (x4 : Int) (u : iST) (H : Heap) (locs : List Loc) (ls : Array Slot), inR x1 → inR x2 → inR x3 → inR x4 → kW D ca A h0 ad H0 H locs u → lv_has ls 7 [(0, .ref h0), (1, .int (jI x1)), (2, .int (jI x2)), (3, .int (jI x3)), (4, .int (jI x4))] → (fun (x1 : Int) (x2 : Int) (x3 : Int) (x4 : Int) u => ∀ (H : Heap) (locs : List Loc) (ls : Array Slot), inR x1 → inR x2 → inR x3 → inR x4 → kW D ca A h0 ad H0 H locs u → lv_has ls 7 [(0, .ref h0), (1, .int (jI x1)), (2, .int (jI x2)), (3, .int (jI x3)), (4, .int (jI x4))] → W p l e R s m args below meth c H locs 0 0 Qf (F0 m 160 ls [])) x1 x2 x3 x4 u → W p l e R s m args below meth c H locs 0 0 Qf (F0 m 160 ls []) := fun x1 x2 x3 x4 u H locs ls rx1 rx2 rx3 rx4 hw hl h => h H locs ls rx1 rx2 rx3 rx4 hw hl
  have hx := X.1.1
  have hb := X.1.2.1
  unfold w_check_160b at h
  refine lv_iload hx hb dX12_check_160 (lv_at hl 4 rfl) ?_
  refine lv_aload_n hx hb dX12_check_162 rfl (lv_at hl 0 rfl) ?_
  refine gA 146 302 (by decide) L_146 (fun _ _ => mF_146) rfl X hw dX12_check_163 ?_
  refine lv_iconst hx hb dX12_check_166 (v := jI 0) rfl ?_
  refine aL 146 93 92 350 (fun _ _ _ _ => mG_146) (fun _ => rfl) X hw (by decide) dX12_check_167 rfl h (fun v15 rv15 h => ?_)
  refine k_icmp_ge hx hb rx4 rv15 dX12_check_168 (tgt := 239) rfl h (fun h => ?_) (fun h => ?_)
  · refine lv_aload_n hx hb dX12_check_239 rfl (lv_at hl 0 rfl) ?_
    refine lv_iload_n hx hb dX12_check_240 rfl (lv_at hl 3 rfl) ?_
    refine kcV (n := 1) (c_forget rx3 h) G_forget E_forget X hw (Nat.le_trans (Nat.le_of_ble_eq_true rfl) hRf) (Nat.le_trans (Nat.le_of_ble_eq_true rfl) hRl) rfl hl.1 (Nat.le_of_ble_eq_true rfl) rfl dX12_check_241 (fun u H locs h hw => ?_)
    refine lv_aload_n hx hb dX12_check_244 rfl (lv_at hl 0 rfl) ?_
    refine lv_aload_n hx hb dX12_check_245 rfl (lv_at hl 0 rfl) ?_
    refine lv_iload_n hx hb dX12_check_246 rfl (lv_at hl 1 rfl) ?_
    refine lv_iconst hx hb dX12_check_247 (v := jI 1) rfl ?_
    refine kcI (n := 2) (c_nth rx1 (by decide) h) G_nth E_nth X hw (Nat.le_trans (Nat.le_of_ble_eq_true rfl) hRf) (Nat.le_trans (Nat.le_of_ble_eq_true rfl) hRl) rfl hl.1 (Nat.le_of_ble_eq_true rfl) rfl dX12_check_248 (fun v17 u H locs rv17 h hw => ?_)
    refine lv_iload_n hx hb dX12_check_251 rfl (lv_at hl 2 rfl) ?_
    refine lv_iconst hx hb dX12_check_252 (v := jI 3) rfl ?_
    refine kcV (n := 3) (c_addTheorem rv17 rx2 (by decide) h) G_addTheorem E_addTheorem X hw (Nat.le_trans (Nat.le_of_ble_eq_true rfl) hRf) (Nat.le_trans (Nat.le_of_ble_eq_true rfl) hRl) rfl hl.1 (Nat.le_of_ble_eq_true rfl) rfl dX12_check_253 (fun u H locs h hw => ?_)
    refine lv_iconst hx hb dX12_check_256 (v := jI 0) rfl ?_
    exact hret _ _ _ _ _ _ (by decide) h hw dX12_check_257
  · refine lv_aload_n hx hb dX12_check_171 rfl (lv_at hl 0 rfl) ?_
    refine gA 145 299 (by decide) L_145 (fun _ _ => mF_145) rfl X hw dX12_check_172 ?_
    refine lv_iload hx hb dX12_check_175 (lv_at hl 4 rfl) ?_
    refine aL 145 92 91 10500 (fun _ _ _ _ => mG_145) (fun _ => rfl) X hw rx4 dX12_check_177 rfl h (fun v19 rv19 h => ?_)
    refine lv_iload_n hx hb dX12_check_178 rfl (lv_at hl 2 rfl) ?_
    refine k_icmp_ne hx hb rv19 rx2 dX12_check_179 (tgt := 185) rfl h (fun h => ?_) (fun h => ?_)
    · refine lv_iconst hx hb dX12_check_185 (v := jI 0) rfl ?_
      refine lv_istore hx hb dX12_check_186 hl (by decide) rfl (fun ls hl => ?_)
      have hl : lv_has ls 7 [(5, .int (jI 0)), (0, .ref (h0)), (1, .int (jI x1)), (2, .int (jI x2)), (3, .int (jI x3)), (4, .int (jI x4))] := hl
      refine lv_aload_n hx hb dX12_check_188 rfl (lv_at hl 1 rfl) ?_
      refine gA 146 302 (by decide) L_146 (fun _ _ => mF_146) rfl X hw dX12_check_189 ?_
      refine lv_iconst hx hb dX12_check_192 (v := jI 0) rfl ?_
      refine aL 146 93 92 350 (fun _ _ _ _ => mG_146) (fun _ => rfl) X hw (by decide) dX12_check_193 rfl h (fun v20 rv20 h => ?_)
      refine lv_iconst hx hb dX12_check_194 (v := jI 1) rfl ?_
      refine k_isub hx hb dX12_check_195 h (fun r21 h => ?_)
      refine lv_istore hx hb dX12_check_196 hl (by decide) rfl (fun ls hl => ?_)
      have hl : lv_has ls 7 [(6, .int (jI (v20 - 1))), (5, .int (jI 0)), (0, .ref (h0)), (1, .int (jI x1)), (2, .int (jI x2)), (3, .int (jI x3)), (4, .int (jI x4))] := hl
      exact b_check_198 X hRf hRl hret (by decide) r21 hw (lv_sub hl [2, 1, 0] rfl) h
    · refine lv_goto hx hb dX12_check_182 (tgt := 233) rfl ?_
      refine k_iinc (k := 4) hx hb dX12_check_233 hl rfl (by decide) rfl h (fun ls r26 h hl => ?_)
      have hl : lv_has ls 7 [(4, .int (jI (x4 + 1))), (0, .ref (h0)), (1, .int (jI x1)), (2, .int (jI x2)), (3, .int (jI x3))] := hl
      refine lv_goto hx hb dX12_check_236 (tgt := 160) rfl ?_
      exact hR160 _ _ _ _ _ H locs ls rx1 rx2 rx3 r26 hw (lv_sub hl [1, 2, 3, 4, 0] rfl) h

def w_check_129 (Q : Int → iST → Prop) (x1 : Int) (x2 : Int) (x3 : Int) (u : iST) : Prop :=
  rd (u.1 61) (fun v13 => 
  br (v13 = 0) (
    rd (u.1 148) (fun v14 => 
    br (v14 = (-1)) (
      w_check_160 Q x1 x2 x3 0 u) (
      rd (u.1 148) (fun v27 => 
      w_tellOut v27 (fun u => 
      Q 7 u) u)))) (
    Q 4 u))
set_option maxRecDepth 20000 in
set_option maxHeartbeats 4000000 in
theorem b_check_129 (X : kX p m c cX12_check 7 s args D ca) (hRf : 12 ≤ R.frames) (hRl : 272 ≤ R.locals) {Q : Int → iST → Prop} (hret : ∀ (v : Int) (u : iST) (H : Heap) (locs : List Loc) (ls : Array Slot) (pc : Nat), inR v → Q v u → kW D ca A h0 ad H0 H locs u → decode cX12_check pc = .ok (.ireturn, 1) → W p l e R s m args below meth c H locs 0 0 Qf (F0 m pc ls [.int (jI v)])) {x1 x2 x3 : Int} (rx1 : inR x1) (rx2 : inR x2) (rx3 : inR x3) (hw : kW D ca A h0 ad H0 H locs u) (hl : lv_has ls 7 [(0, .ref h0), (1, .int (jI x1)), (2, .int (jI x2)), (3, .int (jI x3))]) (h : w_check_129 Q x1 x2 x3 u) : W p l e R s m args below meth c H locs 0 0 Qf (F0 m 129 ls []) := by
  have hx := X.1.1
  have hb := X.1.2.1
  unfold w_check_129 at h
  refine lv_aload_n hx hb dX12_check_129 rfl (lv_at hl 0 rfl) ?_
  refine gS 61 480 (by decide) L_61 (fun _ _ => mF_61) rfl X hw dX12_check_130 h (fun v13 rv13 h => ?_)
  refine k_if_eq hx hb rv13 dX12_check_133 (tgt := 138) rfl h (fun h => ?_) (fun h => ?_)
  · refine lv_aload_n hx hb dX12_check_138 rfl (lv_at hl 0 rfl) ?_
    refine gS 148 932 (by decide) L_148 (fun _ _ => mF_148) rfl X hw dX12_check_139 h (fun v14 rv14 h => ?_)
    refine lv_iconst hx hb dX12_check_142 (v := jI (-1)) rfl ?_
    refine k_icmp_eq hx hb rv14 (by decide) dX12_check_143 (tgt := 157) rfl h (fun h => ?_) (fun h => ?_)
    · refine lv_iconst hx hb dX12_check_157 (v := jI 0) rfl ?_
      refine lv_istore hx hb dX12_check_158 hl (by decide) rfl (fun ls hl => ?_)
      have hl : lv_has ls 7 [(4, .int (jI 0)), (0, .ref (h0)), (1, .int (jI x1)), (2, .int (jI x2)), (3, .int (jI x3))] := hl
      exact b_check_160 X hRf hRl hret rx1 rx2 rx3 (by decide) hw (lv_sub hl [1, 2, 3, 4, 0] rfl) h
    · refine lv_aload_n hx hb dX12_check_146 rfl (lv_at hl 0 rfl) ?_
      refine lv_aload_n hx hb dX12_check_147 rfl (lv_at hl 0 rfl) ?_
      refine gS 148 932 (by decide) L_148 (fun _ _ => mF_148) rfl X hw dX12_check_148 h (fun v27 rv27 h => ?_)
      refine kcV (n := 1) (c_tellOut rv27 h) G_tellOut E_tellOut X hw (Nat.le_trans (Nat.le_of_ble_eq_true rfl) hRf) (Nat.le_trans (Nat.le_of_ble_eq_true rfl) hRl) rfl hl.1 (Nat.le_of_ble_eq_true rfl) rfl dX12_check_151 (fun u H locs h hw => ?_)
      refine lv_bipush hx hb dX12_check_154 (v := jI 7) rfl ?_
      exact hret _ _ _ _ _ _ (by decide) h hw dX12_check_156
  · refine lv_iconst hx hb dX12_check_136 (v := jI 4) rfl ?_
    exact hret _ _ _ _ _ _ (by decide) h hw dX12_check_137

def w_check_100b (R100 : Int → Int → Int → iST → Prop) (Q : Int → iST → Prop) (x1 : Int) (x2 : Int) (x3 : Int) (u : iST) : Prop :=
  rd (u.1 61) (fun v12 => 
  br (v12 ≠ 0) (
    w_check_129 Q x1 x2 x3 u) (
    rd (u.1 148) (fun v29 => 
    br (v29 ≠ (-1)) (
      w_check_129 Q x1 x2 x3 u) (
      rd (u.1 144) (fun v30 => 
      br (v30 ≤ 0) (
        w_check_129 Q x1 x2 x3 u) (
        w_goProof (fun u => 
        R100 x1 x2 x3 u) u))))))
def w_check_100 (Q : Int → iST → Prop) (x1 : Int) (x2 : Int) (x3 : Int) (u : iST) : Prop := ∀ R100 : Int → Int → Int → iST → Prop, (∀ (x1 : Int) (x2 : Int) (x3 : Int) (u : iST), w_check_100b R100 Q x1 x2 x3 u → R100 x1 x2 x3 u) → R100 x1 x2 x3 u
set_option maxRecDepth 20000 in
set_option maxHeartbeats 4000000 in
theorem b_check_100 (X : kX p m c cX12_check 7 s args D ca) (hRf : 12 ≤ R.frames) (hRl : 272 ≤ R.locals) {Q : Int → iST → Prop} (hret : ∀ (v : Int) (u : iST) (H : Heap) (locs : List Loc) (ls : Array Slot) (pc : Nat), inR v → Q v u → kW D ca A h0 ad H0 H locs u → decode cX12_check pc = .ok (.ireturn, 1) → W p l e R s m args below meth c H locs 0 0 Qf (F0 m pc ls [.int (jI v)])) {x1 x2 x3 : Int} (rx1 : inR x1) (rx2 : inR x2) (rx3 : inR x3) (hw : kW D ca A h0 ad H0 H locs u) (hl : lv_has ls 7 [(0, .ref h0), (1, .int (jI x1)), (2, .int (jI x2)), (3, .int (jI x3))]) (h : w_check_100 Q x1 x2 x3 u) : W p l e R s m args below meth c H locs 0 0 Qf (F0 m 100 ls []) := by
  refine h (fun x1 x2 x3 u => ∀ (H : Heap) (locs : List Loc) (ls : Array Slot), inR x1 → inR x2 → inR x3 → kW D ca A h0 ad H0 H locs u → lv_has ls 7 [(0, .ref h0), (1, .int (jI x1)), (2, .int (jI x2)), (3, .int (jI x3))] → W p l e R s m args below meth c H locs 0 0 Qf (F0 m 100 ls [])) ?_ H locs ls rx1 rx2 rx3 hw hl
  clear h hl hw rx1 rx2 rx3
  intro x1 x2 x3 u h H locs ls rx1 rx2 rx3 hw hl
  have hR100 : ∀ (x1 : Int) (x2 : Int) (x3 : Int) (u : iST) (H : Heap) (locs : List Loc) (ls : Array Slot), inR x1 → inR x2 → inR x3 → kW D ca A h0 ad H0 H locs u → lv_has ls 7 [(0, .ref h0), (1, .int (jI x1)), (2, .int (jI x2)), (3, .int (jI x3))] → (fun (x1 : Int) (x2 : Int) (x3 : Int) u => ∀ (H : Heap) (locs : List Loc) (ls : Array Slot), inR x1 → inR x2 → inR x3 → kW D ca A h0 ad H0 H locs u → lv_has ls 7 [(0, .ref h0), (1, .int (jI x1)), (2, .int (jI x2)), (3, .int (jI x3))] → W p l e R s m args below meth c H locs 0 0 Qf (F0 m 100 ls [])) x1 x2 x3 u → W p l e R s m args below meth c H locs 0 0 Qf (F0 m 100 ls []) := fun x1 x2 x3 u H locs ls rx1 rx2 rx3 hw hl h => h H locs ls rx1 rx2 rx3 hw hl
  have hx := X.1.1
  have hb := X.1.2.1
  unfold w_check_100b at h
  refine lv_aload_n hx hb dX12_check_100 rfl (lv_at hl 0 rfl) ?_
  refine gS 61 480 (by decide) L_61 (fun _ _ => mF_61) rfl X hw dX12_check_101 h (fun v12 rv12 h => ?_)
  refine k_if_ne hx hb rv12 dX12_check_104 (tgt := 129) rfl h (fun h => ?_) (fun h => ?_)
  · exact b_check_129 X hRf hRl hret rx1 rx2 rx3 hw hl h
  · refine lv_aload_n hx hb dX12_check_107 rfl (lv_at hl 0 rfl) ?_
    refine gS 148 932 (by decide) L_148 (fun _ _ => mF_148) rfl X hw dX12_check_108 h (fun v29 rv29 h => ?_)
    refine lv_iconst hx hb dX12_check_111 (v := jI (-1)) rfl ?_
    refine k_icmp_ne hx hb rv29 (by decide) dX12_check_112 (tgt := 129) rfl h (fun h => ?_) (fun h => ?_)
    · exact b_check_129 X hRf hRl hret rx1 rx2 rx3 hw hl h
    · refine lv_aload_n hx hb dX12_check_115 rfl (lv_at hl 0 rfl) ?_
      refine gS 144 926 (by decide) L_144 (fun _ _ => mF_144) rfl X hw dX12_check_116 h (fun v30 rv30 h => ?_)
      refine k_if_le hx hb rv30 dX12_check_119 (tgt := 129) rfl h (fun h => ?_) (fun h => ?_)
      · exact b_check_129 X hRf hRl hret rx1 rx2 rx3 hw hl h
      · refine lv_aload_n hx hb dX12_check_122 rfl (lv_at hl 0 rfl) ?_
        refine kcV (n := 0) (c_goProof h) G_goProof E_goProof X hw (Nat.le_trans (Nat.le_of_ble_eq_true rfl) hRf) (Nat.le_trans (Nat.le_of_ble_eq_true rfl) hRl) rfl hl.1 (Nat.le_of_ble_eq_true rfl) rfl dX12_check_123 (fun u H locs h hw => ?_)
        refine lv_goto hx hb dX12_check_126 (tgt := 100) rfl ?_
        exact hR100 _ _ _ _ H locs ls rx1 rx2 rx3 hw hl h

def w_check (a0 : Int) (Q : Int → iST → Prop) (u : iST) : Prop :=
  w_lengthOf a0 (fun v1 u => 
  br (v1 ≠ 4) (
    Q 2 u) (
    w_nth a0 1 (fun v2 u => 
    w_isNewName v2 (fun v3 u => 
    br (v3 ≠ 0) (
      w_nth a0 2 (fun v4 u => 
      w_termOf v4 (fun v5 u => 
      br (v5 ≠ (-1)) (
        w_nth a0 1 (fun v6 u => 
        w_theoremOf v6 (fun v7 u => 
        br (v7 = (-1)) (
          rd (u.1 42) (fun v8 => 
          br (v8 ≠ 60) (
            rd (u.1 8) (fun v9 => 
            sw (iI u 144 0) (fun u => 
            sw (iI u 147 0) (fun u => 
            sw (iI u 148 (-1)) (fun u => 
            w_nth a0 3 (fun v10 u => 
            w_beginProof v10 (fun u => 
            w_check_100 Q a0 v5 v9 u) u) u))))) (
            Q 8 u))) (
          Q 3 u)) u) u) (
        Q 2 u)) u) u) (
      Q 2 u)) u) u)) u
set_option maxRecDepth 20000 in
set_option maxHeartbeats 4000000 in
theorem b_check_s (X : kX p m c cX12_check 7 s args D ca) (hRf : 12 ≤ R.frames) (hRl : 272 ≤ R.locals) {Q : Int → iST → Prop} (hret : ∀ (v : Int) (u : iST) (H : Heap) (locs : List Loc) (ls : Array Slot) (pc : Nat), inR v → Q v u → kW D ca A h0 ad H0 H locs u → decode cX12_check pc = .ok (.ireturn, 1) → W p l e R s m args below meth c H locs 0 0 Qf (F0 m pc ls [.int (jI v)])) {a0 : Int} (ra0 : inR a0) (hw : kW D ca A h0 ad H0 H locs u) (hl : lv_has ls 7 [(0, .ref h0), (1, .int (jI a0))]) (h : w_check a0 Q u) : W p l e R s m args below meth c H locs 0 0 Qf (F0 m 0 ls []) := by
  have hx := X.1.1
  have hb := X.1.2.1
  unfold w_check at h
  refine lv_aload_n hx hb dX12_check_0 rfl (lv_at hl 0 rfl) ?_
  refine lv_iload_n hx hb dX12_check_1 rfl (lv_at hl 1 rfl) ?_
  refine kcI (n := 1) (c_lengthOf ra0 h) G_lengthOf E_lengthOf X hw (Nat.le_trans (Nat.le_of_ble_eq_true rfl) hRf) (Nat.le_trans (Nat.le_of_ble_eq_true rfl) hRl) rfl hl.1 (Nat.le_of_ble_eq_true rfl) rfl dX12_check_2 (fun v1 u H locs rv1 h hw => ?_)
  refine lv_iconst hx hb dX12_check_5 (v := jI 4) rfl ?_
  refine k_icmp_ne hx hb rv1 (by decide) dX12_check_6 (tgt := 22) rfl h (fun h => ?_) (fun h => ?_)
  · refine lv_iconst hx hb dX12_check_22 (v := jI 2) rfl ?_
    exact hret _ _ _ _ _ _ (by decide) h hw dX12_check_23
  · refine lv_aload_n hx hb dX12_check_9 rfl (lv_at hl 0 rfl) ?_
    refine lv_aload_n hx hb dX12_check_10 rfl (lv_at hl 0 rfl) ?_
    refine lv_iload_n hx hb dX12_check_11 rfl (lv_at hl 1 rfl) ?_
    refine lv_iconst hx hb dX12_check_12 (v := jI 1) rfl ?_
    refine kcI (n := 2) (c_nth ra0 (by decide) h) G_nth E_nth X hw (Nat.le_trans (Nat.le_of_ble_eq_true rfl) hRf) (Nat.le_trans (Nat.le_of_ble_eq_true rfl) hRl) rfl hl.1 (Nat.le_of_ble_eq_true rfl) rfl dX12_check_13 (fun v2 u H locs rv2 h hw => ?_)
    refine kcI (n := 1) (c_isNewName rv2 h) G_isNewName E_isNewName X hw (Nat.le_trans (Nat.le_of_ble_eq_true rfl) hRf) (Nat.le_trans (Nat.le_of_ble_eq_true rfl) hRl) rfl hl.1 (Nat.le_of_ble_eq_true rfl) rfl dX12_check_16 (fun v3 u H locs rv3 h hw => ?_)
    refine k_if_ne hx hb rv3 dX12_check_19 (tgt := 24) rfl h (fun h => ?_) (fun h => ?_)
    · refine lv_aload_n hx hb dX12_check_24 rfl (lv_at hl 0 rfl) ?_
      refine lv_aload_n hx hb dX12_check_25 rfl (lv_at hl 0 rfl) ?_
      refine lv_iload_n hx hb dX12_check_26 rfl (lv_at hl 1 rfl) ?_
      refine lv_iconst hx hb dX12_check_27 (v := jI 2) rfl ?_
      refine kcI (n := 2) (c_nth ra0 (by decide) h) G_nth E_nth X hw (Nat.le_trans (Nat.le_of_ble_eq_true rfl) hRf) (Nat.le_trans (Nat.le_of_ble_eq_true rfl) hRl) rfl hl.1 (Nat.le_of_ble_eq_true rfl) rfl dX12_check_28 (fun v4 u H locs rv4 h hw => ?_)
      refine kcI (n := 1) (c_termOf rv4 h) G_termOf E_termOf X hw (Nat.le_trans (Nat.le_of_ble_eq_true rfl) hRf) (Nat.le_trans (Nat.le_of_ble_eq_true rfl) hRl) rfl hl.1 (Nat.le_of_ble_eq_true rfl) rfl dX12_check_31 (fun v5 u H locs rv5 h hw => ?_)
      refine lv_istore_n hx hb dX12_check_34 rfl hl (by decide) rfl (fun ls hl => ?_)
      have hl : lv_has ls 7 [(2, .int (jI v5)), (0, .ref (h0)), (1, .int (jI a0))] := hl
      refine lv_iload_n hx hb dX12_check_35 rfl (lv_at hl 0 rfl) ?_
      refine lv_iconst hx hb dX12_check_36 (v := jI (-1)) rfl ?_
      refine k_icmp_ne hx hb rv5 (by decide) dX12_check_37 (tgt := 42) rfl h (fun h => ?_) (fun h => ?_)
      · refine lv_aload_n hx hb dX12_check_42 rfl (lv_at hl 1 rfl) ?_
        refine lv_aload_n hx hb dX12_check_43 rfl (lv_at hl 1 rfl) ?_
        refine lv_iload_n hx hb dX12_check_44 rfl (lv_at hl 2 rfl) ?_
        refine lv_iconst hx hb dX12_check_45 (v := jI 1) rfl ?_
        refine kcI (n := 2) (c_nth ra0 (by decide) h) G_nth E_nth X hw (Nat.le_trans (Nat.le_of_ble_eq_true rfl) hRf) (Nat.le_trans (Nat.le_of_ble_eq_true rfl) hRl) rfl hl.1 (Nat.le_of_ble_eq_true rfl) rfl dX12_check_46 (fun v6 u H locs rv6 h hw => ?_)
        refine kcI (n := 1) (c_theoremOf rv6 h) G_theoremOf E_theoremOf X hw (Nat.le_trans (Nat.le_of_ble_eq_true rfl) hRf) (Nat.le_trans (Nat.le_of_ble_eq_true rfl) hRl) rfl hl.1 (Nat.le_of_ble_eq_true rfl) rfl dX12_check_49 (fun v7 u H locs rv7 h hw => ?_)
        refine lv_iconst hx hb dX12_check_52 (v := jI (-1)) rfl ?_
        refine k_icmp_eq hx hb rv7 (by decide) dX12_check_53 (tgt := 58) rfl h (fun h => ?_) (fun h => ?_)
        · refine lv_aload_n hx hb dX12_check_58 rfl (lv_at hl 1 rfl) ?_
          refine gS 42 699 (by decide) L_42 (fun _ _ => mF_42) rfl X hw dX12_check_59 h (fun v8 rv8 h => ?_)
          refine lv_bipush hx hb dX12_check_62 (v := jI 60) rfl ?_
          refine k_icmp_ne hx hb rv8 (by decide) dX12_check_64 (tgt := 70) rfl h (fun h => ?_) (fun h => ?_)
          · refine lv_aload_n hx hb dX12_check_70 rfl (lv_at hl 1 rfl) ?_
            refine gS 8 332 (by decide) L_8 (fun _ _ => mF_8) rfl X hw dX12_check_71 h (fun v9 rv9 h => ?_)
            refine lv_istore_n hx hb dX12_check_74 rfl hl (by decide) rfl (fun ls hl => ?_)
            have hl : lv_has ls 7 [(3, .int (jI v9)), (2, .int (jI v5)), (0, .ref (h0)), (1, .int (jI a0))] := hl
            refine lv_aload_n hx hb dX12_check_75 rfl (lv_at hl 2 rfl) ?_
            refine lv_iconst hx hb dX12_check_76 (v := jI 0) rfl ?_
            refine pS 144 926 (by decide) L_144 rfl rfl rfl (fun _ _ _ _ _ => mSI_144) (by decide) X hw (by decide) dX12_check_77 h (fun H locs u hw h => ?_)
            refine lv_aload_n hx hb dX12_check_80 rfl (lv_at hl 2 rfl) ?_
            refine lv_iconst hx hb dX12_check_81 (v := jI 0) rfl ?_
            refine pS 147 938 (by decide) L_147 rfl rfl rfl (fun _ _ _ _ _ => mSI_147) (by decide) X hw (by decide) dX12_check_82 h (fun H locs u hw h => ?_)
            refine lv_aload_n hx hb dX12_check_85 rfl (lv_at hl 2 rfl) ?_
            refine lv_iconst hx hb dX12_check_86 (v := jI (-1)) rfl ?_
            refine pS 148 932 (by decide) L_148 rfl rfl rfl (fun _ _ _ _ _ => mSI_148) (by decide) X hw (by decide) dX12_check_87 h (fun H locs u hw h => ?_)
            refine lv_aload_n hx hb dX12_check_90 rfl (lv_at hl 2 rfl) ?_
            refine lv_aload_n hx hb dX12_check_91 rfl (lv_at hl 2 rfl) ?_
            refine lv_iload_n hx hb dX12_check_92 rfl (lv_at hl 3 rfl) ?_
            refine lv_iconst hx hb dX12_check_93 (v := jI 3) rfl ?_
            refine kcI (n := 2) (c_nth ra0 (by decide) h) G_nth E_nth X hw (Nat.le_trans (Nat.le_of_ble_eq_true rfl) hRf) (Nat.le_trans (Nat.le_of_ble_eq_true rfl) hRl) rfl hl.1 (Nat.le_of_ble_eq_true rfl) rfl dX12_check_94 (fun v10 u H locs rv10 h hw => ?_)
            refine kcV (n := 1) (c_beginProof rv10 h) G_beginProof E_beginProof X hw (Nat.le_trans (Nat.le_of_ble_eq_true rfl) hRf) (Nat.le_trans (Nat.le_of_ble_eq_true rfl) hRl) rfl hl.1 (Nat.le_of_ble_eq_true rfl) rfl dX12_check_97 (fun u H locs h hw => ?_)
            exact b_check_100 X hRf hRl hret ra0 rv5 rv9 hw (lv_sub hl [2, 3, 1, 0] rfl) h
          · refine lv_bipush hx hb dX12_check_67 (v := jI 8) rfl ?_
            exact hret _ _ _ _ _ _ (by decide) h hw dX12_check_69
        · refine lv_iconst hx hb dX12_check_56 (v := jI 3) rfl ?_
          exact hret _ _ _ _ _ _ (by decide) h hw dX12_check_57
      · refine lv_iconst hx hb dX12_check_40 (v := jI 2) rfl ?_
        exact hret _ _ _ _ _ _ (by decide) h hw dX12_check_41
    · refine lv_iconst hx hb dX12_check_22 (v := jI 2) rfl ?_
      exact hret _ _ _ _ _ _ (by decide) h hw dX12_check_23

end
theorem c_check {l : Launch} {a0 : Int} (ra0 : inR a0) {Q : Int → iST → Prop} {u : iST} (h : w_check a0 Q u) : kMI l yX12_check (.code yX12_check cX12_check 7 (some .int) :: wsM) { frames := 12, cells := 0, slots := 0, locals := 272 } [.int (jI a0)] Q u := kMI_of rfl (fun _ => Nat.le_of_ble_eq_true rfl) (fun X hRf hRl hret hw hl => b_check_s X hRf hRl hret ra0 hw hl h)

/-! eval -/
theorem dX12_eval_0 : decode cX12_eval 0 = .ok (.aload_n 0, 1) := by decide +kernel
theorem dX12_eval_1 : decode cX12_eval 1 = .ok (.iload_n 1, 1) := by decide +kernel
theorem dX12_eval_2 : decode cX12_eval 2 = .ok (.invokevirtual 529, 3) := by decide +kernel
theorem dX12_eval_5 : decode cX12_eval 5 = .ok (.iconst 2, 1) := by decide +kernel
theorem dX12_eval_6 : decode cX12_eval 6 = .ok (.if_icmp .ne 16, 3) := by decide +kernel
theorem dX12_eval_9 : decode cX12_eval 9 = .ok (.aload_n 0, 1) := by decide +kernel
theorem dX12_eval_10 : decode cX12_eval 10 = .ok (.aload_n 0, 1) := by decide +kernel
theorem dX12_eval_11 : decode cX12_eval 11 = .ok (.iload_n 1, 1) := by decide +kernel
theorem dX12_eval_12 : decode cX12_eval 12 = .ok (.iconst 1, 1) := by decide +kernel
theorem dX12_eval_13 : decode cX12_eval 13 = .ok (.invokevirtual 471, 3) := by decide +kernel
theorem dX12_eval_16 : decode cX12_eval 16 = .ok (.invokevirtual 815, 3) := by decide +kernel
theorem dX12_eval_19 : decode cX12_eval 19 = .ok (.goto 4, 3) := by decide +kernel
theorem dX12_eval_22 : decode cX12_eval 22 = .ok (.iconst (-1), 1) := by decide +kernel
theorem dX12_eval_23 : decode cX12_eval 23 = .ok (.istore_n 2, 1) := by decide +kernel
theorem dX12_eval_24 : decode cX12_eval 24 = .ok (.iload_n 2, 1) := by decide +kernel
theorem dX12_eval_25 : decode cX12_eval 25 = .ok (.iconst (-1), 1) := by decide +kernel
theorem dX12_eval_26 : decode cX12_eval 26 = .ok (.if_icmp .ne 5, 3) := by decide +kernel
theorem dX12_eval_29 : decode cX12_eval 29 = .ok (.iconst 2, 1) := by decide +kernel
theorem dX12_eval_30 : decode cX12_eval 30 = .ok (.ireturn, 1) := by decide +kernel
theorem dX12_eval_31 : decode cX12_eval 31 = .ok (.aload_n 0, 1) := by decide +kernel
theorem dX12_eval_32 : decode cX12_eval 32 = .ok (.iload_n 2, 1) := by decide +kernel
theorem dX12_eval_33 : decode cX12_eval 33 = .ok (.invokevirtual 797, 3) := by decide +kernel
theorem dX12_eval_36 : decode cX12_eval 36 = .ok (.aload_n 0, 1) := by decide +kernel
theorem dX12_eval_37 : decode cX12_eval 37 = .ok (.getfield 558, 3) := by decide +kernel
theorem dX12_eval_40 : decode cX12_eval 40 = .ok (.ifCond .le 5, 3) := by decide +kernel
theorem dX12_eval_43 : decode cX12_eval 43 = .ok (.iconst 2, 1) := by decide +kernel
theorem dX12_eval_44 : decode cX12_eval 44 = .ok (.ireturn, 1) := by decide +kernel
theorem dX12_eval_45 : decode cX12_eval 45 = .ok (.aload_n 0, 1) := by decide +kernel
theorem dX12_eval_46 : decode cX12_eval 46 = .ok (.iload_n 2, 1) := by decide +kernel
theorem dX12_eval_47 : decode cX12_eval 47 = .ok (.iconst 0, 1) := by decide +kernel
theorem dX12_eval_48 : decode cX12_eval 48 = .ok (.invokevirtual 687, 3) := by decide +kernel
theorem dX12_eval_51 : decode cX12_eval 51 = .ok (.istore_n 3, 1) := by decide +kernel
theorem dX12_eval_52 : decode cX12_eval 52 = .ok (.iload_n 3, 1) := by decide +kernel
theorem dX12_eval_53 : decode cX12_eval 53 = .ok (.iconst (-1), 1) := by decide +kernel
theorem dX12_eval_54 : decode cX12_eval 54 = .ok (.if_icmp .ne 13, 3) := by decide +kernel
theorem dX12_eval_57 : decode cX12_eval 57 = .ok (.aload_n 0, 1) := by decide +kernel
theorem dX12_eval_58 : decode cX12_eval 58 = .ok (.aload_n 0, 1) := by decide +kernel
theorem dX12_eval_59 : decode cX12_eval 59 = .ok (.getfield 576, 3) := by decide +kernel
theorem dX12_eval_62 : decode cX12_eval 62 = .ok (.invokevirtual 517, 3) := by decide +kernel
theorem dX12_eval_65 : decode cX12_eval 65 = .ok (.iconst 4, 1) := by decide +kernel
theorem dX12_eval_66 : decode cX12_eval 66 = .ok (.ireturn, 1) := by decide +kernel
theorem dX12_eval_67 : decode cX12_eval 67 = .ok (.aload_n 0, 1) := by decide +kernel
theorem dX12_eval_68 : decode cX12_eval 68 = .ok (.iload_n 3, 1) := by decide +kernel
theorem dX12_eval_69 : decode cX12_eval 69 = .ok (.invokevirtual 785, 3) := by decide +kernel
theorem dX12_eval_72 : decode cX12_eval 72 = .ok (.iconst 0, 1) := by decide +kernel
theorem dX12_eval_73 : decode cX12_eval 73 = .ok (.ireturn, 1) := by decide +kernel

section
variable {p : Program} {l : Launch} {e : Env} {R : Room} {s : State} {m : MethodId} {args : Array Value} {below : List Frame} {meth : Method} {c : Code} {H : Heap} {locs : List Loc} {Qf : State → Prop}
variable {ls : Array Slot} {D : va_G} {ca : Nat → ClassId} {A : Nat → Prop} {h0 : Nat} {ad : Nat → Nat} {H0 : Heap} {u : iST}
def w_eval_23 (Q : Int → iST → Prop) (y0 : Int) (u : iST) : Prop :=
  br (y0 ≠ (-1)) (
    w_variablesOf y0 (fun u => 
    rd (u.1 78) (fun v3 => 
    br (v3 ≤ 0) (
      w_evaluated y0 0 (fun v4 u => 
      br (v4 ≠ (-1)) (
        w_tellOut v4 (fun u => 
        Q 0 u) u) (
        rd (u.1 89) (fun v6 => 
        w_fail v6 (fun u => 
        Q 4 u) u))) u) (
      Q 2 u))) u) (
    Q 2 u)
set_option maxRecDepth 20000 in
set_option maxHeartbeats 4000000 in
theorem b_eval_23 (X : kX p m c cX12_eval 4 s args D ca) (hRf : 7 ≤ R.frames) (hRl : 159 ≤ R.locals) {Q : Int → iST → Prop} (hret : ∀ (v : Int) (u : iST) (H : Heap) (locs : List Loc) (ls : Array Slot) (pc : Nat), inR v → Q v u → kW D ca A h0 ad H0 H locs u → decode cX12_eval pc = .ok (.ireturn, 1) → W p l e R s m args below meth c H locs 0 0 Qf (F0 m pc ls [.int (jI v)])) {y0 : Int} (ry0 : inR y0) (hw : kW D ca A h0 ad H0 H locs u) (hl : lv_has ls 4 [(0, .ref h0)]) (h : w_eval_23 Q y0 u) : W p l e R s m args below meth c H locs 0 0 Qf (F0 m 23 ls [.int (jI y0)]) := by
  have hx := X.1.1
  have hb := X.1.2.1
  unfold w_eval_23 at h
  refine lv_istore_n hx hb dX12_eval_23 rfl hl (by decide) rfl (fun ls hl => ?_)
  have hl : lv_has ls 4 [(2, .int (jI y0)), (0, .ref (h0))] := hl
  refine lv_iload_n hx hb dX12_eval_24 rfl (lv_at hl 0 rfl) ?_
  refine lv_iconst hx hb dX12_eval_25 (v := jI (-1)) rfl ?_
  refine k_icmp_ne hx hb ry0 (by decide) dX12_eval_26 (tgt := 31) rfl h (fun h => ?_) (fun h => ?_)
  · refine lv_aload_n hx hb dX12_eval_31 rfl (lv_at hl 1 rfl) ?_
    refine lv_iload_n hx hb dX12_eval_32 rfl (lv_at hl 0 rfl) ?_
    refine kcV (n := 1) (c_variablesOf ry0 h) G_variablesOf E_variablesOf X hw (Nat.le_trans (Nat.le_of_ble_eq_true rfl) hRf) (Nat.le_trans (Nat.le_of_ble_eq_true rfl) hRl) rfl hl.1 (Nat.le_of_ble_eq_true rfl) rfl dX12_eval_33 (fun u H locs h hw => ?_)
    refine lv_aload_n hx hb dX12_eval_36 rfl (lv_at hl 1 rfl) ?_
    refine gS 78 558 (by decide) L_78 (fun _ _ => mF_78) rfl X hw dX12_eval_37 h (fun v3 rv3 h => ?_)
    refine k_if_le hx hb rv3 dX12_eval_40 (tgt := 45) rfl h (fun h => ?_) (fun h => ?_)
    · refine lv_aload_n hx hb dX12_eval_45 rfl (lv_at hl 1 rfl) ?_
      refine lv_iload_n hx hb dX12_eval_46 rfl (lv_at hl 0 rfl) ?_
      refine lv_iconst hx hb dX12_eval_47 (v := jI 0) rfl ?_
      refine kcI (n := 2) (c_evaluated ry0 (by decide) h) G_evaluated E_evaluated X hw (Nat.le_trans (Nat.le_of_ble_eq_true rfl) hRf) (Nat.le_trans (Nat.le_of_ble_eq_true rfl) hRl) rfl hl.1 (Nat.le_of_ble_eq_true rfl) rfl dX12_eval_48 (fun v4 u H locs rv4 h hw => ?_)
      refine lv_istore_n hx hb dX12_eval_51 rfl hl (by decide) rfl (fun ls hl => ?_)
      have hl : lv_has ls 4 [(3, .int (jI v4)), (2, .int (jI y0)), (0, .ref (h0))] := hl
      refine lv_iload_n hx hb dX12_eval_52 rfl (lv_at hl 0 rfl) ?_
      refine lv_iconst hx hb dX12_eval_53 (v := jI (-1)) rfl ?_
      refine k_icmp_ne hx hb rv4 (by decide) dX12_eval_54 (tgt := 67) rfl h (fun h => ?_) (fun h => ?_)
      · refine lv_aload_n hx hb dX12_eval_67 rfl (lv_at hl 2 rfl) ?_
        refine lv_iload_n hx hb dX12_eval_68 rfl (lv_at hl 0 rfl) ?_
        refine kcV (n := 1) (c_tellOut rv4 h) G_tellOut E_tellOut X hw (Nat.le_trans (Nat.le_of_ble_eq_true rfl) hRf) (Nat.le_trans (Nat.le_of_ble_eq_true rfl) hRl) rfl hl.1 (Nat.le_of_ble_eq_true rfl) rfl dX12_eval_69 (fun u H locs h hw => ?_)
        refine lv_iconst hx hb dX12_eval_72 (v := jI 0) rfl ?_
        exact hret _ _ _ _ _ _ (by decide) h hw dX12_eval_73
      · refine lv_aload_n hx hb dX12_eval_57 rfl (lv_at hl 2 rfl) ?_
        refine lv_aload_n hx hb dX12_eval_58 rfl (lv_at hl 2 rfl) ?_
        refine gS 89 576 (by decide) L_89 (fun _ _ => mF_89) rfl X hw dX12_eval_59 h (fun v6 rv6 h => ?_)
        refine kcV (n := 1) (c_fail rv6 h) G_fail E_fail X hw (Nat.le_trans (Nat.le_of_ble_eq_true rfl) hRf) (Nat.le_trans (Nat.le_of_ble_eq_true rfl) hRl) rfl hl.1 (Nat.le_of_ble_eq_true rfl) rfl dX12_eval_62 (fun u H locs h hw => ?_)
        refine lv_iconst hx hb dX12_eval_65 (v := jI 4) rfl ?_
        exact hret _ _ _ _ _ _ (by decide) h hw dX12_eval_66
    · refine lv_iconst hx hb dX12_eval_43 (v := jI 2) rfl ?_
      exact hret _ _ _ _ _ _ (by decide) h hw dX12_eval_44
  · refine lv_iconst hx hb dX12_eval_29 (v := jI 2) rfl ?_
    exact hret _ _ _ _ _ _ (by decide) h hw dX12_eval_30

def w_eval (a0 : Int) (Q : Int → iST → Prop) (u : iST) : Prop :=
  w_lengthOf a0 (fun v1 u => 
  br (v1 ≠ 2) (
    w_eval_23 Q (-1) u) (
    w_nth a0 1 (fun v8 u => 
    w_termOf v8 (fun v9 u => 
    w_eval_23 Q v9 u) u) u)) u
set_option maxRecDepth 20000 in
set_option maxHeartbeats 4000000 in
theorem b_eval_s (X : kX p m c cX12_eval 4 s args D ca) (hRf : 7 ≤ R.frames) (hRl : 159 ≤ R.locals) {Q : Int → iST → Prop} (hret : ∀ (v : Int) (u : iST) (H : Heap) (locs : List Loc) (ls : Array Slot) (pc : Nat), inR v → Q v u → kW D ca A h0 ad H0 H locs u → decode cX12_eval pc = .ok (.ireturn, 1) → W p l e R s m args below meth c H locs 0 0 Qf (F0 m pc ls [.int (jI v)])) {a0 : Int} (ra0 : inR a0) (hw : kW D ca A h0 ad H0 H locs u) (hl : lv_has ls 4 [(0, .ref h0), (1, .int (jI a0))]) (h : w_eval a0 Q u) : W p l e R s m args below meth c H locs 0 0 Qf (F0 m 0 ls []) := by
  have hx := X.1.1
  have hb := X.1.2.1
  unfold w_eval at h
  refine lv_aload_n hx hb dX12_eval_0 rfl (lv_at hl 0 rfl) ?_
  refine lv_iload_n hx hb dX12_eval_1 rfl (lv_at hl 1 rfl) ?_
  refine kcI (n := 1) (c_lengthOf ra0 h) G_lengthOf E_lengthOf X hw (Nat.le_trans (Nat.le_of_ble_eq_true rfl) hRf) (Nat.le_trans (Nat.le_of_ble_eq_true rfl) hRl) rfl hl.1 (Nat.le_of_ble_eq_true rfl) rfl dX12_eval_2 (fun v1 u H locs rv1 h hw => ?_)
  refine lv_iconst hx hb dX12_eval_5 (v := jI 2) rfl ?_
  refine k_icmp_ne hx hb rv1 (by decide) dX12_eval_6 (tgt := 22) rfl h (fun h => ?_) (fun h => ?_)
  · refine lv_iconst hx hb dX12_eval_22 (v := jI (-1)) rfl ?_
    exact b_eval_23 X hRf hRl hret (by decide) hw (lv_sub hl [0] rfl) h
  · refine lv_aload_n hx hb dX12_eval_9 rfl (lv_at hl 0 rfl) ?_
    refine lv_aload_n hx hb dX12_eval_10 rfl (lv_at hl 0 rfl) ?_
    refine lv_iload_n hx hb dX12_eval_11 rfl (lv_at hl 1 rfl) ?_
    refine lv_iconst hx hb dX12_eval_12 (v := jI 1) rfl ?_
    refine kcI (n := 2) (c_nth ra0 (by decide) h) G_nth E_nth X hw (Nat.le_trans (Nat.le_of_ble_eq_true rfl) hRf) (Nat.le_trans (Nat.le_of_ble_eq_true rfl) hRl) rfl hl.1 (Nat.le_of_ble_eq_true rfl) rfl dX12_eval_13 (fun v8 u H locs rv8 h hw => ?_)
    refine kcI (n := 1) (c_termOf rv8 h) G_termOf E_termOf X hw (Nat.le_trans (Nat.le_of_ble_eq_true rfl) hRf) (Nat.le_trans (Nat.le_of_ble_eq_true rfl) hRl) rfl hl.1 (Nat.le_of_ble_eq_true rfl) rfl dX12_eval_16 (fun v9 u H locs rv9 h hw => ?_)
    refine lv_goto hx hb dX12_eval_19 (tgt := 23) rfl ?_
    exact b_eval_23 X hRf hRl hret rv9 hw (lv_sub hl [0] rfl) h

end
theorem c_eval {l : Launch} {a0 : Int} (ra0 : inR a0) {Q : Int → iST → Prop} {u : iST} (h : w_eval a0 Q u) : kMI l yX12_eval (.code yX12_eval cX12_eval 4 (some .int) :: wsM) { frames := 7, cells := 0, slots := 0, locals := 159 } [.int (jI a0)] Q u := kMI_of rfl (fun _ => Nat.le_of_ble_eq_true rfl) (fun X hRf hRl hret hw hl => b_eval_s X hRf hRl hret ra0 hw hl h)

/-! simplify -/
theorem dX12_simplify_0 : decode cX12_simplify 0 = .ok (.aload_n 0, 1) := by decide +kernel
theorem dX12_simplify_1 : decode cX12_simplify 1 = .ok (.iload_n 1, 1) := by decide +kernel
theorem dX12_simplify_2 : decode cX12_simplify 2 = .ok (.invokevirtual 529, 3) := by decide +kernel
theorem dX12_simplify_5 : decode cX12_simplify 5 = .ok (.iconst 2, 1) := by decide +kernel
theorem dX12_simplify_6 : decode cX12_simplify 6 = .ok (.if_icmp .ne 16, 3) := by decide +kernel
theorem dX12_simplify_9 : decode cX12_simplify 9 = .ok (.aload_n 0, 1) := by decide +kernel
theorem dX12_simplify_10 : decode cX12_simplify 10 = .ok (.aload_n 0, 1) := by decide +kernel
theorem dX12_simplify_11 : decode cX12_simplify 11 = .ok (.iload_n 1, 1) := by decide +kernel
theorem dX12_simplify_12 : decode cX12_simplify 12 = .ok (.iconst 1, 1) := by decide +kernel
theorem dX12_simplify_13 : decode cX12_simplify 13 = .ok (.invokevirtual 471, 3) := by decide +kernel
theorem dX12_simplify_16 : decode cX12_simplify 16 = .ok (.invokevirtual 815, 3) := by decide +kernel
theorem dX12_simplify_19 : decode cX12_simplify 19 = .ok (.goto 4, 3) := by decide +kernel
theorem dX12_simplify_22 : decode cX12_simplify 22 = .ok (.iconst (-1), 1) := by decide +kernel
theorem dX12_simplify_23 : decode cX12_simplify 23 = .ok (.istore_n 2, 1) := by decide +kernel
theorem dX12_simplify_24 : decode cX12_simplify 24 = .ok (.iload_n 2, 1) := by decide +kernel
theorem dX12_simplify_25 : decode cX12_simplify 25 = .ok (.iconst (-1), 1) := by decide +kernel
theorem dX12_simplify_26 : decode cX12_simplify 26 = .ok (.if_icmp .ne 5, 3) := by decide +kernel
theorem dX12_simplify_29 : decode cX12_simplify 29 = .ok (.iconst 2, 1) := by decide +kernel
theorem dX12_simplify_30 : decode cX12_simplify 30 = .ok (.ireturn, 1) := by decide +kernel
theorem dX12_simplify_31 : decode cX12_simplify 31 = .ok (.aload_n 0, 1) := by decide +kernel
theorem dX12_simplify_32 : decode cX12_simplify 32 = .ok (.iconst 0, 1) := by decide +kernel
theorem dX12_simplify_33 : decode cX12_simplify 33 = .ok (.putfield 625, 3) := by decide +kernel
theorem dX12_simplify_36 : decode cX12_simplify 36 = .ok (.aload_n 0, 1) := by decide +kernel
theorem dX12_simplify_37 : decode cX12_simplify 37 = .ok (.iload_n 2, 1) := by decide +kernel
theorem dX12_simplify_38 : decode cX12_simplify 38 = .ok (.iconst 0, 1) := by decide +kernel
theorem dX12_simplify_39 : decode cX12_simplify 39 = .ok (.invokevirtual 754, 3) := by decide +kernel
theorem dX12_simplify_42 : decode cX12_simplify 42 = .ok (.istore_n 3, 1) := by decide +kernel
theorem dX12_simplify_43 : decode cX12_simplify 43 = .ok (.aload_n 0, 1) := by decide +kernel
theorem dX12_simplify_44 : decode cX12_simplify 44 = .ok (.iconst 0, 1) := by decide +kernel
theorem dX12_simplify_45 : decode cX12_simplify 45 = .ok (.putfield 625, 3) := by decide +kernel
theorem dX12_simplify_48 : decode cX12_simplify 48 = .ok (.aload_n 0, 1) := by decide +kernel
theorem dX12_simplify_49 : decode cX12_simplify 49 = .ok (.getfield 480, 3) := by decide +kernel
theorem dX12_simplify_52 : decode cX12_simplify 52 = .ok (.ifCond .eq 5, 3) := by decide +kernel
theorem dX12_simplify_55 : decode cX12_simplify 55 = .ok (.iconst 4, 1) := by decide +kernel
theorem dX12_simplify_56 : decode cX12_simplify 56 = .ok (.ireturn, 1) := by decide +kernel
theorem dX12_simplify_57 : decode cX12_simplify 57 = .ok (.aload_n 0, 1) := by decide +kernel
theorem dX12_simplify_58 : decode cX12_simplify 58 = .ok (.iload_n 3, 1) := by decide +kernel
theorem dX12_simplify_59 : decode cX12_simplify 59 = .ok (.invokevirtual 785, 3) := by decide +kernel
theorem dX12_simplify_62 : decode cX12_simplify 62 = .ok (.iconst 0, 1) := by decide +kernel
theorem dX12_simplify_63 : decode cX12_simplify 63 = .ok (.ireturn, 1) := by decide +kernel

section
variable {p : Program} {l : Launch} {e : Env} {R : Room} {s : State} {m : MethodId} {args : Array Value} {below : List Frame} {meth : Method} {c : Code} {H : Heap} {locs : List Loc} {Qf : State → Prop}
variable {ls : Array Slot} {D : va_G} {ca : Nat → ClassId} {A : Nat → Prop} {h0 : Nat} {ad : Nat → Nat} {H0 : Heap} {u : iST}
def w_simplify_23 (Q : Int → iST → Prop) (y0 : Int) (u : iST) : Prop :=
  br (y0 ≠ (-1)) (
    sw (iI u 109 0) (fun u => 
    w_rewritten y0 0 (fun v2 u => 
    sw (iI u 109 0) (fun u => 
    rd (u.1 61) (fun v3 => 
    br (v3 = 0) (
      w_tellOut v2 (fun u => 
      Q 0 u) u) (
      Q 4 u)))) u)) (
    Q 2 u)
set_option maxRecDepth 20000 in
set_option maxHeartbeats 4000000 in
theorem b_simplify_23 (X : kX p m c cX12_simplify 4 s args D ca) (hRf : 13 ≤ R.frames) (hRl : 304 ≤ R.locals) {Q : Int → iST → Prop} (hret : ∀ (v : Int) (u : iST) (H : Heap) (locs : List Loc) (ls : Array Slot) (pc : Nat), inR v → Q v u → kW D ca A h0 ad H0 H locs u → decode cX12_simplify pc = .ok (.ireturn, 1) → W p l e R s m args below meth c H locs 0 0 Qf (F0 m pc ls [.int (jI v)])) {y0 : Int} (ry0 : inR y0) (hw : kW D ca A h0 ad H0 H locs u) (hl : lv_has ls 4 [(0, .ref h0)]) (h : w_simplify_23 Q y0 u) : W p l e R s m args below meth c H locs 0 0 Qf (F0 m 23 ls [.int (jI y0)]) := by
  have hx := X.1.1
  have hb := X.1.2.1
  unfold w_simplify_23 at h
  refine lv_istore_n hx hb dX12_simplify_23 rfl hl (by decide) rfl (fun ls hl => ?_)
  have hl : lv_has ls 4 [(2, .int (jI y0)), (0, .ref (h0))] := hl
  refine lv_iload_n hx hb dX12_simplify_24 rfl (lv_at hl 0 rfl) ?_
  refine lv_iconst hx hb dX12_simplify_25 (v := jI (-1)) rfl ?_
  refine k_icmp_ne hx hb ry0 (by decide) dX12_simplify_26 (tgt := 31) rfl h (fun h => ?_) (fun h => ?_)
  · refine lv_aload_n hx hb dX12_simplify_31 rfl (lv_at hl 1 rfl) ?_
    refine lv_iconst hx hb dX12_simplify_32 (v := jI 0) rfl ?_
    refine pS 109 625 (by decide) L_109 rfl rfl rfl (fun _ _ _ _ _ => mSI_109) (by decide) X hw (by decide) dX12_simplify_33 h (fun H locs u hw h => ?_)
    refine lv_aload_n hx hb dX12_simplify_36 rfl (lv_at hl 1 rfl) ?_
    refine lv_iload_n hx hb dX12_simplify_37 rfl (lv_at hl 0 rfl) ?_
    refine lv_iconst hx hb dX12_simplify_38 (v := jI 0) rfl ?_
    refine kcI (n := 2) (c_rewritten ry0 (by decide) h) G_rewritten E_rewritten X hw (Nat.le_trans (Nat.le_of_ble_eq_true rfl) hRf) (Nat.le_trans (Nat.le_of_ble_eq_true rfl) hRl) rfl hl.1 (Nat.le_of_ble_eq_true rfl) rfl dX12_simplify_39 (fun v2 u H locs rv2 h hw => ?_)
    refine lv_istore_n hx hb dX12_simplify_42 rfl hl (by decide) rfl (fun ls hl => ?_)
    have hl : lv_has ls 4 [(3, .int (jI v2)), (2, .int (jI y0)), (0, .ref (h0))] := hl
    refine lv_aload_n hx hb dX12_simplify_43 rfl (lv_at hl 2 rfl) ?_
    refine lv_iconst hx hb dX12_simplify_44 (v := jI 0) rfl ?_
    refine pS 109 625 (by decide) L_109 rfl rfl rfl (fun _ _ _ _ _ => mSI_109) (by decide) X hw (by decide) dX12_simplify_45 h (fun H locs u hw h => ?_)
    refine lv_aload_n hx hb dX12_simplify_48 rfl (lv_at hl 2 rfl) ?_
    refine gS 61 480 (by decide) L_61 (fun _ _ => mF_61) rfl X hw dX12_simplify_49 h (fun v3 rv3 h => ?_)
    refine k_if_eq hx hb rv3 dX12_simplify_52 (tgt := 57) rfl h (fun h => ?_) (fun h => ?_)
    · refine lv_aload_n hx hb dX12_simplify_57 rfl (lv_at hl 2 rfl) ?_
      refine lv_iload_n hx hb dX12_simplify_58 rfl (lv_at hl 0 rfl) ?_
      refine kcV (n := 1) (c_tellOut rv2 h) G_tellOut E_tellOut X hw (Nat.le_trans (Nat.le_of_ble_eq_true rfl) hRf) (Nat.le_trans (Nat.le_of_ble_eq_true rfl) hRl) rfl hl.1 (Nat.le_of_ble_eq_true rfl) rfl dX12_simplify_59 (fun u H locs h hw => ?_)
      refine lv_iconst hx hb dX12_simplify_62 (v := jI 0) rfl ?_
      exact hret _ _ _ _ _ _ (by decide) h hw dX12_simplify_63
    · refine lv_iconst hx hb dX12_simplify_55 (v := jI 4) rfl ?_
      exact hret _ _ _ _ _ _ (by decide) h hw dX12_simplify_56
  · refine lv_iconst hx hb dX12_simplify_29 (v := jI 2) rfl ?_
    exact hret _ _ _ _ _ _ (by decide) h hw dX12_simplify_30

def w_simplify (a0 : Int) (Q : Int → iST → Prop) (u : iST) : Prop :=
  w_lengthOf a0 (fun v1 u => 
  br (v1 ≠ 2) (
    w_simplify_23 Q (-1) u) (
    w_nth a0 1 (fun v5 u => 
    w_termOf v5 (fun v6 u => 
    w_simplify_23 Q v6 u) u) u)) u
set_option maxRecDepth 20000 in
set_option maxHeartbeats 4000000 in
theorem b_simplify_s (X : kX p m c cX12_simplify 4 s args D ca) (hRf : 13 ≤ R.frames) (hRl : 304 ≤ R.locals) {Q : Int → iST → Prop} (hret : ∀ (v : Int) (u : iST) (H : Heap) (locs : List Loc) (ls : Array Slot) (pc : Nat), inR v → Q v u → kW D ca A h0 ad H0 H locs u → decode cX12_simplify pc = .ok (.ireturn, 1) → W p l e R s m args below meth c H locs 0 0 Qf (F0 m pc ls [.int (jI v)])) {a0 : Int} (ra0 : inR a0) (hw : kW D ca A h0 ad H0 H locs u) (hl : lv_has ls 4 [(0, .ref h0), (1, .int (jI a0))]) (h : w_simplify a0 Q u) : W p l e R s m args below meth c H locs 0 0 Qf (F0 m 0 ls []) := by
  have hx := X.1.1
  have hb := X.1.2.1
  unfold w_simplify at h
  refine lv_aload_n hx hb dX12_simplify_0 rfl (lv_at hl 0 rfl) ?_
  refine lv_iload_n hx hb dX12_simplify_1 rfl (lv_at hl 1 rfl) ?_
  refine kcI (n := 1) (c_lengthOf ra0 h) G_lengthOf E_lengthOf X hw (Nat.le_trans (Nat.le_of_ble_eq_true rfl) hRf) (Nat.le_trans (Nat.le_of_ble_eq_true rfl) hRl) rfl hl.1 (Nat.le_of_ble_eq_true rfl) rfl dX12_simplify_2 (fun v1 u H locs rv1 h hw => ?_)
  refine lv_iconst hx hb dX12_simplify_5 (v := jI 2) rfl ?_
  refine k_icmp_ne hx hb rv1 (by decide) dX12_simplify_6 (tgt := 22) rfl h (fun h => ?_) (fun h => ?_)
  · refine lv_iconst hx hb dX12_simplify_22 (v := jI (-1)) rfl ?_
    exact b_simplify_23 X hRf hRl hret (by decide) hw (lv_sub hl [0] rfl) h
  · refine lv_aload_n hx hb dX12_simplify_9 rfl (lv_at hl 0 rfl) ?_
    refine lv_aload_n hx hb dX12_simplify_10 rfl (lv_at hl 0 rfl) ?_
    refine lv_iload_n hx hb dX12_simplify_11 rfl (lv_at hl 1 rfl) ?_
    refine lv_iconst hx hb dX12_simplify_12 (v := jI 1) rfl ?_
    refine kcI (n := 2) (c_nth ra0 (by decide) h) G_nth E_nth X hw (Nat.le_trans (Nat.le_of_ble_eq_true rfl) hRf) (Nat.le_trans (Nat.le_of_ble_eq_true rfl) hRl) rfl hl.1 (Nat.le_of_ble_eq_true rfl) rfl dX12_simplify_13 (fun v5 u H locs rv5 h hw => ?_)
    refine kcI (n := 1) (c_termOf rv5 h) G_termOf E_termOf X hw (Nat.le_trans (Nat.le_of_ble_eq_true rfl) hRf) (Nat.le_trans (Nat.le_of_ble_eq_true rfl) hRl) rfl hl.1 (Nat.le_of_ble_eq_true rfl) rfl dX12_simplify_16 (fun v6 u H locs rv6 h hw => ?_)
    refine lv_goto hx hb dX12_simplify_19 (tgt := 23) rfl ?_
    exact b_simplify_23 X hRf hRl hret rv6 hw (lv_sub hl [0] rfl) h

end
theorem c_simplify {l : Launch} {a0 : Int} (ra0 : inR a0) {Q : Int → iST → Prop} {u : iST} (h : w_simplify a0 Q u) : kMI l yX12_simplify (.code yX12_simplify cX12_simplify 4 (some .int) :: wsM) { frames := 13, cells := 0, slots := 0, locals := 304 } [.int (jI a0)] Q u := kMI_of rfl (fun _ => Nat.le_of_ble_eq_true rfl) (fun X hRf hRl hret hw hl => b_simplify_s X hRf hRl hret ra0 hw hl h)

/-! turn -/
theorem dX12_turn_0 : decode cX12_turn 0 = .ok (.aload_n 0, 1) := by decide +kernel
theorem dX12_turn_1 : decode cX12_turn 1 = .ok (.iload_n 1, 1) := by decide +kernel
theorem dX12_turn_2 : decode cX12_turn 2 = .ok (.invokevirtual 529, 3) := by decide +kernel
theorem dX12_turn_5 : decode cX12_turn 5 = .ok (.iconst 2, 1) := by decide +kernel
theorem dX12_turn_6 : decode cX12_turn 6 = .ok (.if_icmp .ne 16, 3) := by decide +kernel
theorem dX12_turn_9 : decode cX12_turn 9 = .ok (.aload_n 0, 1) := by decide +kernel
theorem dX12_turn_10 : decode cX12_turn 10 = .ok (.aload_n 0, 1) := by decide +kernel
theorem dX12_turn_11 : decode cX12_turn 11 = .ok (.iload_n 1, 1) := by decide +kernel
theorem dX12_turn_12 : decode cX12_turn 12 = .ok (.iconst 1, 1) := by decide +kernel
theorem dX12_turn_13 : decode cX12_turn 13 = .ok (.invokevirtual 471, 3) := by decide +kernel
theorem dX12_turn_16 : decode cX12_turn 16 = .ok (.invokevirtual 809, 3) := by decide +kernel
theorem dX12_turn_19 : decode cX12_turn 19 = .ok (.ifCond .ne 5, 3) := by decide +kernel
theorem dX12_turn_22 : decode cX12_turn 22 = .ok (.iconst 2, 1) := by decide +kernel
theorem dX12_turn_23 : decode cX12_turn 23 = .ok (.ireturn, 1) := by decide +kernel
theorem dX12_turn_24 : decode cX12_turn 24 = .ok (.aload_n 0, 1) := by decide +kernel
theorem dX12_turn_25 : decode cX12_turn 25 = .ok (.aload_n 0, 1) := by decide +kernel
theorem dX12_turn_26 : decode cX12_turn 26 = .ok (.iload_n 1, 1) := by decide +kernel
theorem dX12_turn_27 : decode cX12_turn 27 = .ok (.iconst 1, 1) := by decide +kernel
theorem dX12_turn_28 : decode cX12_turn 28 = .ok (.invokevirtual 471, 3) := by decide +kernel
theorem dX12_turn_31 : decode cX12_turn 31 = .ok (.invokevirtual 875, 3) := by decide +kernel
theorem dX12_turn_34 : decode cX12_turn 34 = .ok (.istore_n 3, 1) := by decide +kernel
theorem dX12_turn_35 : decode cX12_turn 35 = .ok (.iload_n 3, 1) := by decide +kernel
theorem dX12_turn_36 : decode cX12_turn 36 = .ok (.iconst (-1), 1) := by decide +kernel
theorem dX12_turn_37 : decode cX12_turn 37 = .ok (.if_icmp .eq 13, 3) := by decide +kernel
theorem dX12_turn_40 : decode cX12_turn 40 = .ok (.aload_n 0, 1) := by decide +kernel
theorem dX12_turn_41 : decode cX12_turn 41 = .ok (.getfield 106, 3) := by decide +kernel
theorem dX12_turn_44 : decode cX12_turn 44 = .ok (.iload_n 3, 1) := by decide +kernel
theorem dX12_turn_45 : decode cX12_turn 45 = .ok (.iaload, 1) := by decide +kernel
theorem dX12_turn_46 : decode cX12_turn 46 = .ok (.iconst (-1), 1) := by decide +kernel
theorem dX12_turn_47 : decode cX12_turn 47 = .ok (.if_icmp .ne 5, 3) := by decide +kernel
theorem dX12_turn_50 : decode cX12_turn 50 = .ok (.iconst 3, 1) := by decide +kernel
theorem dX12_turn_51 : decode cX12_turn 51 = .ok (.ireturn, 1) := by decide +kernel
theorem dX12_turn_52 : decode cX12_turn 52 = .ok (.aload_n 0, 1) := by decide +kernel
theorem dX12_turn_53 : decode cX12_turn 53 = .ok (.getfield 124, 3) := by decide +kernel
theorem dX12_turn_56 : decode cX12_turn 56 = .ok (.iload_n 3, 1) := by decide +kernel
theorem dX12_turn_57 : decode cX12_turn 57 = .ok (.iload_n 2, 1) := by decide +kernel
theorem dX12_turn_58 : decode cX12_turn 58 = .ok (.bastore, 1) := by decide +kernel
theorem dX12_turn_59 : decode cX12_turn 59 = .ok (.iconst 0, 1) := by decide +kernel
theorem dX12_turn_60 : decode cX12_turn 60 = .ok (.ireturn, 1) := by decide +kernel

section
variable {p : Program} {l : Launch} {e : Env} {R : Room} {s : State} {m : MethodId} {args : Array Value} {below : List Frame} {meth : Method} {c : Code} {H : Heap} {locs : List Loc} {Qf : State → Prop}
variable {ls : Array Slot} {D : va_G} {ca : Nat → ClassId} {A : Nat → Prop} {h0 : Nat} {ad : Nat → Nat} {H0 : Heap} {u : iST}
def w_turn (a0 : Int) (a1 : Int) (Q : Int → iST → Prop) (u : iST) : Prop :=
  w_lengthOf a0 (fun v1 u => 
  br (v1 ≠ 2) (
    Q 2 u) (
    w_nth a0 1 (fun v2 u => 
    w_isNewName v2 (fun v3 u => 
    br (v3 ≠ 0) (
      w_nth a0 1 (fun v4 u => 
      w_theoremOf v4 (fun v5 u => 
      br (v5 = (-1)) (
        Q 3 u) (
        bd v5 60 (rd (u.2.1 46 v5) (fun v6 => 
        br (v6 ≠ (-1)) (
          zt a1 (bd v5 60 (sw (iA u 52 v5 a1) (fun u => 
          Q 0 u)))) (
          Q 3 u))))) u) u) (
      Q 2 u)) u) u)) u
set_option maxRecDepth 20000 in
set_option maxHeartbeats 4000000 in
theorem b_turn_s (X : kX p m c cX12_turn 4 s args D ca) (hRf : 2 ≤ R.frames) (hRl : 44 ≤ R.locals) {Q : Int → iST → Prop} (hret : ∀ (v : Int) (u : iST) (H : Heap) (locs : List Loc) (ls : Array Slot) (pc : Nat), inR v → Q v u → kW D ca A h0 ad H0 H locs u → decode cX12_turn pc = .ok (.ireturn, 1) → W p l e R s m args below meth c H locs 0 0 Qf (F0 m pc ls [.int (jI v)])) {a0 a1 : Int} (ra0 : inR a0) (ra1 : inR a1) (hw : kW D ca A h0 ad H0 H locs u) (hl : lv_has ls 4 [(0, .ref h0), (1, .int (jI a0)), (2, .int (jI a1))]) (h : w_turn a0 a1 Q u) : W p l e R s m args below meth c H locs 0 0 Qf (F0 m 0 ls []) := by
  have hx := X.1.1
  have hb := X.1.2.1
  unfold w_turn at h
  refine lv_aload_n hx hb dX12_turn_0 rfl (lv_at hl 0 rfl) ?_
  refine lv_iload_n hx hb dX12_turn_1 rfl (lv_at hl 1 rfl) ?_
  refine kcI (n := 1) (c_lengthOf ra0 h) G_lengthOf E_lengthOf X hw (Nat.le_trans (Nat.le_of_ble_eq_true rfl) hRf) (Nat.le_trans (Nat.le_of_ble_eq_true rfl) hRl) rfl hl.1 (Nat.le_of_ble_eq_true rfl) rfl dX12_turn_2 (fun v1 u H locs rv1 h hw => ?_)
  refine lv_iconst hx hb dX12_turn_5 (v := jI 2) rfl ?_
  refine k_icmp_ne hx hb rv1 (by decide) dX12_turn_6 (tgt := 22) rfl h (fun h => ?_) (fun h => ?_)
  · refine lv_iconst hx hb dX12_turn_22 (v := jI 2) rfl ?_
    exact hret _ _ _ _ _ _ (by decide) h hw dX12_turn_23
  · refine lv_aload_n hx hb dX12_turn_9 rfl (lv_at hl 0 rfl) ?_
    refine lv_aload_n hx hb dX12_turn_10 rfl (lv_at hl 0 rfl) ?_
    refine lv_iload_n hx hb dX12_turn_11 rfl (lv_at hl 1 rfl) ?_
    refine lv_iconst hx hb dX12_turn_12 (v := jI 1) rfl ?_
    refine kcI (n := 2) (c_nth ra0 (by decide) h) G_nth E_nth X hw (Nat.le_trans (Nat.le_of_ble_eq_true rfl) hRf) (Nat.le_trans (Nat.le_of_ble_eq_true rfl) hRl) rfl hl.1 (Nat.le_of_ble_eq_true rfl) rfl dX12_turn_13 (fun v2 u H locs rv2 h hw => ?_)
    refine kcI (n := 1) (c_isNewName rv2 h) G_isNewName E_isNewName X hw (Nat.le_trans (Nat.le_of_ble_eq_true rfl) hRf) (Nat.le_trans (Nat.le_of_ble_eq_true rfl) hRl) rfl hl.1 (Nat.le_of_ble_eq_true rfl) rfl dX12_turn_16 (fun v3 u H locs rv3 h hw => ?_)
    refine k_if_ne hx hb rv3 dX12_turn_19 (tgt := 24) rfl h (fun h => ?_) (fun h => ?_)
    · refine lv_aload_n hx hb dX12_turn_24 rfl (lv_at hl 0 rfl) ?_
      refine lv_aload_n hx hb dX12_turn_25 rfl (lv_at hl 0 rfl) ?_
      refine lv_iload_n hx hb dX12_turn_26 rfl (lv_at hl 1 rfl) ?_
      refine lv_iconst hx hb dX12_turn_27 (v := jI 1) rfl ?_
      refine kcI (n := 2) (c_nth ra0 (by decide) h) G_nth E_nth X hw (Nat.le_trans (Nat.le_of_ble_eq_true rfl) hRf) (Nat.le_trans (Nat.le_of_ble_eq_true rfl) hRl) rfl hl.1 (Nat.le_of_ble_eq_true rfl) rfl dX12_turn_28 (fun v4 u H locs rv4 h hw => ?_)
      refine kcI (n := 1) (c_theoremOf rv4 h) G_theoremOf E_theoremOf X hw (Nat.le_trans (Nat.le_of_ble_eq_true rfl) hRf) (Nat.le_trans (Nat.le_of_ble_eq_true rfl) hRl) rfl hl.1 (Nat.le_of_ble_eq_true rfl) rfl dX12_turn_31 (fun v5 u H locs rv5 h hw => ?_)
      refine lv_istore_n hx hb dX12_turn_34 rfl hl (by decide) rfl (fun ls hl => ?_)
      have hl : lv_has ls 4 [(3, .int (jI v5)), (0, .ref (h0)), (1, .int (jI a0)), (2, .int (jI a1))] := hl
      refine lv_iload_n hx hb dX12_turn_35 rfl (lv_at hl 0 rfl) ?_
      refine lv_iconst hx hb dX12_turn_36 (v := jI (-1)) rfl ?_
      refine k_icmp_eq hx hb rv5 (by decide) dX12_turn_37 (tgt := 50) rfl h (fun h => ?_) (fun h => ?_)
      · refine lv_iconst hx hb dX12_turn_50 (v := jI 3) rfl ?_
        exact hret _ _ _ _ _ _ (by decide) h hw dX12_turn_51
      · refine lv_aload_n hx hb dX12_turn_40 rfl (lv_at hl 1 rfl) ?_
        refine gA 46 106 (by decide) L_46 (fun _ _ => mF_46) rfl X hw dX12_turn_41 ?_
        refine lv_iload_n hx hb dX12_turn_44 rfl (lv_at hl 0 rfl) ?_
        refine aL 46 30 29 60 (fun _ _ _ _ => mG_46) (fun _ => rfl) X hw rv5 dX12_turn_45 rfl h (fun v6 rv6 h => ?_)
        refine lv_iconst hx hb dX12_turn_46 (v := jI (-1)) rfl ?_
        refine k_icmp_ne hx hb rv6 (by decide) dX12_turn_47 (tgt := 52) rfl h (fun h => ?_) (fun h => ?_)
        · refine lv_aload_n hx hb dX12_turn_52 rfl (lv_at hl 1 rfl) ?_
          refine gA 52 124 (by decide) L_52 (fun _ _ => mF_52) rfl X hw dX12_turn_53 ?_
          refine lv_iload_n hx hb dX12_turn_56 rfl (lv_at hl 0 rfl) ?_
          refine lv_iload_n hx hb dX12_turn_57 rfl (lv_at hl 3 rfl) ?_
          refine aY 52 36 35 60 (fun _ _ _ _ => mG_52) (fun _ => rfl) (fun _ _ _ _ _ _ => mSA_52) X hw rv5 dX12_turn_58 rfl h (fun H locs u hw h => ?_)
          refine lv_iconst hx hb dX12_turn_59 (v := jI 0) rfl ?_
          exact hret _ _ _ _ _ _ (by decide) h hw dX12_turn_60
        · refine lv_iconst hx hb dX12_turn_50 (v := jI 3) rfl ?_
          exact hret _ _ _ _ _ _ (by decide) h hw dX12_turn_51
    · refine lv_iconst hx hb dX12_turn_22 (v := jI 2) rfl ?_
      exact hret _ _ _ _ _ _ (by decide) h hw dX12_turn_23

end
theorem c_turn {l : Launch} {a0 : Int} {a1 : Int} (ra0 : inR a0) (ra1 : inR a1) {Q : Int → iST → Prop} {u : iST} (h : w_turn a0 a1 Q u) : kMI l yX12_turn (.code yX12_turn cX12_turn 4 (some .int) :: wsM) { frames := 2, cells := 0, slots := 0, locals := 44 } [.int (jI a0), .int (jI a1)] Q u := kMI_of rfl (fun _ => Nat.le_of_ble_eq_true rfl) (fun X hRf hRl hret hw hl => b_turn_s X hRf hRl hret ra0 ra1 hw hl h)

/-! undo -/
theorem dX12_undo_0 : decode cX12_undo 0 = .ok (.aload_n 0, 1) := by decide +kernel
theorem dX12_undo_1 : decode cX12_undo 1 = .ok (.iload_n 1, 1) := by decide +kernel
theorem dX12_undo_2 : decode cX12_undo 2 = .ok (.invokevirtual 529, 3) := by decide +kernel
theorem dX12_undo_5 : decode cX12_undo 5 = .ok (.iconst 1, 1) := by decide +kernel
theorem dX12_undo_6 : decode cX12_undo 6 = .ok (.if_icmp .eq 5, 3) := by decide +kernel
theorem dX12_undo_9 : decode cX12_undo 9 = .ok (.iconst 2, 1) := by decide +kernel
theorem dX12_undo_10 : decode cX12_undo 10 = .ok (.ireturn, 1) := by decide +kernel
theorem dX12_undo_11 : decode cX12_undo 11 = .ok (.aload_n 0, 1) := by decide +kernel
theorem dX12_undo_12 : decode cX12_undo 12 = .ok (.getfield 845, 3) := by decide +kernel
theorem dX12_undo_15 : decode cX12_undo 15 = .ok (.ifCond .ne 5, 3) := by decide +kernel
theorem dX12_undo_18 : decode cX12_undo 18 = .ok (.iconst 3, 1) := by decide +kernel
theorem dX12_undo_19 : decode cX12_undo 19 = .ok (.ireturn, 1) := by decide +kernel
theorem dX12_undo_20 : decode cX12_undo 20 = .ok (.aload_n 0, 1) := by decide +kernel
theorem dX12_undo_21 : decode cX12_undo 21 = .ok (.dup, 1) := by decide +kernel
theorem dX12_undo_22 : decode cX12_undo 22 = .ok (.getfield 845, 3) := by decide +kernel
theorem dX12_undo_25 : decode cX12_undo 25 = .ok (.iconst 1, 1) := by decide +kernel
theorem dX12_undo_26 : decode cX12_undo 26 = .ok (.isub, 1) := by decide +kernel
theorem dX12_undo_27 : decode cX12_undo 27 = .ok (.putfield 845, 3) := by decide +kernel
theorem dX12_undo_30 : decode cX12_undo 30 = .ok (.aload_n 0, 1) := by decide +kernel
theorem dX12_undo_31 : decode cX12_undo 31 = .ok (.getfield 130, 3) := by decide +kernel
theorem dX12_undo_34 : decode cX12_undo 34 = .ok (.aload_n 0, 1) := by decide +kernel
theorem dX12_undo_35 : decode cX12_undo 35 = .ok (.getfield 845, 3) := by decide +kernel
theorem dX12_undo_38 : decode cX12_undo 38 = .ok (.iaload, 1) := by decide +kernel
theorem dX12_undo_39 : decode cX12_undo 39 = .ok (.iconst 1, 1) := by decide +kernel
theorem dX12_undo_40 : decode cX12_undo 40 = .ok (.if_icmp .ne 16, 3) := by decide +kernel
theorem dX12_undo_43 : decode cX12_undo 43 = .ok (.aload_n 0, 1) := by decide +kernel
theorem dX12_undo_44 : decode cX12_undo 44 = .ok (.dup, 1) := by decide +kernel
theorem dX12_undo_45 : decode cX12_undo 45 = .ok (.getfield 474, 3) := by decide +kernel
theorem dX12_undo_48 : decode cX12_undo 48 = .ok (.iconst 1, 1) := by decide +kernel
theorem dX12_undo_49 : decode cX12_undo 49 = .ok (.isub, 1) := by decide +kernel
theorem dX12_undo_50 : decode cX12_undo 50 = .ok (.putfield 474, 3) := by decide +kernel
theorem dX12_undo_53 : decode cX12_undo 53 = .ok (.goto 13, 3) := by decide +kernel
theorem dX12_undo_56 : decode cX12_undo 56 = .ok (.aload_n 0, 1) := by decide +kernel
theorem dX12_undo_57 : decode cX12_undo 57 = .ok (.dup, 1) := by decide +kernel
theorem dX12_undo_58 : decode cX12_undo 58 = .ok (.getfield 699, 3) := by decide +kernel
theorem dX12_undo_61 : decode cX12_undo 61 = .ok (.iconst 1, 1) := by decide +kernel
theorem dX12_undo_62 : decode cX12_undo 62 = .ok (.isub, 1) := by decide +kernel
theorem dX12_undo_63 : decode cX12_undo 63 = .ok (.putfield 699, 3) := by decide +kernel
theorem dX12_undo_66 : decode cX12_undo 66 = .ok (.aload_n 0, 1) := by decide +kernel
theorem dX12_undo_67 : decode cX12_undo 67 = .ok (.aload_n 0, 1) := by decide +kernel
theorem dX12_undo_68 : decode cX12_undo 68 = .ok (.getfield 133, 3) := by decide +kernel
theorem dX12_undo_71 : decode cX12_undo 71 = .ok (.aload_n 0, 1) := by decide +kernel
theorem dX12_undo_72 : decode cX12_undo 72 = .ok (.getfield 845, 3) := by decide +kernel
theorem dX12_undo_75 : decode cX12_undo 75 = .ok (.iaload, 1) := by decide +kernel
theorem dX12_undo_76 : decode cX12_undo 76 = .ok (.putfield 848, 3) := by decide +kernel
theorem dX12_undo_79 : decode cX12_undo 79 = .ok (.iconst 0, 1) := by decide +kernel
theorem dX12_undo_80 : decode cX12_undo 80 = .ok (.ireturn, 1) := by decide +kernel

section
variable {p : Program} {l : Launch} {e : Env} {R : Room} {s : State} {m : MethodId} {args : Array Value} {below : List Frame} {meth : Method} {c : Code} {H : Heap} {locs : List Loc} {Qf : State → Prop}
variable {ls : Array Slot} {D : va_G} {ca : Nat → ClassId} {A : Nat → Prop} {h0 : Nat} {ad : Nat → Nat} {H0 : Heap} {u : iST}
def w_undo_66 (Q : Int → iST → Prop) (u : iST) : Prop :=
  rd (u.1 54) (fun v9 => 
  bd v9 100 (rd (u.2.1 56 v9) (fun v10 => 
  sw (iI u 132 v10) (fun u => 
  Q 0 u))))
set_option maxRecDepth 20000 in
set_option maxHeartbeats 4000000 in
theorem b_undo_66 (X : kX p m c cX12_undo 2 s args D ca) (hRf : 2 ≤ R.frames) (hRl : 44 ≤ R.locals) {Q : Int → iST → Prop} (hret : ∀ (v : Int) (u : iST) (H : Heap) (locs : List Loc) (ls : Array Slot) (pc : Nat), inR v → Q v u → kW D ca A h0 ad H0 H locs u → decode cX12_undo pc = .ok (.ireturn, 1) → W p l e R s m args below meth c H locs 0 0 Qf (F0 m pc ls [.int (jI v)])) (hw : kW D ca A h0 ad H0 H locs u) (hl : lv_has ls 2 [(0, .ref h0)]) (h : w_undo_66 Q u) : W p l e R s m args below meth c H locs 0 0 Qf (F0 m 66 ls []) := by
  have hx := X.1.1
  have hb := X.1.2.1
  unfold w_undo_66 at h
  refine lv_aload_n hx hb dX12_undo_66 rfl (lv_at hl 0 rfl) ?_
  refine lv_aload_n hx hb dX12_undo_67 rfl (lv_at hl 0 rfl) ?_
  refine gA 56 133 (by decide) L_56 (fun _ _ => mF_56) rfl X hw dX12_undo_68 ?_
  refine lv_aload_n hx hb dX12_undo_71 rfl (lv_at hl 0 rfl) ?_
  refine gS 54 845 (by decide) L_54 (fun _ _ => mF_54) rfl X hw dX12_undo_72 h (fun v9 rv9 h => ?_)
  refine aL 56 39 38 100 (fun _ _ _ _ => mG_56) (fun _ => rfl) X hw rv9 dX12_undo_75 rfl h (fun v10 rv10 h => ?_)
  refine pS 132 848 (by decide) L_132 rfl rfl rfl (fun _ _ _ _ _ => mSI_132) (by decide) X hw rv10 dX12_undo_76 h (fun H locs u hw h => ?_)
  refine lv_iconst hx hb dX12_undo_79 (v := jI 0) rfl ?_
  exact hret _ _ _ _ _ _ (by decide) h hw dX12_undo_80

def w_undo (a0 : Int) (Q : Int → iST → Prop) (u : iST) : Prop :=
  w_lengthOf a0 (fun v1 u => 
  br (v1 = 1) (
    rd (u.1 54) (fun v2 => 
    br (v2 ≠ 0) (
      rd (u.1 54) (fun v3 => 
      ov (v3 - 1) (
      sw (iI u 54 (v3 - 1)) (fun u => 
      rd (u.1 54) (fun v5 => 
      bd v5 100 (rd (u.2.1 55 v5) (fun v6 => 
      br (v6 ≠ 1) (
        rd (u.1 42) (fun v7 => 
        ov (v7 - 1) (
        sw (iI u 42 (v7 - 1)) (fun u => 
        w_undo_66 Q u)))) (
        rd (u.1 35) (fun v11 => 
        ov (v11 - 1) (
        sw (iI u 35 (v11 - 1)) (fun u => 
        w_undo_66 Q u))))))))))) (
      Q 3 u))) (
    Q 2 u)) u
set_option maxRecDepth 20000 in
set_option maxHeartbeats 4000000 in
theorem b_undo_s (X : kX p m c cX12_undo 2 s args D ca) (hRf : 2 ≤ R.frames) (hRl : 44 ≤ R.locals) {Q : Int → iST → Prop} (hret : ∀ (v : Int) (u : iST) (H : Heap) (locs : List Loc) (ls : Array Slot) (pc : Nat), inR v → Q v u → kW D ca A h0 ad H0 H locs u → decode cX12_undo pc = .ok (.ireturn, 1) → W p l e R s m args below meth c H locs 0 0 Qf (F0 m pc ls [.int (jI v)])) {a0 : Int} (ra0 : inR a0) (hw : kW D ca A h0 ad H0 H locs u) (hl : lv_has ls 2 [(0, .ref h0), (1, .int (jI a0))]) (h : w_undo a0 Q u) : W p l e R s m args below meth c H locs 0 0 Qf (F0 m 0 ls []) := by
  have hx := X.1.1
  have hb := X.1.2.1
  unfold w_undo at h
  refine lv_aload_n hx hb dX12_undo_0 rfl (lv_at hl 0 rfl) ?_
  refine lv_iload_n hx hb dX12_undo_1 rfl (lv_at hl 1 rfl) ?_
  refine kcI (n := 1) (c_lengthOf ra0 h) G_lengthOf E_lengthOf X hw (Nat.le_trans (Nat.le_of_ble_eq_true rfl) hRf) (Nat.le_trans (Nat.le_of_ble_eq_true rfl) hRl) rfl hl.1 (Nat.le_of_ble_eq_true rfl) rfl dX12_undo_2 (fun v1 u H locs rv1 h hw => ?_)
  refine lv_iconst hx hb dX12_undo_5 (v := jI 1) rfl ?_
  refine k_icmp_eq hx hb rv1 (by decide) dX12_undo_6 (tgt := 11) rfl h (fun h => ?_) (fun h => ?_)
  · refine lv_aload_n hx hb dX12_undo_11 rfl (lv_at hl 0 rfl) ?_
    refine gS 54 845 (by decide) L_54 (fun _ _ => mF_54) rfl X hw dX12_undo_12 h (fun v2 rv2 h => ?_)
    refine k_if_ne hx hb rv2 dX12_undo_15 (tgt := 20) rfl h (fun h => ?_) (fun h => ?_)
    · refine lv_aload_n hx hb dX12_undo_20 rfl (lv_at hl 0 rfl) ?_
      refine lv_dup hx hb dX12_undo_21 rfl ?_
      refine gS 54 845 (by decide) L_54 (fun _ _ => mF_54) rfl X hw dX12_undo_22 h (fun v3 rv3 h => ?_)
      refine lv_iconst hx hb dX12_undo_25 (v := jI 1) rfl ?_
      refine k_isub hx hb dX12_undo_26 h (fun r4 h => ?_)
      refine pS 54 845 (by decide) L_54 rfl rfl rfl (fun _ _ _ _ _ => mSI_54) (by decide) X hw r4 dX12_undo_27 h (fun H locs u hw h => ?_)
      refine lv_aload_n hx hb dX12_undo_30 rfl (lv_at hl 0 rfl) ?_
      refine gA 55 130 (by decide) L_55 (fun _ _ => mF_55) rfl X hw dX12_undo_31 ?_
      refine lv_aload_n hx hb dX12_undo_34 rfl (lv_at hl 0 rfl) ?_
      refine gS 54 845 (by decide) L_54 (fun _ _ => mF_54) rfl X hw dX12_undo_35 h (fun v5 rv5 h => ?_)
      refine aL 55 38 37 100 (fun _ _ _ _ => mG_55) (fun _ => rfl) X hw rv5 dX12_undo_38 rfl h (fun v6 rv6 h => ?_)
      refine lv_iconst hx hb dX12_undo_39 (v := jI 1) rfl ?_
      refine k_icmp_ne hx hb rv6 (by decide) dX12_undo_40 (tgt := 56) rfl h (fun h => ?_) (fun h => ?_)
      · refine lv_aload_n hx hb dX12_undo_56 rfl (lv_at hl 0 rfl) ?_
        refine lv_dup hx hb dX12_undo_57 rfl ?_
        refine gS 42 699 (by decide) L_42 (fun _ _ => mF_42) rfl X hw dX12_undo_58 h (fun v7 rv7 h => ?_)
        refine lv_iconst hx hb dX12_undo_61 (v := jI 1) rfl ?_
        refine k_isub hx hb dX12_undo_62 h (fun r8 h => ?_)
        refine pS 42 699 (by decide) L_42 rfl rfl rfl (fun _ _ _ _ _ => mSI_42) (by decide) X hw r8 dX12_undo_63 h (fun H locs u hw h => ?_)
        exact b_undo_66 X hRf hRl hret hw (lv_sub hl [0] rfl) h
      · refine lv_aload_n hx hb dX12_undo_43 rfl (lv_at hl 0 rfl) ?_
        refine lv_dup hx hb dX12_undo_44 rfl ?_
        refine gS 35 474 (by decide) L_35 (fun _ _ => mF_35) rfl X hw dX12_undo_45 h (fun v11 rv11 h => ?_)
        refine lv_iconst hx hb dX12_undo_48 (v := jI 1) rfl ?_
        refine k_isub hx hb dX12_undo_49 h (fun r12 h => ?_)
        refine pS 35 474 (by decide) L_35 rfl rfl rfl (fun _ _ _ _ _ => mSI_35) (by decide) X hw r12 dX12_undo_50 h (fun H locs u hw h => ?_)
        refine lv_goto hx hb dX12_undo_53 (tgt := 66) rfl ?_
        exact b_undo_66 X hRf hRl hret hw (lv_sub hl [0] rfl) h
    · refine lv_iconst hx hb dX12_undo_18 (v := jI 3) rfl ?_
      exact hret _ _ _ _ _ _ (by decide) h hw dX12_undo_19
  · refine lv_iconst hx hb dX12_undo_9 (v := jI 2) rfl ?_
    exact hret _ _ _ _ _ _ (by decide) h hw dX12_undo_10

end
theorem c_undo {l : Launch} {a0 : Int} (ra0 : inR a0) {Q : Int → iST → Prop} {u : iST} (h : w_undo a0 Q u) : kMI l yX12_undo (.code yX12_undo cX12_undo 2 (some .int) :: wsM) { frames := 2, cells := 0, slots := 0, locals := 44 } [.int (jI a0)] Q u := kMI_of rfl (fun _ => Nat.le_of_ble_eq_true rfl) (fun X hRf hRl hret hw hl => b_undo_s X hRf hRl hret ra0 hw hl h)

/-! command -/
theorem dX12_command_0 : decode cX12_command 0 = .ok (.aload_n 0, 1) := by decide +kernel
theorem dX12_command_1 : decode cX12_command 1 = .ok (.iload_n 1, 1) := by decide +kernel
theorem dX12_command_2 : decode cX12_command 2 = .ok (.invokevirtual 365, 3) := by decide +kernel
theorem dX12_command_5 : decode cX12_command 5 = .ok (.ifCond .ne 5, 3) := by decide +kernel
theorem dX12_command_8 : decode cX12_command 8 = .ok (.iconst 2, 1) := by decide +kernel
theorem dX12_command_9 : decode cX12_command 9 = .ok (.ireturn, 1) := by decide +kernel
theorem dX12_command_10 : decode cX12_command 10 = .ok (.aload_n 0, 1) := by decide +kernel
theorem dX12_command_11 : decode cX12_command 11 = .ok (.getfield 8, 3) := by decide +kernel
theorem dX12_command_14 : decode cX12_command 14 = .ok (.iload_n 1, 1) := by decide +kernel
theorem dX12_command_15 : decode cX12_command 15 = .ok (.iaload, 1) := by decide +kernel
theorem dX12_command_16 : decode cX12_command 16 = .ok (.tableswitch 114 17 26 #[75, 114, 56, 62, 68, 81, 94, 101, 108, 88], 56) := by decide +kernel
theorem dX12_command_72 : decode cX12_command 72 = .ok (.aload_n 0, 1) := by decide +kernel
theorem dX12_command_73 : decode cX12_command 73 = .ok (.iload_n 1, 1) := by decide +kernel
theorem dX12_command_74 : decode cX12_command 74 = .ok (.invokevirtual 974, 3) := by decide +kernel
theorem dX12_command_77 : decode cX12_command 77 = .ok (.ireturn, 1) := by decide +kernel
theorem dX12_command_78 : decode cX12_command 78 = .ok (.aload_n 0, 1) := by decide +kernel
theorem dX12_command_79 : decode cX12_command 79 = .ok (.iload_n 1, 1) := by decide +kernel
theorem dX12_command_80 : decode cX12_command 80 = .ok (.invokevirtual 977, 3) := by decide +kernel
theorem dX12_command_83 : decode cX12_command 83 = .ok (.ireturn, 1) := by decide +kernel
theorem dX12_command_84 : decode cX12_command 84 = .ok (.aload_n 0, 1) := by decide +kernel
theorem dX12_command_85 : decode cX12_command 85 = .ok (.iload_n 1, 1) := by decide +kernel
theorem dX12_command_86 : decode cX12_command 86 = .ok (.iconst 0, 1) := by decide +kernel
theorem dX12_command_87 : decode cX12_command 87 = .ok (.invokevirtual 980, 3) := by decide +kernel
theorem dX12_command_90 : decode cX12_command 90 = .ok (.ireturn, 1) := by decide +kernel
theorem dX12_command_91 : decode cX12_command 91 = .ok (.aload_n 0, 1) := by decide +kernel
theorem dX12_command_92 : decode cX12_command 92 = .ok (.iload_n 1, 1) := by decide +kernel
theorem dX12_command_93 : decode cX12_command 93 = .ok (.invokevirtual 983, 3) := by decide +kernel
theorem dX12_command_96 : decode cX12_command 96 = .ok (.ireturn, 1) := by decide +kernel
theorem dX12_command_97 : decode cX12_command 97 = .ok (.aload_n 0, 1) := by decide +kernel
theorem dX12_command_98 : decode cX12_command 98 = .ok (.iload_n 1, 1) := by decide +kernel
theorem dX12_command_99 : decode cX12_command 99 = .ok (.iconst 1, 1) := by decide +kernel
theorem dX12_command_100 : decode cX12_command 100 = .ok (.invokevirtual 980, 3) := by decide +kernel
theorem dX12_command_103 : decode cX12_command 103 = .ok (.ireturn, 1) := by decide +kernel
theorem dX12_command_104 : decode cX12_command 104 = .ok (.aload_n 0, 1) := by decide +kernel
theorem dX12_command_105 : decode cX12_command 105 = .ok (.iload_n 1, 1) := by decide +kernel
theorem dX12_command_106 : decode cX12_command 106 = .ok (.invokevirtual 986, 3) := by decide +kernel
theorem dX12_command_109 : decode cX12_command 109 = .ok (.ireturn, 1) := by decide +kernel
theorem dX12_command_110 : decode cX12_command 110 = .ok (.aload_n 0, 1) := by decide +kernel
theorem dX12_command_111 : decode cX12_command 111 = .ok (.iload_n 1, 1) := by decide +kernel
theorem dX12_command_112 : decode cX12_command 112 = .ok (.iconst 1, 1) := by decide +kernel
theorem dX12_command_113 : decode cX12_command 113 = .ok (.invokevirtual 989, 3) := by decide +kernel
theorem dX12_command_116 : decode cX12_command 116 = .ok (.ireturn, 1) := by decide +kernel
theorem dX12_command_117 : decode cX12_command 117 = .ok (.aload_n 0, 1) := by decide +kernel
theorem dX12_command_118 : decode cX12_command 118 = .ok (.iload_n 1, 1) := by decide +kernel
theorem dX12_command_119 : decode cX12_command 119 = .ok (.iconst 0, 1) := by decide +kernel
theorem dX12_command_120 : decode cX12_command 120 = .ok (.invokevirtual 989, 3) := by decide +kernel
theorem dX12_command_123 : decode cX12_command 123 = .ok (.ireturn, 1) := by decide +kernel
theorem dX12_command_124 : decode cX12_command 124 = .ok (.aload_n 0, 1) := by decide +kernel
theorem dX12_command_125 : decode cX12_command 125 = .ok (.iload_n 1, 1) := by decide +kernel
theorem dX12_command_126 : decode cX12_command 126 = .ok (.invokevirtual 992, 3) := by decide +kernel
theorem dX12_command_129 : decode cX12_command 129 = .ok (.ireturn, 1) := by decide +kernel
theorem dX12_command_130 : decode cX12_command 130 = .ok (.iconst 2, 1) := by decide +kernel
theorem dX12_command_131 : decode cX12_command 131 = .ok (.ireturn, 1) := by decide +kernel

section
variable {p : Program} {l : Launch} {e : Env} {R : Room} {s : State} {m : MethodId} {args : Array Value} {below : List Frame} {meth : Method} {c : Code} {H : Heap} {locs : List Loc} {Qf : State → Prop}
variable {ls : Array Slot} {D : va_G} {ca : Nat → ClassId} {A : Nat → Prop} {h0 : Nat} {ad : Nat → Nat} {H0 : Heap} {u : iST}
def w_command (a0 : Int) (Q : Int → iST → Prop) (u : iST) : Prop :=
  w_isPair a0 (fun v1 u => 
  br (v1 ≠ 0) (
    bd a0 452000 (rd (u.2.1 0 a0) (fun v2 => 
    br (v2 = 17) (
      w_defun a0 (fun v3 u => 
      Q v3 u) u) (
    br (v2 = 18) (
      Q 2 u) (
    br (v2 = 19) (
      w_eval a0 (fun v6 u => 
      Q v6 u) u) (
    br (v2 = 20) (
      w_simplify a0 (fun v8 u => 
      Q v8 u) u) (
    br (v2 = 21) (
      w_defthm a0 0 (fun v10 u => 
      Q v10 u) u) (
    br (v2 = 22) (
      w_defthm a0 1 (fun v12 u => 
      Q v12 u) u) (
    br (v2 = 23) (
      w_turn a0 1 (fun v14 u => 
      Q v14 u) u) (
    br (v2 = 24) (
      w_turn a0 0 (fun v16 u => 
      Q v16 u) u) (
    br (v2 = 25) (
      w_undo a0 (fun v18 u => 
      Q v18 u) u) (
    br (v2 = 26) (
      w_check a0 (fun v20 u => 
      Q v20 u) u) (
    Q 2 u))))))))))))) (
    Q 2 u)) u
set_option maxRecDepth 20000 in
set_option maxHeartbeats 4000000 in
theorem b_command_s (X : kX p m c cX12_command 2 s args D ca) (hRf : 17 ≤ R.frames) (hRl : 404 ≤ R.locals) {Q : Int → iST → Prop} (hret : ∀ (v : Int) (u : iST) (H : Heap) (locs : List Loc) (ls : Array Slot) (pc : Nat), inR v → Q v u → kW D ca A h0 ad H0 H locs u → decode cX12_command pc = .ok (.ireturn, 1) → W p l e R s m args below meth c H locs 0 0 Qf (F0 m pc ls [.int (jI v)])) {a0 : Int} (ra0 : inR a0) (hw : kW D ca A h0 ad H0 H locs u) (hl : lv_has ls 2 [(0, .ref h0), (1, .int (jI a0))]) (h : w_command a0 Q u) : W p l e R s m args below meth c H locs 0 0 Qf (F0 m 0 ls []) := by
  have hx := X.1.1
  have hb := X.1.2.1
  unfold w_command at h
  refine lv_aload_n hx hb dX12_command_0 rfl (lv_at hl 0 rfl) ?_
  refine lv_iload_n hx hb dX12_command_1 rfl (lv_at hl 1 rfl) ?_
  refine kcI (n := 1) (c_isPair ra0 h) G_isPair E_isPair X hw (Nat.le_trans (Nat.le_of_ble_eq_true rfl) hRf) (Nat.le_trans (Nat.le_of_ble_eq_true rfl) hRl) rfl hl.1 (Nat.le_of_ble_eq_true rfl) rfl dX12_command_2 (fun v1 u H locs rv1 h hw => ?_)
  refine k_if_ne hx hb rv1 dX12_command_5 (tgt := 10) rfl h (fun h => ?_) (fun h => ?_)
  · refine lv_aload_n hx hb dX12_command_10 rfl (lv_at hl 0 rfl) ?_
    refine gA 0 8 (by decide) L_0 (fun _ _ => mF_0) rfl X hw dX12_command_11 ?_
    refine lv_iload_n hx hb dX12_command_14 rfl (lv_at hl 1 rfl) ?_
    refine aL 0 1 0 452000 (fun _ _ _ _ => mG_0) (fun _ => rfl) X hw ra0 dX12_command_15 rfl h (fun v2 rv2 h => ?_)
    refine br_sp h (fun ek h => ?_) (fun n4 h => ?_)
    · refine k_tabIn (tgt := 91) (off := 75) hx hb dX12_command_16 ek (by decide) (by decide) rfl rfl ?_
      refine lv_aload_n hx hb dX12_command_91 rfl (lv_at hl 0 rfl) ?_
      refine lv_iload_n hx hb dX12_command_92 rfl (lv_at hl 1 rfl) ?_
      refine kcI (n := 1) (c_defun ra0 h) G_defun E_defun X hw (Nat.le_trans (Nat.le_of_ble_eq_true rfl) hRf) (Nat.le_trans (Nat.le_of_ble_eq_true rfl) hRl) rfl hl.1 (Nat.le_of_ble_eq_true rfl) rfl dX12_command_93 (fun v3 u H locs rv3 h hw => ?_)
      exact hret _ _ _ _ _ _ rv3 h hw dX12_command_96
    refine br_sp h (fun ek h => ?_) (fun n5 h => ?_)
    · refine k_tabIn (tgt := 130) (off := 114) hx hb dX12_command_16 ek (by decide) (by decide) rfl rfl ?_
      refine lv_iconst hx hb dX12_command_130 (v := jI 2) rfl ?_
      exact hret _ _ _ _ _ _ (by decide) h hw dX12_command_131
    refine br_sp h (fun ek h => ?_) (fun n7 h => ?_)
    · refine k_tabIn (tgt := 72) (off := 56) hx hb dX12_command_16 ek (by decide) (by decide) rfl rfl ?_
      refine lv_aload_n hx hb dX12_command_72 rfl (lv_at hl 0 rfl) ?_
      refine lv_iload_n hx hb dX12_command_73 rfl (lv_at hl 1 rfl) ?_
      refine kcI (n := 1) (c_eval ra0 h) G_eval E_eval X hw (Nat.le_trans (Nat.le_of_ble_eq_true rfl) hRf) (Nat.le_trans (Nat.le_of_ble_eq_true rfl) hRl) rfl hl.1 (Nat.le_of_ble_eq_true rfl) rfl dX12_command_74 (fun v6 u H locs rv6 h hw => ?_)
      exact hret _ _ _ _ _ _ rv6 h hw dX12_command_77
    refine br_sp h (fun ek h => ?_) (fun n9 h => ?_)
    · refine k_tabIn (tgt := 78) (off := 62) hx hb dX12_command_16 ek (by decide) (by decide) rfl rfl ?_
      refine lv_aload_n hx hb dX12_command_78 rfl (lv_at hl 0 rfl) ?_
      refine lv_iload_n hx hb dX12_command_79 rfl (lv_at hl 1 rfl) ?_
      refine kcI (n := 1) (c_simplify ra0 h) G_simplify E_simplify X hw (Nat.le_trans (Nat.le_of_ble_eq_true rfl) hRf) (Nat.le_trans (Nat.le_of_ble_eq_true rfl) hRl) rfl hl.1 (Nat.le_of_ble_eq_true rfl) rfl dX12_command_80 (fun v8 u H locs rv8 h hw => ?_)
      exact hret _ _ _ _ _ _ rv8 h hw dX12_command_83
    refine br_sp h (fun ek h => ?_) (fun n11 h => ?_)
    · refine k_tabIn (tgt := 84) (off := 68) hx hb dX12_command_16 ek (by decide) (by decide) rfl rfl ?_
      refine lv_aload_n hx hb dX12_command_84 rfl (lv_at hl 0 rfl) ?_
      refine lv_iload_n hx hb dX12_command_85 rfl (lv_at hl 1 rfl) ?_
      refine lv_iconst hx hb dX12_command_86 (v := jI 0) rfl ?_
      refine kcI (n := 2) (c_defthm ra0 (by decide) h) G_defthm E_defthm X hw (Nat.le_trans (Nat.le_of_ble_eq_true rfl) hRf) (Nat.le_trans (Nat.le_of_ble_eq_true rfl) hRl) rfl hl.1 (Nat.le_of_ble_eq_true rfl) rfl dX12_command_87 (fun v10 u H locs rv10 h hw => ?_)
      exact hret _ _ _ _ _ _ rv10 h hw dX12_command_90
    refine br_sp h (fun ek h => ?_) (fun n13 h => ?_)
    · refine k_tabIn (tgt := 97) (off := 81) hx hb dX12_command_16 ek (by decide) (by decide) rfl rfl ?_
      refine lv_aload_n hx hb dX12_command_97 rfl (lv_at hl 0 rfl) ?_
      refine lv_iload_n hx hb dX12_command_98 rfl (lv_at hl 1 rfl) ?_
      refine lv_iconst hx hb dX12_command_99 (v := jI 1) rfl ?_
      refine kcI (n := 2) (c_defthm ra0 (by decide) h) G_defthm E_defthm X hw (Nat.le_trans (Nat.le_of_ble_eq_true rfl) hRf) (Nat.le_trans (Nat.le_of_ble_eq_true rfl) hRl) rfl hl.1 (Nat.le_of_ble_eq_true rfl) rfl dX12_command_100 (fun v12 u H locs rv12 h hw => ?_)
      exact hret _ _ _ _ _ _ rv12 h hw dX12_command_103
    refine br_sp h (fun ek h => ?_) (fun n15 h => ?_)
    · refine k_tabIn (tgt := 110) (off := 94) hx hb dX12_command_16 ek (by decide) (by decide) rfl rfl ?_
      refine lv_aload_n hx hb dX12_command_110 rfl (lv_at hl 0 rfl) ?_
      refine lv_iload_n hx hb dX12_command_111 rfl (lv_at hl 1 rfl) ?_
      refine lv_iconst hx hb dX12_command_112 (v := jI 1) rfl ?_
      refine kcI (n := 2) (c_turn ra0 (by decide) h) G_turn E_turn X hw (Nat.le_trans (Nat.le_of_ble_eq_true rfl) hRf) (Nat.le_trans (Nat.le_of_ble_eq_true rfl) hRl) rfl hl.1 (Nat.le_of_ble_eq_true rfl) rfl dX12_command_113 (fun v14 u H locs rv14 h hw => ?_)
      exact hret _ _ _ _ _ _ rv14 h hw dX12_command_116
    refine br_sp h (fun ek h => ?_) (fun n17 h => ?_)
    · refine k_tabIn (tgt := 117) (off := 101) hx hb dX12_command_16 ek (by decide) (by decide) rfl rfl ?_
      refine lv_aload_n hx hb dX12_command_117 rfl (lv_at hl 0 rfl) ?_
      refine lv_iload_n hx hb dX12_command_118 rfl (lv_at hl 1 rfl) ?_
      refine lv_iconst hx hb dX12_command_119 (v := jI 0) rfl ?_
      refine kcI (n := 2) (c_turn ra0 (by decide) h) G_turn E_turn X hw (Nat.le_trans (Nat.le_of_ble_eq_true rfl) hRf) (Nat.le_trans (Nat.le_of_ble_eq_true rfl) hRl) rfl hl.1 (Nat.le_of_ble_eq_true rfl) rfl dX12_command_120 (fun v16 u H locs rv16 h hw => ?_)
      exact hret _ _ _ _ _ _ rv16 h hw dX12_command_123
    refine br_sp h (fun ek h => ?_) (fun n19 h => ?_)
    · refine k_tabIn (tgt := 124) (off := 108) hx hb dX12_command_16 ek (by decide) (by decide) rfl rfl ?_
      refine lv_aload_n hx hb dX12_command_124 rfl (lv_at hl 0 rfl) ?_
      refine lv_iload_n hx hb dX12_command_125 rfl (lv_at hl 1 rfl) ?_
      refine kcI (n := 1) (c_undo ra0 h) G_undo E_undo X hw (Nat.le_trans (Nat.le_of_ble_eq_true rfl) hRf) (Nat.le_trans (Nat.le_of_ble_eq_true rfl) hRl) rfl hl.1 (Nat.le_of_ble_eq_true rfl) rfl dX12_command_126 (fun v18 u H locs rv18 h hw => ?_)
      exact hret _ _ _ _ _ _ rv18 h hw dX12_command_129
    refine br_sp h (fun ek h => ?_) (fun n21 h => ?_)
    · refine k_tabIn (tgt := 104) (off := 88) hx hb dX12_command_16 ek (by decide) (by decide) rfl rfl ?_
      refine lv_aload_n hx hb dX12_command_104 rfl (lv_at hl 0 rfl) ?_
      refine lv_iload_n hx hb dX12_command_105 rfl (lv_at hl 1 rfl) ?_
      refine kcI (n := 1) (c_check ra0 h) G_check E_check X hw (Nat.le_trans (Nat.le_of_ble_eq_true rfl) hRf) (Nat.le_trans (Nat.le_of_ble_eq_true rfl) hRl) rfl hl.1 (Nat.le_of_ble_eq_true rfl) rfl dX12_command_106 (fun v20 u H locs rv20 h hw => ?_)
      exact hret _ _ _ _ _ _ rv20 h hw dX12_command_109
    refine k_tabOut (tgt := 130) hx hb rv2 dX12_command_16 (by omega) rfl ?_
    refine lv_iconst hx hb dX12_command_130 (v := jI 2) rfl ?_
    exact hret _ _ _ _ _ _ (by decide) h hw dX12_command_131
  · refine lv_iconst hx hb dX12_command_8 (v := jI 2) rfl ?_
    exact hret _ _ _ _ _ _ (by decide) h hw dX12_command_9

end
theorem c_command {l : Launch} {a0 : Int} (ra0 : inR a0) {Q : Int → iST → Prop} {u : iST} (h : w_command a0 Q u) : kMI l yX12_command (.code yX12_command cX12_command 2 (some .int) :: wsM) { frames := 17, cells := 0, slots := 0, locals := 404 } [.int (jI a0)] Q u := kMI_of rfl (fun _ => Nat.le_of_ble_eq_true rfl) (fun X hRf hRl hret hw hl => b_command_s X hRf hRl hret ra0 hw hl h)
