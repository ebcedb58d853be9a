/-! beginEval -/
theorem dX12_beginEval_0 : decode cX12_beginEval 0 = .ok (.aload_n 0, 1) := by decide +kernel
theorem dX12_beginEval_1 : decode cX12_beginEval 1 = .ok (.iconst 1, 1) := by decide +kernel
theorem dX12_beginEval_2 : decode cX12_beginEval 2 = .ok (.putfield 564, 3) := by decide +kernel
theorem dX12_beginEval_5 : decode cX12_beginEval 5 = .ok (.aload_n 0, 1) := by decide +kernel
theorem dX12_beginEval_6 : decode cX12_beginEval 6 = .ok (.iload_n 1, 1) := by decide +kernel
theorem dX12_beginEval_7 : decode cX12_beginEval 7 = .ok (.invokevirtual 546, 3) := by decide +kernel
theorem dX12_beginEval_10 : decode cX12_beginEval 10 = .ok (.ifCond .eq 13, 3) := by decide +kernel
theorem dX12_beginEval_13 : decode cX12_beginEval 13 = .ok (.aload_n 0, 1) := by decide +kernel
theorem dX12_beginEval_14 : decode cX12_beginEval 14 = .ok (.aload_n 0, 1) := by decide +kernel
theorem dX12_beginEval_15 : decode cX12_beginEval 15 = .ok (.iload_n 1, 1) := by decide +kernel
theorem dX12_beginEval_16 : decode cX12_beginEval 16 = .ok (.invokevirtual 567, 3) := by decide +kernel
theorem dX12_beginEval_19 : decode cX12_beginEval 19 = .ok (.putfield 570, 3) := by decide +kernel
theorem dX12_beginEval_22 : decode cX12_beginEval 22 = .ok (.return_, 1) := by decide +kernel
theorem dX12_beginEval_23 : decode cX12_beginEval 23 = .ok (.aload_n 0, 1) := by decide +kernel
theorem dX12_beginEval_24 : decode cX12_beginEval 24 = .ok (.iload_n 1, 1) := by decide +kernel
theorem dX12_beginEval_25 : decode cX12_beginEval 25 = .ok (.invokevirtual 365, 3) := by decide +kernel
theorem dX12_beginEval_28 : decode cX12_beginEval 28 = .ok (.ifCond .ne 42, 3) := by decide +kernel
theorem dX12_beginEval_31 : decode cX12_beginEval 31 = .ok (.iconst 0, 1) := by decide +kernel
theorem dX12_beginEval_32 : decode cX12_beginEval 32 = .ok (.istore 5, 2) := by decide +kernel
theorem dX12_beginEval_34 : decode cX12_beginEval 34 = .ok (.aload_n 0, 1) := by decide +kernel
theorem dX12_beginEval_35 : decode cX12_beginEval 35 = .ok (.getfield 84, 3) := by decide +kernel
theorem dX12_beginEval_38 : decode cX12_beginEval 38 = .ok (.bipush 6, 2) := by decide +kernel
theorem dX12_beginEval_40 : decode cX12_beginEval 40 = .ok (.iload_n 2, 1) := by decide +kernel
theorem dX12_beginEval_41 : decode cX12_beginEval 41 = .ok (.imul, 1) := by decide +kernel
theorem dX12_beginEval_42 : decode cX12_beginEval 42 = .ok (.iload 5, 2) := by decide +kernel
theorem dX12_beginEval_44 : decode cX12_beginEval 44 = .ok (.iadd, 1) := by decide +kernel
theorem dX12_beginEval_45 : decode cX12_beginEval 45 = .ok (.iaload, 1) := by decide +kernel
theorem dX12_beginEval_46 : decode cX12_beginEval 46 = .ok (.iload_n 1, 1) := by decide +kernel
theorem dX12_beginEval_47 : decode cX12_beginEval 47 = .ok (.if_icmp .eq 9, 3) := by decide +kernel
theorem dX12_beginEval_50 : decode cX12_beginEval 50 = .ok (.iinc 5 1, 3) := by decide +kernel
theorem dX12_beginEval_53 : decode cX12_beginEval 53 = .ok (.goto (-19), 3) := by decide +kernel
theorem dX12_beginEval_56 : decode cX12_beginEval 56 = .ok (.aload_n 0, 1) := by decide +kernel
theorem dX12_beginEval_57 : decode cX12_beginEval 57 = .ok (.aload_n 0, 1) := by decide +kernel
theorem dX12_beginEval_58 : decode cX12_beginEval 58 = .ok (.getfield 187, 3) := by decide +kernel
theorem dX12_beginEval_61 : decode cX12_beginEval 61 = .ok (.iload_n 3, 1) := by decide +kernel
theorem dX12_beginEval_62 : decode cX12_beginEval 62 = .ok (.iload 5, 2) := by decide +kernel
theorem dX12_beginEval_64 : decode cX12_beginEval 64 = .ok (.iadd, 1) := by decide +kernel
theorem dX12_beginEval_65 : decode cX12_beginEval 65 = .ok (.iaload, 1) := by decide +kernel
theorem dX12_beginEval_66 : decode cX12_beginEval 66 = .ok (.putfield 570, 3) := by decide +kernel
theorem dX12_beginEval_69 : decode cX12_beginEval 69 = .ok (.return_, 1) := by decide +kernel
theorem dX12_beginEval_70 : decode cX12_beginEval 70 = .ok (.aload_n 0, 1) := by decide +kernel
theorem dX12_beginEval_71 : decode cX12_beginEval 71 = .ok (.iconst 0, 1) := by decide +kernel
theorem dX12_beginEval_72 : decode cX12_beginEval 72 = .ok (.putfield 564, 3) := by decide +kernel
theorem dX12_beginEval_75 : decode cX12_beginEval 75 = .ok (.aload_n 0, 1) := by decide +kernel
theorem dX12_beginEval_76 : decode cX12_beginEval 76 = .ok (.getfield 573, 3) := by decide +kernel
theorem dX12_beginEval_79 : decode cX12_beginEval 79 = .ok (.sipush 300, 3) := by decide +kernel
theorem dX12_beginEval_82 : decode cX12_beginEval 82 = .ok (.if_icmp .ne 9, 3) := by decide +kernel
theorem dX12_beginEval_85 : decode cX12_beginEval 85 = .ok (.aload_n 0, 1) := by decide +kernel
theorem dX12_beginEval_86 : decode cX12_beginEval 86 = .ok (.iconst 2, 1) := by decide +kernel
theorem dX12_beginEval_87 : decode cX12_beginEval 87 = .ok (.putfield 576, 3) := by decide +kernel
theorem dX12_beginEval_90 : decode cX12_beginEval 90 = .ok (.return_, 1) := by decide +kernel
theorem dX12_beginEval_91 : decode cX12_beginEval 91 = .ok (.iload 4, 2) := by decide +kernel
theorem dX12_beginEval_93 : decode cX12_beginEval 93 = .ok (.ifCond .eq 16, 3) := by decide +kernel
theorem dX12_beginEval_96 : decode cX12_beginEval 96 = .ok (.aload_n 0, 1) := by decide +kernel
theorem dX12_beginEval_97 : decode cX12_beginEval 97 = .ok (.getfield 579, 3) := by decide +kernel
theorem dX12_beginEval_100 : decode cX12_beginEval 100 = .ok (.ifCond .ne 9, 3) := by decide +kernel
theorem dX12_beginEval_103 : decode cX12_beginEval 103 = .ok (.aload_n 0, 1) := by decide +kernel
theorem dX12_beginEval_104 : decode cX12_beginEval 104 = .ok (.iconst (-1), 1) := by decide +kernel
theorem dX12_beginEval_105 : decode cX12_beginEval 105 = .ok (.putfield 576, 3) := by decide +kernel
theorem dX12_beginEval_108 : decode cX12_beginEval 108 = .ok (.return_, 1) := by decide +kernel
theorem dX12_beginEval_109 : decode cX12_beginEval 109 = .ok (.aload_n 0, 1) := by decide +kernel
theorem dX12_beginEval_110 : decode cX12_beginEval 110 = .ok (.getfield 561, 3) := by decide +kernel
theorem dX12_beginEval_113 : decode cX12_beginEval 113 = .ok (.aload_n 0, 1) := by decide +kernel
theorem dX12_beginEval_114 : decode cX12_beginEval 114 = .ok (.getfield 139, 3) := by decide +kernel
theorem dX12_beginEval_117 : decode cX12_beginEval 117 = .ok (.if_icmp .ne 9, 3) := by decide +kernel
theorem dX12_beginEval_120 : decode cX12_beginEval 120 = .ok (.aload_n 0, 1) := by decide +kernel
theorem dX12_beginEval_121 : decode cX12_beginEval 121 = .ok (.iconst 1, 1) := by decide +kernel
theorem dX12_beginEval_122 : decode cX12_beginEval 122 = .ok (.putfield 576, 3) := by decide +kernel
theorem dX12_beginEval_125 : decode cX12_beginEval 125 = .ok (.return_, 1) := by decide +kernel
theorem dX12_beginEval_126 : decode cX12_beginEval 126 = .ok (.aload_n 0, 1) := by decide +kernel
theorem dX12_beginEval_127 : decode cX12_beginEval 127 = .ok (.dup, 1) := by decide +kernel
theorem dX12_beginEval_128 : decode cX12_beginEval 128 = .ok (.getfield 561, 3) := by decide +kernel
theorem dX12_beginEval_131 : decode cX12_beginEval 131 = .ok (.iconst 1, 1) := by decide +kernel
theorem dX12_beginEval_132 : decode cX12_beginEval 132 = .ok (.iadd, 1) := by decide +kernel
theorem dX12_beginEval_133 : decode cX12_beginEval 133 = .ok (.putfield 561, 3) := by decide +kernel
theorem dX12_beginEval_136 : decode cX12_beginEval 136 = .ok (.aload_n 0, 1) := by decide +kernel
theorem dX12_beginEval_137 : decode cX12_beginEval 137 = .ok (.dup, 1) := by decide +kernel
theorem dX12_beginEval_138 : decode cX12_beginEval 138 = .ok (.getfield 579, 3) := by decide +kernel
theorem dX12_beginEval_141 : decode cX12_beginEval 141 = .ok (.iconst 1, 1) := by decide +kernel
theorem dX12_beginEval_142 : decode cX12_beginEval 142 = .ok (.isub, 1) := by decide +kernel
theorem dX12_beginEval_143 : decode cX12_beginEval 143 = .ok (.putfield 579, 3) := by decide +kernel
theorem dX12_beginEval_146 : decode cX12_beginEval 146 = .ok (.aload_n 0, 1) := by decide +kernel
theorem dX12_beginEval_147 : decode cX12_beginEval 147 = .ok (.getfield 169, 3) := by decide +kernel
theorem dX12_beginEval_150 : decode cX12_beginEval 150 = .ok (.aload_n 0, 1) := by decide +kernel
theorem dX12_beginEval_151 : decode cX12_beginEval 151 = .ok (.getfield 573, 3) := by decide +kernel
theorem dX12_beginEval_154 : decode cX12_beginEval 154 = .ok (.iload_n 1, 1) := by decide +kernel
theorem dX12_beginEval_155 : decode cX12_beginEval 155 = .ok (.iastore, 1) := by decide +kernel
theorem dX12_beginEval_156 : decode cX12_beginEval 156 = .ok (.aload_n 0, 1) := by decide +kernel
theorem dX12_beginEval_157 : decode cX12_beginEval 157 = .ok (.getfield 172, 3) := by decide +kernel
theorem dX12_beginEval_160 : decode cX12_beginEval 160 = .ok (.aload_n 0, 1) := by decide +kernel
theorem dX12_beginEval_161 : decode cX12_beginEval 161 = .ok (.getfield 573, 3) := by decide +kernel
theorem dX12_beginEval_164 : decode cX12_beginEval 164 = .ok (.aload_n 0, 1) := by decide +kernel
theorem dX12_beginEval_165 : decode cX12_beginEval 165 = .ok (.getfield 14, 3) := by decide +kernel
theorem dX12_beginEval_168 : decode cX12_beginEval 168 = .ok (.iload_n 1, 1) := by decide +kernel
theorem dX12_beginEval_169 : decode cX12_beginEval 169 = .ok (.iaload, 1) := by decide +kernel
theorem dX12_beginEval_170 : decode cX12_beginEval 170 = .ok (.iastore, 1) := by decide +kernel
theorem dX12_beginEval_171 : decode cX12_beginEval 171 = .ok (.aload_n 0, 1) := by decide +kernel
theorem dX12_beginEval_172 : decode cX12_beginEval 172 = .ok (.getfield 175, 3) := by decide +kernel
theorem dX12_beginEval_175 : decode cX12_beginEval 175 = .ok (.aload_n 0, 1) := by decide +kernel
theorem dX12_beginEval_176 : decode cX12_beginEval 176 = .ok (.getfield 573, 3) := by decide +kernel
theorem dX12_beginEval_179 : decode cX12_beginEval 179 = .ok (.aload_n 0, 1) := by decide +kernel
theorem dX12_beginEval_180 : decode cX12_beginEval 180 = .ok (.getfield 582, 3) := by decide +kernel
theorem dX12_beginEval_183 : decode cX12_beginEval 183 = .ok (.iastore, 1) := by decide +kernel
theorem dX12_beginEval_184 : decode cX12_beginEval 184 = .ok (.aload_n 0, 1) := by decide +kernel
theorem dX12_beginEval_185 : decode cX12_beginEval 185 = .ok (.getfield 178, 3) := by decide +kernel
theorem dX12_beginEval_188 : decode cX12_beginEval 188 = .ok (.aload_n 0, 1) := by decide +kernel
theorem dX12_beginEval_189 : decode cX12_beginEval 189 = .ok (.getfield 573, 3) := by decide +kernel
theorem dX12_beginEval_192 : decode cX12_beginEval 192 = .ok (.iload_n 2, 1) := by decide +kernel
theorem dX12_beginEval_193 : decode cX12_beginEval 193 = .ok (.iastore, 1) := by decide +kernel
theorem dX12_beginEval_194 : decode cX12_beginEval 194 = .ok (.aload_n 0, 1) := by decide +kernel
theorem dX12_beginEval_195 : decode cX12_beginEval 195 = .ok (.getfield 181, 3) := by decide +kernel
theorem dX12_beginEval_198 : decode cX12_beginEval 198 = .ok (.aload_n 0, 1) := by decide +kernel
theorem dX12_beginEval_199 : decode cX12_beginEval 199 = .ok (.getfield 573, 3) := by decide +kernel
theorem dX12_beginEval_202 : decode cX12_beginEval 202 = .ok (.iload_n 3, 1) := by decide +kernel
theorem dX12_beginEval_203 : decode cX12_beginEval 203 = .ok (.iastore, 1) := by decide +kernel
theorem dX12_beginEval_204 : decode cX12_beginEval 204 = .ok (.aload_n 0, 1) := by decide +kernel
theorem dX12_beginEval_205 : decode cX12_beginEval 205 = .ok (.getfield 184, 3) := by decide +kernel
theorem dX12_beginEval_208 : decode cX12_beginEval 208 = .ok (.aload_n 0, 1) := by decide +kernel
theorem dX12_beginEval_209 : decode cX12_beginEval 209 = .ok (.getfield 573, 3) := by decide +kernel
theorem dX12_beginEval_212 : decode cX12_beginEval 212 = .ok (.iconst 0, 1) := by decide +kernel
theorem dX12_beginEval_213 : decode cX12_beginEval 213 = .ok (.bastore, 1) := by decide +kernel
theorem dX12_beginEval_214 : decode cX12_beginEval 214 = .ok (.aload_n 0, 1) := by decide +kernel
theorem dX12_beginEval_215 : decode cX12_beginEval 215 = .ok (.dup, 1) := by decide +kernel
theorem dX12_beginEval_216 : decode cX12_beginEval 216 = .ok (.getfield 573, 3) := by decide +kernel
theorem dX12_beginEval_219 : decode cX12_beginEval 219 = .ok (.iconst 1, 1) := by decide +kernel
theorem dX12_beginEval_220 : decode cX12_beginEval 220 = .ok (.iadd, 1) := by decide +kernel
theorem dX12_beginEval_221 : decode cX12_beginEval 221 = .ok (.putfield 573, 3) := by decide +kernel
theorem dX12_beginEval_224 : decode cX12_beginEval 224 = .ok (.return_, 1) := by decide +kernel

section
variable {p : Program} {l : Launch} {e : Env} {R : Room} {s : State} {m : MethodId} {args : Array Value} {below : List Frame} {meth : Method} {c : Code} {H : Heap} {locs : List Loc} {Qf : State → Prop}
variable {ls : Array Slot} {D : va_G} {ca : Nat → ClassId} {A : Nat → Prop} {h0 : Nat} {ad : Nat → Nat} {H0 : Heap} {u : iST}
def w_beginEval_109 (Q : iST → Prop) (x1 : Int) (x2 : Int) (x3 : Int) (u : iST) : Prop :=
  rd (u.1 60) (fun v4 => 
  rd (u.1 59) (fun v5 => 
  br (v4 ≠ v5) (
    rd (u.1 60) (fun v6 => 
    ov (v6 + 1) (
    sw (iI u 60 (v6 + 1)) (fun u => 
    rd (u.1 88) (fun v8 => 
    ov (v8 - 1) (
    sw (iI u 88 (v8 - 1)) (fun u => 
    rd (u.1 85) (fun v10 => 
    bd v10 300 (sw (iA u 79 v10 x1) (fun u => 
    rd (u.1 85) (fun v11 => 
    bd x1 452000 (rd (u.2.1 1 x1) (fun v12 => 
    bd v11 300 (sw (iA u 80 v11 v12) (fun u => 
    rd (u.1 85) (fun v13 => 
    rd (u.1 87) (fun v14 => 
    bd v13 300 (sw (iA u 81 v13 v14) (fun u => 
    rd (u.1 85) (fun v15 => 
    bd v15 300 (sw (iA u 82 v15 x2) (fun u => 
    rd (u.1 85) (fun v16 => 
    bd v16 300 (sw (iA u 83 v16 x3) (fun u => 
    rd (u.1 85) (fun v17 => 
    zt 0 (bd v17 300 (sw (iA u 84 v17 0) (fun u => 
    rd (u.1 85) (fun v18 => 
    ov (v18 + 1) (
    sw (iI u 85 (v18 + 1)) (fun u => 
    Q u)))))))))))))))))))))))))))))))) (
    sw (iI u 89 1) (fun u => 
    Q u))))
set_option maxRecDepth 20000 in
set_option maxHeartbeats 4000000 in
theorem b_beginEval_109 (X : kX p m c cX12_beginEval 6 s args D ca) (hRf : 3 ≤ R.frames) (hRl : 63 ≤ R.locals) {Q : iST → Prop} (hret : ∀ (u : iST) (H : Heap) (locs : List Loc) (ls : Array Slot) (pc : Nat), Q u → kW D ca A h0 ad H0 H locs u → decode cX12_beginEval pc = .ok (.return_, 1) → W p l e R s m args below meth c H locs 0 0 Qf (F0 m pc ls [])) {x1 x2 x3 : Int} (rx1 : inR x1) (rx2 : inR x2) (rx3 : inR x3) (hw : kW D ca A h0 ad H0 H locs u) (hl : lv_has ls 6 [(0, .ref h0), (1, .int (jI x1)), (2, .int (jI x2)), (3, .int (jI x3))]) (h : w_beginEval_109 Q x1 x2 x3 u) : W p l e R s m args below meth c H locs 0 0 Qf (F0 m 109 ls []) := by
  have hx := X.1.1
  have hb := X.1.2.1
  unfold w_beginEval_109 at h
  refine lv_aload_n hx hb dX12_beginEval_109 rfl (lv_at hl 0 rfl) ?_
  refine gS 60 561 (by decide) L_60 (fun _ _ => mF_60) rfl X hw dX12_beginEval_110 h (fun v4 rv4 h => ?_)
  refine lv_aload_n hx hb dX12_beginEval_113 rfl (lv_at hl 0 rfl) ?_
  refine gS 59 139 (by decide) L_59 (fun _ _ => mF_59) rfl X hw dX12_beginEval_114 h (fun v5 rv5 h => ?_)
  refine k_icmp_ne hx hb rv4 rv5 dX12_beginEval_117 (tgt := 126) rfl h (fun h => ?_) (fun h => ?_)
  · refine lv_aload_n hx hb dX12_beginEval_126 rfl (lv_at hl 0 rfl) ?_
    refine lv_dup hx hb dX12_beginEval_127 rfl ?_
    refine gS 60 561 (by decide) L_60 (fun _ _ => mF_60) rfl X hw dX12_beginEval_128 h (fun v6 rv6 h => ?_)
    refine lv_iconst hx hb dX12_beginEval_131 (v := jI 1) rfl ?_
    refine k_iadd hx hb dX12_beginEval_132 h (fun r7 h => ?_)
    refine pS 60 561 (by decide) L_60 rfl rfl rfl (fun _ _ _ _ _ => mSI_60) (by decide) X hw r7 dX12_beginEval_133 h (fun H locs u hw h => ?_)
    refine lv_aload_n hx hb dX12_beginEval_136 rfl (lv_at hl 0 rfl) ?_
    refine lv_dup hx hb dX12_beginEval_137 rfl ?_
    refine gS 88 579 (by decide) L_88 (fun _ _ => mF_88) rfl X hw dX12_beginEval_138 h (fun v8 rv8 h => ?_)
    refine lv_iconst hx hb dX12_beginEval_141 (v := jI 1) rfl ?_
    refine k_isub hx hb dX12_beginEval_142 h (fun r9 h => ?_)
    refine pS 88 579 (by decide) L_88 rfl rfl rfl (fun _ _ _ _ _ => mSI_88) (by decide) X hw r9 dX12_beginEval_143 h (fun H locs u hw h => ?_)
    refine lv_aload_n hx hb dX12_beginEval_146 rfl (lv_at hl 0 rfl) ?_
    refine gA 79 169 (by decide) L_79 (fun _ _ => mF_79) rfl X hw dX12_beginEval_147 ?_
    refine lv_aload_n hx hb dX12_beginEval_150 rfl (lv_at hl 0 rfl) ?_
    refine gS 85 573 (by decide) L_85 (fun _ _ => mF_85) rfl X hw dX12_beginEval_151 h (fun v10 rv10 h => ?_)
    refine lv_iload_n hx hb dX12_beginEval_154 rfl (lv_at hl 1 rfl) ?_
    refine aS 79 49 48 300 (fun _ _ _ _ => mG_79) (fun _ => rfl) (fun _ _ _ _ _ _ => mSA_79) (by decide) X hw rv10 rx1 dX12_beginEval_155 rfl h (fun H locs u hw h => ?_)
    refine lv_aload_n hx hb dX12_beginEval_156 rfl (lv_at hl 0 rfl) ?_
    refine gA 80 172 (by decide) L_80 (fun _ _ => mF_80) rfl X hw dX12_beginEval_157 ?_
    refine lv_aload_n hx hb dX12_beginEval_160 rfl (lv_at hl 0 rfl) ?_
    refine gS 85 573 (by decide) L_85 (fun _ _ => mF_85) rfl X hw dX12_beginEval_161 h (fun v11 rv11 h => ?_)
    refine lv_aload_n hx hb dX12_beginEval_164 rfl (lv_at hl 0 rfl) ?_
    refine gA 1 14 (by decide) L_1 (fun _ _ => mF_1) rfl X hw dX12_beginEval_165 ?_
    refine lv_iload_n hx hb dX12_beginEval_168 rfl (lv_at hl 1 rfl) ?_
    refine aL 1 2 1 452000 (fun _ _ _ _ => mG_1) (fun _ => rfl) X hw rx1 dX12_beginEval_169 rfl h (fun v12 rv12 h => ?_)
    refine aS 80 50 49 300 (fun _ _ _ _ => mG_80) (fun _ => rfl) (fun _ _ _ _ _ _ => mSA_80) (by decide) X hw rv11 rv12 dX12_beginEval_170 rfl h (fun H locs u hw h => ?_)
    refine lv_aload_n hx hb dX12_beginEval_171 rfl (lv_at hl 0 rfl) ?_
    refine gA 81 175 (by decide) L_81 (fun _ _ => mF_81) rfl X hw dX12_beginEval_172 ?_
    refine lv_aload_n hx hb dX12_beginEval_175 rfl (lv_at hl 0 rfl) ?_
    refine gS 85 573 (by decide) L_85 (fun _ _ => mF_85) rfl X hw dX12_beginEval_176 h (fun v13 rv13 h => ?_)
    refine lv_aload_n hx hb dX12_beginEval_179 rfl (lv_at hl 0 rfl) ?_
    refine gS 87 582 (by decide) L_87 (fun _ _ => mF_87) rfl X hw dX12_beginEval_180 h (fun v14 rv14 h => ?_)
    refine aS 81 51 50 300 (fun _ _ _ _ => mG_81) (fun _ => rfl) (fun _ _ _ _ _ _ => mSA_81) (by decide) X hw rv13 rv14 dX12_beginEval_183 rfl h (fun H locs u hw h => ?_)
    refine lv_aload_n hx hb dX12_beginEval_184 rfl (lv_at hl 0 rfl) ?_
    refine gA 82 178 (by decide) L_82 (fun _ _ => mF_82) rfl X hw dX12_beginEval_185 ?_
    refine lv_aload_n hx hb dX12_beginEval_188 rfl (lv_at hl 0 rfl) ?_
    refine gS 85 573 (by decide) L_85 (fun _ _ => mF_85) rfl X hw dX12_beginEval_189 h (fun v15 rv15 h => ?_)
    refine lv_iload_n hx hb dX12_beginEval_192 rfl (lv_at hl 2 rfl) ?_
    refine aS 82 52 51 300 (fun _ _ _ _ => mG_82) (fun _ => rfl) (fun _ _ _ _ _ _ => mSA_82) (by decide) X hw rv15 rx2 dX12_beginEval_193 rfl h (fun H locs u hw h => ?_)
    refine lv_aload_n hx hb dX12_beginEval_194 rfl (lv_at hl 0 rfl) ?_
    refine gA 83 181 (by decide) L_83 (fun _ _ => mF_83) rfl X hw dX12_beginEval_195 ?_
    refine lv_aload_n hx hb dX12_beginEval_198 rfl (lv_at hl 0 rfl) ?_
    refine gS 85 573 (by decide) L_85 (fun _ _ => mF_85) rfl X hw dX12_beginEval_199 h (fun v16 rv16 h => ?_)
    refine lv_iload_n hx hb dX12_beginEval_202 rfl (lv_at hl 3 rfl) ?_
    refine aS 83 53 52 300 (fun _ _ _ _ => mG_83) (fun _ => rfl) (fun _ _ _ _ _ _ => mSA_83) (by decide) X hw rv16 rx3 dX12_beginEval_203 rfl h (fun H locs u hw h => ?_)
    refine lv_aload_n hx hb dX12_beginEval_204 rfl (lv_at hl 0 rfl) ?_
    refine gA 84 184 (by decide) L_84 (fun _ _ => mF_84) rfl X hw dX12_beginEval_205 ?_
    refine lv_aload_n hx hb dX12_beginEval_208 rfl (lv_at hl 0 rfl) ?_
    refine gS 85 573 (by decide) L_85 (fun _ _ => mF_85) rfl X hw dX12_beginEval_209 h (fun v17 rv17 h => ?_)
    refine lv_iconst hx hb dX12_beginEval_212 (v := jI 0) rfl ?_
    refine aY 84 54 53 300 (fun _ _ _ _ => mG_84) (fun _ => rfl) (fun _ _ _ _ _ _ => mSA_84) X hw rv17 dX12_beginEval_213 rfl h (fun H locs u hw h => ?_)
    refine lv_aload_n hx hb dX12_beginEval_214 rfl (lv_at hl 0 rfl) ?_
    refine lv_dup hx hb dX12_beginEval_215 rfl ?_
    refine gS 85 573 (by decide) L_85 (fun _ _ => mF_85) rfl X hw dX12_beginEval_216 h (fun v18 rv18 h => ?_)
    refine lv_iconst hx hb dX12_beginEval_219 (v := jI 1) rfl ?_
    refine k_iadd hx hb dX12_beginEval_220 h (fun r19 h => ?_)
    refine pS 85 573 (by decide) L_85 rfl rfl rfl (fun _ _ _ _ _ => mSI_85) (by decide) X hw r19 dX12_beginEval_221 h (fun H locs u hw h => ?_)
    exact hret _ _ _ _ _ h hw dX12_beginEval_224
  · refine lv_aload_n hx hb dX12_beginEval_120 rfl (lv_at hl 0 rfl) ?_
    refine lv_iconst hx hb dX12_beginEval_121 (v := jI 1) rfl ?_
    refine pS 89 576 (by decide) L_89 rfl rfl rfl (fun _ _ _ _ _ => mSI_89) (by decide) X hw (by decide) dX12_beginEval_122 h (fun H locs u hw h => ?_)
    exact hret _ _ _ _ _ h hw dX12_beginEval_125

def w_beginEval_34b (R34 : Int → Int → Int → Int → iST → Prop) (Q : iST → Prop) (x1 : Int) (x2 : Int) (x3 : Int) (x5 : Int) (u : iST) : Prop :=
  ov (6 * x2) (
  ov ((6 * x2) + x5) (
  bd ((6 * x2) + x5) 240 (rd (u.2.1 38 ((6 * x2) + x5)) (fun v23 => 
  br (v23 = x1) (
    ov (x3 + x5) (
    bd (x3 + x5) 2400 (rd (u.2.1 86 (x3 + x5)) (fun v25 => 
    sw (iI u 91 v25) (fun u => 
    Q u))))) (
    ov (x5 + 1) (
    R34 x1 x2 x3 (x5 + 1) u))))))
def w_beginEval_34 (Q : iST → Prop) (x1 : Int) (x2 : Int) (x3 : Int) (x5 : Int) (u : iST) : Prop := ∀ R34 : Int → Int → Int → Int → iST → Prop, (∀ (x1 : Int) (x2 : Int) (x3 : Int) (x5 : Int) (u : iST), w_beginEval_34b R34 Q x1 x2 x3 x5 u → R34 x1 x2 x3 x5 u) → R34 x1 x2 x3 x5 u
set_option maxRecDepth 20000 in
set_option maxHeartbeats 4000000 in
theorem b_beginEval_34 (X : kX p m c cX12_beginEval 6 s args D ca) (hRf : 3 ≤ R.frames) (hRl : 63 ≤ R.locals) {Q : iST → Prop} (hret : ∀ (u : iST) (H : Heap) (locs : List Loc) (ls : Array Slot) (pc : Nat), Q u → kW D ca A h0 ad H0 H locs u → decode cX12_beginEval pc = .ok (.return_, 1) → W p l e R s m args below meth c H locs 0 0 Qf (F0 m pc ls [])) {x1 x2 x3 x5 : Int} (rx1 : inR x1) (rx2 : inR x2) (rx3 : inR x3) (rx5 : inR x5) (hw : kW D ca A h0 ad H0 H locs u) (hl : lv_has ls 6 [(0, .ref h0), (1, .int (jI x1)), (2, .int (jI x2)), (3, .int (jI x3)), (5, .int (jI x5))]) (h : w_beginEval_34 Q x1 x2 x3 x5 u) : W p l e R s m args below meth c H locs 0 0 Qf (F0 m 34 ls []) := by
  refine h (fun x1 x2 x3 x5 u => ∀ (H : Heap) (locs : List Loc) (ls : Array Slot), inR x1 → inR x2 → inR x3 → inR x5 → kW D ca A h0 ad H0 H locs u → lv_has ls 6 [(0, .ref h0), (1, .int (jI x1)), (2, .int (jI x2)), (3, .int (jI x3)), (5, .int (jI x5))] → W p l e R s m args below meth c H locs 0 0 Qf (F0 m 34 ls [])) ?_ H locs ls rx1 rx2 rx3 rx5 hw hl
  clear h hl hw rx1 rx2 rx3 rx5
  intro x1 x2 x3 x5 u h H locs ls rx1 rx2 rx3 rx5 hw hl
  have hR34 : ∀ (x1 : Int) (x2 : Int) (x3 : Int) (x5 : Int) (u : iST) (H : Heap) (locs : List Loc) (ls : Array Slot), inR x1 → inR x2 → inR x3 → inR x5 → kW D ca A h0 ad H0 H locs u → lv_has ls 6 [(0, .ref h0), (1, .int (jI x1)), (2, .int (jI x2)), (3, .int (jI x3)), (5, .int (jI x5))] → (fun (x1 : Int) (x2 : Int) (x3 : Int) (x5 : Int) u => ∀ (H : Heap) (locs : List Loc) (ls : Array Slot), inR x1 → inR x2 → inR x3 → inR x5 → kW D ca A h0 ad H0 H locs u → lv_has ls 6 [(0, .ref h0), (1, .int (jI x1)), (2, .int (jI x2)), (3, .int (jI x3)), (5, .int (jI x5))] → W p l e R s m args below meth c H locs 0 0 Qf (F0 m 34 ls [])) x1 x2 x3 x5 u → W p l e R s m args below meth c H locs 0 0 Qf (F0 m 34 ls []) := fun x1 x2 x3 x5 u H locs ls rx1 rx2 rx3 rx5 hw hl h => h H locs ls rx1 rx2 rx3 rx5 hw hl
  have hx := X.1.1
  have hb := X.1.2.1
  unfold w_beginEval_34b at h
  refine lv_aload_n hx hb dX12_beginEval_34 rfl (lv_at hl 0 rfl) ?_
  refine gA 38 84 (by decide) L_38 (fun _ _ => mF_38) rfl X hw dX12_beginEval_35 ?_
  refine lv_bipush hx hb dX12_beginEval_38 (v := jI 6) rfl ?_
  refine lv_iload_n hx hb dX12_beginEval_40 rfl (lv_at hl 2 rfl) ?_
  refine k_imul hx hb dX12_beginEval_41 h (fun r21 h => ?_)
  refine lv_iload hx hb dX12_beginEval_42 (lv_at hl 4 rfl) ?_
  refine k_iadd hx hb dX12_beginEval_44 h (fun r22 h => ?_)
  refine aL 38 23 22 240 (fun _ _ _ _ => mG_38) (fun _ => rfl) X hw r22 dX12_beginEval_45 rfl h (fun v23 rv23 h => ?_)
  refine lv_iload_n hx hb dX12_beginEval_46 rfl (lv_at hl 1 rfl) ?_
  refine k_icmp_eq hx hb rv23 rx1 dX12_beginEval_47 (tgt := 56) rfl h (fun h => ?_) (fun h => ?_)
  · refine lv_aload_n hx hb dX12_beginEval_56 rfl (lv_at hl 0 rfl) ?_
    refine lv_aload_n hx hb dX12_beginEval_57 rfl (lv_at hl 0 rfl) ?_
    refine gA 86 187 (by decide) L_86 (fun _ _ => mF_86) rfl X hw dX12_beginEval_58 ?_
    refine lv_iload_n hx hb dX12_beginEval_61 rfl (lv_at hl 3 rfl) ?_
    refine lv_iload hx hb dX12_beginEval_62 (lv_at hl 4 rfl) ?_
    refine k_iadd hx hb dX12_beginEval_64 h (fun r24 h => ?_)
    refine aL 86 55 54 2400 (fun _ _ _ _ => mG_86) (fun _ => rfl) X hw r24 dX12_beginEval_65 rfl h (fun v25 rv25 h => ?_)
    refine pS 91 570 (by decide) L_91 rfl rfl rfl (fun _ _ _ _ _ => mSI_91) (by decide) X hw rv25 dX12_beginEval_66 h (fun H locs u hw h => ?_)
    exact hret _ _ _ _ _ h hw dX12_beginEval_69
  · refine k_iinc (k := 4) hx hb dX12_beginEval_50 hl rfl (by decide) rfl h (fun ls r26 h hl => ?_)
    have hl : lv_has ls 6 [(5, .int (jI (x5 + 1))), (0, .ref (h0)), (1, .int (jI x1)), (2, .int (jI x2)), (3, .int (jI x3))] := hl
    refine lv_goto hx hb dX12_beginEval_53 (tgt := 34) rfl ?_
    exact hR34 _ _ _ _ _ H locs ls rx1 rx2 rx3 r26 hw (lv_sub hl [1, 2, 3, 4, 0] rfl) h

def w_beginEval (a0 : Int) (a1 : Int) (a2 : Int) (a3 : Int) (Q : iST → Prop) (u : iST) : Prop :=
  zt 1 (sw (iI u 90 1) (fun u => 
  w_isConstant a0 (fun v1 u => 
  br (v1 = 0) (
    w_isPair a0 (fun v2 u => 
    br (v2 ≠ 0) (
      zt 0 (sw (iI u 90 0) (fun u => 
      rd (u.1 85) (fun v3 => 
      br (v3 ≠ 300) (
        br (a3 = 0) (
          w_beginEval_109 Q a0 a1 a2 u) (
          rd (u.1 88) (fun v20 => 
          br (v20 ≠ 0) (
            w_beginEval_109 Q a0 a1 a2 u) (
            sw (iI u 89 (-1)) (fun u => 
            Q u))))) (
        sw (iI u 89 2) (fun u => 
        Q u)))))) (
      w_beginEval_34 Q a0 a1 a2 0 u)) u) (
    w_valueOf a0 (fun v27 u => 
    sw (iI u 91 v27) (fun u => 
    Q u)) u)) u))
set_option maxRecDepth 20000 in
set_option maxHeartbeats 4000000 in
theorem b_beginEval_s (X : kX p m c cX12_beginEval 6 s args D ca) (hRf : 3 ≤ R.frames) (hRl : 63 ≤ R.locals) {Q : iST → Prop} (hret : ∀ (u : iST) (H : Heap) (locs : List Loc) (ls : Array Slot) (pc : Nat), Q u → kW D ca A h0 ad H0 H locs u → decode cX12_beginEval pc = .ok (.return_, 1) → W p l e R s m args below meth c H locs 0 0 Qf (F0 m pc ls [])) {a0 a1 a2 a3 : Int} (ra0 : inR a0) (ra1 : inR a1) (ra2 : inR a2) (ra3 : inR a3) (hw : kW D ca A h0 ad H0 H locs u) (hl : lv_has ls 6 [(0, .ref h0), (1, .int (jI a0)), (2, .int (jI a1)), (3, .int (jI a2)), (4, .int (jI a3))]) (h : w_beginEval a0 a1 a2 a3 Q u) : W p l e R s m args below meth c H locs 0 0 Qf (F0 m 0 ls []) := by
  have hx := X.1.1
  have hb := X.1.2.1
  unfold w_beginEval at h
  refine lv_aload_n hx hb dX12_beginEval_0 rfl (lv_at hl 0 rfl) ?_
  refine lv_iconst hx hb dX12_beginEval_1 (v := jI 1) rfl ?_
  refine pZ 90 564 (by decide) L_90 rfl rfl rfl (fun _ _ _ _ _ => mSI_90) X hw dX12_beginEval_2 h (fun H locs u hw h => ?_)
  refine lv_aload_n hx hb dX12_beginEval_5 rfl (lv_at hl 0 rfl) ?_
  refine lv_iload_n hx hb dX12_beginEval_6 rfl (lv_at hl 1 rfl) ?_
  refine kcI (n := 1) (c_isConstant ra0 h) G_isConstant E_isConstant X hw (Nat.le_trans (Nat.le_of_ble_eq_true rfl) hRf) (Nat.le_trans (Nat.le_of_ble_eq_true rfl) hRl) rfl hl.1 (Nat.le_of_ble_eq_true rfl) rfl dX12_beginEval_7 (fun v1 u H locs rv1 h hw => ?_)
  refine k_if_eq hx hb rv1 dX12_beginEval_10 (tgt := 23) rfl h (fun h => ?_) (fun h => ?_)
  · refine lv_aload_n hx hb dX12_beginEval_23 rfl (lv_at hl 0 rfl) ?_
    refine lv_iload_n hx hb dX12_beginEval_24 rfl (lv_at hl 1 rfl) ?_
    refine kcI (n := 1) (c_isPair ra0 h) G_isPair E_isPair X hw (Nat.le_trans (Nat.le_of_ble_eq_true rfl) hRf) (Nat.le_trans (Nat.le_of_ble_eq_true rfl) hRl) rfl hl.1 (Nat.le_of_ble_eq_true rfl) rfl dX12_beginEval_25 (fun v2 u H locs rv2 h hw => ?_)
    refine k_if_ne hx hb rv2 dX12_beginEval_28 (tgt := 70) rfl h (fun h => ?_) (fun h => ?_)
    · refine lv_aload_n hx hb dX12_beginEval_70 rfl (lv_at hl 0 rfl) ?_
      refine lv_iconst hx hb dX12_beginEval_71 (v := jI 0) rfl ?_
      refine pZ 90 564 (by decide) L_90 rfl rfl rfl (fun _ _ _ _ _ => mSI_90) X hw dX12_beginEval_72 h (fun H locs u hw h => ?_)
      refine lv_aload_n hx hb dX12_beginEval_75 rfl (lv_at hl 0 rfl) ?_
      refine gS 85 573 (by decide) L_85 (fun _ _ => mF_85) rfl X hw dX12_beginEval_76 h (fun v3 rv3 h => ?_)
      refine lv_sipush hx hb dX12_beginEval_79 (v := jI 300) rfl ?_
      refine k_icmp_ne hx hb rv3 (by decide) dX12_beginEval_82 (tgt := 91) rfl h (fun h => ?_) (fun h => ?_)
      · refine lv_iload hx hb dX12_beginEval_91 (lv_at hl 4 rfl) ?_
        refine k_if_eq hx hb ra3 dX12_beginEval_93 (tgt := 109) rfl h (fun h => ?_) (fun h => ?_)
        · exact b_beginEval_109 X hRf hRl hret ra0 ra1 ra2 hw (lv_sub hl [0, 1, 2, 3] rfl) h
        · refine lv_aload_n hx hb dX12_beginEval_96 rfl (lv_at hl 0 rfl) ?_
          refine gS 88 579 (by decide) L_88 (fun _ _ => mF_88) rfl X hw dX12_beginEval_97 h (fun v20 rv20 h => ?_)
          refine k_if_ne hx hb rv20 dX12_beginEval_100 (tgt := 109) rfl h (fun h => ?_) (fun h => ?_)
          · exact b_beginEval_109 X hRf hRl hret ra0 ra1 ra2 hw (lv_sub hl [0, 1, 2, 3] rfl) h
          · refine lv_aload_n hx hb dX12_beginEval_103 rfl (lv_at hl 0 rfl) ?_
            refine lv_iconst hx hb dX12_beginEval_104 (v := jI (-1)) rfl ?_
            refine pS 89 576 (by decide) L_89 rfl rfl rfl (fun _ _ _ _ _ => mSI_89) (by decide) X hw (by decide) dX12_beginEval_105 h (fun H locs u hw h => ?_)
            exact hret _ _ _ _ _ h hw dX12_beginEval_108
      · refine lv_aload_n hx hb dX12_beginEval_85 rfl (lv_at hl 0 rfl) ?_
        refine lv_iconst hx hb dX12_beginEval_86 (v := jI 2) rfl ?_
        refine pS 89 576 (by decide) L_89 rfl rfl rfl (fun _ _ _ _ _ => mSI_89) (by decide) X hw (by decide) dX12_beginEval_87 h (fun H locs u hw h => ?_)
        exact hret _ _ _ _ _ h hw dX12_beginEval_90
    · refine lv_iconst hx hb dX12_beginEval_31 (v := jI 0) rfl ?_
      refine lv_istore hx hb dX12_beginEval_32 hl (by decide) rfl (fun ls hl => ?_)
      have hl : lv_has ls 6 [(5, .int (jI 0)), (0, .ref (h0)), (1, .int (jI a0)), (2, .int (jI a1)), (3, .int (jI a2)), (4, .int (jI a3))] := hl
      exact b_beginEval_34 X hRf hRl hret ra0 ra1 ra2 (by decide) hw (lv_sub hl [1, 2, 3, 4, 0] rfl) h
  · refine lv_aload_n hx hb dX12_beginEval_13 rfl (lv_at hl 0 rfl) ?_
    refine lv_aload_n hx hb dX12_beginEval_14 rfl (lv_at hl 0 rfl) ?_
    refine lv_iload_n hx hb dX12_beginEval_15 rfl (lv_at hl 1 rfl) ?_
    refine kcI (n := 1) (c_valueOf ra0 h) G_valueOf E_valueOf X hw (Nat.le_trans (Nat.le_of_ble_eq_true rfl) hRf) (Nat.le_trans (Nat.le_of_ble_eq_true rfl) hRl) rfl hl.1 (Nat.le_of_ble_eq_true rfl) rfl dX12_beginEval_16 (fun v27 u H locs rv27 h hw => ?_)
    refine pS 91 570 (by decide) L_91 rfl rfl rfl (fun _ _ _ _ _ => mSI_91) (by decide) X hw rv27 dX12_beginEval_19 h (fun H locs u hw h => ?_)
    exact hret _ _ _ _ _ h hw dX12_beginEval_22

end
theorem c_beginEval {l : Launch} {a0 : Int} {a1 : Int} {a2 : Int} {a3 : Int} (ra0 : inR a0) (ra1 : inR a1) (ra2 : inR a2) (ra3 : inR a3) {Q : iST → Prop} {u : iST} (h : w_beginEval a0 a1 a2 a3 Q u) : kMV l yX12_beginEval (.code yX12_beginEval cX12_beginEval 6 none :: wsM) { frames := 3, cells := 0, slots := 0, locals := 63 } [.int (jI a0), .int (jI a1), .int (jI a2), .int (jI a3)] Q u := kMV_of rfl (fun _ => Nat.le_of_ble_eq_true rfl) (fun X hRf hRl hret hw hl => b_beginEval_s X hRf hRl hret ra0 ra1 ra2 ra3 hw hl h)

/-! numberOf -/
theorem dX12_numberOf_0 : decode cX12_numberOf 0 = .ok (.aload_n 0, 1) := by decide +kernel
theorem dX12_numberOf_1 : decode cX12_numberOf 1 = .ok (.iload_n 1, 1) := by decide +kernel
theorem dX12_numberOf_2 : decode cX12_numberOf 2 = .ok (.invokevirtual 468, 3) := by decide +kernel
theorem dX12_numberOf_5 : decode cX12_numberOf 5 = .ok (.ifCond .eq 11, 3) := by decide +kernel
theorem dX12_numberOf_8 : decode cX12_numberOf 8 = .ok (.aload_n 0, 1) := by decide +kernel
theorem dX12_numberOf_9 : decode cX12_numberOf 9 = .ok (.iload_n 1, 1) := by decide +kernel
theorem dX12_numberOf_10 : decode cX12_numberOf 10 = .ok (.invokevirtual 321, 3) := by decide +kernel
theorem dX12_numberOf_13 : decode cX12_numberOf 13 = .ok (.goto 4, 3) := by decide +kernel
theorem dX12_numberOf_16 : decode cX12_numberOf 16 = .ok (.lconst 0, 1) := by decide +kernel
theorem dX12_numberOf_17 : decode cX12_numberOf 17 = .ok (.lreturn, 1) := by decide +kernel

section
variable {p : Program} {l : Launch} {e : Env} {R : Room} {s : State} {m : MethodId} {args : Array Value} {below : List Frame} {meth : Method} {c : Code} {H : Heap} {locs : List Loc} {Qf : State → Prop}
variable {ls : Array Slot} {D : va_G} {ca : Nat → ClassId} {A : Nat → Prop} {h0 : Nat} {ad : Nat → Nat} {H0 : Heap} {u : iST}
def w_numberOf (a0 : Int) (Q : Int → iST → Prop) (u : iST) : Prop :=
  w_isNatural a0 (fun v1 u => 
  br (v1 = 0) (
    Q 0 u) (
    w_value a0 (fun v2 u => 
    Q v2 u) u)) u
set_option maxRecDepth 20000 in
set_option maxHeartbeats 4000000 in
theorem b_numberOf_s (X : kX p m c cX12_numberOf 2 s args D ca) (hRf : 1 ≤ R.frames) (hRl : 21 ≤ R.locals) {Q : Int → iST → Prop} (hret : ∀ (v : Int) (u : iST) (H : Heap) (locs : List Loc) (ls : Array Slot) (pc : Nat), inL v → Q v u → kW D ca A h0 ad H0 H locs u → decode cX12_numberOf pc = .ok (.lreturn, 1) → W p l e R s m args below meth c H locs 0 0 Qf (F0 m pc ls [.long (jL v)])) {a0 : Int} (ra0 : inR a0) (hw : kW D ca A h0 ad H0 H locs u) (hl : lv_has ls 2 [(0, .ref h0), (1, .int (jI a0))]) (h : w_numberOf a0 Q u) : W p l e R s m args below meth c H locs 0 0 Qf (F0 m 0 ls []) := by
  have hx := X.1.1
  have hb := X.1.2.1
  unfold w_numberOf at h
  refine lv_aload_n hx hb dX12_numberOf_0 rfl (lv_at hl 0 rfl) ?_
  refine lv_iload_n hx hb dX12_numberOf_1 rfl (lv_at hl 1 rfl) ?_
  refine kcI (n := 1) (c_isNatural ra0 h) G_isNatural E_isNatural X hw (Nat.le_trans (Nat.le_of_ble_eq_true rfl) hRf) (Nat.le_trans (Nat.le_of_ble_eq_true rfl) hRl) rfl hl.1 (Nat.le_of_ble_eq_true rfl) rfl dX12_numberOf_2 (fun v1 u H locs rv1 h hw => ?_)
  refine k_if_eq hx hb rv1 dX12_numberOf_5 (tgt := 16) rfl h (fun h => ?_) (fun h => ?_)
  · refine lv_lconst hx hb dX12_numberOf_16 (v := jL 0) rfl ?_
    exact hret _ _ _ _ _ _ (by decide) h hw dX12_numberOf_17
  · refine lv_aload_n hx hb dX12_numberOf_8 rfl (lv_at hl 0 rfl) ?_
    refine lv_iload_n hx hb dX12_numberOf_9 rfl (lv_at hl 1 rfl) ?_
    refine kcL (n := 1) (c_value ra0 h) G_value E_value X hw (Nat.le_trans (Nat.le_of_ble_eq_true rfl) hRf) (Nat.le_trans (Nat.le_of_ble_eq_true rfl) hRl) rfl hl.1 (Nat.le_of_ble_eq_true rfl) rfl dX12_numberOf_10 (fun v2 u H locs rv2 h hw => ?_)
    refine lv_goto hx hb dX12_numberOf_13 (tgt := 17) rfl ?_
    exact hret _ _ _ _ _ _ rv2 h hw dX12_numberOf_17

end
theorem c_numberOf {l : Launch} {a0 : Int} (ra0 : inR a0) {Q : Int → iST → Prop} {u : iST} (h : w_numberOf a0 Q u) : kML l yX12_numberOf (.code yX12_numberOf cX12_numberOf 2 (some .long) :: wsM) { frames := 1, cells := 0, slots := 0, locals := 21 } [.int (jI a0)] Q u := kML_of rfl (fun _ => Nat.le_of_ble_eq_true rfl) (fun X hRf hRl hret hw hl => b_numberOf_s X hRf hRl hret ra0 hw hl h)

/-! truth -/
theorem dX12_truth_0 : decode cX12_truth 0 = .ok (.iload_n 0, 1) := by decide +kernel
theorem dX12_truth_1 : decode cX12_truth 1 = .ok (.ifCond .eq 7, 3) := by decide +kernel
theorem dX12_truth_4 : decode cX12_truth 4 = .ok (.iconst 1, 1) := by decide +kernel
theorem dX12_truth_5 : decode cX12_truth 5 = .ok (.goto 4, 3) := by decide +kernel
theorem dX12_truth_8 : decode cX12_truth 8 = .ok (.iconst 0, 1) := by decide +kernel
theorem dX12_truth_9 : decode cX12_truth 9 = .ok (.ireturn, 1) := by decide +kernel

section
variable {p : Program} {l : Launch} {e : Env} {R : Room} {s : State} {m : MethodId} {args : Array Value} {below : List Frame} {meth : Method} {c : Code} {H : Heap} {locs : List Loc} {Qf : State → Prop}
variable {ls : Array Slot} {D : va_G} {ca : Nat → ClassId} {A : Nat → Prop} {h0 : Nat} {ad : Nat → Nat} {H0 : Heap} {u : iST}
def w_truth (a0 : Int) (Q : Int → iST → Prop) (u : iST) : Prop :=
  br (a0 = 0) (
    Q 0 u) (
    Q 1 u)
set_option maxRecDepth 20000 in
set_option maxHeartbeats 4000000 in
theorem b_truth_s (X : kX p m c cX12_truth 1 s args D ca) (hRf : 0 ≤ R.frames) (hRl : 0 ≤ R.locals) {Q : Int → iST → Prop} (hret : ∀ (v : Int) (u : iST) (H : Heap) (locs : List Loc) (ls : Array Slot) (pc : Nat), inR v → Q v u → kW D ca A h0 ad H0 H locs u → decode cX12_truth pc = .ok (.ireturn, 1) → W p l e R s m args below meth c H locs 0 0 Qf (F0 m pc ls [.int (jI v)])) {a0 : Int} (ra0 : inR a0) (hw : kW D ca A h0 ad H0 H locs u) (hl : lv_has ls 1 [(0, .int (jI a0))]) (h : w_truth a0 Q u) : W p l e R s m args below meth c H locs 0 0 Qf (F0 m 0 ls []) := by
  have hx := X.1.1
  have hb := X.1.2.1
  unfold w_truth at h
  refine lv_iload_n hx hb dX12_truth_0 rfl (lv_at hl 0 rfl) ?_
  refine k_if_eq hx hb ra0 dX12_truth_1 (tgt := 8) rfl h (fun h => ?_) (fun h => ?_)
  · refine lv_iconst hx hb dX12_truth_8 (v := jI 0) rfl ?_
    exact hret _ _ _ _ _ _ (by decide) h hw dX12_truth_9
  · refine lv_iconst hx hb dX12_truth_4 (v := jI 1) rfl ?_
    refine lv_goto hx hb dX12_truth_5 (tgt := 9) rfl ?_
    exact hret _ _ _ _ _ _ (by decide) h hw dX12_truth_9

end
theorem c_truth {l : Launch} {a0 : Int} (ra0 : inR a0) {Q : Int → iST → Prop} {u : iST} (h : w_truth a0 Q u) : kSI l yX12_truth (.code yX12_truth cX12_truth 1 (some .int) :: wsM) { frames := 0, cells := 0, slots := 0, locals := 0 } [.int (jI a0)] Q u := kSI_of rfl (fun _ => Nat.le_of_ble_eq_true rfl) (fun X hRf hRl hret hw hl => b_truth_s X hRf hRl hret ra0 hw hl h)

/-! basic -/
theorem dX12_basic_0 : decode cX12_basic 0 = .ok (.aload_n 0, 1) := by decide +kernel
theorem dX12_basic_1 : decode cX12_basic 1 = .ok (.getfield 187, 3) := by decide +kernel
theorem dX12_basic_4 : decode cX12_basic 4 = .ok (.iload_n 2, 1) := by decide +kernel
theorem dX12_basic_5 : decode cX12_basic 5 = .ok (.iaload, 1) := by decide +kernel
theorem dX12_basic_6 : decode cX12_basic 6 = .ok (.istore_n 3, 1) := by decide +kernel
theorem dX12_basic_7 : decode cX12_basic 7 = .ok (.aload_n 0, 1) := by decide +kernel
theorem dX12_basic_8 : decode cX12_basic 8 = .ok (.getfield 187, 3) := by decide +kernel
theorem dX12_basic_11 : decode cX12_basic 11 = .ok (.iload_n 2, 1) := by decide +kernel
theorem dX12_basic_12 : decode cX12_basic 12 = .ok (.iconst 1, 1) := by decide +kernel
theorem dX12_basic_13 : decode cX12_basic 13 = .ok (.iadd, 1) := by decide +kernel
theorem dX12_basic_14 : decode cX12_basic 14 = .ok (.iaload, 1) := by decide +kernel
theorem dX12_basic_15 : decode cX12_basic 15 = .ok (.istore 4, 2) := by decide +kernel
theorem dX12_basic_17 : decode cX12_basic 17 = .ok (.iload_n 1, 1) := by decide +kernel
theorem dX12_basic_18 : decode cX12_basic 18 = .ok (.tableswitch 284 4 16 #[66, 81, 89, 107, 147, 183, 207, 216, 235, 254, 263, 284, 272], 66) := by decide +kernel
theorem dX12_basic_84 : decode cX12_basic 84 = .ok (.iload_n 3, 1) := by decide +kernel
theorem dX12_basic_85 : decode cX12_basic 85 = .ok (.iload 4, 2) := by decide +kernel
theorem dX12_basic_87 : decode cX12_basic 87 = .ok (.if_icmp .ne 7, 3) := by decide +kernel
theorem dX12_basic_90 : decode cX12_basic 90 = .ok (.iconst 1, 1) := by decide +kernel
theorem dX12_basic_91 : decode cX12_basic 91 = .ok (.goto 4, 3) := by decide +kernel
theorem dX12_basic_94 : decode cX12_basic 94 = .ok (.iconst 0, 1) := by decide +kernel
theorem dX12_basic_95 : decode cX12_basic 95 = .ok (.invokestatic 585, 3) := by decide +kernel
theorem dX12_basic_98 : decode cX12_basic 98 = .ok (.ireturn, 1) := by decide +kernel
theorem dX12_basic_99 : decode cX12_basic 99 = .ok (.aload_n 0, 1) := by decide +kernel
theorem dX12_basic_100 : decode cX12_basic 100 = .ok (.iload_n 3, 1) := by decide +kernel
theorem dX12_basic_101 : decode cX12_basic 101 = .ok (.iload 4, 2) := by decide +kernel
theorem dX12_basic_103 : decode cX12_basic 103 = .ok (.invokevirtual 353, 3) := by decide +kernel
theorem dX12_basic_106 : decode cX12_basic 106 = .ok (.ireturn, 1) := by decide +kernel
theorem dX12_basic_107 : decode cX12_basic 107 = .ok (.iload_n 3, 1) := by decide +kernel
theorem dX12_basic_108 : decode cX12_basic 108 = .ok (.ifCond .eq 8, 3) := by decide +kernel
theorem dX12_basic_111 : decode cX12_basic 111 = .ok (.iload 4, 2) := by decide +kernel
theorem dX12_basic_113 : decode cX12_basic 113 = .ok (.ifCond .eq 7, 3) := by decide +kernel
theorem dX12_basic_116 : decode cX12_basic 116 = .ok (.iconst 1, 1) := by decide +kernel
theorem dX12_basic_117 : decode cX12_basic 117 = .ok (.goto 4, 3) := by decide +kernel
theorem dX12_basic_120 : decode cX12_basic 120 = .ok (.iconst 0, 1) := by decide +kernel
theorem dX12_basic_121 : decode cX12_basic 121 = .ok (.invokestatic 585, 3) := by decide +kernel
theorem dX12_basic_124 : decode cX12_basic 124 = .ok (.ireturn, 1) := by decide +kernel
theorem dX12_basic_125 : decode cX12_basic 125 = .ok (.aload_n 0, 1) := by decide +kernel
theorem dX12_basic_126 : decode cX12_basic 126 = .ok (.iload_n 3, 1) := by decide +kernel
theorem dX12_basic_127 : decode cX12_basic 127 = .ok (.invokevirtual 589, 3) := by decide +kernel
theorem dX12_basic_130 : decode cX12_basic 130 = .ok (.ldc2_w 396, 3) := by decide +kernel
theorem dX12_basic_133 : decode cX12_basic 133 = .ok (.aload_n 0, 1) := by decide +kernel
theorem dX12_basic_134 : decode cX12_basic 134 = .ok (.iload 4, 2) := by decide +kernel
theorem dX12_basic_136 : decode cX12_basic 136 = .ok (.invokevirtual 589, 3) := by decide +kernel
theorem dX12_basic_139 : decode cX12_basic 139 = .ok (.lsub, 1) := by decide +kernel
theorem dX12_basic_140 : decode cX12_basic 140 = .ok (.lcmp, 1) := by decide +kernel
theorem dX12_basic_141 : decode cX12_basic 141 = .ok (.ifCond .le 7, 3) := by decide +kernel
theorem dX12_basic_144 : decode cX12_basic 144 = .ok (.iconst (-1), 1) := by decide +kernel
theorem dX12_basic_145 : decode cX12_basic 145 = .ok (.goto 19, 3) := by decide +kernel
theorem dX12_basic_148 : decode cX12_basic 148 = .ok (.aload_n 0, 1) := by decide +kernel
theorem dX12_basic_149 : decode cX12_basic 149 = .ok (.aload_n 0, 1) := by decide +kernel
theorem dX12_basic_150 : decode cX12_basic 150 = .ok (.iload_n 3, 1) := by decide +kernel
theorem dX12_basic_151 : decode cX12_basic 151 = .ok (.invokevirtual 589, 3) := by decide +kernel
theorem dX12_basic_154 : decode cX12_basic 154 = .ok (.aload_n 0, 1) := by decide +kernel
theorem dX12_basic_155 : decode cX12_basic 155 = .ok (.iload 4, 2) := by decide +kernel
theorem dX12_basic_157 : decode cX12_basic 157 = .ok (.invokevirtual 589, 3) := by decide +kernel
theorem dX12_basic_160 : decode cX12_basic 160 = .ok (.ladd, 1) := by decide +kernel
theorem dX12_basic_161 : decode cX12_basic 161 = .ok (.invokevirtual 402, 3) := by decide +kernel
theorem dX12_basic_164 : decode cX12_basic 164 = .ok (.ireturn, 1) := by decide +kernel
theorem dX12_basic_165 : decode cX12_basic 165 = .ok (.aload_n 0, 1) := by decide +kernel
theorem dX12_basic_166 : decode cX12_basic 166 = .ok (.aload_n 0, 1) := by decide +kernel
theorem dX12_basic_167 : decode cX12_basic 167 = .ok (.iload_n 3, 1) := by decide +kernel
theorem dX12_basic_168 : decode cX12_basic 168 = .ok (.invokevirtual 589, 3) := by decide +kernel
theorem dX12_basic_171 : decode cX12_basic 171 = .ok (.aload_n 0, 1) := by decide +kernel
theorem dX12_basic_172 : decode cX12_basic 172 = .ok (.iload 4, 2) := by decide +kernel
theorem dX12_basic_174 : decode cX12_basic 174 = .ok (.invokevirtual 589, 3) := by decide +kernel
theorem dX12_basic_177 : decode cX12_basic 177 = .ok (.lcmp, 1) := by decide +kernel
theorem dX12_basic_178 : decode cX12_basic 178 = .ok (.ifCond .le 18, 3) := by decide +kernel
theorem dX12_basic_181 : decode cX12_basic 181 = .ok (.aload_n 0, 1) := by decide +kernel
theorem dX12_basic_182 : decode cX12_basic 182 = .ok (.iload_n 3, 1) := by decide +kernel
theorem dX12_basic_183 : decode cX12_basic 183 = .ok (.invokevirtual 589, 3) := by decide +kernel
theorem dX12_basic_186 : decode cX12_basic 186 = .ok (.aload_n 0, 1) := by decide +kernel
theorem dX12_basic_187 : decode cX12_basic 187 = .ok (.iload 4, 2) := by decide +kernel
theorem dX12_basic_189 : decode cX12_basic 189 = .ok (.invokevirtual 589, 3) := by decide +kernel
theorem dX12_basic_192 : decode cX12_basic 192 = .ok (.lsub, 1) := by decide +kernel
theorem dX12_basic_193 : decode cX12_basic 193 = .ok (.goto 4, 3) := by decide +kernel
theorem dX12_basic_196 : decode cX12_basic 196 = .ok (.lconst 0, 1) := by decide +kernel
theorem dX12_basic_197 : decode cX12_basic 197 = .ok (.invokevirtual 402, 3) := by decide +kernel
theorem dX12_basic_200 : decode cX12_basic 200 = .ok (.ireturn, 1) := by decide +kernel
theorem dX12_basic_201 : decode cX12_basic 201 = .ok (.aload_n 0, 1) := by decide +kernel
theorem dX12_basic_202 : decode cX12_basic 202 = .ok (.iload_n 3, 1) := by decide +kernel
theorem dX12_basic_203 : decode cX12_basic 203 = .ok (.invokevirtual 589, 3) := by decide +kernel
theorem dX12_basic_206 : decode cX12_basic 206 = .ok (.aload_n 0, 1) := by decide +kernel
theorem dX12_basic_207 : decode cX12_basic 207 = .ok (.iload 4, 2) := by decide +kernel
theorem dX12_basic_209 : decode cX12_basic 209 = .ok (.invokevirtual 589, 3) := by decide +kernel
theorem dX12_basic_212 : decode cX12_basic 212 = .ok (.lcmp, 1) := by decide +kernel
theorem dX12_basic_213 : decode cX12_basic 213 = .ok (.ifCond .ge 7, 3) := by decide +kernel
theorem dX12_basic_216 : decode cX12_basic 216 = .ok (.iconst 1, 1) := by decide +kernel
theorem dX12_basic_217 : decode cX12_basic 217 = .ok (.goto 4, 3) := by decide +kernel
theorem dX12_basic_220 : decode cX12_basic 220 = .ok (.iconst 0, 1) := by decide +kernel
theorem dX12_basic_221 : decode cX12_basic 221 = .ok (.invokestatic 585, 3) := by decide +kernel
theorem dX12_basic_224 : decode cX12_basic 224 = .ok (.ireturn, 1) := by decide +kernel
theorem dX12_basic_225 : decode cX12_basic 225 = .ok (.aload_n 0, 1) := by decide +kernel
theorem dX12_basic_226 : decode cX12_basic 226 = .ok (.iload_n 3, 1) := by decide +kernel
theorem dX12_basic_227 : decode cX12_basic 227 = .ok (.invokevirtual 365, 3) := by decide +kernel
theorem dX12_basic_230 : decode cX12_basic 230 = .ok (.invokestatic 585, 3) := by decide +kernel
theorem dX12_basic_233 : decode cX12_basic 233 = .ok (.ireturn, 1) := by decide +kernel
theorem dX12_basic_234 : decode cX12_basic 234 = .ok (.aload_n 0, 1) := by decide +kernel
theorem dX12_basic_235 : decode cX12_basic 235 = .ok (.iload_n 3, 1) := by decide +kernel
theorem dX12_basic_236 : decode cX12_basic 236 = .ok (.invokevirtual 365, 3) := by decide +kernel
theorem dX12_basic_239 : decode cX12_basic 239 = .ok (.ifCond .eq 12, 3) := by decide +kernel
theorem dX12_basic_242 : decode cX12_basic 242 = .ok (.aload_n 0, 1) := by decide +kernel
theorem dX12_basic_243 : decode cX12_basic 243 = .ok (.getfield 8, 3) := by decide +kernel
theorem dX12_basic_246 : decode cX12_basic 246 = .ok (.iload_n 3, 1) := by decide +kernel
theorem dX12_basic_247 : decode cX12_basic 247 = .ok (.iaload, 1) := by decide +kernel
theorem dX12_basic_248 : decode cX12_basic 248 = .ok (.goto 4, 3) := by decide +kernel
theorem dX12_basic_251 : decode cX12_basic 251 = .ok (.iconst 0, 1) := by decide +kernel
theorem dX12_basic_252 : decode cX12_basic 252 = .ok (.ireturn, 1) := by decide +kernel
theorem dX12_basic_253 : decode cX12_basic 253 = .ok (.aload_n 0, 1) := by decide +kernel
theorem dX12_basic_254 : decode cX12_basic 254 = .ok (.iload_n 3, 1) := by decide +kernel
theorem dX12_basic_255 : decode cX12_basic 255 = .ok (.invokevirtual 365, 3) := by decide +kernel
theorem dX12_basic_258 : decode cX12_basic 258 = .ok (.ifCond .eq 12, 3) := by decide +kernel
theorem dX12_basic_261 : decode cX12_basic 261 = .ok (.aload_n 0, 1) := by decide +kernel
theorem dX12_basic_262 : decode cX12_basic 262 = .ok (.getfield 14, 3) := by decide +kernel
theorem dX12_basic_265 : decode cX12_basic 265 = .ok (.iload_n 3, 1) := by decide +kernel
theorem dX12_basic_266 : decode cX12_basic 266 = .ok (.iaload, 1) := by decide +kernel
theorem dX12_basic_267 : decode cX12_basic 267 = .ok (.goto 4, 3) := by decide +kernel
theorem dX12_basic_270 : decode cX12_basic 270 = .ok (.iconst 0, 1) := by decide +kernel
theorem dX12_basic_271 : decode cX12_basic 271 = .ok (.ireturn, 1) := by decide +kernel
theorem dX12_basic_272 : decode cX12_basic 272 = .ok (.aload_n 0, 1) := by decide +kernel
theorem dX12_basic_273 : decode cX12_basic 273 = .ok (.iload_n 3, 1) := by decide +kernel
theorem dX12_basic_274 : decode cX12_basic 274 = .ok (.invokevirtual 468, 3) := by decide +kernel
theorem dX12_basic_277 : decode cX12_basic 277 = .ok (.invokestatic 585, 3) := by decide +kernel
theorem dX12_basic_280 : decode cX12_basic 280 = .ok (.ireturn, 1) := by decide +kernel
theorem dX12_basic_281 : decode cX12_basic 281 = .ok (.aload_n 0, 1) := by decide +kernel
theorem dX12_basic_282 : decode cX12_basic 282 = .ok (.iload_n 3, 1) := by decide +kernel
theorem dX12_basic_283 : decode cX12_basic 283 = .ok (.invokevirtual 444, 3) := by decide +kernel
theorem dX12_basic_286 : decode cX12_basic 286 = .ok (.invokestatic 585, 3) := by decide +kernel
theorem dX12_basic_289 : decode cX12_basic 289 = .ok (.ireturn, 1) := by decide +kernel
theorem dX12_basic_290 : decode cX12_basic 290 = .ok (.aload_n 0, 1) := by decide +kernel
theorem dX12_basic_291 : decode cX12_basic 291 = .ok (.aload_n 0, 1) := by decide +kernel
theorem dX12_basic_292 : decode cX12_basic 292 = .ok (.getfield 23, 3) := by decide +kernel
theorem dX12_basic_295 : decode cX12_basic 295 = .ok (.iload_n 3, 1) := by decide +kernel
theorem dX12_basic_296 : decode cX12_basic 296 = .ok (.iaload, 1) := by decide +kernel
theorem dX12_basic_297 : decode cX12_basic 297 = .ok (.i2l, 1) := by decide +kernel
theorem dX12_basic_298 : decode cX12_basic 298 = .ok (.invokevirtual 402, 3) := by decide +kernel
theorem dX12_basic_301 : decode cX12_basic 301 = .ok (.ireturn, 1) := by decide +kernel
theorem dX12_basic_302 : decode cX12_basic 302 = .ok (.iload_n 3, 1) := by decide +kernel
theorem dX12_basic_303 : decode cX12_basic 303 = .ok (.ifCond .ne 7, 3) := by decide +kernel
theorem dX12_basic_306 : decode cX12_basic 306 = .ok (.iconst 1, 1) := by decide +kernel
theorem dX12_basic_307 : decode cX12_basic 307 = .ok (.goto 4, 3) := by decide +kernel
theorem dX12_basic_310 : decode cX12_basic 310 = .ok (.iconst 0, 1) := by decide +kernel
theorem dX12_basic_311 : decode cX12_basic 311 = .ok (.invokestatic 585, 3) := by decide +kernel
theorem dX12_basic_314 : decode cX12_basic 314 = .ok (.ireturn, 1) := by decide +kernel

section
variable {p : Program} {l : Launch} {e : Env} {R : Room} {s : State} {m : MethodId} {args : Array Value} {below : List Frame} {meth : Method} {c : Code} {H : Heap} {locs : List Loc} {Qf : State → Prop}
variable {ls : Array Slot} {D : va_G} {ca : Nat → ClassId} {A : Nat → Prop} {h0 : Nat} {ad : Nat → Nat} {H0 : Heap} {u : iST}
def w_basic_95 (Q : Int → iST → Prop) (y0 : Int) (u : iST) : Prop :=
  w_truth y0 (fun v4 u => 
  Q v4 u) u
set_option maxRecDepth 20000 in
set_option maxHeartbeats 4000000 in
theorem b_basic_95 (X : kX p m c cX12_basic 5 s args D ca) (hRf : 2 ≤ R.frames) (hRl : 47 ≤ R.locals) {Q : Int → iST → Prop} (hret : ∀ (v : Int) (u : iST) (H : Heap) (locs : List Loc) (ls : Array Slot) (pc : Nat), inR v → Q v u → kW D ca A h0 ad H0 H locs u → decode cX12_basic pc = .ok (.ireturn, 1) → W p l e R s m args below meth c H locs 0 0 Qf (F0 m pc ls [.int (jI v)])) {y0 : Int} (ry0 : inR y0) (hw : kW D ca A h0 ad H0 H locs u) (hl : lv_has ls 5 [(0, .ref h0)]) (h : w_basic_95 Q y0 u) : W p l e R s m args below meth c H locs 0 0 Qf (F0 m 95 ls [.int (jI y0)]) := by
  have hx := X.1.1
  have hb := X.1.2.1
  unfold w_basic_95 at h
  refine kcT (n := 1) (c_truth ry0 h) G_truth E_truth X hw (Nat.le_trans (Nat.le_of_ble_eq_true rfl) hRf) (Nat.le_trans (Nat.le_of_ble_eq_true rfl) hRl) rfl hl.1 (Nat.le_of_ble_eq_true rfl) rfl dX12_basic_95 (fun v4 u H locs rv4 h hw => ?_)
  exact hret _ _ _ _ _ _ rv4 h hw dX12_basic_98

def w_basic_121 (Q : Int → iST → Prop) (y0 : Int) (u : iST) : Prop :=
  w_truth y0 (fun v8 u => 
  Q v8 u) u
set_option maxRecDepth 20000 in
set_option maxHeartbeats 4000000 in
theorem b_basic_121 (X : kX p m c cX12_basic 5 s args D ca) (hRf : 2 ≤ R.frames) (hRl : 47 ≤ R.locals) {Q : Int → iST → Prop} (hret : ∀ (v : Int) (u : iST) (H : Heap) (locs : List Loc) (ls : Array Slot) (pc : Nat), inR v → Q v u → kW D ca A h0 ad H0 H locs u → decode cX12_basic pc = .ok (.ireturn, 1) → W p l e R s m args below meth c H locs 0 0 Qf (F0 m pc ls [.int (jI v)])) {y0 : Int} (ry0 : inR y0) (hw : kW D ca A h0 ad H0 H locs u) (hl : lv_has ls 5 [(0, .ref h0)]) (h : w_basic_121 Q y0 u) : W p l e R s m args below meth c H locs 0 0 Qf (F0 m 121 ls [.int (jI y0)]) := by
  have hx := X.1.1
  have hb := X.1.2.1
  unfold w_basic_121 at h
  refine kcT (n := 1) (c_truth ry0 h) G_truth E_truth X hw (Nat.le_trans (Nat.le_of_ble_eq_true rfl) hRf) (Nat.le_trans (Nat.le_of_ble_eq_true rfl) hRl) rfl hl.1 (Nat.le_of_ble_eq_true rfl) rfl dX12_basic_121 (fun v8 u H locs rv8 h hw => ?_)
  exact hret _ _ _ _ _ _ rv8 h hw dX12_basic_124

def w_basic_116 (Q : Int → iST → Prop) (u : iST) : Prop :=
  w_basic_121 Q 1 u
set_option maxRecDepth 20000 in
set_option maxHeartbeats 4000000 in
theorem b_basic_116 (X : kX p m c cX12_basic 5 s args D ca) (hRf : 2 ≤ R.frames) (hRl : 47 ≤ R.locals) {Q : Int → iST → Prop} (hret : ∀ (v : Int) (u : iST) (H : Heap) (locs : List Loc) (ls : Array Slot) (pc : Nat), inR v → Q v u → kW D ca A h0 ad H0 H locs u → decode cX12_basic pc = .ok (.ireturn, 1) → W p l e R s m args below meth c H locs 0 0 Qf (F0 m pc ls [.int (jI v)])) (hw : kW D ca A h0 ad H0 H locs u) (hl : lv_has ls 5 [(0, .ref h0)]) (h : w_basic_116 Q u) : W p l e R s m args below meth c H locs 0 0 Qf (F0 m 116 ls []) := by
  have hx := X.1.1
  have hb := X.1.2.1
  unfold w_basic_116 at h
  refine lv_iconst hx hb dX12_basic_116 (v := jI 1) rfl ?_
  refine lv_goto hx hb dX12_basic_117 (tgt := 121) rfl ?_
  exact b_basic_121 X hRf hRl hret (by decide) hw hl h

def w_basic_197 (Q : Int → iST → Prop) (y1 : Int) (u : iST) : Prop :=
  w_natural y1 (fun v20 u => 
  Q v20 u) u
set_option maxRecDepth 20000 in
set_option maxHeartbeats 4000000 in
theorem b_basic_197 (X : kX p m c cX12_basic 5 s args D ca) (hRf : 2 ≤ R.frames) (hRl : 47 ≤ R.locals) {Q : Int → iST → Prop} (hret : ∀ (v : Int) (u : iST) (H : Heap) (locs : List Loc) (ls : Array Slot) (pc : Nat), inR v → Q v u → kW D ca A h0 ad H0 H locs u → decode cX12_basic pc = .ok (.ireturn, 1) → W p l e R s m args below meth c H locs 0 0 Qf (F0 m pc ls [.int (jI v)])) {y1 : Int} (ry1 : inL y1) (hw : kW D ca A h0 ad H0 H locs u) (hl : lv_has ls 5 [(0, .ref h0)]) (h : w_basic_197 Q y1 u) : W p l e R s m args below meth c H locs 0 0 Qf (F0 m 197 ls [.long (jL y1), .ref (h0)]) := by
  have hx := X.1.1
  have hb := X.1.2.1
  unfold w_basic_197 at h
  refine kcI (n := 1) (c_natural ry1 h) G_natural E_natural X hw (Nat.le_trans (Nat.le_of_ble_eq_true rfl) hRf) (Nat.le_trans (Nat.le_of_ble_eq_true rfl) hRl) rfl hl.1 (Nat.le_of_ble_eq_true rfl) rfl dX12_basic_197 (fun v20 u H locs rv20 h hw => ?_)
  exact hret _ _ _ _ _ _ rv20 h hw dX12_basic_200

def w_basic_221 (Q : Int → iST → Prop) (y0 : Int) (u : iST) : Prop :=
  w_truth y0 (fun v27 u => 
  Q v27 u) u
set_option maxRecDepth 20000 in
set_option maxHeartbeats 4000000 in
theorem b_basic_221 (X : kX p m c cX12_basic 5 s args D ca) (hRf : 2 ≤ R.frames) (hRl : 47 ≤ R.locals) {Q : Int → iST → Prop} (hret : ∀ (v : Int) (u : iST) (H : Heap) (locs : List Loc) (ls : Array Slot) (pc : Nat), inR v → Q v u → kW D ca A h0 ad H0 H locs u → decode cX12_basic pc = .ok (.ireturn, 1) → W p l e R s m args below meth c H locs 0 0 Qf (F0 m pc ls [.int (jI v)])) {y0 : Int} (ry0 : inR y0) (hw : kW D ca A h0 ad H0 H locs u) (hl : lv_has ls 5 [(0, .ref h0)]) (h : w_basic_221 Q y0 u) : W p l e R s m args below meth c H locs 0 0 Qf (F0 m 221 ls [.int (jI y0)]) := by
  have hx := X.1.1
  have hb := X.1.2.1
  unfold w_basic_221 at h
  refine kcT (n := 1) (c_truth ry0 h) G_truth E_truth X hw (Nat.le_trans (Nat.le_of_ble_eq_true rfl) hRf) (Nat.le_trans (Nat.le_of_ble_eq_true rfl) hRl) rfl hl.1 (Nat.le_of_ble_eq_true rfl) rfl dX12_basic_221 (fun v27 u H locs rv27 h hw => ?_)
  exact hret _ _ _ _ _ _ rv27 h hw dX12_basic_224

def w_basic_311 (Q : Int → iST → Prop) (y0 : Int) (u : iST) : Prop :=
  w_truth y0 (fun v44 u => 
  Q v44 u) u
set_option maxRecDepth 20000 in
set_option maxHeartbeats 4000000 in
theorem b_basic_311 (X : kX p m c cX12_basic 5 s args D ca) (hRf : 2 ≤ R.frames) (hRl : 47 ≤ R.locals) {Q : Int → iST → Prop} (hret : ∀ (v : Int) (u : iST) (H : Heap) (locs : List Loc) (ls : Array Slot) (pc : Nat), inR v → Q v u → kW D ca A h0 ad H0 H locs u → decode cX12_basic pc = .ok (.ireturn, 1) → W p l e R s m args below meth c H locs 0 0 Qf (F0 m pc ls [.int (jI v)])) {y0 : Int} (ry0 : inR y0) (hw : kW D ca A h0 ad H0 H locs u) (hl : lv_has ls 5 [(0, .ref h0)]) (h : w_basic_311 Q y0 u) : W p l e R s m args below meth c H locs 0 0 Qf (F0 m 311 ls [.int (jI y0)]) := by
  have hx := X.1.1
  have hb := X.1.2.1
  unfold w_basic_311 at h
  refine kcT (n := 1) (c_truth ry0 h) G_truth E_truth X hw (Nat.le_trans (Nat.le_of_ble_eq_true rfl) hRf) (Nat.le_trans (Nat.le_of_ble_eq_true rfl) hRl) rfl hl.1 (Nat.le_of_ble_eq_true rfl) rfl dX12_basic_311 (fun v44 u H locs rv44 h hw => ?_)
  exact hret _ _ _ _ _ _ rv44 h hw dX12_basic_314

def w_basic (a0 : Int) (a1 : Int) (Q : Int → iST → Prop) (u : iST) : Prop :=
  bd a1 2400 (rd (u.2.1 86 a1) (fun v1 => 
  ov (a1 + 1) (
  bd (a1 + 1) 2400 (rd (u.2.1 86 (a1 + 1)) (fun v3 => 
  br (a0 = 4) (
    br (v1 ≠ v3) (
      w_basic_95 Q 0 u) (
      w_basic_95 Q 1 u)) (
  br (a0 = 5) (
    w_pair v1 v3 (fun v6 u => 
    Q v6 u) u) (
  br (a0 = 6) (
    br (v1 = 0) (
      w_basic_116 Q u) (
      br (v3 = 0) (
        w_basic_121 Q 0 u) (
        w_basic_116 Q u))) (
  br (a0 = 7) (
    w_numberOf v1 (fun v10 u => 
    w_numberOf v3 (fun v11 u => 
    ol (4611686018427387903 - v11) (
    br (v10 ≤ (4611686018427387903 - v11)) (
      w_numberOf v1 (fun v13 u => 
      w_numberOf v3 (fun v14 u => 
      ol (v13 + v14) (
      w_natural (v13 + v14) (fun v16 u => 
      Q v16 u) u)) u) u) (
      Q (-1) u))) u) u) (
  br (a0 = 8) (
    w_numberOf v1 (fun v18 u => 
    w_numberOf v3 (fun v19 u => 
    br (v18 ≤ v19) (
      w_basic_197 Q 0 u) (
      w_numberOf v1 (fun v21 u => 
      w_numberOf v3 (fun v22 u => 
      ol (v21 - v22) (
      w_basic_197 Q (v21 - v22) u)) u) u)) u) u) (
  br (a0 = 9) (
    w_numberOf v1 (fun v25 u => 
    w_numberOf v3 (fun v26 u => 
    br (v26 ≤ v25) (
      w_basic_221 Q 0 u) (
      w_basic_221 Q 1 u)) u) u) (
  br (a0 = 10) (
    w_isPair v1 (fun v29 u => 
    w_truth v29 (fun v30 u => 
    Q v30 u) u) u) (
  br (a0 = 11) (
    w_isPair v1 (fun v32 u => 
    br (v32 = 0) (
      Q 0 u) (
      bd v1 452000 (rd (u.2.1 0 v1) (fun v33 => 
      Q v33 u)))) u) (
  br (a0 = 12) (
    w_isPair v1 (fun v35 u => 
    br (v35 = 0) (
      Q 0 u) (
      bd v1 452000 (rd (u.2.1 1 v1) (fun v36 => 
      Q v36 u)))) u) (
  br (a0 = 13) (
    w_isNatural v1 (fun v38 u => 
    w_truth v38 (fun v39 u => 
    Q v39 u) u) u) (
  br (a0 = 14) (
    w_isSymbol v1 (fun v41 u => 
    w_truth v41 (fun v42 u => 
    Q v42 u) u) u) (
  br (a0 = 15) (
    br (v1 ≠ 0) (
      w_basic_311 Q 0 u) (
      w_basic_311 Q 1 u)) (
  br (a0 = 16) (
    bd v1 452000 (rd (u.2.1 4 v1) (fun v46 => 
    w_natural v46 (fun v48 u => 
    Q v48 u) u))) (
  br (v1 ≠ 0) (
    w_basic_311 Q 0 u) (
    w_basic_311 Q 1 u)))))))))))))))))))
set_option maxRecDepth 20000 in
set_option maxHeartbeats 4000000 in
theorem b_basic_s (X : kX p m c cX12_basic 5 s args D ca) (hRf : 2 ≤ R.frames) (hRl : 47 ≤ R.locals) {Q : Int → iST → Prop} (hret : ∀ (v : Int) (u : iST) (H : Heap) (locs : List Loc) (ls : Array Slot) (pc : Nat), inR v → Q v u → kW D ca A h0 ad H0 H locs u → decode cX12_basic pc = .ok (.ireturn, 1) → W p l e R s m args below meth c H locs 0 0 Qf (F0 m pc ls [.int (jI v)])) {a0 a1 : Int} (ra0 : inR a0) (ra1 : inR a1) (hw : kW D ca A h0 ad H0 H locs u) (hl : lv_has ls 5 [(0, .ref h0), (1, .int (jI a0)), (2, .int (jI a1))]) (h : w_basic a0 a1 Q u) : W p l e R s m args below meth c H locs 0 0 Qf (F0 m 0 ls []) := by
  have hx := X.1.1
  have hb := X.1.2.1
  unfold w_basic at h
  refine lv_aload_n hx hb dX12_basic_0 rfl (lv_at hl 0 rfl) ?_
  refine gA 86 187 (by decide) L_86 (fun _ _ => mF_86) rfl X hw dX12_basic_1 ?_
  refine lv_iload_n hx hb dX12_basic_4 rfl (lv_at hl 2 rfl) ?_
  refine aL 86 55 54 2400 (fun _ _ _ _ => mG_86) (fun _ => rfl) X hw ra1 dX12_basic_5 rfl h (fun v1 rv1 h => ?_)
  refine lv_istore_n hx hb dX12_basic_6 rfl hl (by decide) rfl (fun ls hl => ?_)
  have hl : lv_has ls 5 [(3, .int (jI v1)), (0, .ref (h0)), (1, .int (jI a0)), (2, .int (jI a1))] := hl
  refine lv_aload_n hx hb dX12_basic_7 rfl (lv_at hl 1 rfl) ?_
  refine gA 86 187 (by decide) L_86 (fun _ _ => mF_86) rfl X hw dX12_basic_8 ?_
  refine lv_iload_n hx hb dX12_basic_11 rfl (lv_at hl 3 rfl) ?_
  refine lv_iconst hx hb dX12_basic_12 (v := jI 1) rfl ?_
  refine k_iadd hx hb dX12_basic_13 h (fun r2 h => ?_)
  refine aL 86 55 54 2400 (fun _ _ _ _ => mG_86) (fun _ => rfl) X hw r2 dX12_basic_14 rfl h (fun v3 rv3 h => ?_)
  refine lv_istore hx hb dX12_basic_15 hl (by decide) rfl (fun ls hl => ?_)
  have hl : lv_has ls 5 [(4, .int (jI v3)), (3, .int (jI v1)), (0, .ref (h0)), (1, .int (jI a0)), (2, .int (jI a1))] := hl
  refine lv_iload_n hx hb dX12_basic_17 rfl (lv_at hl 3 rfl) ?_
  refine br_sp h (fun ek h => ?_) (fun n5 h => ?_)
  · refine k_tabIn (tgt := 84) (off := 66) hx hb dX12_basic_18 ek (by decide) (by decide) rfl rfl ?_
    refine lv_iload_n hx hb dX12_basic_84 rfl (lv_at hl 1 rfl) ?_
    refine lv_iload hx hb dX12_basic_85 (lv_at hl 0 rfl) ?_
    refine k_icmp_ne hx hb rv1 rv3 dX12_basic_87 (tgt := 94) rfl h (fun h => ?_) (fun h => ?_)
    · refine lv_iconst hx hb dX12_basic_94 (v := jI 0) rfl ?_
      exact b_basic_95 X hRf hRl hret (by decide) hw (lv_sub hl [2] rfl) h
    · refine lv_iconst hx hb dX12_basic_90 (v := jI 1) rfl ?_
      refine lv_goto hx hb dX12_basic_91 (tgt := 95) rfl ?_
      exact b_basic_95 X hRf hRl hret (by decide) hw (lv_sub hl [2] rfl) h
  refine br_sp h (fun ek h => ?_) (fun n7 h => ?_)
  · refine k_tabIn (tgt := 99) (off := 81) hx hb dX12_basic_18 ek (by decide) (by decide) rfl rfl ?_
    refine lv_aload_n hx hb dX12_basic_99 rfl (lv_at hl 2 rfl) ?_
    refine lv_iload_n hx hb dX12_basic_100 rfl (lv_at hl 1 rfl) ?_
    refine lv_iload hx hb dX12_basic_101 (lv_at hl 0 rfl) ?_
    refine kcI (n := 2) (c_pair rv1 rv3 h) G_pair E_pair X hw (Nat.le_trans (Nat.le_of_ble_eq_true rfl) hRf) (Nat.le_trans (Nat.le_of_ble_eq_true rfl) hRl) rfl hl.1 (Nat.le_of_ble_eq_true rfl) rfl dX12_basic_103 (fun v6 u H locs rv6 h hw => ?_)
    exact hret _ _ _ _ _ _ rv6 h hw dX12_basic_106
  refine br_sp h (fun ek h => ?_) (fun n9 h => ?_)
  · refine k_tabIn (tgt := 107) (off := 89) hx hb dX12_basic_18 ek (by decide) (by decide) rfl rfl ?_
    refine lv_iload_n hx hb dX12_basic_107 rfl (lv_at hl 1 rfl) ?_
    refine k_if_eq hx hb rv1 dX12_basic_108 (tgt := 116) rfl h (fun h => ?_) (fun h => ?_)
    · exact b_basic_116 X hRf hRl hret hw (lv_sub hl [2] rfl) h
    · refine lv_iload hx hb dX12_basic_111 (lv_at hl 0 rfl) ?_
      refine k_if_eq hx hb rv3 dX12_basic_113 (tgt := 120) rfl h (fun h => ?_) (fun h => ?_)
      · refine lv_iconst hx hb dX12_basic_120 (v := jI 0) rfl ?_
        exact b_basic_121 X hRf hRl hret (by decide) hw (lv_sub hl [2] rfl) h
      · exact b_basic_116 X hRf hRl hret hw (lv_sub hl [2] rfl) h
  refine br_sp h (fun ek h => ?_) (fun n17 h => ?_)
  · refine k_tabIn (tgt := 125) (off := 107) hx hb dX12_basic_18 ek (by decide) (by decide) rfl rfl ?_
    refine lv_aload_n hx hb dX12_basic_125 rfl (lv_at hl 2 rfl) ?_
    refine lv_iload_n hx hb dX12_basic_126 rfl (lv_at hl 1 rfl) ?_
    refine kcL (n := 1) (c_numberOf rv1 h) G_numberOf E_numberOf X hw (Nat.le_trans (Nat.le_of_ble_eq_true rfl) hRf) (Nat.le_trans (Nat.le_of_ble_eq_true rfl) hRl) rfl hl.1 (Nat.le_of_ble_eq_true rfl) rfl dX12_basic_127 (fun v10 u H locs rv10 h hw => ?_)
    refine kld2 396 K_396 X dX12_basic_130 ?_
    refine lv_aload_n hx hb dX12_basic_133 rfl (lv_at hl 2 rfl) ?_
    refine lv_iload hx hb dX12_basic_134 (lv_at hl 0 rfl) ?_
    refine kcL (n := 1) (c_numberOf rv3 h) G_numberOf E_numberOf X hw (Nat.le_trans (Nat.le_of_ble_eq_true rfl) hRf) (Nat.le_trans (Nat.le_of_ble_eq_true rfl) hRl) rfl hl.1 (Nat.le_of_ble_eq_true rfl) rfl dX12_basic_136 (fun v11 u H locs rv11 h hw => ?_)
    refine k_lsub hx hb dX12_basic_139 h (fun r12 h => ?_)
    refine k_lcmp_le hx hb rv10 r12 dX12_basic_140 dX12_basic_141 (tgt := 148) rfl h (fun h => ?_) (fun h => ?_)
    · refine lv_aload_n hx hb dX12_basic_148 rfl (lv_at hl 2 rfl) ?_
      refine lv_aload_n hx hb dX12_basic_149 rfl (lv_at hl 2 rfl) ?_
      refine lv_iload_n hx hb dX12_basic_150 rfl (lv_at hl 1 rfl) ?_
      refine kcL (n := 1) (c_numberOf rv1 h) G_numberOf E_numberOf X hw (Nat.le_trans (Nat.le_of_ble_eq_true rfl) hRf) (Nat.le_trans (Nat.le_of_ble_eq_true rfl) hRl) rfl hl.1 (Nat.le_of_ble_eq_true rfl) rfl dX12_basic_151 (fun v13 u H locs rv13 h hw => ?_)
      refine lv_aload_n hx hb dX12_basic_154 rfl (lv_at hl 2 rfl) ?_
      refine lv_iload hx hb dX12_basic_155 (lv_at hl 0 rfl) ?_
      refine kcL (n := 1) (c_numberOf rv3 h) G_numberOf E_numberOf X hw (Nat.le_trans (Nat.le_of_ble_eq_true rfl) hRf) (Nat.le_trans (Nat.le_of_ble_eq_true rfl) hRl) rfl hl.1 (Nat.le_of_ble_eq_true rfl) rfl dX12_basic_157 (fun v14 u H locs rv14 h hw => ?_)
      refine k_ladd hx hb dX12_basic_160 h (fun r15 h => ?_)
      refine kcI (n := 1) (c_natural r15 h) G_natural E_natural X hw (Nat.le_trans (Nat.le_of_ble_eq_true rfl) hRf) (Nat.le_trans (Nat.le_of_ble_eq_true rfl) hRl) rfl hl.1 (Nat.le_of_ble_eq_true rfl) rfl dX12_basic_161 (fun v16 u H locs rv16 h hw => ?_)
      exact hret _ _ _ _ _ _ rv16 h hw dX12_basic_164
    · refine lv_iconst hx hb dX12_basic_144 (v := jI (-1)) rfl ?_
      refine lv_goto hx hb dX12_basic_145 (tgt := 164) rfl ?_
      exact hret _ _ _ _ _ _ (by decide) h hw dX12_basic_164
  refine br_sp h (fun ek h => ?_) (fun n24 h => ?_)
  · refine k_tabIn (tgt := 165) (off := 147) hx hb dX12_basic_18 ek (by decide) (by decide) rfl rfl ?_
    refine lv_aload_n hx hb dX12_basic_165 rfl (lv_at hl 2 rfl) ?_
    refine lv_aload_n hx hb dX12_basic_166 rfl (lv_at hl 2 rfl) ?_
    refine lv_iload_n hx hb dX12_basic_167 rfl (lv_at hl 1 rfl) ?_
    refine kcL (n := 1) (c_numberOf rv1 h) G_numberOf E_numberOf X hw (Nat.le_trans (Nat.le_of_ble_eq_true rfl) hRf) (Nat.le_trans (Nat.le_of_ble_eq_true rfl) hRl) rfl hl.1 (Nat.le_of_ble_eq_true rfl) rfl dX12_basic_168 (fun v18 u H locs rv18 h hw => ?_)
    refine lv_aload_n hx hb dX12_basic_171 rfl (lv_at hl 2 rfl) ?_
    refine lv_iload hx hb dX12_basic_172 (lv_at hl 0 rfl) ?_
    refine kcL (n := 1) (c_numberOf rv3 h) G_numberOf E_numberOf X hw (Nat.le_trans (Nat.le_of_ble_eq_true rfl) hRf) (Nat.le_trans (Nat.le_of_ble_eq_true rfl) hRl) rfl hl.1 (Nat.le_of_ble_eq_true rfl) rfl dX12_basic_174 (fun v19 u H locs rv19 h hw => ?_)
    refine k_lcmp_le hx hb rv18 rv19 dX12_basic_177 dX12_basic_178 (tgt := 196) rfl h (fun h => ?_) (fun h => ?_)
    · refine lv_lconst hx hb dX12_basic_196 (v := jL 0) rfl ?_
      exact b_basic_197 X hRf hRl hret (by decide) hw (lv_sub hl [2] rfl) h
    · refine lv_aload_n hx hb dX12_basic_181 rfl (lv_at hl 2 rfl) ?_
      refine lv_iload_n hx hb dX12_basic_182 rfl (lv_at hl 1 rfl) ?_
      refine kcL (n := 1) (c_numberOf rv1 h) G_numberOf E_numberOf X hw (Nat.le_trans (Nat.le_of_ble_eq_true rfl) hRf) (Nat.le_trans (Nat.le_of_ble_eq_true rfl) hRl) rfl hl.1 (Nat.le_of_ble_eq_true rfl) rfl dX12_basic_183 (fun v21 u H locs rv21 h hw => ?_)
      refine lv_aload_n hx hb dX12_basic_186 rfl (lv_at hl 2 rfl) ?_
      refine lv_iload hx hb dX12_basic_187 (lv_at hl 0 rfl) ?_
      refine kcL (n := 1) (c_numberOf rv3 h) G_numberOf E_numberOf X hw (Nat.le_trans (Nat.le_of_ble_eq_true rfl) hRf) (Nat.le_trans (Nat.le_of_ble_eq_true rfl) hRl) rfl hl.1 (Nat.le_of_ble_eq_true rfl) rfl dX12_basic_189 (fun v22 u H locs rv22 h hw => ?_)
      refine k_lsub hx hb dX12_basic_192 h (fun r23 h => ?_)
      refine lv_goto hx hb dX12_basic_193 (tgt := 197) rfl ?_
      exact b_basic_197 X hRf hRl hret r23 hw (lv_sub hl [2] rfl) h
  refine br_sp h (fun ek h => ?_) (fun n28 h => ?_)
  · refine k_tabIn (tgt := 201) (off := 183) hx hb dX12_basic_18 ek (by decide) (by decide) rfl rfl ?_
    refine lv_aload_n hx hb dX12_basic_201 rfl (lv_at hl 2 rfl) ?_
    refine lv_iload_n hx hb dX12_basic_202 rfl (lv_at hl 1 rfl) ?_
    refine kcL (n := 1) (c_numberOf rv1 h) G_numberOf E_numberOf X hw (Nat.le_trans (Nat.le_of_ble_eq_true rfl) hRf) (Nat.le_trans (Nat.le_of_ble_eq_true rfl) hRl) rfl hl.1 (Nat.le_of_ble_eq_true rfl) rfl dX12_basic_203 (fun v25 u H locs rv25 h hw => ?_)
    refine lv_aload_n hx hb dX12_basic_206 rfl (lv_at hl 2 rfl) ?_
    refine lv_iload hx hb dX12_basic_207 (lv_at hl 0 rfl) ?_
    refine kcL (n := 1) (c_numberOf rv3 h) G_numberOf E_numberOf X hw (Nat.le_trans (Nat.le_of_ble_eq_true rfl) hRf) (Nat.le_trans (Nat.le_of_ble_eq_true rfl) hRl) rfl hl.1 (Nat.le_of_ble_eq_true rfl) rfl dX12_basic_209 (fun v26 u H locs rv26 h hw => ?_)
    refine k_lcmp_ge hx hb rv25 rv26 dX12_basic_212 dX12_basic_213 (tgt := 220) rfl h (fun h => ?_) (fun h => ?_)
    · refine lv_iconst hx hb dX12_basic_220 (v := jI 0) rfl ?_
      exact b_basic_221 X hRf hRl hret (by decide) hw (lv_sub hl [2] rfl) h
    · refine lv_iconst hx hb dX12_basic_216 (v := jI 1) rfl ?_
      refine lv_goto hx hb dX12_basic_217 (tgt := 221) rfl ?_
      exact b_basic_221 X hRf hRl hret (by decide) hw (lv_sub hl [2] rfl) h
  refine br_sp h (fun ek h => ?_) (fun n31 h => ?_)
  · refine k_tabIn (tgt := 225) (off := 207) hx hb dX12_basic_18 ek (by decide) (by decide) rfl rfl ?_
    refine lv_aload_n hx hb dX12_basic_225 rfl (lv_at hl 2 rfl) ?_
    refine lv_iload_n hx hb dX12_basic_226 rfl (lv_at hl 1 rfl) ?_
    refine kcI (n := 1) (c_isPair rv1 h) G_isPair E_isPair X hw (Nat.le_trans (Nat.le_of_ble_eq_true rfl) hRf) (Nat.le_trans (Nat.le_of_ble_eq_true rfl) hRl) rfl hl.1 (Nat.le_of_ble_eq_true rfl) rfl dX12_basic_227 (fun v29 u H locs rv29 h hw => ?_)
    refine kcT (n := 1) (c_truth rv29 h) G_truth E_truth X hw (Nat.le_trans (Nat.le_of_ble_eq_true rfl) hRf) (Nat.le_trans (Nat.le_of_ble_eq_true rfl) hRl) rfl hl.1 (Nat.le_of_ble_eq_true rfl) rfl dX12_basic_230 (fun v30 u H locs rv30 h hw => ?_)
    exact hret _ _ _ _ _ _ rv30 h hw dX12_basic_233
  refine br_sp h (fun ek h => ?_) (fun n34 h => ?_)
  · refine k_tabIn (tgt := 234) (off := 216) hx hb dX12_basic_18 ek (by decide) (by decide) rfl rfl ?_
    refine lv_aload_n hx hb dX12_basic_234 rfl (lv_at hl 2 rfl) ?_
    refine lv_iload_n hx hb dX12_basic_235 rfl (lv_at hl 1 rfl) ?_
    refine kcI (n := 1) (c_isPair rv1 h) G_isPair E_isPair X hw (Nat.le_trans (Nat.le_of_ble_eq_true rfl) hRf) (Nat.le_trans (Nat.le_of_ble_eq_true rfl) hRl) rfl hl.1 (Nat.le_of_ble_eq_true rfl) rfl dX12_basic_236 (fun v32 u H locs rv32 h hw => ?_)
    refine k_if_eq hx hb rv32 dX12_basic_239 (tgt := 251) rfl h (fun h => ?_) (fun h => ?_)
    · refine lv_iconst hx hb dX12_basic_251 (v := jI 0) rfl ?_
      exact hret _ _ _ _ _ _ (by decide) h hw dX12_basic_252
    · refine lv_aload_n hx hb dX12_basic_242 rfl (lv_at hl 2 rfl) ?_
      refine gA 0 8 (by decide) L_0 (fun _ _ => mF_0) rfl X hw dX12_basic_243 ?_
      refine lv_iload_n hx hb dX12_basic_246 rfl (lv_at hl 1 rfl) ?_
      refine aL 0 1 0 452000 (fun _ _ _ _ => mG_0) (fun _ => rfl) X hw rv1 dX12_basic_247 rfl h (fun v33 rv33 h => ?_)
      refine lv_goto hx hb dX12_basic_248 (tgt := 252) rfl ?_
      exact hret _ _ _ _ _ _ rv33 h hw dX12_basic_252
  refine br_sp h (fun ek h => ?_) (fun n37 h => ?_)
  · refine k_tabIn (tgt := 253) (off := 235) hx hb dX12_basic_18 ek (by decide) (by decide) rfl rfl ?_
    refine lv_aload_n hx hb dX12_basic_253 rfl (lv_at hl 2 rfl) ?_
    refine lv_iload_n hx hb dX12_basic_254 rfl (lv_at hl 1 rfl) ?_
    refine kcI (n := 1) (c_isPair rv1 h) G_isPair E_isPair X hw (Nat.le_trans (Nat.le_of_ble_eq_true rfl) hRf) (Nat.le_trans (Nat.le_of_ble_eq_true rfl) hRl) rfl hl.1 (Nat.le_of_ble_eq_true rfl) rfl dX12_basic_255 (fun v35 u H locs rv35 h hw => ?_)
    refine k_if_eq hx hb rv35 dX12_basic_258 (tgt := 270) rfl h (fun h => ?_) (fun h => ?_)
    · refine lv_iconst hx hb dX12_basic_270 (v := jI 0) rfl ?_
      exact hret _ _ _ _ _ _ (by decide) h hw dX12_basic_271
    · refine lv_aload_n hx hb dX12_basic_261 rfl (lv_at hl 2 rfl) ?_
      refine gA 1 14 (by decide) L_1 (fun _ _ => mF_1) rfl X hw dX12_basic_262 ?_
      refine lv_iload_n hx hb dX12_basic_265 rfl (lv_at hl 1 rfl) ?_
      refine aL 1 2 1 452000 (fun _ _ _ _ => mG_1) (fun _ => rfl) X hw rv1 dX12_basic_266 rfl h (fun v36 rv36 h => ?_)
      refine lv_goto hx hb dX12_basic_267 (tgt := 271) rfl ?_
      exact hret _ _ _ _ _ _ rv36 h hw dX12_basic_271
  refine br_sp h (fun ek h => ?_) (fun n40 h => ?_)
  · refine k_tabIn (tgt := 272) (off := 254) hx hb dX12_basic_18 ek (by decide) (by decide) rfl rfl ?_
    refine lv_aload_n hx hb dX12_basic_272 rfl (lv_at hl 2 rfl) ?_
    refine lv_iload_n hx hb dX12_basic_273 rfl (lv_at hl 1 rfl) ?_
    refine kcI (n := 1) (c_isNatural rv1 h) G_isNatural E_isNatural X hw (Nat.le_trans (Nat.le_of_ble_eq_true rfl) hRf) (Nat.le_trans (Nat.le_of_ble_eq_true rfl) hRl) rfl hl.1 (Nat.le_of_ble_eq_true rfl) rfl dX12_basic_274 (fun v38 u H locs rv38 h hw => ?_)
    refine kcT (n := 1) (c_truth rv38 h) G_truth E_truth X hw (Nat.le_trans (Nat.le_of_ble_eq_true rfl) hRf) (Nat.le_trans (Nat.le_of_ble_eq_true rfl) hRl) rfl hl.1 (Nat.le_of_ble_eq_true rfl) rfl dX12_basic_277 (fun v39 u H locs rv39 h hw => ?_)
    exact hret _ _ _ _ _ _ rv39 h hw dX12_basic_280
  refine br_sp h (fun ek h => ?_) (fun n43 h => ?_)
  · refine k_tabIn (tgt := 281) (off := 263) hx hb dX12_basic_18 ek (by decide) (by decide) rfl rfl ?_
    refine lv_aload_n hx hb dX12_basic_281 rfl (lv_at hl 2 rfl) ?_
    refine lv_iload_n hx hb dX12_basic_282 rfl (lv_at hl 1 rfl) ?_
    refine kcI (n := 1) (c_isSymbol rv1 h) G_isSymbol E_isSymbol X hw (Nat.le_trans (Nat.le_of_ble_eq_true rfl) hRf) (Nat.le_trans (Nat.le_of_ble_eq_true rfl) hRl) rfl hl.1 (Nat.le_of_ble_eq_true rfl) rfl dX12_basic_283 (fun v41 u H locs rv41 h hw => ?_)
    refine kcT (n := 1) (c_truth rv41 h) G_truth E_truth X hw (Nat.le_trans (Nat.le_of_ble_eq_true rfl) hRf) (Nat.le_trans (Nat.le_of_ble_eq_true rfl) hRl) rfl hl.1 (Nat.le_of_ble_eq_true rfl) rfl dX12_basic_286 (fun v42 u H locs rv42 h hw => ?_)
    exact hret _ _ _ _ _ _ rv42 h hw dX12_basic_289
  refine br_sp h (fun ek h => ?_) (fun n45 h => ?_)
  · refine k_tabIn (tgt := 302) (off := 284) hx hb dX12_basic_18 ek (by decide) (by decide) rfl rfl ?_
    refine lv_iload_n hx hb dX12_basic_302 rfl (lv_at hl 1 rfl) ?_
    refine k_if_ne hx hb rv1 dX12_basic_303 (tgt := 310) rfl h (fun h => ?_) (fun h => ?_)
    · refine lv_iconst hx hb dX12_basic_310 (v := jI 0) rfl ?_
      exact b_basic_311 X hRf hRl hret (by decide) hw (lv_sub hl [2] rfl) h
    · refine lv_iconst hx hb dX12_basic_306 (v := jI 1) rfl ?_
      refine lv_goto hx hb dX12_basic_307 (tgt := 311) rfl ?_
      exact b_basic_311 X hRf hRl hret (by decide) hw (lv_sub hl [2] rfl) h
  refine br_sp h (fun ek h => ?_) (fun n49 h => ?_)
  · refine k_tabIn (tgt := 290) (off := 272) hx hb dX12_basic_18 ek (by decide) (by decide) rfl rfl ?_
    refine lv_aload_n hx hb dX12_basic_290 rfl (lv_at hl 2 rfl) ?_
    refine lv_aload_n hx hb dX12_basic_291 rfl (lv_at hl 2 rfl) ?_
    refine gA 4 23 (by decide) L_4 (fun _ _ => mF_4) rfl X hw dX12_basic_292 ?_
    refine lv_iload_n hx hb dX12_basic_295 rfl (lv_at hl 1 rfl) ?_
    refine aL 4 5 4 452000 (fun _ _ _ _ => mG_4) (fun _ => rfl) X hw rv1 dX12_basic_296 rfl h (fun v46 rv46 h => ?_)
    refine k_i2l hx hb rv46 dX12_basic_297 (fun r47 => ?_)
    refine kcI (n := 1) (c_natural r47 h) G_natural E_natural X hw (Nat.le_trans (Nat.le_of_ble_eq_true rfl) hRf) (Nat.le_trans (Nat.le_of_ble_eq_true rfl) hRl) rfl hl.1 (Nat.le_of_ble_eq_true rfl) rfl dX12_basic_298 (fun v48 u H locs rv48 h hw => ?_)
    exact hret _ _ _ _ _ _ rv48 h hw dX12_basic_301
  refine k_tabOut (tgt := 302) hx hb ra0 dX12_basic_18 (by omega) rfl ?_
  refine lv_iload_n hx hb dX12_basic_302 rfl (lv_at hl 1 rfl) ?_
  refine k_if_ne hx hb rv1 dX12_basic_303 (tgt := 310) rfl h (fun h => ?_) (fun h => ?_)
  · refine lv_iconst hx hb dX12_basic_310 (v := jI 0) rfl ?_
    exact b_basic_311 X hRf hRl hret (by decide) hw (lv_sub hl [2] rfl) h
  · refine lv_iconst hx hb dX12_basic_306 (v := jI 1) rfl ?_
    refine lv_goto hx hb dX12_basic_307 (tgt := 311) rfl ?_
    exact b_basic_311 X hRf hRl hret (by decide) hw (lv_sub hl [2] rfl) h

end
theorem c_basic {l : Launch} {a0 : Int} {a1 : Int} (ra0 : inR a0) (ra1 : inR a1) {Q : Int → iST → Prop} {u : iST} (h : w_basic a0 a1 Q u) : kMI l yX12_basic (.code yX12_basic cX12_basic 5 (some .int) :: wsM) { frames := 2, cells := 0, slots := 0, locals := 47 } [.int (jI a0), .int (jI a1)] Q u := kMI_of rfl (fun _ => Nat.le_of_ble_eq_true rfl) (fun X hRf hRl hret hw hl => b_basic_s X hRf hRl hret ra0 ra1 hw hl h)

/-! takeValue -/
theorem dX12_takeValue_0 : decode cX12_takeValue 0 = .ok (.aload_n 0, 1) := by decide +kernel
theorem dX12_takeValue_1 : decode cX12_takeValue 1 = .ok (.getfield 573, 3) := by decide +kernel
theorem dX12_takeValue_4 : decode cX12_takeValue 4 = .ok (.iconst 1, 1) := by decide +kernel
theorem dX12_takeValue_5 : decode cX12_takeValue 5 = .ok (.isub, 1) := by decide +kernel
theorem dX12_takeValue_6 : decode cX12_takeValue 6 = .ok (.istore_n 2, 1) := by decide +kernel
theorem dX12_takeValue_7 : decode cX12_takeValue 7 = .ok (.aload_n 0, 1) := by decide +kernel
theorem dX12_takeValue_8 : decode cX12_takeValue 8 = .ok (.getfield 184, 3) := by decide +kernel
theorem dX12_takeValue_11 : decode cX12_takeValue 11 = .ok (.iload_n 2, 1) := by decide +kernel
theorem dX12_takeValue_12 : decode cX12_takeValue 12 = .ok (.baload, 1) := by decide +kernel
theorem dX12_takeValue_13 : decode cX12_takeValue 13 = .ok (.ifCond .eq 26, 3) := by decide +kernel
theorem dX12_takeValue_16 : decode cX12_takeValue 16 = .ok (.aload_n 0, 1) := by decide +kernel
theorem dX12_takeValue_17 : decode cX12_takeValue 17 = .ok (.dup, 1) := by decide +kernel
theorem dX12_takeValue_18 : decode cX12_takeValue 18 = .ok (.getfield 573, 3) := by decide +kernel
theorem dX12_takeValue_21 : decode cX12_takeValue 21 = .ok (.iconst 1, 1) := by decide +kernel
theorem dX12_takeValue_22 : decode cX12_takeValue 22 = .ok (.isub, 1) := by decide +kernel
theorem dX12_takeValue_23 : decode cX12_takeValue 23 = .ok (.putfield 573, 3) := by decide +kernel
theorem dX12_takeValue_26 : decode cX12_takeValue 26 = .ok (.aload_n 0, 1) := by decide +kernel
theorem dX12_takeValue_27 : decode cX12_takeValue 27 = .ok (.aload_n 0, 1) := by decide +kernel
theorem dX12_takeValue_28 : decode cX12_takeValue 28 = .ok (.getfield 175, 3) := by decide +kernel
theorem dX12_takeValue_31 : decode cX12_takeValue 31 = .ok (.iload_n 2, 1) := by decide +kernel
theorem dX12_takeValue_32 : decode cX12_takeValue 32 = .ok (.iaload, 1) := by decide +kernel
theorem dX12_takeValue_33 : decode cX12_takeValue 33 = .ok (.putfield 582, 3) := by decide +kernel
theorem dX12_takeValue_36 : decode cX12_takeValue 36 = .ok (.goto 95, 3) := by decide +kernel
theorem dX12_takeValue_39 : decode cX12_takeValue 39 = .ok (.aload_n 0, 1) := by decide +kernel
theorem dX12_takeValue_40 : decode cX12_takeValue 40 = .ok (.getfield 8, 3) := by decide +kernel
theorem dX12_takeValue_43 : decode cX12_takeValue 43 = .ok (.aload_n 0, 1) := by decide +kernel
theorem dX12_takeValue_44 : decode cX12_takeValue 44 = .ok (.getfield 169, 3) := by decide +kernel
theorem dX12_takeValue_47 : decode cX12_takeValue 47 = .ok (.iload_n 2, 1) := by decide +kernel
theorem dX12_takeValue_48 : decode cX12_takeValue 48 = .ok (.iaload, 1) := by decide +kernel
theorem dX12_takeValue_49 : decode cX12_takeValue 49 = .ok (.iaload, 1) := by decide +kernel
theorem dX12_takeValue_50 : decode cX12_takeValue 50 = .ok (.iconst 3, 1) := by decide +kernel
theorem dX12_takeValue_51 : decode cX12_takeValue 51 = .ok (.if_icmp .ne 52, 3) := by decide +kernel
theorem dX12_takeValue_54 : decode cX12_takeValue 54 = .ok (.aload_n 0, 1) := by decide +kernel
theorem dX12_takeValue_55 : decode cX12_takeValue 55 = .ok (.getfield 184, 3) := by decide +kernel
theorem dX12_takeValue_58 : decode cX12_takeValue 58 = .ok (.iload_n 2, 1) := by decide +kernel
theorem dX12_takeValue_59 : decode cX12_takeValue 59 = .ok (.iconst 1, 1) := by decide +kernel
theorem dX12_takeValue_60 : decode cX12_takeValue 60 = .ok (.bastore, 1) := by decide +kernel
theorem dX12_takeValue_61 : decode cX12_takeValue 61 = .ok (.aload_n 0, 1) := by decide +kernel
theorem dX12_takeValue_62 : decode cX12_takeValue 62 = .ok (.aload_n 0, 1) := by decide +kernel
theorem dX12_takeValue_63 : decode cX12_takeValue 63 = .ok (.aload_n 0, 1) := by decide +kernel
theorem dX12_takeValue_64 : decode cX12_takeValue 64 = .ok (.getfield 169, 3) := by decide +kernel
theorem dX12_takeValue_67 : decode cX12_takeValue 67 = .ok (.iload_n 2, 1) := by decide +kernel
theorem dX12_takeValue_68 : decode cX12_takeValue 68 = .ok (.iaload, 1) := by decide +kernel
theorem dX12_takeValue_69 : decode cX12_takeValue 69 = .ok (.aload_n 0, 1) := by decide +kernel
theorem dX12_takeValue_70 : decode cX12_takeValue 70 = .ok (.getfield 570, 3) := by decide +kernel
theorem dX12_takeValue_73 : decode cX12_takeValue 73 = .ok (.ifCond .ne 7, 3) := by decide +kernel
theorem dX12_takeValue_76 : decode cX12_takeValue 76 = .ok (.iconst 3, 1) := by decide +kernel
theorem dX12_takeValue_77 : decode cX12_takeValue 77 = .ok (.goto 4, 3) := by decide +kernel
theorem dX12_takeValue_80 : decode cX12_takeValue 80 = .ok (.iconst 2, 1) := by decide +kernel
theorem dX12_takeValue_81 : decode cX12_takeValue 81 = .ok (.invokevirtual 592, 3) := by decide +kernel
theorem dX12_takeValue_84 : decode cX12_takeValue 84 = .ok (.aload_n 0, 1) := by decide +kernel
theorem dX12_takeValue_85 : decode cX12_takeValue 85 = .ok (.getfield 178, 3) := by decide +kernel
theorem dX12_takeValue_88 : decode cX12_takeValue 88 = .ok (.iload_n 2, 1) := by decide +kernel
theorem dX12_takeValue_89 : decode cX12_takeValue 89 = .ok (.iaload, 1) := by decide +kernel
theorem dX12_takeValue_90 : decode cX12_takeValue 90 = .ok (.aload_n 0, 1) := by decide +kernel
theorem dX12_takeValue_91 : decode cX12_takeValue 91 = .ok (.getfield 181, 3) := by decide +kernel
theorem dX12_takeValue_94 : decode cX12_takeValue 94 = .ok (.iload_n 2, 1) := by decide +kernel
theorem dX12_takeValue_95 : decode cX12_takeValue 95 = .ok (.iaload, 1) := by decide +kernel
theorem dX12_takeValue_96 : decode cX12_takeValue 96 = .ok (.iload_n 1, 1) := by decide +kernel
theorem dX12_takeValue_97 : decode cX12_takeValue 97 = .ok (.invokevirtual 595, 3) := by decide +kernel
theorem dX12_takeValue_100 : decode cX12_takeValue 100 = .ok (.goto 31, 3) := by decide +kernel
theorem dX12_takeValue_103 : decode cX12_takeValue 103 = .ok (.aload_n 0, 1) := by decide +kernel
theorem dX12_takeValue_104 : decode cX12_takeValue 104 = .ok (.getfield 187, 3) := by decide +kernel
theorem dX12_takeValue_107 : decode cX12_takeValue 107 = .ok (.aload_n 0, 1) := by decide +kernel
theorem dX12_takeValue_108 : decode cX12_takeValue 108 = .ok (.getfield 582, 3) := by decide +kernel
theorem dX12_takeValue_111 : decode cX12_takeValue 111 = .ok (.aload_n 0, 1) := by decide +kernel
theorem dX12_takeValue_112 : decode cX12_takeValue 112 = .ok (.getfield 570, 3) := by decide +kernel
theorem dX12_takeValue_115 : decode cX12_takeValue 115 = .ok (.iastore, 1) := by decide +kernel
theorem dX12_takeValue_116 : decode cX12_takeValue 116 = .ok (.aload_n 0, 1) := by decide +kernel
theorem dX12_takeValue_117 : decode cX12_takeValue 117 = .ok (.dup, 1) := by decide +kernel
theorem dX12_takeValue_118 : decode cX12_takeValue 118 = .ok (.getfield 582, 3) := by decide +kernel
theorem dX12_takeValue_121 : decode cX12_takeValue 121 = .ok (.iconst 1, 1) := by decide +kernel
theorem dX12_takeValue_122 : decode cX12_takeValue 122 = .ok (.iadd, 1) := by decide +kernel
theorem dX12_takeValue_123 : decode cX12_takeValue 123 = .ok (.putfield 582, 3) := by decide +kernel
theorem dX12_takeValue_126 : decode cX12_takeValue 126 = .ok (.aload_n 0, 1) := by decide +kernel
theorem dX12_takeValue_127 : decode cX12_takeValue 127 = .ok (.iconst 0, 1) := by decide +kernel
theorem dX12_takeValue_128 : decode cX12_takeValue 128 = .ok (.putfield 564, 3) := by decide +kernel
theorem dX12_takeValue_131 : decode cX12_takeValue 131 = .ok (.return_, 1) := by decide +kernel

section
variable {p : Program} {l : Launch} {e : Env} {R : Room} {s : State} {m : MethodId} {args : Array Value} {below : List Frame} {meth : Method} {c : Code} {H : Heap} {locs : List Loc} {Qf : State → Prop}
variable {ls : Array Slot} {D : va_G} {ca : Nat → ClassId} {A : Nat → Prop} {h0 : Nat} {ad : Nat → Nat} {H0 : Heap} {u : iST}
def w_takeValue_81 (Q : iST → Prop) (x1 : Int) (x2 : Int) (y2 : Int) (y3 : Int) (u : iST) : Prop :=
  w_term y2 y3 (fun v12 u => 
  bd x2 300 (rd (u.2.1 82 x2) (fun v13 => 
  bd x2 300 (rd (u.2.1 83 x2) (fun v14 => 
  w_beginEval v12 v13 v14 x1 (fun u => 
  Q u) u))))) u
set_option maxRecDepth 20000 in
set_option maxHeartbeats 4000000 in
theorem b_takeValue_81 (X : kX p m c cX12_takeValue 3 s args D ca) (hRf : 4 ≤ R.frames) (hRl : 88 ≤ R.locals) {Q : iST → Prop} (hret : ∀ (u : iST) (H : Heap) (locs : List Loc) (ls : Array Slot) (pc : Nat), Q u → kW D ca A h0 ad H0 H locs u → decode cX12_takeValue pc = .ok (.return_, 1) → W p l e R s m args below meth c H locs 0 0 Qf (F0 m pc ls [])) {x1 x2 y2 y3 : Int} (rx1 : inR x1) (rx2 : inR x2) (ry2 : inR y2) (ry3 : inR y3) (hw : kW D ca A h0 ad H0 H locs u) (hl : lv_has ls 3 [(0, .ref h0), (1, .int (jI x1)), (2, .int (jI x2))]) (h : w_takeValue_81 Q x1 x2 y2 y3 u) : W p l e R s m args below meth c H locs 0 0 Qf (F0 m 81 ls [.int (jI y3), .int (jI y2), .ref (h0), .ref (h0)]) := by
  have hx := X.1.1
  have hb := X.1.2.1
  unfold w_takeValue_81 at h
  refine kcI (n := 2) (c_term ry2 ry3 h) G_term E_term X hw (Nat.le_trans (Nat.le_of_ble_eq_true rfl) hRf) (Nat.le_trans (Nat.le_of_ble_eq_true rfl) hRl) rfl hl.1 (Nat.le_of_ble_eq_true rfl) rfl dX12_takeValue_81 (fun v12 u H locs rv12 h hw => ?_)
  refine lv_aload_n hx hb dX12_takeValue_84 rfl (lv_at hl 0 rfl) ?_
  refine gA 82 178 (by decide) L_82 (fun _ _ => mF_82) rfl X hw dX12_takeValue_85 ?_
  refine lv_iload_n hx hb dX12_takeValue_88 rfl (lv_at hl 2 rfl) ?_
  refine aL 82 52 51 300 (fun _ _ _ _ => mG_82) (fun _ => rfl) X hw rx2 dX12_takeValue_89 rfl h (fun v13 rv13 h => ?_)
  refine lv_aload_n hx hb dX12_takeValue_90 rfl (lv_at hl 0 rfl) ?_
  refine gA 83 181 (by decide) L_83 (fun _ _ => mF_83) rfl X hw dX12_takeValue_91 ?_
  refine lv_iload_n hx hb dX12_takeValue_94 rfl (lv_at hl 2 rfl) ?_
  refine aL 83 53 52 300 (fun _ _ _ _ => mG_83) (fun _ => rfl) X hw rx2 dX12_takeValue_95 rfl h (fun v14 rv14 h => ?_)
  refine lv_iload_n hx hb dX12_takeValue_96 rfl (lv_at hl 1 rfl) ?_
  refine kcV (n := 4) (c_beginEval rv12 rv13 rv14 rx1 h) G_beginEval E_beginEval X hw (Nat.le_trans (Nat.le_of_ble_eq_true rfl) hRf) (Nat.le_trans (Nat.le_of_ble_eq_true rfl) hRl) rfl hl.1 (Nat.le_of_ble_eq_true rfl) rfl dX12_takeValue_97 (fun u H locs h hw => ?_)
  refine lv_goto hx hb dX12_takeValue_100 (tgt := 131) rfl ?_
  exact hret _ _ _ _ _ h hw dX12_takeValue_131

def w_takeValue (a0 : Int) (Q : iST → Prop) (u : iST) : Prop :=
  rd (u.1 85) (fun v1 => 
  ov (v1 - 1) (
  bd (v1 - 1) 300 (rz (u.2.1 84 (v1 - 1)) (fun v3 => 
  br (v3 = 0) (
    bd (v1 - 1) 300 (rd (u.2.1 79 (v1 - 1)) (fun v4 => 
    bd v4 452000 (rd (u.2.1 0 v4) (fun v5 => 
    br (v5 ≠ 3) (
      rd (u.1 87) (fun v6 => 
      rd (u.1 91) (fun v7 => 
      bd v6 2400 (sw (iA u 86 v6 v7) (fun u => 
      rd (u.1 87) (fun v8 => 
      ov (v8 + 1) (
      sw (iI u 87 (v8 + 1)) (fun u => 
      zt 0 (sw (iI u 90 0) (fun u => 
      Q u)))))))))) (
      zt 1 (bd (v1 - 1) 300 (sw (iA u 84 (v1 - 1) 1) (fun u => 
      bd (v1 - 1) 300 (rd (u.2.1 79 (v1 - 1)) (fun v10 => 
      rd (u.1 91) (fun v11 => 
      br (v11 ≠ 0) (
        w_takeValue_81 Q a0 (v1 - 1) v10 2 u) (
        w_takeValue_81 Q a0 (v1 - 1) v10 3 u))))))))))))) (
    rd (u.1 85) (fun v16 => 
    ov (v16 - 1) (
    sw (iI u 85 (v16 - 1)) (fun u => 
    bd (v1 - 1) 300 (rd (u.2.1 81 (v1 - 1)) (fun v18 => 
    sw (iI u 87 v18) (fun u => 
    Q u)))))))))))
set_option maxRecDepth 20000 in
set_option maxHeartbeats 4000000 in
theorem b_takeValue_s (X : kX p m c cX12_takeValue 3 s args D ca) (hRf : 4 ≤ R.frames) (hRl : 88 ≤ R.locals) {Q : iST → Prop} (hret : ∀ (u : iST) (H : Heap) (locs : List Loc) (ls : Array Slot) (pc : Nat), Q u → kW D ca A h0 ad H0 H locs u → decode cX12_takeValue pc = .ok (.return_, 1) → W p l e R s m args below meth c H locs 0 0 Qf (F0 m pc ls [])) {a0 : Int} (ra0 : inR a0) (hw : kW D ca A h0 ad H0 H locs u) (hl : lv_has ls 3 [(0, .ref h0), (1, .int (jI a0))]) (h : w_takeValue a0 Q u) : W p l e R s m args below meth c H locs 0 0 Qf (F0 m 0 ls []) := by
  have hx := X.1.1
  have hb := X.1.2.1
  unfold w_takeValue at h
  refine lv_aload_n hx hb dX12_takeValue_0 rfl (lv_at hl 0 rfl) ?_
  refine gS 85 573 (by decide) L_85 (fun _ _ => mF_85) rfl X hw dX12_takeValue_1 h (fun v1 rv1 h => ?_)
  refine lv_iconst hx hb dX12_takeValue_4 (v := jI 1) rfl ?_
  refine k_isub hx hb dX12_takeValue_5 h (fun r2 h => ?_)
  refine lv_istore_n hx hb dX12_takeValue_6 rfl hl (by decide) rfl (fun ls hl => ?_)
  have hl : lv_has ls 3 [(2, .int (jI (v1 - 1))), (0, .ref (h0)), (1, .int (jI a0))] := hl
  refine lv_aload_n hx hb dX12_takeValue_7 rfl (lv_at hl 1 rfl) ?_
  refine gA 84 184 (by decide) L_84 (fun _ _ => mF_84) rfl X hw dX12_takeValue_8 ?_
  refine lv_iload_n hx hb dX12_takeValue_11 rfl (lv_at hl 0 rfl) ?_
  refine aZ 84 54 53 300 (fun _ _ _ _ => mG_84) (fun _ => rfl) (by decide) X hw r2 dX12_takeValue_12 rfl h (fun v3 rv3 h => ?_)
  refine k_if_eq hx hb (bz_in rv3) dX12_takeValue_13 (tgt := 39) rfl h (fun h => ?_) (fun h => ?_)
  · refine lv_aload_n hx hb dX12_takeValue_39 rfl (lv_at hl 1 rfl) ?_
    refine gA 0 8 (by decide) L_0 (fun _ _ => mF_0) rfl X hw dX12_takeValue_40 ?_
    refine lv_aload_n hx hb dX12_takeValue_43 rfl (lv_at hl 1 rfl) ?_
    refine gA 79 169 (by decide) L_79 (fun _ _ => mF_79) rfl X hw dX12_takeValue_44 ?_
    refine lv_iload_n hx hb dX12_takeValue_47 rfl (lv_at hl 0 rfl) ?_
    refine aL 79 49 48 300 (fun _ _ _ _ => mG_79) (fun _ => rfl) X hw r2 dX12_takeValue_48 rfl h (fun v4 rv4 h => ?_)
    refine aL 0 1 0 452000 (fun _ _ _ _ => mG_0) (fun _ => rfl) X hw rv4 dX12_takeValue_49 rfl h (fun v5 rv5 h => ?_)
    refine lv_iconst hx hb dX12_takeValue_50 (v := jI 3) rfl ?_
    refine k_icmp_ne hx hb rv5 (by decide) dX12_takeValue_51 (tgt := 103) rfl h (fun h => ?_) (fun h => ?_)
    · refine lv_aload_n hx hb dX12_takeValue_103 rfl (lv_at hl 1 rfl) ?_
      refine gA 86 187 (by decide) L_86 (fun _ _ => mF_86) rfl X hw dX12_takeValue_104 ?_
      refine lv_aload_n hx hb dX12_takeValue_107 rfl (lv_at hl 1 rfl) ?_
      refine gS 87 582 (by decide) L_87 (fun _ _ => mF_87) rfl X hw dX12_takeValue_108 h (fun v6 rv6 h => ?_)
      refine lv_aload_n hx hb dX12_takeValue_111 rfl (lv_at hl 1 rfl) ?_
      refine gS 91 570 (by decide) L_91 (fun _ _ => mF_91) rfl X hw dX12_takeValue_112 h (fun v7 rv7 h => ?_)
      refine aS 86 55 54 2400 (fun _ _ _ _ => mG_86) (fun _ => rfl) (fun _ _ _ _ _ _ => mSA_86) (by decide) X hw rv6 rv7 dX12_takeValue_115 rfl h (fun H locs u hw h => ?_)
      refine lv_aload_n hx hb dX12_takeValue_116 rfl (lv_at hl 1 rfl) ?_
      refine lv_dup hx hb dX12_takeValue_117 rfl ?_
      refine gS 87 582 (by decide) L_87 (fun _ _ => mF_87) rfl X hw dX12_takeValue_118 h (fun v8 rv8 h => ?_)
      refine lv_iconst hx hb dX12_takeValue_121 (v := jI 1) rfl ?_
      refine k_iadd hx hb dX12_takeValue_122 h (fun r9 h => ?_)
      refine pS 87 582 (by decide) L_87 rfl rfl rfl (fun _ _ _ _ _ => mSI_87) (by decide) X hw r9 dX12_takeValue_123 h (fun H locs u hw h => ?_)
      refine lv_aload_n hx hb dX12_takeValue_126 rfl (lv_at hl 1 rfl) ?_
      refine lv_iconst hx hb dX12_takeValue_127 (v := jI 0) rfl ?_
      refine pZ 90 564 (by decide) L_90 rfl rfl rfl (fun _ _ _ _ _ => mSI_90) X hw dX12_takeValue_128 h (fun H locs u hw h => ?_)
      exact hret _ _ _ _ _ h hw dX12_takeValue_131
    · refine lv_aload_n hx hb dX12_takeValue_54 rfl (lv_at hl 1 rfl) ?_
      refine gA 84 184 (by decide) L_84 (fun _ _ => mF_84) rfl X hw dX12_takeValue_55 ?_
      refine lv_iload_n hx hb dX12_takeValue_58 rfl (lv_at hl 0 rfl) ?_
      refine lv_iconst hx hb dX12_takeValue_59 (v := jI 1) rfl ?_
      refine aY 84 54 53 300 (fun _ _ _ _ => mG_84) (fun _ => rfl) (fun _ _ _ _ _ _ => mSA_84) X hw r2 dX12_takeValue_60 rfl h (fun H locs u hw h => ?_)
      refine lv_aload_n hx hb dX12_takeValue_61 rfl (lv_at hl 1 rfl) ?_
      refine lv_aload_n hx hb dX12_takeValue_62 rfl (lv_at hl 1 rfl) ?_
      refine lv_aload_n hx hb dX12_takeValue_63 rfl (lv_at hl 1 rfl) ?_
      refine gA 79 169 (by decide) L_79 (fun _ _ => mF_79) rfl X hw dX12_takeValue_64 ?_
      refine lv_iload_n hx hb dX12_takeValue_67 rfl (lv_at hl 0 rfl) ?_
      refine aL 79 49 48 300 (fun _ _ _ _ => mG_79) (fun _ => rfl) X hw r2 dX12_takeValue_68 rfl h (fun v10 rv10 h => ?_)
      refine lv_aload_n hx hb dX12_takeValue_69 rfl (lv_at hl 1 rfl) ?_
      refine gS 91 570 (by decide) L_91 (fun _ _ => mF_91) rfl X hw dX12_takeValue_70 h (fun v11 rv11 h => ?_)
      refine k_if_ne hx hb rv11 dX12_takeValue_73 (tgt := 80) rfl h (fun h => ?_) (fun h => ?_)
      · refine lv_iconst hx hb dX12_takeValue_80 (v := jI 2) rfl ?_
        exact b_takeValue_81 X hRf hRl hret ra0 r2 rv10 (by decide) hw (lv_sub hl [1, 2, 0] rfl) h
      · refine lv_iconst hx hb dX12_takeValue_76 (v := jI 3) rfl ?_
        refine lv_goto hx hb dX12_takeValue_77 (tgt := 81) rfl ?_
        exact b_takeValue_81 X hRf hRl hret ra0 r2 rv10 (by decide) hw (lv_sub hl [1, 2, 0] rfl) h
  · refine lv_aload_n hx hb dX12_takeValue_16 rfl (lv_at hl 1 rfl) ?_
    refine lv_dup hx hb dX12_takeValue_17 rfl ?_
    refine gS 85 573 (by decide) L_85 (fun _ _ => mF_85) rfl X hw dX12_takeValue_18 h (fun v16 rv16 h => ?_)
    refine lv_iconst hx hb dX12_takeValue_21 (v := jI 1) rfl ?_
    refine k_isub hx hb dX12_takeValue_22 h (fun r17 h => ?_)
    refine pS 85 573 (by decide) L_85 rfl rfl rfl (fun _ _ _ _ _ => mSI_85) (by decide) X hw r17 dX12_takeValue_23 h (fun H locs u hw h => ?_)
    refine lv_aload_n hx hb dX12_takeValue_26 rfl (lv_at hl 1 rfl) ?_
    refine lv_aload_n hx hb dX12_takeValue_27 rfl (lv_at hl 1 rfl) ?_
    refine gA 81 175 (by decide) L_81 (fun _ _ => mF_81) rfl X hw dX12_takeValue_28 ?_
    refine lv_iload_n hx hb dX12_takeValue_31 rfl (lv_at hl 0 rfl) ?_
    refine aL 81 51 50 300 (fun _ _ _ _ => mG_81) (fun _ => rfl) X hw r2 dX12_takeValue_32 rfl h (fun v18 rv18 h => ?_)
    refine pS 87 582 (by decide) L_87 rfl rfl rfl (fun _ _ _ _ _ => mSI_87) (by decide) X hw rv18 dX12_takeValue_33 h (fun H locs u hw h => ?_)
    refine lv_goto hx hb dX12_takeValue_36 (tgt := 131) rfl ?_
    exact hret _ _ _ _ _ h hw dX12_takeValue_131

end
theorem c_takeValue {l : Launch} {a0 : Int} (ra0 : inR a0) {Q : iST → Prop} {u : iST} (h : w_takeValue a0 Q u) : kMV l yX12_takeValue (.code yX12_takeValue cX12_takeValue 3 none :: wsM) { frames := 4, cells := 0, slots := 0, locals := 88 } [.int (jI a0)] Q u := kMV_of rfl (fun _ => Nat.le_of_ble_eq_true rfl) (fun X hRf hRl hret hw hl => b_takeValue_s X hRf hRl hret ra0 hw hl h)

/-! goOn -/
theorem dX12_goOn_0 : decode cX12_goOn 0 = .ok (.aload_n 0, 1) := by decide +kernel
theorem dX12_goOn_1 : decode cX12_goOn 1 = .ok (.getfield 573, 3) := by decide +kernel
theorem dX12_goOn_4 : decode cX12_goOn 4 = .ok (.iconst 1, 1) := by decide +kernel
theorem dX12_goOn_5 : decode cX12_goOn 5 = .ok (.isub, 1) := by decide +kernel
theorem dX12_goOn_6 : decode cX12_goOn 6 = .ok (.istore_n 2, 1) := by decide +kernel
theorem dX12_goOn_7 : decode cX12_goOn 7 = .ok (.aload_n 0, 1) := by decide +kernel
theorem dX12_goOn_8 : decode cX12_goOn 8 = .ok (.getfield 172, 3) := by decide +kernel
theorem dX12_goOn_11 : decode cX12_goOn 11 = .ok (.iload_n 2, 1) := by decide +kernel
theorem dX12_goOn_12 : decode cX12_goOn 12 = .ok (.iaload, 1) := by decide +kernel
theorem dX12_goOn_13 : decode cX12_goOn 13 = .ok (.ifCond .eq 51, 3) := by decide +kernel
theorem dX12_goOn_16 : decode cX12_goOn 16 = .ok (.aload_n 0, 1) := by decide +kernel
theorem dX12_goOn_17 : decode cX12_goOn 17 = .ok (.getfield 8, 3) := by decide +kernel
theorem dX12_goOn_20 : decode cX12_goOn 20 = .ok (.aload_n 0, 1) := by decide +kernel
theorem dX12_goOn_21 : decode cX12_goOn 21 = .ok (.getfield 172, 3) := by decide +kernel
theorem dX12_goOn_24 : decode cX12_goOn 24 = .ok (.iload_n 2, 1) := by decide +kernel
theorem dX12_goOn_25 : decode cX12_goOn 25 = .ok (.iaload, 1) := by decide +kernel
theorem dX12_goOn_26 : decode cX12_goOn 26 = .ok (.iaload, 1) := by decide +kernel
theorem dX12_goOn_27 : decode cX12_goOn 27 = .ok (.istore_n 3, 1) := by decide +kernel
theorem dX12_goOn_28 : decode cX12_goOn 28 = .ok (.aload_n 0, 1) := by decide +kernel
theorem dX12_goOn_29 : decode cX12_goOn 29 = .ok (.getfield 172, 3) := by decide +kernel
theorem dX12_goOn_32 : decode cX12_goOn 32 = .ok (.iload_n 2, 1) := by decide +kernel
theorem dX12_goOn_33 : decode cX12_goOn 33 = .ok (.aload_n 0, 1) := by decide +kernel
theorem dX12_goOn_34 : decode cX12_goOn 34 = .ok (.getfield 14, 3) := by decide +kernel
theorem dX12_goOn_37 : decode cX12_goOn 37 = .ok (.aload_n 0, 1) := by decide +kernel
theorem dX12_goOn_38 : decode cX12_goOn 38 = .ok (.getfield 172, 3) := by decide +kernel
theorem dX12_goOn_41 : decode cX12_goOn 41 = .ok (.iload_n 2, 1) := by decide +kernel
theorem dX12_goOn_42 : decode cX12_goOn 42 = .ok (.iaload, 1) := by decide +kernel
theorem dX12_goOn_43 : decode cX12_goOn 43 = .ok (.iaload, 1) := by decide +kernel
theorem dX12_goOn_44 : decode cX12_goOn 44 = .ok (.iastore, 1) := by decide +kernel
theorem dX12_goOn_45 : decode cX12_goOn 45 = .ok (.aload_n 0, 1) := by decide +kernel
theorem dX12_goOn_46 : decode cX12_goOn 46 = .ok (.iload_n 3, 1) := by decide +kernel
theorem dX12_goOn_47 : decode cX12_goOn 47 = .ok (.aload_n 0, 1) := by decide +kernel
theorem dX12_goOn_48 : decode cX12_goOn 48 = .ok (.getfield 178, 3) := by decide +kernel
theorem dX12_goOn_51 : decode cX12_goOn 51 = .ok (.iload_n 2, 1) := by decide +kernel
theorem dX12_goOn_52 : decode cX12_goOn 52 = .ok (.iaload, 1) := by decide +kernel
theorem dX12_goOn_53 : decode cX12_goOn 53 = .ok (.aload_n 0, 1) := by decide +kernel
theorem dX12_goOn_54 : decode cX12_goOn 54 = .ok (.getfield 181, 3) := by decide +kernel
theorem dX12_goOn_57 : decode cX12_goOn 57 = .ok (.iload_n 2, 1) := by decide +kernel
theorem dX12_goOn_58 : decode cX12_goOn 58 = .ok (.iaload, 1) := by decide +kernel
theorem dX12_goOn_59 : decode cX12_goOn 59 = .ok (.iload_n 1, 1) := by decide +kernel
theorem dX12_goOn_60 : decode cX12_goOn 60 = .ok (.invokevirtual 595, 3) := by decide +kernel
theorem dX12_goOn_63 : decode cX12_goOn 63 = .ok (.return_, 1) := by decide +kernel
theorem dX12_goOn_64 : decode cX12_goOn 64 = .ok (.aload_n 0, 1) := by decide +kernel
theorem dX12_goOn_65 : decode cX12_goOn 65 = .ok (.aload_n 0, 1) := by decide +kernel
theorem dX12_goOn_66 : decode cX12_goOn 66 = .ok (.getfield 8, 3) := by decide +kernel
theorem dX12_goOn_69 : decode cX12_goOn 69 = .ok (.aload_n 0, 1) := by decide +kernel
theorem dX12_goOn_70 : decode cX12_goOn 70 = .ok (.getfield 169, 3) := by decide +kernel
theorem dX12_goOn_73 : decode cX12_goOn 73 = .ok (.iload_n 2, 1) := by decide +kernel
theorem dX12_goOn_74 : decode cX12_goOn 74 = .ok (.iaload, 1) := by decide +kernel
theorem dX12_goOn_75 : decode cX12_goOn 75 = .ok (.iaload, 1) := by decide +kernel
theorem dX12_goOn_76 : decode cX12_goOn 76 = .ok (.invokevirtual 526, 3) := by decide +kernel
theorem dX12_goOn_79 : decode cX12_goOn 79 = .ok (.istore_n 3, 1) := by decide +kernel
theorem dX12_goOn_80 : decode cX12_goOn 80 = .ok (.aload_n 0, 1) := by decide +kernel
theorem dX12_goOn_81 : decode cX12_goOn 81 = .ok (.getfield 184, 3) := by decide +kernel
theorem dX12_goOn_84 : decode cX12_goOn 84 = .ok (.iload_n 2, 1) := by decide +kernel
theorem dX12_goOn_85 : decode cX12_goOn 85 = .ok (.iconst 1, 1) := by decide +kernel
theorem dX12_goOn_86 : decode cX12_goOn 86 = .ok (.bastore, 1) := by decide +kernel
theorem dX12_goOn_87 : decode cX12_goOn 87 = .ok (.iload_n 3, 1) := by decide +kernel
theorem dX12_goOn_88 : decode cX12_goOn 88 = .ok (.bipush 100, 2) := by decide +kernel
theorem dX12_goOn_90 : decode cX12_goOn 90 = .ok (.if_icmp .lt 28, 3) := by decide +kernel
theorem dX12_goOn_93 : decode cX12_goOn 93 = .ok (.aload_n 0, 1) := by decide +kernel
theorem dX12_goOn_94 : decode cX12_goOn 94 = .ok (.aload_n 0, 1) := by decide +kernel
theorem dX12_goOn_95 : decode cX12_goOn 95 = .ok (.getfield 87, 3) := by decide +kernel
theorem dX12_goOn_98 : decode cX12_goOn 98 = .ok (.iload_n 3, 1) := by decide +kernel
theorem dX12_goOn_99 : decode cX12_goOn 99 = .ok (.bipush 100, 2) := by decide +kernel
theorem dX12_goOn_101 : decode cX12_goOn 101 = .ok (.isub, 1) := by decide +kernel
theorem dX12_goOn_102 : decode cX12_goOn 102 = .ok (.iaload, 1) := by decide +kernel
theorem dX12_goOn_103 : decode cX12_goOn 103 = .ok (.iload_n 3, 1) := by decide +kernel
theorem dX12_goOn_104 : decode cX12_goOn 104 = .ok (.bipush 100, 2) := by decide +kernel
theorem dX12_goOn_106 : decode cX12_goOn 106 = .ok (.isub, 1) := by decide +kernel
theorem dX12_goOn_107 : decode cX12_goOn 107 = .ok (.aload_n 0, 1) := by decide +kernel
theorem dX12_goOn_108 : decode cX12_goOn 108 = .ok (.getfield 175, 3) := by decide +kernel
theorem dX12_goOn_111 : decode cX12_goOn 111 = .ok (.iload_n 2, 1) := by decide +kernel
theorem dX12_goOn_112 : decode cX12_goOn 112 = .ok (.iaload, 1) := by decide +kernel
theorem dX12_goOn_113 : decode cX12_goOn 113 = .ok (.iload_n 1, 1) := by decide +kernel
theorem dX12_goOn_114 : decode cX12_goOn 114 = .ok (.invokevirtual 595, 3) := by decide +kernel
theorem dX12_goOn_117 : decode cX12_goOn 117 = .ok (.return_, 1) := by decide +kernel
theorem dX12_goOn_118 : decode cX12_goOn 118 = .ok (.aload_n 0, 1) := by decide +kernel
theorem dX12_goOn_119 : decode cX12_goOn 119 = .ok (.aload_n 0, 1) := by decide +kernel
theorem dX12_goOn_120 : decode cX12_goOn 120 = .ok (.iload_n 3, 1) := by decide +kernel
theorem dX12_goOn_121 : decode cX12_goOn 121 = .ok (.aload_n 0, 1) := by decide +kernel
theorem dX12_goOn_122 : decode cX12_goOn 122 = .ok (.getfield 175, 3) := by decide +kernel
theorem dX12_goOn_125 : decode cX12_goOn 125 = .ok (.iload_n 2, 1) := by decide +kernel
theorem dX12_goOn_126 : decode cX12_goOn 126 = .ok (.iaload, 1) := by decide +kernel
theorem dX12_goOn_127 : decode cX12_goOn 127 = .ok (.invokevirtual 599, 3) := by decide +kernel
theorem dX12_goOn_130 : decode cX12_goOn 130 = .ok (.putfield 570, 3) := by decide +kernel
theorem dX12_goOn_133 : decode cX12_goOn 133 = .ok (.aload_n 0, 1) := by decide +kernel
theorem dX12_goOn_134 : decode cX12_goOn 134 = .ok (.iconst 1, 1) := by decide +kernel
theorem dX12_goOn_135 : decode cX12_goOn 135 = .ok (.putfield 564, 3) := by decide +kernel
theorem dX12_goOn_138 : decode cX12_goOn 138 = .ok (.aload_n 0, 1) := by decide +kernel
theorem dX12_goOn_139 : decode cX12_goOn 139 = .ok (.getfield 570, 3) := by decide +kernel
theorem dX12_goOn_142 : decode cX12_goOn 142 = .ok (.iconst (-1), 1) := by decide +kernel
theorem dX12_goOn_143 : decode cX12_goOn 143 = .ok (.if_icmp .ne 8, 3) := by decide +kernel
theorem dX12_goOn_146 : decode cX12_goOn 146 = .ok (.aload_n 0, 1) := by decide +kernel
theorem dX12_goOn_147 : decode cX12_goOn 147 = .ok (.iconst 3, 1) := by decide +kernel
theorem dX12_goOn_148 : decode cX12_goOn 148 = .ok (.putfield 576, 3) := by decide +kernel
theorem dX12_goOn_151 : decode cX12_goOn 151 = .ok (.return_, 1) := by decide +kernel

section
variable {p : Program} {l : Launch} {e : Env} {R : Room} {s : State} {m : MethodId} {args : Array Value} {below : List Frame} {meth : Method} {c : Code} {H : Heap} {locs : List Loc} {Qf : State → Prop}
variable {ls : Array Slot} {D : va_G} {ca : Nat → ClassId} {A : Nat → Prop} {h0 : Nat} {ad : Nat → Nat} {H0 : Heap} {u : iST}
def w_goOn (a0 : Int) (Q : iST → Prop) (u : iST) : Prop :=
  rd (u.1 85) (fun v1 => 
  ov (v1 - 1) (
  bd (v1 - 1) 300 (rd (u.2.1 80 (v1 - 1)) (fun v3 => 
  br (v3 = 0) (
    bd (v1 - 1) 300 (rd (u.2.1 79 (v1 - 1)) (fun v4 => 
    bd v4 452000 (rd (u.2.1 0 v4) (fun v5 => 
    w_functionOf v5 (fun v6 u => 
    zt 1 (bd (v1 - 1) 300 (sw (iA u 84 (v1 - 1) 1) (fun u => 
    br (v6 < 100) (
      bd (v1 - 1) 300 (rd (u.2.1 81 (v1 - 1)) (fun v7 => 
      w_basic v6 v7 (fun v8 u => 
      sw (iI u 91 v8) (fun u => 
      zt 1 (sw (iI u 90 1) (fun u => 
      rd (u.1 91) (fun v9 => 
      br (v9 ≠ (-1)) (
        Q u) (
        sw (iI u 89 3) (fun u => 
        Q u))))))) u))) (
      ov (v6 - 100) (
      bd (v6 - 100) 40 (rd (u.2.1 39 (v6 - 100)) (fun v11 => 
      ov (v6 - 100) (
      bd (v1 - 1) 300 (rd (u.2.1 81 (v1 - 1)) (fun v13 => 
      w_beginEval v11 (v6 - 100) v13 a0 (fun u => 
      Q u) u))))))))))) u))))) (
    bd (v1 - 1) 300 (rd (u.2.1 80 (v1 - 1)) (fun v15 => 
    bd v15 452000 (rd (u.2.1 0 v15) (fun v16 => 
    bd (v1 - 1) 300 (rd (u.2.1 80 (v1 - 1)) (fun v17 => 
    bd v17 452000 (rd (u.2.1 1 v17) (fun v18 => 
    bd (v1 - 1) 300 (sw (iA u 80 (v1 - 1) v18) (fun u => 
    bd (v1 - 1) 300 (rd (u.2.1 82 (v1 - 1)) (fun v19 => 
    bd (v1 - 1) 300 (rd (u.2.1 83 (v1 - 1)) (fun v20 => 
    w_beginEval v16 v19 v20 a0 (fun u => 
    Q u) u)))))))))))))))))))
set_option maxRecDepth 20000 in
set_option maxHeartbeats 4000000 in
theorem b_goOn_s (X : kX p m c cX12_goOn 4 s args D ca) (hRf : 4 ≤ R.frames) (hRl : 88 ≤ R.locals) {Q : iST → Prop} (hret : ∀ (u : iST) (H : Heap) (locs : List Loc) (ls : Array Slot) (pc : Nat), Q u → kW D ca A h0 ad H0 H locs u → decode cX12_goOn pc = .ok (.return_, 1) → W p l e R s m args below meth c H locs 0 0 Qf (F0 m pc ls [])) {a0 : Int} (ra0 : inR a0) (hw : kW D ca A h0 ad H0 H locs u) (hl : lv_has ls 4 [(0, .ref h0), (1, .int (jI a0))]) (h : w_goOn a0 Q u) : W p l e R s m args below meth c H locs 0 0 Qf (F0 m 0 ls []) := by
  have hx := X.1.1
  have hb := X.1.2.1
  unfold w_goOn at h
  refine lv_aload_n hx hb dX12_goOn_0 rfl (lv_at hl 0 rfl) ?_
  refine gS 85 573 (by decide) L_85 (fun _ _ => mF_85) rfl X hw dX12_goOn_1 h (fun v1 rv1 h => ?_)
  refine lv_iconst hx hb dX12_goOn_4 (v := jI 1) rfl ?_
  refine k_isub hx hb dX12_goOn_5 h (fun r2 h => ?_)
  refine lv_istore_n hx hb dX12_goOn_6 rfl hl (by decide) rfl (fun ls hl => ?_)
  have hl : lv_has ls 4 [(2, .int (jI (v1 - 1))), (0, .ref (h0)), (1, .int (jI a0))] := hl
  refine lv_aload_n hx hb dX12_goOn_7 rfl (lv_at hl 1 rfl) ?_
  refine gA 80 172 (by decide) L_80 (fun _ _ => mF_80) rfl X hw dX12_goOn_8 ?_
  refine lv_iload_n hx hb dX12_goOn_11 rfl (lv_at hl 0 rfl) ?_
  refine aL 80 50 49 300 (fun _ _ _ _ => mG_80) (fun _ => rfl) X hw r2 dX12_goOn_12 rfl h (fun v3 rv3 h => ?_)
  refine k_if_eq hx hb rv3 dX12_goOn_13 (tgt := 64) rfl h (fun h => ?_) (fun h => ?_)
  · refine lv_aload_n hx hb dX12_goOn_64 rfl (lv_at hl 1 rfl) ?_
    refine lv_aload_n hx hb dX12_goOn_65 rfl (lv_at hl 1 rfl) ?_
    refine gA 0 8 (by decide) L_0 (fun _ _ => mF_0) rfl X hw dX12_goOn_66 ?_
    refine lv_aload_n hx hb dX12_goOn_69 rfl (lv_at hl 1 rfl) ?_
    refine gA 79 169 (by decide) L_79 (fun _ _ => mF_79) rfl X hw dX12_goOn_70 ?_
    refine lv_iload_n hx hb dX12_goOn_73 rfl (lv_at hl 0 rfl) ?_
    refine aL 79 49 48 300 (fun _ _ _ _ => mG_79) (fun _ => rfl) X hw r2 dX12_goOn_74 rfl h (fun v4 rv4 h => ?_)
    refine aL 0 1 0 452000 (fun _ _ _ _ => mG_0) (fun _ => rfl) X hw rv4 dX12_goOn_75 rfl h (fun v5 rv5 h => ?_)
    refine kcI (n := 1) (c_functionOf rv5 h) G_functionOf E_functionOf X hw (Nat.le_trans (Nat.le_of_ble_eq_true rfl) hRf) (Nat.le_trans (Nat.le_of_ble_eq_true rfl) hRl) rfl hl.1 (Nat.le_of_ble_eq_true rfl) rfl dX12_goOn_76 (fun v6 u H locs rv6 h hw => ?_)
    refine lv_istore_n hx hb dX12_goOn_79 rfl hl (by decide) rfl (fun ls hl => ?_)
    have hl : lv_has ls 4 [(3, .int (jI v6)), (2, .int (jI (v1 - 1))), (0, .ref (h0)), (1, .int (jI a0))] := hl
    refine lv_aload_n hx hb dX12_goOn_80 rfl (lv_at hl 2 rfl) ?_
    refine gA 84 184 (by decide) L_84 (fun _ _ => mF_84) rfl X hw dX12_goOn_81 ?_
    refine lv_iload_n hx hb dX12_goOn_84 rfl (lv_at hl 1 rfl) ?_
    refine lv_iconst hx hb dX12_goOn_85 (v := jI 1) rfl ?_
    refine aY 84 54 53 300 (fun _ _ _ _ => mG_84) (fun _ => rfl) (fun _ _ _ _ _ _ => mSA_84) X hw r2 dX12_goOn_86 rfl h (fun H locs u hw h => ?_)
    refine lv_iload_n hx hb dX12_goOn_87 rfl (lv_at hl 0 rfl) ?_
    refine lv_bipush hx hb dX12_goOn_88 (v := jI 100) rfl ?_
    refine k_icmp_lt hx hb rv6 (by decide) dX12_goOn_90 (tgt := 118) rfl h (fun h => ?_) (fun h => ?_)
    · refine lv_aload_n hx hb dX12_goOn_118 rfl (lv_at hl 2 rfl) ?_
      refine lv_aload_n hx hb dX12_goOn_119 rfl (lv_at hl 2 rfl) ?_
      refine lv_iload_n hx hb dX12_goOn_120 rfl (lv_at hl 0 rfl) ?_
      refine lv_aload_n hx hb dX12_goOn_121 rfl (lv_at hl 2 rfl) ?_
      refine gA 81 175 (by decide) L_81 (fun _ _ => mF_81) rfl X hw dX12_goOn_122 ?_
      refine lv_iload_n hx hb dX12_goOn_125 rfl (lv_at hl 1 rfl) ?_
      refine aL 81 51 50 300 (fun _ _ _ _ => mG_81) (fun _ => rfl) X hw r2 dX12_goOn_126 rfl h (fun v7 rv7 h => ?_)
      refine kcI (n := 2) (c_basic rv6 rv7 h) G_basic E_basic X hw (Nat.le_trans (Nat.le_of_ble_eq_true rfl) hRf) (Nat.le_trans (Nat.le_of_ble_eq_true rfl) hRl) rfl hl.1 (Nat.le_of_ble_eq_true rfl) rfl dX12_goOn_127 (fun v8 u H locs rv8 h hw => ?_)
      refine pS 91 570 (by decide) L_91 rfl rfl rfl (fun _ _ _ _ _ => mSI_91) (by decide) X hw rv8 dX12_goOn_130 h (fun H locs u hw h => ?_)
      refine lv_aload_n hx hb dX12_goOn_133 rfl (lv_at hl 2 rfl) ?_
      refine lv_iconst hx hb dX12_goOn_134 (v := jI 1) rfl ?_
      refine pZ 90 564 (by decide) L_90 rfl rfl rfl (fun _ _ _ _ _ => mSI_90) X hw dX12_goOn_135 h (fun H locs u hw h => ?_)
      refine lv_aload_n hx hb dX12_goOn_138 rfl (lv_at hl 2 rfl) ?_
      refine gS 91 570 (by decide) L_91 (fun _ _ => mF_91) rfl X hw dX12_goOn_139 h (fun v9 rv9 h => ?_)
      refine lv_iconst hx hb dX12_goOn_142 (v := jI (-1)) rfl ?_
      refine k_icmp_ne hx hb rv9 (by decide) dX12_goOn_143 (tgt := 151) rfl h (fun h => ?_) (fun h => ?_)
      · exact hret _ _ _ _ _ h hw dX12_goOn_151
      · refine lv_aload_n hx hb dX12_goOn_146 rfl (lv_at hl 2 rfl) ?_
        refine lv_iconst hx hb dX12_goOn_147 (v := jI 3) rfl ?_
        refine pS 89 576 (by decide) L_89 rfl rfl rfl (fun _ _ _ _ _ => mSI_89) (by decide) X hw (by decide) dX12_goOn_148 h (fun H locs u hw h => ?_)
        exact hret _ _ _ _ _ h hw dX12_goOn_151
    · refine lv_aload_n hx hb dX12_goOn_93 rfl (lv_at hl 2 rfl) ?_
      refine lv_aload_n hx hb dX12_goOn_94 rfl (lv_at hl 2 rfl) ?_
      refine gA 39 87 (by decide) L_39 (fun _ _ => mF_39) rfl X hw dX12_goOn_95 ?_
      refine lv_iload_n hx hb dX12_goOn_98 rfl (lv_at hl 0 rfl) ?_
      refine lv_bipush hx hb dX12_goOn_99 (v := jI 100) rfl ?_
      refine k_isub hx hb dX12_goOn_101 h (fun r10 h => ?_)
      refine aL 39 24 23 40 (fun _ _ _ _ => mG_39) (fun _ => rfl) X hw r10 dX12_goOn_102 rfl h (fun v11 rv11 h => ?_)
      refine lv_iload_n hx hb dX12_goOn_103 rfl (lv_at hl 0 rfl) ?_
      refine lv_bipush hx hb dX12_goOn_104 (v := jI 100) rfl ?_
      refine k_isub hx hb dX12_goOn_106 h (fun r12 h => ?_)
      refine lv_aload_n hx hb dX12_goOn_107 rfl (lv_at hl 2 rfl) ?_
      refine gA 81 175 (by decide) L_81 (fun _ _ => mF_81) rfl X hw dX12_goOn_108 ?_
      refine lv_iload_n hx hb dX12_goOn_111 rfl (lv_at hl 1 rfl) ?_
      refine aL 81 51 50 300 (fun _ _ _ _ => mG_81) (fun _ => rfl) X hw r2 dX12_goOn_112 rfl h (fun v13 rv13 h => ?_)
      refine lv_iload_n hx hb dX12_goOn_113 rfl (lv_at hl 3 rfl) ?_
      refine kcV (n := 4) (c_beginEval rv11 r12 rv13 ra0 h) G_beginEval E_beginEval X hw (Nat.le_trans (Nat.le_of_ble_eq_true rfl) hRf) (Nat.le_trans (Nat.le_of_ble_eq_true rfl) hRl) rfl hl.1 (Nat.le_of_ble_eq_true rfl) rfl dX12_goOn_114 (fun u H locs h hw => ?_)
      exact hret _ _ _ _ _ h hw dX12_goOn_117
  · refine lv_aload_n hx hb dX12_goOn_16 rfl (lv_at hl 1 rfl) ?_
    refine gA 0 8 (by decide) L_0 (fun _ _ => mF_0) rfl X hw dX12_goOn_17 ?_
    refine lv_aload_n hx hb dX12_goOn_20 rfl (lv_at hl 1 rfl) ?_
    refine gA 80 172 (by decide) L_80 (fun _ _ => mF_80) rfl X hw dX12_goOn_21 ?_
    refine lv_iload_n hx hb dX12_goOn_24 rfl (lv_at hl 0 rfl) ?_
    refine aL 80 50 49 300 (fun _ _ _ _ => mG_80) (fun _ => rfl) X hw r2 dX12_goOn_25 rfl h (fun v15 rv15 h => ?_)
    refine aL 0 1 0 452000 (fun _ _ _ _ => mG_0) (fun _ => rfl) X hw rv15 dX12_goOn_26 rfl h (fun v16 rv16 h => ?_)
    refine lv_istore_n hx hb dX12_goOn_27 rfl hl (by decide) rfl (fun ls hl => ?_)
    have hl : lv_has ls 4 [(3, .int (jI v16)), (2, .int (jI (v1 - 1))), (0, .ref (h0)), (1, .int (jI a0))] := hl
    refine lv_aload_n hx hb dX12_goOn_28 rfl (lv_at hl 2 rfl) ?_
    refine gA 80 172 (by decide) L_80 (fun _ _ => mF_80) rfl X hw dX12_goOn_29 ?_
    refine lv_iload_n hx hb dX12_goOn_32 rfl (lv_at hl 1 rfl) ?_
    refine lv_aload_n hx hb dX12_goOn_33 rfl (lv_at hl 2 rfl) ?_
    refine gA 1 14 (by decide) L_1 (fun _ _ => mF_1) rfl X hw dX12_goOn_34 ?_
    refine lv_aload_n hx hb dX12_goOn_37 rfl (lv_at hl 2 rfl) ?_
    refine gA 80 172 (by decide) L_80 (fun _ _ => mF_80) rfl X hw dX12_goOn_38 ?_
    refine lv_iload_n hx hb dX12_goOn_41 rfl (lv_at hl 1 rfl) ?_
    refine aL 80 50 49 300 (fun _ _ _ _ => mG_80) (fun _ => rfl) X hw r2 dX12_goOn_42 rfl h (fun v17 rv17 h => ?_)
    refine aL 1 2 1 452000 (fun _ _ _ _ => mG_1) (fun _ => rfl) X hw rv17 dX12_goOn_43 rfl h (fun v18 rv18 h => ?_)
    refine aS 80 50 49 300 (fun _ _ _ _ => mG_80) (fun _ => rfl) (fun _ _ _ _ _ _ => mSA_80) (by decide) X hw r2 rv18 dX12_goOn_44 rfl h (fun H locs u hw h => ?_)
    refine lv_aload_n hx hb dX12_goOn_45 rfl (lv_at hl 2 rfl) ?_
    refine lv_iload_n hx hb dX12_goOn_46 rfl (lv_at hl 0 rfl) ?_
    refine lv_aload_n hx hb dX12_goOn_47 rfl (lv_at hl 2 rfl) ?_
    refine gA 82 178 (by decide) L_82 (fun _ _ => mF_82) rfl X hw dX12_goOn_48 ?_
    refine lv_iload_n hx hb dX12_goOn_51 rfl (lv_at hl 1 rfl) ?_
    refine aL 82 52 51 300 (fun _ _ _ _ => mG_82) (fun _ => rfl) X hw r2 dX12_goOn_52 rfl h (fun v19 rv19 h => ?_)
    refine lv_aload_n hx hb dX12_goOn_53 rfl (lv_at hl 2 rfl) ?_
    refine gA 83 181 (by decide) L_83 (fun _ _ => mF_83) rfl X hw dX12_goOn_54 ?_
    refine lv_iload_n hx hb dX12_goOn_57 rfl (lv_at hl 1 rfl) ?_
    refine aL 83 53 52 300 (fun _ _ _ _ => mG_83) (fun _ => rfl) X hw r2 dX12_goOn_58 rfl h (fun v20 rv20 h => ?_)
    refine lv_iload_n hx hb dX12_goOn_59 rfl (lv_at hl 3 rfl) ?_
    refine kcV (n := 4) (c_beginEval rv16 rv19 rv20 ra0 h) G_beginEval E_beginEval X hw (Nat.le_trans (Nat.le_of_ble_eq_true rfl) hRf) (Nat.le_trans (Nat.le_of_ble_eq_true rfl) hRl) rfl hl.1 (Nat.le_of_ble_eq_true rfl) rfl dX12_goOn_60 (fun u H locs h hw => ?_)
    exact hret _ _ _ _ _ h hw dX12_goOn_63

end
theorem c_goOn {l : Launch} {a0 : Int} (ra0 : inR a0) {Q : iST → Prop} {u : iST} (h : w_goOn a0 Q u) : kMV l yX12_goOn (.code yX12_goOn cX12_goOn 4 none :: wsM) { frames := 4, cells := 0, slots := 0, locals := 88 } [.int (jI a0)] Q u := kMV_of rfl (fun _ => Nat.le_of_ble_eq_true rfl) (fun X hRf hRl hret hw hl => b_goOn_s X hRf hRl hret ra0 hw hl h)
